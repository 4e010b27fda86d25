/-! the start -/
theorem zH_init (x : Int32) : zR 0 (fun _ => 0) (zh0 x) (mg0 x) := by
  refine ⟨0, 0, ⟨by omega, by omega, rfl, rfl, rfl, rfl, fun i i1 i2 => by omega, fun o ho => by omega⟩, fun _ => rfl, ⟨3, by omega, by omega, rfl, rfl, fun i hi => ?_⟩, rfl, ⟨0, by omega, rfl, rfl, fun i hi => by omega⟩, by omega, rfl, rfl, fun e he => by omega⟩
  rcases (by omega : i = 0 ∨ i = 1 ∨ i = 2) with rfl | rfl | rfl
  · rfl
  · rfl
  · rfl
