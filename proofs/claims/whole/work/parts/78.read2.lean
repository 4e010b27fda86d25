/-! replay: the model's numbers -/
def mN4 (g g' : zM) : Prop := ∀ r s, r ≠ 0 ∨ (s ≠ 41 ∧ s ≠ 42) → g' r s = g r s
theorem mN4_rf {g : zM} : mN4 g g := fun _ _ _ => rfl
theorem mN4_tr {g g' g'' : zM} (a : mN4 g g') (b : mN4 g' g'') : mN4 g g'' := fun r s hr => (b r s hr).trans (a r s hr)
theorem mN4_u {g : zM} {s : Nat} {v : Int32} (hs : s = 41 ∨ s = 42) : mN4 g (zu g 0 s v) := fun r s' hr => zun (by omega)
theorem mN4_D {g g' : zM} {d : Nat} {P : Nat → Nat} (hN : mN4 g g') (hD : mDrG g d P) : mDrG g' d P := ⟨hD.1, by rw [hN 0 37 (by omega)]; exact hD.2.1, fun i hi => by rw [hN 26 i (by omega)]; exact hD.2.2.1 i hi, hD.2.2.2⟩
theorem zRok_m {P : Nat → Nat} {neg : Bool} {s : Nat} (hk : 0 < zcnt P 11 s) : zRok P neg s ↔ (¬ (48 ≤ P (s + zcnt P 11 s) ∧ P (s + zcnt P 11 s) ≤ 57) ∧ ¬ ((1 < zcnt P 11 s ∧ P s = 48) ∨ (neg = true ∧ zdv P s (zcnt P 11 s) = 0)) ∧ zFt (zyy neg (zdv P s (zcnt P 11 s)))) := by
  obtain ⟨c1, c2, c3⟩ := zcnt_ok P 11 s
  have b0 := c2 0 hk
  rw [Nat.add_zero] at b0
  have hlt := zdv_lt _ c2
  have hge : P s ≠ 48 → 10 ^ (zcnt P 11 s - 1) ≤ zdv P s (zcnt P 11 s) := by
    intro q
    have := zdv_ge (P := P) (s := s) (by omega) (zcnt P 11 s - 1)
    rw [show zcnt P 11 s - 1 + 1 = zcnt P 11 s by omega] at this
    exact this
  constructor
  · rintro ⟨-, a2, a3⟩
    refine ⟨fun q => ?_, fun q => ?_, a2⟩
    · rcases c3 with c3 | c3
      · rw [c3] at a2 a3 hge hlt
        have h48 : P s ≠ 48 := fun z => a3 ⟨z, Or.inr (by omega)⟩
        exact zFt_big (by have := hge h48; omega) (by omega) a2
      · exact c3 q
    · rcases q with ⟨q1, q2⟩ | ⟨q1, q2⟩
      · exact a3 ⟨q2, Or.inr q1⟩
      · have h48 : P s ≠ 48 := fun z => a3 ⟨z, Or.inl q1⟩
        have h1 := hge h48
        have : 0 < 10 ^ (zcnt P 11 s - 1) := Nat.pow_pos (by decide)
        omega
  · rintro ⟨a1, a2, a3⟩
    refine ⟨hk, a3, ?_⟩
    rintro ⟨q1, q2 | q2⟩
    · rcases Nat.lt_or_ge 1 (zcnt P 11 s) with q3 | q3
      · exact a2 (Or.inl ⟨q3, q1⟩)
      · have e1 : zcnt P 11 s = 1 := by omega
        refine a2 (Or.inr ⟨q2, ?_⟩)
        rw [e1]
        simp [zdv]
        omega
    · exact a2 (Or.inl ⟨q2, q1⟩)
theorem m_rdS {g : zM} {d s : Nat} {P : Nat → Nat} {neg : Bool} {r3 : Int32} (hr : r3 = (if neg = true then 1 else 0)) (hD : mDrG g d P) (hp : g 0 41 = nI s) (hs : s < 10000) (hb : g 0 42 = 0 ∨ g 0 42 = 1) (post : Int32 → zM → Prop) (kf : (g 0 42 = 1 ∨ zRdS P neg s = none) → ∀ x g' q, mN4 g g' → g' 0 42 = 1 → g' 0 41 = nI q → q ≤ s + 11 → post x g') (ks : g 0 42 = 0 → ∀ x q, zRdS P neg s = some (x, q) → ∀ g', mN4 g g' → g' 0 42 = 0 → g' 0 41 = nI q → post x g') : wbMod_number_33 post r3 g := by
  have hd1 := hD.1
  obtain ⟨c1, c2, c3⟩ := zcnt_ok P 11 s
  have hlt := zdv_lt _ c2
  have hv11 : zdv P s (zcnt P 11 s) < 100000000000 := by
    have : 10 ^ zcnt P 11 s ≤ 10 ^ 11 := Nat.pow_le_pow_right (by decide) c1
    omega
  have fin : ∀ gg, mN4 g gg → gg 0 42 = g 0 42 → gg 0 41 = nI (s + zcnt P 11 s) → wbMod_number_93 post r3 (nI s) (lN (zdv P s (zcnt P 11 s))) gg := by
    intro gg hN h42 h41
    have hDg := mN4_D hN hD
    have bad : (g 0 42 = 1 ∨ ¬ zRok P neg s) → wbMod_number_187 post (zyy neg (zdv P s (zcnt P 11 s))) gg := by
      intro q
      unfold wbMod_number_187 wbMod_number_192
      refine ⟨Or.inr rfl, fun g' e => kf ?_ _ g' (s + zcnt P 11 s) (mN4_tr hN (by rw [e]; exact mN4_u (Or.inr rfl))) (by rw [e]; exact zux) (by rw [e, zun (Or.inr (by decide))]; exact h41) (by omega)⟩
      rcases q with q | q
      · exact Or.inl q
      · exact Or.inr (by unfold zRdS; rw [if_neg q])
    have f144 : ∀ z : Int32, (z = 1 ∧ ((1 < zcnt P 11 s ∧ P s = 48) ∨ (neg = true ∧ zdv P s (zcnt P 11 s) = 0))) ∨ (z = 0 ∧ ¬ ((1 < zcnt P 11 s ∧ P s = 48) ∨ (neg = true ∧ zdv P s (zcnt P 11 s) = 0))) → wbMod_number_144 post (nI s) z (zyy neg (zdv P s (zcnt P 11 s))) gg := by
      intro z hz
      unfold wbMod_number_144
      rw [h42, h41]
      refine ⟨fun q => bad (Or.inl ?_), fun q0 => ?_⟩
      · rcases hb with hb | hb
        · exact absurd hb q
        · exact hb
      · refine pk_eq (s + zcnt P 11 s) s (fun q => bad (Or.inr (fun q2 => by have := q2.1; omega))) (fun q => ?_)
        have hk : 0 < zcnt P 11 s := by omega
        have hiff := zRok_m (neg := neg) hk
        refine m_peek hDg h41 (by omega) _ ?_
        refine m_digit (by have := (mDrG_P hD (s + zcnt P 11 s)).1; omega) _ (fun q2 => ⟨fun _ => bad (Or.inr (fun q3 => (hiff.mp q3).1 q2)), fun q3 => absurd q3 (by decide)⟩) (fun q2 => ⟨fun q3 => absurd rfl q3, fun _ => ?_⟩)
        rcases hz with ⟨rfl, hz⟩ | ⟨rfl, hz⟩
        · exact ⟨fun _ => bad (Or.inr (fun q3 => (hiff.mp q3).2.1 hz)), fun q3 => absurd q3 (by decide)⟩
        · refine ⟨fun q3 => absurd rfl q3, fun _ => ⟨fun q3 => ?_, fun q3 => bad (Or.inr (fun q4 => q3 (hiff.mp q4).2.2))⟩⟩
          unfold wbMod_number_192
          refine ⟨Or.inl rfl, fun g' e => ks q0 _ _ (by unfold zRdS; rw [if_pos (hiff.mpr ⟨q2, hz, q3⟩)]) g' (mN4_tr hN (by rw [e]; exact mN4_u (Or.inr rfl))) (by rw [e]; exact zux) (by rw [e, zun (Or.inr (by decide))]; exact h41)⟩
    have f130 : ∀ z : Int32, (z = 1 ∧ ((1 < zcnt P 11 s ∧ P s = 48) ∨ (neg = true ∧ zdv P s (zcnt P 11 s) = 0))) ∨ (z = 0 ∧ ¬ ((1 < zcnt P 11 s ∧ P s = 48) ∨ (neg = true ∧ zdv P s (zcnt P 11 s) = 0))) → wbMod_number_130 post r3 (nI s) (lN (zdv P s (zcnt P 11 s))) z gg := by
      intro z hz
      have f := f144 z hz
      unfold wbMod_number_130
      unfold zyy at f
      subst hr
      cases neg
      · rw [if_neg (by decide)] at f
        exact ⟨fun _ => f, fun q => absurd rfl q⟩
      · rw [if_pos rfl] at f
        exact ⟨fun q => absurd q (by decide), fun _ => f⟩
    have f114 : ¬ (1 < zcnt P 11 s ∧ P s = 48) → wbMod_number_114 post r3 (nI s) (lN (zdv P s (zcnt P 11 s))) gg := by
      intro hz
      unfold wbMod_number_114 wbMod_number_129 wbMod_number_125
      rw [zlg0, show (0 : Int64) = lN 0 from rfl, pk_lEQ (by omega) (by decide)]
      subst hr
      cases neg
      · refine ⟨fun _ => f130 0 (Or.inr ⟨rfl, fun q => ?_⟩), fun q => absurd rfl q⟩
        rcases q with q | q
        · exact hz q
        · exact absurd q.1 (by decide)
      · refine ⟨fun q => absurd q (by decide), fun _ => ⟨fun q => f130 0 (Or.inr ⟨rfl, fun q2 => ?_⟩), fun q => f130 1 (Or.inl ⟨rfl, Or.inr ⟨rfl, q⟩⟩)⟩⟩
        rcases q2 with q2 | q2
        · exact hz q2
        · exact q q2.2
    unfold wbMod_number_93
    rw [h41, pk_sub (by omega), show s + zcnt P 11 s - s = zcnt P 11 s by omega]
    refine pk_le (zcnt P 11 s) 1 (fun q => f114 (fun q2 => by omega)) (fun q => ?_)
    have b0 := c2 0 (by omega)
    rw [Nat.add_zero] at b0
    have hsd := (mDrG_P hD s).2 (by omega)
    have hg26 := (hDg.2.2.1 s hsd).1
    rw [znc (by omega), hg26]
    refine ⟨zin_nI (by omega) (by decide), pk_eq (P s) 48 (fun q2 => ?_) (fun q2 => f114 (fun q3 => q2 q3.2))⟩
    unfold wbMod_number_125
    exact f130 1 (Or.inl ⟨rfl, Or.inl ⟨q, q2⟩⟩)
  unfold wbMod_number_33
  rw [hp]
  intro y37 e37
  subst e37
  refine zL_rule (fun t : Int32 × Int32 × Int64 × zM => ∃ i : Nat, i ≤ zcnt P 11 s ∧ t.1 = r3 ∧ t.2.1 = nI s ∧ t.2.2.1 = lN (zdv P s i) ∧ mN4 g t.2.2.2 ∧ t.2.2.2 0 42 = g 0 42 ∧ t.2.2.2 0 41 = nI (s + i)) (fun t => 100000 - Int32.toNatClampNeg (t.2.2.2 0 41)) ?_ _ ⟨0, by omega, rfl, rfl, rfl, mN4_rf, rfl, hp⟩
  rintro ⟨v2, v3, u4, gg⟩ L ⟨i, hi, e1, e2, e3, hN, h42, h41⟩ hL
  dsimp only at e1 e2 e3 hN h42 h41
  subst e1
  subst e2
  subst e3
  unfold stMod_number_41
  dsimp only
  have hDg := mN4_D hN hD
  have hPi := (mDrG_P hD (s + i)).1
  refine m_peek hDg h41 (by omega) _ ?_
  refine m_digit (by omega) _ (fun q2 => ⟨fun q => absurd q (by decide), fun _ => ?_⟩) (fun q2 => ⟨fun _ => ?_, fun q => absurd rfl q⟩)
  · rw [h41, pk_sub (by omega), show s + i - s = i by omega]
    refine pk_le 11 i (fun q => ?_) (fun q => ?_)
    · obtain rfl : i = zcnt P 11 s := by omega
      exact fin gg hN h42 h41
    · refine m_peek hDg h41 (by omega) _ (fun y ey h87 e87 => ?_)
      have hik : i < zcnt P 11 s := by
        rcases Nat.lt_or_ge i (zcnt P 11 s) with q3 | q3
        · exact q3
        · exfalso
          obtain rfl : i = zcnt P 11 s := by omega
          rcases c3 with c3 | c3
          · omega
          · exact c3 q2
      have e41 : h87 0 41 = nI (s + (i + 1)) := by
        rw [e87, zux, h41, nI_1]
        rfl
      refine hL _ ⟨i + 1, hik, rfl, rfl, ?_, mN4_tr hN (by rw [e87]; exact mN4_u (Or.inl rfl)), by dsimp only; rw [e87, zun (Or.inr (by decide))]; exact h42, e41⟩ ?_
      · dsimp only
        rw [ey, nI_l (by omega), show (10 : Int64) = lN 10 from rfl, lN_mul, lN_add, show (48 : Int64) = lN 48 from rfl, lN_sub (by omega), Nat.add_sub_assoc q2.1]
        rfl
      · dsimp only
        rw [e41, h41, znc (by omega), znc (by omega)]
        omega
  · have hik : i = zcnt P 11 s := by
      rcases Nat.lt_or_ge i (zcnt P 11 s) with q3 | q3
      · exact absurd (c2 i q3) q2
      · omega
    subst hik
    exact fin gg hN h42 h41
theorem m_rd0 {g : zM} {d s : Nat} {P : Nat → Nat} (hD : mDrG g d P) (hp : g 0 41 = nI s) (hs : s < 10000) (hb : g 0 42 = 0 ∨ g 0 42 = 1) (post : Int32 → zM → Prop) (kf : (g 0 42 = 1 ∨ zRdS P false s = none) → ∀ x g' q, mN4 g g' → g' 0 42 = 1 → g' 0 41 = nI q → q ≤ s + 12 → post x g') (ks : g 0 42 = 0 → ∀ x q, zRdS P false s = some (x, q) → ∀ g', mN4 g g' → g' 0 42 = 0 → g' 0 41 = nI q → post x g') : wpMod_number 0 g post := by
  unfold wpMod_number
  refine ⟨fun _ => ?_, fun q => absurd rfl q⟩
  unfold wbMod_number_17 wbMod_number_18
  exact ⟨fun _ => m_rdS (neg := false) rfl hD hp hs hb post (fun q x g' q' a b c e => kf q x g' q' a b c (by omega)) ks, fun q => absurd rfl q⟩
theorem m_rdN {g : zM} {d s : Nat} {P : Nat → Nat} (hD : mDrG g d P) (hp : g 0 41 = nI s) (hs : s < 9999) (hb : g 0 42 = 0 ∨ g 0 42 = 1) (post : Int32 → zM → Prop) (kf : (g 0 42 = 1 ∨ zRdN P s = none) → ∀ x g' q, mN4 g g' → g' 0 42 = 1 → g' 0 41 = nI q → q ≤ s + 12 → post x g') (ks : g 0 42 = 0 → ∀ x q, zRdN P s = some (x, q) → ∀ g', mN4 g g' → g' 0 42 = 0 → g' 0 41 = nI q → post x g') : wpMod_number 1 g post := by
  unfold wpMod_number
  refine ⟨fun q => absurd q (by decide), fun _ => m_peek hD hp (by omega) _ ?_⟩
  have hP := (mDrG_P hD s).1
  unfold zRdN at kf ks
  have := pk_eq (A := wbMod_number_18 post 1 g) (B := wbMod_number_17 post g) (x := nI (P s)) (y := 45) (P s) 45 (fun q => ?_) (fun q => ?_)
  · exact ⟨this.2, this.1⟩
  · rw [if_pos q] at kf ks
    unfold wbMod_number_18
    refine ⟨fun q => absurd q (by decide), fun _ g1 e1 => ?_⟩
    have hN : mN4 g g1 := by rw [e1]; exact mN4_u (Or.inl rfl)
    have h42 : g1 0 42 = g 0 42 := by rw [e1, zun (Or.inr (by decide))]
    refine m_rdS (neg := true) rfl (mN4_D hN hD) (by rw [e1, zux, hp, nI_1]) (by omega) (by rw [h42]; exact hb) post (fun q x g' q' a b c e => kf (by rw [h42] at q; exact q) x g' q' (mN4_tr hN a) b c (by omega)) (fun q x q' a g' b c e => ks (by rw [h42] at q; exact q) x q' a g' (mN4_tr hN b) c e)
  · rw [if_neg q] at kf ks
    unfold wbMod_number_17 wbMod_number_18
    exact ⟨fun _ => m_rdS (neg := false) rfl hD hp (by omega) hb post (fun q x g' q' a b c e => kf q x g' q' a b c (by omega)) ks, fun q => absurd rfl q⟩
