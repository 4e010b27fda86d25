/-! what a statement keeps -/
theorem zHv_res {nc cnt k : Nat} {x : zM} {v : Int32} (hv : zHv nc cnt x) : zHv nc cnt (zu x 3 k v) := by
  refine ⟨hv.1, fun i hi => ?_⟩
  rw [zuo (by decide), zuo (by decide)]
  exact hv.2 i hi
theorem zHv_val {nc cnt k : Nat} {x : zM} {v : Int32} (hv : zHv nc cnt x) : zHv nc cnt (zu x 1 k v) := by
  refine ⟨hv.1, fun i hi => ?_⟩
  rw [zuo (by decide), zuo (by decide)]
  exact hv.2 i hi
theorem zHv_link {nc cnt a : Nat} {x : zM} {b : Int32} (hv : zHv nc cnt x) (ha : a < cnt) (hb : zRf cnt b) (hr : ¬ zrch (x 2) (nI a) 10 b) : zHv nc cnt (zu x 2 a b) := by
  have z := zend_link hv.1 (fun i hi => (hv.2 i hi).2) ha hb hr
  refine ⟨hv.1, fun i hi => ?_⟩
  rw [zuo (by decide), zus]
  exact ⟨(hv.2 i hi).1, z i hi⟩
theorem zHv_mk {nc cnt k cl : Nat} {x : zM} {v b : Int32} (hv : zHv nc cnt x) (hc : cnt < 10) (c1 : 1 ≤ cl) (c2 : cl ≤ nc) (hb : zRf cnt b) : zHv nc (cnt + 1) (zmk x cnt (nI cl) v b k) := by
  have z := zend_make hc (fun i hi => (hv.2 i hi).2) hb
  refine ⟨by omega, fun i hi => ?_⟩
  have e2 : zmk x cnt (nI cl) v b k 2 = upd (x 2) cnt b := by
    unfold zmk
    rw [zuo (by decide), zus, zuo (by decide), zuo (by decide)]
  have e0 : zmk x cnt (nI cl) v b k 0 = upd (x 0) cnt (nI cl) := by
    unfold zmk
    rw [zuo (by decide), zuo (by decide), zuo (by decide), zus]
  rw [e2, e0]
  refine ⟨?_, z i hi⟩
  by_cases h : i = cnt
  · exact ⟨cl, c1, c2, by rw [h]; exact pk_us⟩
  · rw [pk_un h]
    exact (hv.2 i (by omega)).1
theorem zRf_up {cnt cnt' : Nat} {a : Int32} (h : zRf cnt a) (hl : cnt ≤ cnt') : zRf cnt' a := by
  rcases h with h | ⟨j, hj, e⟩
  · exact Or.inl h
  · exact Or.inr ⟨j, by omega, e⟩
theorem zRv_step {h : zM} {c : Nat → Int32} {cnt cnt' k o : Nat} {x x' : zM} (hr : zRv h c cnt x k) (hl : cnt ≤ cnt') (hx : ∀ j, j < k → x' 3 j = x 3 j) (ho : o < 10) (eo : c (5 * k) = nI o) (hh : h 8 o ≠ 0 → zRf cnt' (x' 3 k)) : zRv h c cnt' x' (k + 1) := by
  intro j hj
  by_cases hk : j = k
  · subst hk
    exact ⟨o, ho, eo, hh⟩
  · obtain ⟨o', ho', e', z⟩ := hr j (by omega)
    refine ⟨o', ho', e', fun q => ?_⟩
    rw [hx j (by omega)]
    exact zRf_up (z q) hl
theorem zex_ok {h g x : zM} {c : Nat → Int32} {nc no cnt k : Nat} (hC : zCat h g nc no) (hk : k < 10) (hst : zStOk h c no k) (hv : zHv nc cnt x) (hrv : zRv h c cnt x k) (hcnt : cnt ≤ k) (h0 : (zex h c k cnt x).1 = 0) : zHv nc (zex h c k cnt x).2.1 (zex h c k cnt x).2.2 ∧ zRv h c (zex h c k cnt x).2.1 (zex h c k cnt x).2.2 (k + 1) ∧ (zex h c k cnt x).2.1 ≤ k + 1 := by
  obtain ⟨o0, ho0, eo, ok0, ok1⟩ := hst
  have hno := hC.2.1
  have hc10 := hv.1
  obtain ⟨kd, cc, d, hkd, c1, c2, hd, e5, f4, f5, f6, e6, e7, e8⟩ := hC.2.2.2.2.2.2.2 o0 ho0
  have E : zex h c k cnt x = zop h x (nI kd) (h 8 o0) (zav c x k 0) (zav c x k 1) k cnt := by
    unfold zex
    rw [eo, znc (by omega), e5]
  rw [E] at h0 ⊢
  obtain ⟨rf0, rf1, -⟩ := zSt_rf (g := g) hk hC.1 hkd c1 c2 hd e6 e7 ok0 ok1 hrv
  generalize zav c x k 0 = a at h0 rf0 ⊢
  generalize zav c x k 1 = b at h0 rf1 ⊢
  have res : ∀ v : Int32, zop h x (nI kd) (h 8 o0) a b k cnt = (0, cnt, zu x 3 k v) → (h 8 o0 ≠ 0 → zRf cnt v) → zHv nc (zop h x (nI kd) (h 8 o0) a b k cnt).2.1 (zop h x (nI kd) (h 8 o0) a b k cnt).2.2 ∧ zRv h c (zop h x (nI kd) (h 8 o0) a b k cnt).2.1 (zop h x (nI kd) (h 8 o0) a b k cnt).2.2 (k + 1) ∧ (zop h x (nI kd) (h 8 o0) a b k cnt).2.1 ≤ k + 1 := by
    intro v e hh
    rw [e]
    refine ⟨zHv_res hv, zRv_step (x' := zu x 3 k v) hrv (Nat.le_refl _) (fun j hj => zun (by omega)) (by omega) eo (fun q => ?_), by show cnt ≤ k + 1; omega⟩
    show zRf cnt (zu x 3 k v 3 k)
    rw [zux]
    exact hh q
  by_cases hk0 : kd = 0
  · subst hk0
    rw [zop_0] at h0 ⊢
    by_cases hf : zfit a.toInt
    · rw [zdec_t hf, if_pos rfl]
      have e8' : h 8 o0 = nI cc := e8
      rw [e8']
      refine ⟨zHv_mk hv (by omega) c1 c2 (Or.inl rfl), zRv_step hrv (Nat.le_succ _) (fun j hj => ?_) (by omega) eo (fun q => ?_), by show cnt + 1 ≤ k + 1; omega⟩
      · show zmk x cnt (nI cc) a (-1) k 3 j = x 3 j
        unfold zmk
        rw [zun (by omega), zuo (by decide), zuo (by decide), zuo (by decide)]
      · show zRf (cnt + 1) (zmk x cnt (nI cc) a (-1) k 3 k)
        unfold zmk
        rw [zux]
        exact Or.inr ⟨cnt, by omega, rfl⟩
    · rw [zdec_f hf, if_neg (by decide)] at h0
      exact absurd h0 (show (1 : Int32) ≠ 0 by decide)
  rcases rf0 hk0 with rfl | ⟨i, hi, rfl⟩
  · rw [zop_n hkd hk0] at h0
    exact absurd h0 (show (5 : Int32) ≠ 0 by decide)
  obtain ⟨s1, s2, s3, s4, s5, s6, s7, s8, s9⟩ := zop_s (K := h) (x := x) (ty := h 8 o0) (b := b) (k := k) (cnt := cnt) (i := i) (by omega)
  rcases (show kd = 1 ∨ kd = 2 ∨ kd = 3 ∨ kd = 4 ∨ kd = 5 ∨ kd = 6 ∨ kd = 7 ∨ kd = 8 ∨ kd = 9 by omega) with rfl | rfl | rfl | rfl | rfl | rfl | rfl | rfl | rfl
  · have e8' : h 8 o0 = nI cc := e8
    rw [s1, e8']
    refine ⟨zHv_mk hv (by omega) c1 c2 (Or.inr ⟨i, hi, rfl⟩), zRv_step hrv (Nat.le_succ _) (fun j hj => ?_) (by omega) eo (fun q => ?_), by show cnt + 1 ≤ k + 1; omega⟩
    · show zmk x cnt (nI cc) (x 1 i) (nI i) k 3 j = x 3 j
      unfold zmk
      rw [zun (by omega), zuo (by decide), zuo (by decide), zuo (by decide)]
    · show zRf (cnt + 1) (zmk x cnt (nI cc) (x 1 i) (nI i) k 3 k)
      unfold zmk
      rw [zux]
      exact Or.inr ⟨cnt, by omega, rfl⟩
  · exact res _ s2 (fun q => absurd e8 q)
  · rw [s3] at h0 ⊢
    by_cases hf : zfit ((x 1 i).toInt + b.toInt)
    · rw [zdec_t hf, if_pos rfl]
      refine ⟨zHv_res (zHv_val hv), zRv_step hrv (Nat.le_refl _) (fun j hj => ?_) (by omega) eo (fun q => ?_), by show cnt ≤ k + 1; omega⟩
      · show zu (zu x 1 i (x 1 i + b)) 3 k (nI i) 3 j = x 3 j
        rw [zun (by omega), zuo (by decide)]
      · show zRf cnt (zu (zu x 1 i (x 1 i + b)) 3 k (nI i) 3 k)
        rw [zux]
        exact Or.inr ⟨i, hi, rfl⟩
    · rw [zdec_f hf, if_neg (by decide)] at h0
      exact absurd h0 (show (1 : Int32) ≠ 0 by decide)
  · rw [s4] at h0 ⊢
    by_cases hf : zrch (x 2) (nI i) 10 b
    · rw [zdec_t hf, if_pos rfl] at h0
      exact absurd h0 (show (2 : Int32) ≠ 0 by decide)
    · rw [zdec_f hf, if_neg (by decide)]
      refine ⟨zHv_res (zHv_link hv hi (rf1 (Or.inl rfl)) hf), zRv_step hrv (Nat.le_refl _) (fun j hj => ?_) (by omega) eo (fun q => ?_), by show cnt ≤ k + 1; omega⟩
      · show zu (zu x 2 i b) 3 k (nI i) 3 j = x 3 j
        rw [zun (by omega), zuo (by decide)]
      · show zRf cnt (zu (zu x 2 i b) 3 k (nI i) 3 k)
        rw [zux]
        exact Or.inr ⟨i, hi, rfl⟩
  · by_cases hf : x 2 i = -1 ∨ zIs (h 2) (Int32.toNatClampNeg (x 0 (Int32.toNatClampNeg (x 2 i)))) (Int32.toNatClampNeg (h 8 o0))
    · rw [zdec_t hf, if_pos rfl] at s5
      exact res _ s5 (fun _ => (hv.2 i hi).2.1)
    · rw [s5, zdec_f hf, if_neg (by decide)] at h0
      exact absurd h0 (show (3 : Int32) ≠ 0 by decide)
  · by_cases hf : b = 0
    · rw [s6, if_pos hf] at h0
      exact absurd h0 (show (4 : Int32) ≠ 0 by decide)
    · rw [if_neg hf] at s6
      exact res _ s6 (fun q => absurd e8 q)
  · by_cases hf : x 2 i = -1
    · rw [s7, if_pos hf] at h0
      exact absurd h0 (show (5 : Int32) ≠ 0 by decide)
    · rw [if_neg hf] at s7
      exact res _ s7 (fun q => absurd e8 q)
  · exact res _ s8 (fun q => absurd e8 q)
  · exact res _ s9 (fun q => absurd e8 q)
/-! a run -/
noncomputable def zgo (K : zM) (c : Nat → Int32) : Nat → Nat → Nat → zM → Int32 × Nat × Nat × zM
  | 0, k, cnt, x => (0, k, cnt, x)
  | m + 1, k, cnt, x => if (zex K c k cnt x).1 = 0 then zgo K c m (k + 1) (zex K c k cnt x).2.1 (zex K c k cnt x).2.2 else ((zex K c k cnt x).1, k, cnt, x)
def zx0 : zM := fun _ _ => 0
noncomputable def zfin (K : zM) (c : Nat → Int32) (sz : Nat) : Int32 × Nat × Nat × zM := zgo K c sz 0 0 zx0
def zbad (K : zM) (c : Nat → Int32) (x : zM) (k : Nat) : Prop := (K 6 (Int32.toNatClampNeg (c (5 * k))) ≠ -1 ∧ K 6 (Int32.toNatClampNeg (c (5 * k))) ≠ 0 ∧ zav c x k 0 = -1) ∨ (K 7 (Int32.toNatClampNeg (c (5 * k))) ≠ -1 ∧ K 7 (Int32.toNatClampNeg (c (5 * k))) ≠ 0 ∧ zav c x k 1 = -1)
noncomputable def zcame (K : zM) (c : Nat → Int32) (r : Int32 × Nat × Nat × zM) : Int32 × Int32 := if r.1 = 0 then (if zfault K r.2.2.2 r.2.2.1 = 0 then 0 else 3, zfault K r.2.2.2 r.2.2.1) else if r.1 = 5 then (if zdec (zbad K c r.2.2.2 r.2.1) = true then 4 else 3, 4) else (2, r.1)
def zlt8 (K : zM) (c : Nat → Int32) (sz : Nat) : Int32 := K 8 (Int32.toNatClampNeg (c (5 * (sz - 1))))
def zgave (K : zM) (c : Nat → Int32) (sz : Nat) (r : Int32 × Nat × Nat × zM) : Int32 := if r.1 = 0 then (if zlt8 K c sz = 0 then 1 else if r.2.2.2 3 (sz - 1) = -1 then 2 else 3) else 0
def znum (K : zM) (c : Nat → Int32) (sz : Nat) (r : Int32 × Nat × Nat × zM) : Int32 := if r.1 = 0 then (if zlt8 K c sz = 0 then r.2.2.2 3 (sz - 1) else 0) else 0
def zrws (K : zM) (c : Nat → Int32) (sz : Nat) (r : Int32 × Nat × Nat × zM) : List Int32 := if r.1 = 0 then (if zlt8 K c sz = 0 then [] else zrow r.2.2.2 10 (r.2.2.2 3 (sz - 1))) else []
def zshp (K : zM) (c : Nat → Int32) (sz : Nat) (r : Int32 × Nat × Nat × zM) : List Int32 := if zlt8 K c sz = 0 then [0, r.2.2.2 3 (sz - 1)] else (if r.2.2.2 3 (sz - 1) = -1 then 1 else 2) :: zrow r.2.2.2 10 (r.2.2.2 3 (sz - 1))
theorem zrow_len {x : zM} : ∀ (f : Nat) (a : Int32), (zrow x f a).length ≤ 2 * f
  | 0, _ => Nat.le_refl _
  | f + 1, a => by
    show (if a = -1 then [] else _).length ≤ _
    by_cases h : a = -1
    · rw [if_pos h]; exact Nat.zero_le _
    · rw [if_neg h]
      have := zrow_len (x := x) f (x 2 (Int32.toNatClampNeg a))
      simp only [List.length_cons]
      omega
