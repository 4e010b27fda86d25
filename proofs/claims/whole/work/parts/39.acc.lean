/-! longs, and reading a sequence -/
theorem zl_cmp_lt {x y : Int64} : lg_cmp x y < 0 ↔ x.toInt < y.toInt := by
  unfold lg_cmp
  rw [← Int64.lt_iff_toInt_lt]
  by_cases h : x > y
  · rw [if_pos h]
    have : ¬ x < y := fun z => absurd (Int64.lt_trans h z) (Int64.lt_irrefl)
    exact ⟨fun z => absurd z (by decide), fun z => absurd z this⟩
  · rw [if_neg h]
    by_cases e : x = y
    · rw [if_pos e, e]
      exact ⟨fun z => absurd z (by decide), fun z => absurd z (Int64.lt_irrefl)⟩
    · rw [if_neg e]
      refine ⟨fun _ => ?_, fun _ => by decide⟩
      rcases Int64.lt_or_eq_of_le (Int64.not_lt.mp h) with z | z
      · exact z
      · exact absurd z e
theorem zl_cmp_gt {x y : Int64} : 0 < lg_cmp x y ↔ y.toInt < x.toInt := by
  unfold lg_cmp
  rw [← Int64.lt_iff_toInt_lt]
  by_cases h : x > y
  · rw [if_pos h]
    exact ⟨fun _ => h, fun _ => by decide⟩
  · rw [if_neg h]
    by_cases e : x = y
    · rw [if_pos e]
      exact ⟨fun z => absurd z (by decide), fun z => absurd z h⟩
    · rw [if_neg e]
      exact ⟨fun z => absurd z (by decide), fun z => absurd z h⟩
theorem zl_of (a : Int32) : (Int32.toInt64 a).toInt = a.toInt := Int32.toInt_toInt64 a
theorem zi_rng (a : Int32) : -2147483648 ≤ a.toInt ∧ a.toInt < 2147483648 := ⟨Int32.le_toInt a, Int32.toInt_lt a⟩
theorem zl_add (a b : Int32) : (Int32.toInt64 a + Int32.toInt64 b).toInt = a.toInt + b.toInt := by
  rw [Int64.toInt_add, zl_of, zl_of]
  have h1 := zi_rng a
  have h2 := zi_rng b
  exact Int.bmod_eq_of_le (by omega) (by omega)
theorem zl_back (a b : Int32) : Int64.toInt32 (Int32.toInt64 a + Int32.toInt64 b) = a + b := by
  rw [Int64.toInt32_add, Int32.toInt32_toInt64, Int32.toInt32_toInt64]
theorem zl_m100 : (-100 : Int64).toInt = -100 := rfl
theorem zl_100 : (100 : Int64).toInt = 100 := rfl
def zfit (v : Int) : Prop := -100 ≤ v ∧ v ≤ 100
theorem z_canBe {n : Nat} {ln : Nat → Nat} {h : zM} {w : Int64} (post : Int32 → zM → Prop) (h1 : ¬ zfit w.toInt → post 0 h) (h2 : zfit w.toInt → post 1 h) : wpRunner_canBeValue n ln w h post := by
  unfold wpRunner_canBeValue
  rw [zl_cmp_lt, zl_cmp_gt, zl_m100, zl_100]
  unfold zfit at h1 h2
  exact ⟨fun q => h1 (by omega), fun q => ⟨fun q2 => h1 (by omega), fun q2 => h2 (by omega)⟩⟩
theorem m_fits {g : zM} {w : Int64} (post : Int32 → zM → Prop) (h1 : ¬ zfit w.toInt → post 0 g) (h2 : zfit w.toInt → post 1 g) : wpMod_fits w g post := by
  unfold wpMod_fits
  rw [zl_cmp_lt, zl_cmp_gt, zl_m100, zl_100]
  unfold zfit at h1 h2
  exact ⟨fun q => h1 (by omega), fun q => ⟨fun q2 => h1 (by omega), fun q2 => h2 (by omega)⟩⟩
theorem zn5 (k : Nat) : nI k * 5 = nI (5 * k) := by rw [show (5 : Int32) = nI 5 from rfl, pk_mul, Nat.mul_comm]
theorem zn2 (k : Nat) : 2 * nI k = nI (2 * k) := by rw [show (2 : Int32) = nI 2 from rfl, pk_mul]
theorem zn10 (k : Nat) : 10 * nI k = nI (10 * k) := by rw [show (10 : Int32) = nI 10 from rfl, pk_mul]
theorem zp1 (k : Nat) : nI k + 1 = nI (k + 1) := nI_1 k
theorem zp2 (k : Nat) : nI k + 2 = nI (k + 2) := by rw [show (2 : Int32) = nI 2 from rfl, nI_add]
theorem z_op {o : Nat} {h : zM} {k : Nat} (hk : k < 10) (post : Int32 → zM → Prop) (hp : post (h (o + 1) (5 * k)) h) : wpSequence_operationOf o (nI k) h post := by
  unfold wpSequence_operationOf
  rw [zn5, znc (by omega)]
  exact ⟨zin_nI (by omega) (by omega), hp⟩
theorem z_form {o : Nat} {h : zM} {k a : Nat} (hk : k < 10) (ha : a < 2) (post : Int32 → zM → Prop) (hp : post (h (o + 1) (5 * k + 1 + 2 * a)) h) : wpSequence_form o (nI k) (nI a) h post := by
  unfold wpSequence_form
  rw [zn5, zn2, zp1, nI_add, znc (by omega)]
  exact ⟨zin_nI (by omega) (by omega), hp⟩
theorem z_content {o : Nat} {h : zM} {k a : Nat} (hk : k < 10) (ha : a < 2) (post : Int32 → zM → Prop) (hp : post (h (o + 1) (5 * k + 2 + 2 * a)) h) : wpSequence_content o (nI k) (nI a) h post := by
  unfold wpSequence_content
  rw [zn5, zn2, zp2, nI_add, znc (by omega)]
  exact ⟨zin_nI (by omega) (by omega), hp⟩
theorem z_isVar {o : Nat} {h : zM} {k a : Nat} (hk : k < 10) (ha : a < 2) (post : Int32 → zM → Prop) (h1 : h (o + 1) (5 * k + 1 + 2 * a) ≠ 0 → post 0 h) (h2 : h (o + 1) (5 * k + 1 + 2 * a) = 0 → post 1 h) : wpSequence_isVariable o (nI k) (nI a) h post := by
  unfold wpSequence_isVariable
  rw [zn5, zn2, zp1, nI_add, znc (by omega)]
  exact ⟨zin_nI (by omega) (by omega), h1, h2⟩
theorem z_setArg {o : Nat} {h : zM} {k a : Nat} (hk : k < 10) (ha : a < 2) (f v : Int32) (post : zM → Prop) (hp : post (zu (zu h (o + 1) (5 * k + 1 + 2 * a) f) (o + 1) (5 * k + 2 + 2 * a) v)) : wpSequence_setArgument o (nI k) (nI a) f v h post := by
  unfold wpSequence_setArgument
  rw [zn5, zn2, zp1, zp2, nI_add, nI_add, znc (by omega), znc (by omega)]
  refine ⟨zin_nI (by omega) (by omega), fun h14 e14 => ⟨zin_nI (by omega) (by omega), fun h30 e30 => ?_⟩⟩
  rw [e30, e14]
  exact hp
/-- the value of an argument in a run -/
def zav (c : Nat → Int32) (x : zM) (k a : Nat) : Int32 := if c (5 * k + 1 + 2 * a) = 0 then x 3 (Int32.toNatClampNeg (c (5 * k + 2 + 2 * a))) else if c (5 * k + 1 + 2 * a) = 1 then c (5 * k + 2 + 2 * a) else -1
theorem z_av {n : Nat} {ln : Nat → Nat} {o : Nat} {h x : zM} {k a : Nat} (hk : k < 10) (ha : a < 2) (hR : ∀ j, j < k → h 13 j = x 3 j) (hvar : h (o + 1) (5 * k + 1 + 2 * a) = 0 → ∃ v : Nat, v < k ∧ h (o + 1) (5 * k + 2 + 2 * a) = nI v) (post : Int32 → zM → Prop) (hp : post (zav (h (o + 1)) x k a) h) : wpRunner_argumentValue n ln o (nI k) (nI a) h post := by
  unfold wpRunner_argumentValue
  refine z_content hk ha _ (z_form hk ha _ ?_)
  unfold zav at hp
  refine ⟨fun q => ?_, fun q => ⟨fun q2 => ?_, fun q2 => ?_⟩⟩
  · obtain ⟨v, hv, e⟩ := hvar q
    rw [if_pos q, e, znc (by omega), ← hR v hv] at hp
    rw [e, znc (by omega)]
    exact ⟨zin_nI (by omega) (by omega), hp⟩
  · rwa [if_neg q, if_pos q2] at hp
  · rwa [if_neg q, if_neg q2] at hp
