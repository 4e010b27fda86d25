/-! replay: peeking and numbers, both sides -/
def zDrH (h : zM) (d : Nat) (P : Nat → Nat) : Prop := d ≤ 200 ∧ h 30 2 = nI d ∧ (∀ i, i < d → h 31 i = nI (P i) ∧ 32 ≤ P i ∧ P i ≤ 126) ∧ ∀ i, d ≤ i → P i = 0
def mDrG (g : zM) (d : Nat) (P : Nat → Nat) : Prop := d ≤ 200 ∧ g 0 37 = nI d ∧ (∀ i, i < d → g 26 i = nI (P i) ∧ 32 ≤ P i ∧ P i ≤ 126) ∧ ∀ i, d ≤ i → P i = 0
theorem z_nar {k : Nat} (hk : k < 256) : narrow .char (.int (nI k)) = .int (nI k) := congrArg Value.int (z_char1 k hk)
theorem zDrH_P {h : zM} {d : Nat} {P : Nat → Nat} (hD : zDrH h d P) (i : Nat) : P i ≤ 126 ∧ (P i ≠ 0 → i < d) := by
  obtain ⟨d1, d2, d3, d4⟩ := hD
  rcases Nat.lt_or_ge i d with q | q
  · exact ⟨(d3 i q).2.2, fun _ => q⟩
  · have := d4 i q
    exact ⟨by omega, fun z => absurd this z⟩
theorem mDrG_P {g : zM} {d : Nat} {P : Nat → Nat} (hD : mDrG g d P) (i : Nat) : P i ≤ 126 ∧ (P i ≠ 0 → i < d) := by
  obtain ⟨d1, d2, d3, d4⟩ := hD
  rcases Nat.lt_or_ge i d with q | q
  · exact ⟨(d3 i q).2.2, fun _ => q⟩
  · have := d4 i q
    exact ⟨by omega, fun z => absurd this z⟩
theorem z_peek {n : Nat} {ln : Nat → Nat} {h : zM} {d p : Nat} {P : Nat → Nat} (hD : zDrH h d P) (hp : h 30 4 = nI p) (hq : p < 100000) (post : Int32 → zM → Prop) (k : post (nI (P p)) h) : wpReader_peek n ln h post := by
  obtain ⟨d1, d2, d3, d4⟩ := hD
  unfold wpReader_peek
  rw [hp, d2]
  refine pk_le d p (fun q => ?_) (fun q => ?_)
  · rw [d4 p q] at k
    exact k
  · rw [znc (by omega), (d3 p q).1]
    have := (d3 p q).2.2
    exact ⟨zin_nI (by omega) (by decide), z_nar (by omega), k⟩
theorem m_peek {g : zM} {d p : Nat} {P : Nat → Nat} (hD : mDrG g d P) (hp : g 0 41 = nI p) (hq : p < 100000) (post : Int32 → zM → Prop) (k : post (nI (P p)) g) : wpMod_peek g post := by
  obtain ⟨d1, d2, d3, d4⟩ := hD
  unfold wpMod_peek
  rw [hp, d2]
  refine pk_le d p (fun q => ?_) (fun q => ?_)
  · rw [d4 p q] at k
    exact k
  · rw [znc (by omega), (d3 p q).1]
    exact ⟨zin_nI (by omega) (by decide), k⟩
def zN5 (h h' : zM) : Prop := (∀ r, r ≠ 30 → h' r = h r) ∧ ∀ s, s ≠ 4 → s ≠ 5 → h' 30 s = h 30 s
theorem zN5_rf {h : zM} : zN5 h h := ⟨fun _ _ => rfl, fun _ _ _ => rfl⟩
theorem zN5_tr {h h' h'' : zM} (a : zN5 h h') (b : zN5 h' h'') : zN5 h h'' := ⟨fun r hr => (b.1 r hr).trans (a.1 r hr), fun s h4 h5 => (b.2 s h4 h5).trans (a.2 s h4 h5)⟩
theorem zN5_u {h : zM} {s : Nat} {v : Int32} (hs : s = 4 ∨ s = 5) : zN5 h (zu h 30 s v) := ⟨fun r hr => zuo hr, fun s' h4 h5 => zun (Or.inr (by omega))⟩
theorem zN5_D {h h' : zM} {d : Nat} {P : Nat → Nat} (hN : zN5 h h') (hD : zDrH h d P) : zDrH h' d P := ⟨hD.1, by rw [hN.2 2 (by decide) (by decide)]; exact hD.2.1, fun i hi => by rw [hN.1 31 (by decide)]; exact hD.2.2.1 i hi, hD.2.2.2⟩
theorem z_accept {n : Nat} {ln : Nat → Nat} {h : zM} {d p c : Nat} {P : Nat → Nat} (hD : zDrH h d P) (hp : h 30 4 = nI p) (hq : p < 100000) (hc : c < 1000) (post : Int32 → zM → Prop) (k1 : P p = c → post 1 (zu h 30 4 (nI (p + 1)))) (k0 : P p ≠ c → post 0 h) : wpReader_accept n ln (nI c) h post := by
  unfold wpReader_accept
  have := (zDrH_P hD p).1
  refine z_peek hD hp hq _ (pk_eq (P p) c (fun q h17 e => ?_) k0)
  rw [e, hp, nI_1]
  exact k1 q
theorem z_digit {n : Nat} {ln : Nat → Nat} {h : zM} {d p : Nat} {P : Nat → Nat} (hD : zDrH h d P) (hp : h 30 4 = nI p) (hq : p < 100000) (post : Int32 → zM → Prop) (k1 : 48 ≤ P p ∧ P p ≤ 57 → post 1 h) (k0 : ¬ (48 ≤ P p ∧ P p ≤ 57) → post 0 h) : wpReader_isAtDigit n ln h post := by
  unfold wpReader_isAtDigit
  have := (zDrH_P hD p).1
  exact z_peek hD hp hq _ (pk_lt (P p) 48 (fun q => k0 (by omega)) (fun q => z_peek hD hp hq _ (pk_lt 57 (P p) (fun q2 => k0 (by omega)) (fun q2 => k1 (by omega)))))
theorem m_digit {c : Nat} {g : zM} (hc : c < 1000) (post : Int32 → zM → Prop) (k1 : 48 ≤ c ∧ c ≤ 57 → post 1 g) (k0 : ¬ (48 ≤ c ∧ c ≤ 57) → post 0 g) : wpMod_digit (nI c) g post := by
  unfold wpMod_digit
  exact pk_lt c 48 (fun q => k0 (by omega)) (fun q => pk_lt 57 c (fun q2 => k0 (by omega)) (fun q2 => k1 (by omega)))
def zcnt (P : Nat → Nat) : Nat → Nat → Nat
  | 0, _ => 0
  | f + 1, s => if 48 ≤ P s ∧ P s ≤ 57 then zcnt P f (s + 1) + 1 else 0
theorem zcnt_ok (P : Nat → Nat) : ∀ f s, zcnt P f s ≤ f ∧ (∀ i, i < zcnt P f s → 48 ≤ P (s + i) ∧ P (s + i) ≤ 57) ∧ (zcnt P f s = f ∨ ¬ (48 ≤ P (s + zcnt P f s) ∧ P (s + zcnt P f s) ≤ 57))
  | 0, s => ⟨Nat.le_refl _, fun i hi => absurd hi (Nat.not_lt_zero i), Or.inl rfl⟩
  | f + 1, s => by
    rw [zcnt]
    by_cases q : 48 ≤ P s ∧ P s ≤ 57
    · rw [if_pos q]
      obtain ⟨a, b, c⟩ := zcnt_ok P f (s + 1)
      refine ⟨by omega, fun i hi => ?_, ?_⟩
      · rcases Nat.eq_zero_or_pos i with rfl | hi0
        · exact q
        · have := b (i - 1) (by omega)
          rw [show s + 1 + (i - 1) = s + i by omega] at this
          exact this
      · rcases c with c | c
        · exact Or.inl (by omega)
        · refine Or.inr ?_
          rw [show s + 1 + zcnt P f (s + 1) = s + (zcnt P f (s + 1) + 1) by omega] at c
          exact c
    · rw [if_neg q]
      exact ⟨by omega, fun i hi => absurd hi (Nat.not_lt_zero i), Or.inr q⟩
def zdv (P : Nat → Nat) (s : Nat) : Nat → Nat
  | 0 => 0
  | k + 1 => 10 * zdv P s k + (P (s + k) - 48)
theorem zdv_lt {P : Nat → Nat} {s : Nat} : ∀ k, (∀ i, i < k → 48 ≤ P (s + i) ∧ P (s + i) ≤ 57) → zdv P s k < 10 ^ k
  | 0, _ => by simp [zdv]
  | k + 1, h => by
    have a := zdv_lt k (fun i hi => h i (by omega))
    have b := h k (by omega)
    rw [zdv, Nat.pow_succ]
    omega
theorem zdv_ge {P : Nat → Nat} {s : Nat} (h48 : 48 < P s) : ∀ k, 10 ^ k ≤ zdv P s (k + 1)
  | 0 => by simp [zdv]; omega
  | k + 1 => by
    have a := zdv_ge h48 k
    rw [zdv, Nat.pow_succ]
    omega
theorem zlg0 {a b : Int64} : lg_cmp a b = 0 ↔ a = b := by
  unfold lg_cmp
  by_cases q : a > b
  · rw [if_pos q]
    refine ⟨fun z => absurd z (by decide), fun z => ?_⟩
    subst z
    rw [gt_iff_lt, Int64.lt_iff_toInt_lt] at q
    omega
  · rw [if_neg q]
    by_cases q2 : a = b
    · rw [if_pos q2]
      exact ⟨fun _ => q2, fun _ => rfl⟩
    · rw [if_neg q2]
      exact ⟨fun z => absurd z (by decide), fun z => absurd z q2⟩
def zyy (neg : Bool) (v : Nat) : Int64 := if neg = true then -lN v else lN v
abbrev zFt (y : Int64) : Prop := lg_cmp y (Int32.toInt64 (Int64.toInt32 y)) = 0
theorem zFt_pos {v : Nat} (hv : v < 100000000000) : zFt (lN v) ↔ v < 2147483648 := by
  unfold zFt
  rw [zlg0, lN_i]
  constructor
  · intro z
    have e := congrArg Int64.toInt z
    rw [pk_lT (by omega), zl_of] at e
    have := Int32.toInt_lt (nI v)
    omega
  · intro z
    exact (nI_l (by omega)).symm
theorem zFt_big {neg : Bool} {v : Nat} (h1 : 10000000000 ≤ v) (h2 : v < 100000000000) : ¬ zFt (zyy neg v) := by
  unfold zyy
  cases neg
  · rw [if_neg (by decide), zFt_pos h2]
    omega
  · rw [if_pos rfl]
    unfold zFt
    rw [zlg0]
    intro z
    have e := congrArg Int64.toInt z
    rw [Int64.toInt_neg, pk_lT (by omega), zl_of, Int.bmod_eq_of_le (by omega) (by omega)] at e
    have := Int32.le_toInt (-lN v).toInt32
    omega
abbrev zRok (P : Nat → Nat) (neg : Bool) (s : Nat) : Prop := 0 < zcnt P 11 s ∧ zFt (zyy neg (zdv P s (zcnt P 11 s))) ∧ ¬ (P s = 48 ∧ (neg = true ∨ 1 < zcnt P 11 s))
def zRdS (P : Nat → Nat) (neg : Bool) (s : Nat) : Option (Int32 × Nat) := if zRok P neg s then some (Int64.toInt32 (zyy neg (zdv P s (zcnt P 11 s))), s + zcnt P 11 s) else none
def zRdN (P : Nat → Nat) (p : Nat) : Option (Int32 × Nat) := if P p = 45 then zRdS P true (p + 1) else zRdS P false p
theorem zcnt_le {P : Nat → Nat} {d s : Nat} (hd : ∀ i, P i ≠ 0 → i < d) (hs : s ≤ d) : s + zcnt P 11 s ≤ d := by
  obtain ⟨-, b, -⟩ := zcnt_ok P 11 s
  rcases Nat.eq_zero_or_pos (zcnt P 11 s) with q | q
  · omega
  · have := b (zcnt P 11 s - 1) (by omega)
    have := hd _ (show P (s + (zcnt P 11 s - 1)) ≠ 0 by omega)
    omega
theorem z_rdS {n : Nat} {ln : Nat → Nat} {h : zM} {d s : Nat} {P : Nat → Nat} {neg : Bool} {r3 : Int32} (hr : r3 = (if neg = true then 1 else 0)) (hD : zDrH h d P) (hp : h 30 4 = nI s) (hs : s ≤ d) (post : Int32 → zM → Prop) (kf : zRdS P neg s = none → ∀ h', zN5 h h' → post 0 h') (ks : ∀ x q, zRdS P neg s = some (x, q) → q ≤ d → ∀ h', zN5 h h' → h' 30 4 = nI q → h' 30 5 = x → post 1 h') : wpReader_peek n ln h (fun r8 h8 => ((¬ r8 = 48 → wbReader_readNumber_21 n ln post r3 0 h8) ∧ (r8 = 48 → wbReader_readNumber_21 n ln post r3 1 h8))) := by
  have hd1 := hD.1
  have hP := (zDrH_P hD s).1
  obtain ⟨c1, c2, c3⟩ := zcnt_ok P 11 s
  have hle := zcnt_le (fun i => (zDrH_P hD i).2) hs
  have go : ∀ z : Int32, (z = 1 ∧ P s = 48) ∨ (z = 0 ∧ P s ≠ 48) → wbReader_readNumber_21 n ln post r3 z h := by
    intro z hz
    have fin : ∀ hh, zN5 h hh → hh 30 4 = nI (s + zcnt P 11 s) → wbReader_readNumber_72 n ln post r3 z (lN (zdv P s (zcnt P 11 s))) (nI (zcnt P 11 s)) hh := by
      intro hh hN h4
      have fy : wbReader_readNumber_82 n ln post r3 z (nI (zcnt P 11 s)) (zyy neg (zdv P s (zcnt P 11 s))) hh := by
        unfold wbReader_readNumber_82
        intro h86 e86
        have e5 : h86 30 5 = Int64.toInt32 (zyy neg (zdv P s (zcnt P 11 s))) := by rw [e86]; exact zux
        have N86 : zN5 h h86 := zN5_tr hN (by rw [e86]; exact zN5_u (Or.inr rfl))
        have e4 : h86 30 4 = nI (s + zcnt P 11 s) := by rw [e86, zun (Or.inr (by decide))]; exact h4
        rw [e5]
        have F : ¬ zRok P neg s → post 0 h86 := fun q => kf (by unfold zRdS; rw [if_neg q]) h86 N86
        have S : zRok P neg s → post 1 h86 := fun q => ks _ _ (by unfold zRdS; rw [if_pos q]) hle h86 N86 e4 e5
        refine pk_le (zcnt P 11 s) 0 (fun q => F (fun q2 => by have := q2.1; omega)) (fun q => ⟨fun q2 => F (fun q3 => q2 q3.2.1), fun q2 => ?_⟩)
        rcases hz with ⟨rfl, z48⟩ | ⟨rfl, z48⟩
        · refine ⟨fun z => absurd z (by decide), fun _ => ⟨fun q3 => F (fun q4 => q4.2.2 ⟨z48, Or.inl ?_⟩), fun q3 => ?_⟩⟩
          · cases neg
            · exact absurd hr q3
            · rfl
          · have hneg : neg = false := by
              cases neg
              · rfl
              · rw [hr] at q3
                exact absurd q3 (by decide)
            refine pk_lt 1 (zcnt P 11 s) (fun q4 => F (fun q5 => q5.2.2 ⟨z48, Or.inr q4⟩)) (fun q4 => S ⟨q, q2, fun q5 => ?_⟩)
            rcases q5.2 with q6 | q6
            · rw [hneg] at q6
              exact absurd q6 (by decide)
            · omega
        · exact ⟨fun _ => S ⟨q, q2, fun q3 => z48 q3.1⟩, fun z => absurd rfl z⟩
      unfold wbReader_readNumber_72
      unfold zyy at fy
      cases neg
      · rw [if_neg (by decide)] at fy
        exact ⟨fun _ => fy, fun q => absurd hr q⟩
      · rw [if_pos rfl] at fy
        exact ⟨fun q => absurd (hr.symm.trans q) (by decide), fun _ => fy⟩
    unfold wbReader_readNumber_21
    refine zL_rule (fun t : Int32 × Int32 × Int64 × Int32 × zM => ∃ i : Nat, i ≤ zcnt P 11 s ∧ t.1 = r3 ∧ t.2.1 = z ∧ t.2.2.1 = lN (zdv P s i) ∧ t.2.2.2.1 = nI i ∧ zN5 h t.2.2.2.2 ∧ t.2.2.2.2 30 4 = nI (s + i)) (fun t => 11 - Int32.toNatClampNeg t.2.2.2.1) ?_ _ ⟨0, by omega, rfl, rfl, rfl, rfl, zN5_rf, hp⟩
    rintro ⟨v1, v2, u3, v5, hh⟩ L ⟨i, hi, e1, e2, e3, e4, hN, h4⟩ hL
    dsimp only at e1 e2 e3 e4 hN h4
    subst e1
    subst e2
    subst e3
    subst e4
    unfold stReader_readNumber_27
    dsimp only
    refine pk_le 11 i (fun q => ?_) (fun q => ?_)
    · obtain rfl : i = zcnt P 11 s := by omega
      exact fin hh hN h4
    · have hDh := zN5_D hN hD
      refine z_digit hDh h4 (by omega) _ (fun q2 => ?_) (fun q2 => ?_)
      · refine ⟨fun z => absurd z (by decide), fun _ => z_peek hDh h4 (by omega) _ (fun y ey h63 e63 => ?_)⟩
        have hik : i < zcnt P 11 s := by
          rcases Nat.lt_or_ge i (zcnt P 11 s) with q3 | q3
          · exact q3
          · exfalso
            obtain rfl : i = zcnt P 11 s := by omega
            rcases c3 with c3 | c3
            · omega
            · exact c3 q2
        refine hL _ ⟨i + 1, hik, rfl, rfl, ?_, nI_1 i, zN5_tr hN (by rw [e63]; exact zN5_u (Or.inl rfl)), ?_⟩ ?_
        · dsimp only
          rw [ey, show (48 : Int32) = nI 48 from rfl, pk_sub q2.1, nI_l (by omega), show (10 : Int64) = lN 10 from rfl, lN_mul, lN_add]
          rfl
        · dsimp only
          rw [e63, zux, h4, nI_1]
          rfl
        · dsimp only
          rw [nI_1, znc (by omega), znc (by omega)]
          omega
      · have hik : i = zcnt P 11 s := by
          rcases Nat.lt_or_ge i (zcnt P 11 s) with q3 | q3
          · exact absurd (c2 i q3) q2
          · omega
        subst hik
        exact ⟨fun _ => fin hh hN h4, fun z => absurd rfl z⟩
  refine z_peek hD hp (by omega) _ ?_
  have := pk_eq (P s) 48 (fun q => go 1 (Or.inl ⟨rfl, q⟩)) (fun q => go 0 (Or.inr ⟨rfl, q⟩))
  exact ⟨this.2, this.1⟩
theorem z_rdN {n : Nat} {ln : Nat → Nat} {h : zM} {d p : Nat} {P : Nat → Nat} (hD : zDrH h d P) (hp : h 30 4 = nI p) (hs : p ≤ d) (post : Int32 → zM → Prop) (kf : zRdN P p = none → ∀ h', zN5 h h' → post 0 h') (ks : ∀ x q, zRdN P p = some (x, q) → q ≤ d → ∀ h', zN5 h h' → h' 30 4 = nI q → h' 30 5 = x → post 1 h') : wpReader_readNumber n ln h post := by
  have hd1 := hD.1
  unfold wpReader_readNumber
  unfold zRdN at kf ks
  refine z_accept (c := 45) hD hp (by omega) (by decide) _ (fun q => ?_) (fun q => ?_)
  · rw [if_pos q] at kf ks
    have hN : zN5 h (zu h 30 4 (nI (p + 1))) := zN5_u (Or.inl rfl)
    exact z_rdS (neg := true) rfl (zN5_D hN hD) zux (by have := (zDrH_P hD p).2 (by omega); omega) post (fun z h' hN' => kf z h' (zN5_tr hN hN')) (fun x q' z z2 h' hN' => ks x q' z z2 h' (zN5_tr hN hN'))
  · rw [if_neg q] at kf ks
    exact z_rdS (neg := false) rfl hD hp hs post kf ks
