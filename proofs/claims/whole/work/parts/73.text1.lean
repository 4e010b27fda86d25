/-! text: letters and numbers, both sides -/
def zWr (h0 h : zM) (T : List Nat) : Prop := (∀ r, r ≠ 28 → r ≠ 29 → h r = h0 r) ∧ h 28 1 = nI T.length ∧ ∀ i c, T[i]? = some c → h 29 i = nI c
def mWr (g0 g : zM) (T : List Nat) : Prop := (∀ r s, r ≠ 27 → (r ≠ 0 ∨ s ≠ 39) → g r s = g0 r s) ∧ g 0 39 = nI T.length ∧ ∀ i c, T[i]? = some c → g 27 i = nI c
theorem z_char1 : ∀ k, k < 256 → vp_nar .char (nI k) = nI k := by decide +kernel
theorem zap_at {T : List Nat} {c c' i : Nat} (e : (T ++ [c])[i]? = some c') : (i < T.length ∧ T[i]? = some c') ∨ (i = T.length ∧ c' = c) := by
  rcases Nat.lt_trichotomy i T.length with q | q | q
  · rw [List.getElem?_append_left q] at e
    exact Or.inl ⟨q, e⟩
  · subst q
    rw [List.getElem?_append_right (Nat.le_refl _), Nat.sub_self] at e
    simp at e
    exact Or.inr ⟨rfl, e.symm⟩
  · rw [List.getElem?_eq_none (by simp; omega)] at e
    cases e
theorem z_put {n : Nat} {ln : Nat → Nat} {x : Int32} {h0 h : zM} {post : zM → Prop} {T : List Nat} {c : Nat} (hW : zWr h0 h T) (hx : vp_nar .char x = nI c) (hl : T.length < 200) (k : ∀ h', zWr h0 h' (T ++ [c]) → post h') : wpWriter_put n ln x h post := by
  unfold wpWriter_put
  obtain ⟨w1, w2, w3⟩ := hW
  rw [w2]
  refine pk_le 200 T.length (fun q => by omega) (fun _ => ⟨zin_nI hl (by omega), fun h21 e1 h29 e2 => k h29 ?_⟩)
  subst e1
  subst e2
  rw [znc (by omega), hx]
  refine ⟨fun r a b => ?_, ?_, fun i c' e => ?_⟩
  · rw [zuo a, zuo b]
    exact w1 r a b
  · rw [zux, zun (Or.inl (by decide)), w2, nI_1]
    simp
  · rw [zun (Or.inl (by decide))]
    rcases zap_at e with ⟨q, e2⟩ | ⟨rfl, rfl⟩
    · rw [zun (Or.inr (by omega))]
      exact w3 i c' e2
    · rw [zux]
theorem m_write {x : Int32} {g0 g : zM} {post : zM → Prop} {T : List Nat} {c : Nat} (hW : mWr g0 g T) (hx : x = nI c) (hl : T.length < 300) (k : ∀ g', mWr g0 g' (T ++ [c]) → post g') : wpMod_write x g post := by
  unfold wpMod_write
  obtain ⟨w1, w2, w3⟩ := hW
  rw [w2]
  refine ⟨zin_nI hl (by omega), fun h21 e1 h29 e2 => k h29 ?_⟩
  subst e1
  subst e2
  rw [znc (by omega), hx]
  refine ⟨fun r s a b => ?_, ?_, fun i c' e => ?_⟩
  · rw [zun b, zun (Or.inl a)]
    exact w1 r s a b
  · rw [zux, zun (Or.inl (by decide)), w2, nI_1]
    simp
  · rw [zun (Or.inl (by decide))]
    rcases zap_at e with ⟨q, e2⟩ | ⟨rfl, rfl⟩
    · rw [zun (Or.inr (by omega))]
      exact w3 i c' e2
    · rw [zux]
def zdg (m : Nat) : Nat → List Nat
  | 0 => []
  | k + 1 => (48 + m / 10 ^ k % 10) :: zdg m k
theorem zdg_len (m : Nat) : ∀ k, (zdg m k).length = k
  | 0 => rfl
  | k + 1 => by rw [zdg, List.length_cons, zdg_len m k]
def zpl (m : Nat) : Nat := if m < 10 then 0 else if m < 100 then 1 else if m < 1000 then 2 else if m < 10000 then 3 else if m < 100000 then 4 else if m < 1000000 then 5 else if m < 10000000 then 6 else if m < 100000000 then 7 else if m < 1000000000 then 8 else 9
theorem zpl_ok {m : Nat} (hm : m ≤ 2147483648) : zpl m ≤ 9 ∧ (zpl m = 0 ∨ 10 ^ zpl m ≤ m) ∧ m < 10 ^ (zpl m + 1) := by
  unfold zpl
  repeat' split
  all_goals (refine ⟨by omega, ?_, ?_⟩ <;> simp <;> omega)
theorem zt4_at : ∀ i, i < 10 → zt4 i = nI (10 ^ (9 - i)) := by decide +kernel
theorem zt4_one : ∀ i, i < 10 → (zt4 i = 1 ↔ i = 9) := by decide +kernel
theorem zp10 {r : Nat} (hr : r ≤ 9) : 0 < 10 ^ r ∧ 10 ^ r ≤ 1000000000 := ⟨Nat.pow_pos (by decide), Nat.pow_le_pow_right (n := 10) (by decide) hr⟩
theorem z_num_loop {n : Nat} {ln : Nat → Nat} {m p : Nat} {h0 h : zM} {T : List Nat} {post : zM → Prop} (hm : m ≤ 2147483648) (p9 : p ≤ 9) (p1 : p = 0 ∨ 10 ^ p ≤ m) (p2 : m < 10 ^ (p + 1)) (hW : zWr h0 h T) (hl : T.length + p + 1 ≤ 200) (k : ∀ h', zWr h0 h' (T ++ zdg m (p + 1)) → post h') : wbWriter_writeNumber_18 n ln post (lN m) h := by
  unfold wbWriter_writeNumber_18
  refine zL_rule (fun s : Int64 × Int32 × Int32 × zM => ∃ (i : Nat) (W : List Nat), i ≤ 10 ∧ s.1 = lN m ∧ s.2.2.1 = nI i ∧ zWr h0 s.2.2.2 W ∧ ((i ≤ 9 - p ∧ s.2.1 = 0 ∧ W = T) ∨ (9 - p < i ∧ s.2.1 = 1 ∧ W ++ zdg m (10 - i) = T ++ zdg m (p + 1)))) (fun s => 10 - Int32.toNatClampNeg s.2.2.1) ?_ _ ⟨0, T, by omega, rfl, rfl, hW, Or.inl ⟨by omega, rfl, rfl⟩⟩
  rintro ⟨u2, v4, v5, h⟩ L ⟨i, W, i10, e1, e2, hV, hd⟩ hL
  dsimp only at e1 e2 hV hd
  subst e1
  subst e2
  unfold stWriter_writeNumber_24
  dsimp only
  refine pk_le 10 i (fun q => ?_) (fun q => ?_)
  · obtain rfl : i = 10 := by omega
    rcases hd with ⟨a, -⟩ | ⟨-, -, e⟩
    · omega
    · rw [show zdg m (10 - 10) = [] from rfl, List.append_nil] at e
      exact k h (e ▸ hV)
  · obtain ⟨t0, t9⟩ := zp10 (r := 9 - i) (by omega)
    have hWR : ∀ d : Nat, d = m / 10 ^ (9 - i) % 10 → 9 - p ≤ i → W ++ zdg m (10 - i) = T ++ zdg m (p + 1) → wbWriter_writeNumber_69 n ln post L (lN m) (nI i) (nI d) h := by
      intro d hd2 hi e
      have hlen := congrArg List.length e
      rw [List.length_append, List.length_append, zdg_len, zdg_len] at hlen
      unfold wbWriter_writeNumber_69 wbWriter_writeNumber_74
      refine ⟨fun z => absurd z (by decide), fun _ => z_put hV (c := 48 + d) ?_ (by omega) (fun h' hW' => ?_)⟩
      · rw [show (48 : Int32) = nI 48 from rfl, nI_add]
        exact z_char _ (by omega)
      · unfold wbWriter_writeNumber_91
        refine hL _ ⟨i + 1, W ++ [48 + d], by omega, rfl, nI_1 i, hW', Or.inr ⟨by omega, rfl, ?_⟩⟩ ?_
        · rw [show 10 - i = (9 - i) + 1 by omega, zdg, ← hd2] at e
          rw [show 10 - (i + 1) = 9 - i by omega, List.append_assoc]
          exact e
        · dsimp only
          rw [nI_1, znc (by omega), znc (by omega)]
          omega
    rw [znc (by omega), zt4_at i q, nI_l (by omega), pk_lDiv (by omega) t0 (by omega), show (10 : Int64) = lN 10 from rfl, pk_lRem (Nat.lt_of_le_of_lt (Nat.div_le_self _ _) (by omega)) (by decide) (by decide), lN_i]
    refine ⟨zin_nI q (by omega), fun z => ?_, fun y ey => ?_⟩
    · have := (lN_eq (by omega) (by decide)).mp (z.trans (show (0 : Int64) = lN 0 from rfl))
      omega
    · subst ey
      have d10 : m / 10 ^ (9 - i) % 10 < 10 := Nat.mod_lt _ (by decide)
      rcases hd with ⟨a, rfl, rfl⟩ | ⟨a, rfl, e⟩
      · refine ⟨fun z => absurd rfl z, fun _ => ⟨fun z => ?_, fun z => ⟨zin_nI q (by omega), fun z2 => ?_, fun z2 => ?_⟩⟩⟩
        · have d0 : m / 10 ^ (9 - i) ≠ 0 := by
            intro q0
            rw [q0] at z
            exact z rfl
          have hle : 10 ^ (9 - i) ≤ m := by
            rcases Nat.lt_or_ge m (10 ^ (9 - i)) with q0 | q0
            · exact absurd (Nat.div_eq_of_lt q0) d0
            · exact q0
          have hr : 9 - i < p + 1 := (Nat.pow_lt_pow_iff_right (a := 10) (by decide)).mp (Nat.lt_of_le_of_lt hle p2)
          have : i = 9 - p := by omega
          exact hWR _ rfl (by omega) (by rw [show 10 - i = p + 1 by omega])
        · have hi : i ≠ 9 := fun q0 => by
            subst q0
            exact z2 rfl
          have hn : i ≠ 9 - p := by
            intro q0
            have e9 : 9 - i = p := by omega
            rw [e9] at z d10
            rcases p1 with q1 | q1
            · omega
            · have a1 : 1 ≤ m / 10 ^ p := (Nat.le_div_iff_mul_le (by rw [e9] at t0; exact t0)).mpr (by omega)
              have a2 : m / 10 ^ p < 10 := (Nat.div_lt_iff_lt_mul (by rw [e9] at t0; exact t0)).mpr (by rw [Nat.pow_succ] at p2; omega)
              rw [Nat.mod_eq_of_lt a2] at z
              exact nI_ne0 (by omega) (by omega) z
          unfold wbWriter_writeNumber_74
          refine ⟨fun _ => ?_, fun z => absurd rfl z⟩
          unfold wbWriter_writeNumber_91
          refine hL _ ⟨i + 1, W, by omega, rfl, nI_1 i, hV, Or.inl ⟨by omega, rfl, rfl⟩⟩ ?_
          dsimp only
          rw [nI_1, znc (by omega), znc (by omega)]
          omega
        · have hi : i = 9 := by
            rw [← zt4_at i q] at z2
            exact (zt4_one i q).mp z2
          exact hWR _ rfl (by omega) (by rw [show 10 - i = p + 1 by omega])
      · exact ⟨fun _ => hWR _ rfl (by omega) e, fun z => absurd z (by decide)⟩
theorem zl_le9 {a : Nat} (ha : a < 9223372036854775808) {b : Nat} (hb : b < 9223372036854775808) : lg_cmp (lN a) (lN b) ≤ 0 ↔ a ≤ b := by
  have e := @zl_cmp_gt (lN a) (lN b)
  rw [pk_lT (by omega), pk_lT (by omega)] at e
  have e2 : lg_cmp (lN a) (lN b) ≤ 0 ↔ ¬ 0 < lg_cmp (lN a) (lN b) := by rw [zle, zlt]; omega
  rw [e2, e]
  omega
theorem m_num_loop {m p : Nat} {g0 g : zM} {T : List Nat} {post : zM → Prop} (hm : m ≤ 2147483648) (p9 : p ≤ 9) (p1 : p = 0 ∨ 10 ^ p ≤ m) (p2 : m < 10 ^ (p + 1)) (hW : mWr g0 g T) (hl : T.length + p + 1 ≤ 300) (k : ∀ g', mWr g0 g' (T ++ zdg m (p + 1)) → post g') : wbMod_writeNumber_18 post (lN m) g := by
  unfold wbMod_writeNumber_18
  refine zL_rule (fun s : Int64 × Int64 × zM => ∃ q : Nat, q ≤ p ∧ s = (lN m, lN (10 ^ q), g)) (fun s => 1000000000 - s.2.1.toInt.toNat) ?_ _ ⟨0, by omega, rfl⟩
  rintro _ L ⟨q, hq, rfl⟩ hL
  unfold stMod_writeNumber_21
  dsimp only
  obtain ⟨t0, t9⟩ := zp10 (r := q) (by omega)
  rw [pk_lDiv (by omega) t0 (by omega), show (9 : Int64) = lN 9 from rfl, show (10 : Int64) = lN 10 from rfl, zl_le9 (Nat.lt_of_le_of_lt (Nat.div_le_self _ _) (by omega)) (by decide)]
  refine ⟨fun z => ?_, fun z => ?_, fun z y ey => ?_⟩
  · have := (lN_eq (by omega) (by decide)).mp (z.trans (show (0 : Int64) = lN 0 from rfl))
    omega
  · have hqp : q = p := by
      rcases Nat.lt_or_ge q p with q1 | q1
      · exfalso
        have a1 : m < 10 ^ (q + 1) := by
          rw [Nat.pow_succ]
          have := (Nat.div_lt_iff_lt_mul t0).mp (Nat.lt_succ_of_le z)
          omega
        have a2 : 10 ^ (q + 1) ≤ 10 ^ p := Nat.pow_le_pow_right (by decide) q1
        omega
      · omega
    subst hqp
    refine zL_rule (fun s : Int64 × Int64 × zM => ∃ (j : Nat) (W : List Nat), j ≤ q + 1 ∧ s.1 = lN m ∧ s.2.1 = lN (10 ^ j / 10) ∧ mWr g0 s.2.2 W ∧ W ++ zdg m j = T ++ zdg m (q + 1)) (fun s => s.2.1.toInt.toNat) ?_ _ ⟨q + 1, T, by omega, rfl, by rw [Nat.pow_succ, Nat.mul_div_cancel _ (by decide)], hW, rfl⟩
    rintro ⟨u2, u4, g1⟩ L1 ⟨j, W, hj, e1, e2, hV, e⟩ hL1
    dsimp only at e1 e2 hV
    subst e1
    subst e2
    unfold stMod_writeNumber_43
    dsimp only
    have hlen := congrArg List.length e
    rw [List.length_append, List.length_append, zdg_len, zdg_len] at hlen
    rcases Nat.eq_zero_or_pos j with rfl | hj0
    · refine ⟨fun _ => k g1 ?_, fun z => absurd (by decide) z⟩
      rw [show zdg m 0 = [] from rfl, List.append_nil] at e
      exact e ▸ hV
    · obtain ⟨r, rfl⟩ : ∃ r, j = r + 1 := ⟨j - 1, by omega⟩
      obtain ⟨s0, s9⟩ := zp10 (r := r) (by omega)
      rw [Nat.pow_succ, Nat.mul_div_cancel _ (by decide), pk_lDiv (by omega) s0 (by omega), show (10 : Int64) = lN 10 from rfl, pk_lRem (Nat.lt_of_le_of_lt (Nat.div_le_self _ _) (by omega)) (by decide) (by decide), show (48 : Int64) = lN 48 from rfl, lN_add, lN_i, pk_lDiv (by omega) (by decide) (by decide), show (0 : Int64) = lN 0 from rfl, zl_le9 (by omega) (by decide)]
      refine ⟨fun z => by omega, fun _ => ⟨fun z => ?_, m_write hV rfl (by omega) (fun g' hV' y ey => ?_)⟩⟩
      · have := (lN_eq (by omega) (by decide)).mp z
        omega
      · subst ey
        refine hL1 _ ⟨r, W ++ [48 + m / 10 ^ r % 10], by omega, rfl, rfl, hV', ?_⟩ ?_
        · rw [List.append_assoc]
          exact e
        · dsimp only
          rw [pk_lT (by omega), pk_lT (by omega)]
          omega
  · subst ey
    have hqp : q < p := by
      rcases Nat.lt_or_ge q p with q1 | q1
      · exact q1
      · exfalso
        obtain rfl : q = p := by omega
        have := (Nat.div_lt_iff_lt_mul t0).mpr (show m < 10 * 10 ^ q by rw [Nat.pow_succ] at p2; omega)
        omega
    refine hL _ ⟨q + 1, hqp, by rw [lN_mul, Nat.pow_succ]⟩ ?_
    obtain ⟨s0, s9⟩ := zp10 (r := q + 1) (by omega)
    rw [Nat.pow_succ] at s9
    dsimp only
    rw [lN_mul, pk_lT (by omega), pk_lT (by omega)]
    omega
def zNT (x : Int32) : List Nat := (if x < 0 then [45] else []) ++ zdg x.toInt.natAbs (zpl x.toInt.natAbs + 1)
theorem zabs (x : Int32) : x.toInt.natAbs ≤ 2147483648 := by
  have a := Int32.le_toInt x
  have b := Int32.toInt_lt x
  omega
theorem zNT_len (x : Int32) : (zNT x).length ≤ 11 := by
  have := (zpl_ok (zabs x)).1
  unfold zNT
  rw [List.length_append, zdg_len]
  split <;> simp <;> omega
theorem zl_ge0 {y : Int64} : 0 ≤ lg_cmp y 0 ↔ ¬ y.toInt < 0 := by
  have e := @zl_cmp_lt y 0
  rw [show (0 : Int64).toInt = 0 from rfl] at e
  rw [← e, zle, zlt]
  omega
theorem zl_pos {x : Int32} (hx : ¬ x < 0) : Int32.toInt64 x = lN x.toInt.natAbs := by
  have := zabs x
  rw [zlt, zti_0] at hx
  exact Int64.toInt_inj.mp (by rw [zl_of, pk_lT (by omega)]; omega)
theorem zl_neg {x : Int32} (hx : x < 0) : -Int32.toInt64 x = lN x.toInt.natAbs := by
  have := zabs x
  rw [zlt, zti_0] at hx
  refine Int64.toInt_inj.mp ?_
  rw [Int64.toInt_neg, zl_of, pk_lT (by omega), Int.bmod_eq_of_le (by omega) (by omega)]
  omega
theorem z_wnum {n : Nat} {ln : Nat → Nat} {x : Int32} {h0 h : zM} {T : List Nat} {post : zM → Prop} (hW : zWr h0 h T) (hl : T.length + (zNT x).length ≤ 200) (k : ∀ h', zWr h0 h' (T ++ zNT x) → post h') : wpWriter_writeNumber n ln x h post := by
  unfold wpWriter_writeNumber
  obtain ⟨p9, p1, p2⟩ := zpl_ok (zabs x)
  intro y ey
  subst ey
  rw [zl_ge0, zl_of]
  unfold zNT at hl k
  rw [List.length_append, zdg_len] at hl
  refine ⟨fun z => ?_, fun z => ?_⟩
  · have hx : ¬ x < 0 := by rw [zlt, zti_0]; exact z
    rw [if_neg hx] at hl k
    rw [zl_pos hx]
    exact z_num_loop (zabs x) p9 p1 p2 hW (by simp at hl; omega) k
  · have hx : x < 0 := by rw [zlt, zti_0]; omega
    rw [if_pos hx] at hl k
    simp only [List.length_cons, List.length_nil] at hl
    refine z_put hW (z_char1 45 (by decide)) (by omega) (fun h' hW' y ey => ?_)
    subst ey
    rw [zl_neg hx]
    refine z_num_loop (zabs x) p9 p1 p2 hW' (by rw [List.length_append]; simp; omega) (fun h2 hW2 => k h2 ?_)
    rw [List.append_assoc] at hW2
    exact hW2
theorem m_wnum {x : Int32} {g0 g : zM} {T : List Nat} {post : zM → Prop} (hW : mWr g0 g T) (hl : T.length + (zNT x).length ≤ 300) (k : ∀ g', mWr g0 g' (T ++ zNT x) → post g') : wpMod_writeNumber x g post := by
  unfold wpMod_writeNumber
  obtain ⟨p9, p1, p2⟩ := zpl_ok (zabs x)
  intro y ey
  subst ey
  rw [zl_ge0, zl_of]
  unfold zNT at hl k
  rw [List.length_append, zdg_len] at hl
  refine ⟨fun z => ?_, fun z => ?_⟩
  · have hx : ¬ x < 0 := by rw [zlt, zti_0]; exact z
    rw [if_neg hx] at hl k
    rw [zl_pos hx]
    exact m_num_loop (zabs x) p9 p1 p2 hW (by simp at hl; omega) k
  · have hx : x < 0 := by rw [zlt, zti_0]; omega
    rw [if_pos hx] at hl k
    simp only [List.length_cons, List.length_nil] at hl
    refine m_write hW (c := 45) rfl (by omega) (fun h' hW' y ey => ?_)
    subst ey
    rw [zl_neg hx]
    refine m_num_loop (zabs x) p9 p1 p2 hW' (by rw [List.length_append]; simp; omega) (fun h2 hW2 => k h2 ?_)
    rw [List.append_assoc] at hW2
    exact hW2
theorem zNT_small {d : Nat} (hd : d < 10) : zNT (nI d) = [48 + d] := by
  have e : (nI d).toInt.natAbs = d := by rw [znI (by omega)]; rfl
  unfold zNT
  rw [e, if_neg (by rw [zlt, zti_0, znI (by omega)]; omega)]
  have : zpl d = 0 := by unfold zpl; rw [if_pos hd]
  rw [this]
  simp [zdg]
  omega
