/-! equal, code, faults -/
theorem zequ_step {K x : zM} {nc cnt : Nat} (hv : zHv nc cnt x) {a b : Nat} (ha : a < cnt) (hb : b < cnt) : zequ K x 10 a b ↔ (if K 3 (Int32.toNatClampNeg (x 0 a)) = 0 then a = b else if K 3 (Int32.toNatClampNeg (x 0 a)) = 4 then False else if x 1 a ≠ x 1 b then False
    else if K 3 (Int32.toNatClampNeg (x 0 a)) = 3 then zIs (K 2) (Int32.toNatClampNeg (x 0 b)) (Int32.toNatClampNeg (x 0 a)) else if x 0 a ≠ x 0 b then False else if K 3 (Int32.toNatClampNeg (x 0 a)) = 1 then True
    else if x 2 a = -1 ∨ x 2 b = -1 then x 2 a = x 2 b else zequ K x 10 (Int32.toNatClampNeg (x 2 a)) (Int32.toNatClampNeg (x 2 b))) := by
  have hc := hv.1
  rw [← zequ_fuel (K := K) hv (f := 10) (f' := 10 + 1) ha hb (zend_mono hc (hv.2 a ha).2.2) (by omega)]
  exact Iff.rfl
theorem z_equal {n : Nat} {ln : Nat → Nat} {h x : zM} {nc cnt : Nat} (hA : zAg h cnt x) (hv : zHv nc cnt x) (hp : zPar h nc) (hn : nc ≤ 4) {a b : Nat} (ha : a < cnt) (hb : b < cnt) (post : Int32 → zM → Prop) (h1 : ¬ zequ h x 10 a b → post 0 h) (h2 : zequ h x 10 a b → post 1 h) : wpHeap_equal n ln (nI a) (nI b) h post := by
  have hc := hv.1
  unfold wpHeap_equal
  refine zL_rule (fun s => s.2.2.2 = h ∧ ∃ a' b' i : Nat, s.1 = nI a' ∧ s.2.1 = nI b' ∧ s.2.2.1 = nI i ∧ a' < cnt ∧ b' < cnt ∧ i ≤ cnt ∧ zend (x 2) (cnt - i) (nI a') ∧ (zequ h x 10 a b ↔ zequ h x 10 a' b')) (fun s => cnt + 1 - s.2.2.1.toNatClampNeg) ?_ (nI a, nI b, 0, h) ⟨rfl, a, b, 0, rfl, rfl, rfl, ha, hb, Nat.zero_le _, (hv.2 a ha).2.2, Iff.rfl⟩
  rintro ⟨v3, v4, v5, hh⟩ L ⟨e0, a', b', i, e1, e2, e3, ha', hb', hi, he, hiff⟩ ih
  dsimp only at e0 e1 e2 e3 ih
  subst e0 e1 e2 e3
  unfold stHeap_equal_8
  dsimp only
  rw [hA.1, znc (show a' < 2147483648 by omega), znc (show b' < 2147483648 by omega), (hA.2 a' ha').1, (hA.2 a' ha').2.1, (hA.2 a' ha').2.2, (hA.2 b' hb').1, (hA.2 b' hb').2.1, (hA.2 b' hb').2.2]
  have ia : vp_in (nI a') 10 := zin_nI (by omega) (by omega)
  have ib : vp_in (nI b') 10 := zin_nI (by omega) (by omega)
  obtain ⟨⟨ca, ca1, ca2, eca⟩, rfa, -⟩ := hv.2 a' ha'
  obtain ⟨⟨cb, cb1, cb2, ecb⟩, rfb, -⟩ := hv.2 b' hb'
  have hst := zequ_step (K := hh) hv ha' hb'
  refine ⟨fun q1 => ?_, fun q1 => ⟨ia, by rw [eca]; exact zin_nI (by omega) (by omega), fun y31 e31 => ?_⟩⟩
  · rw [zle, znI (by omega), znI (by omega)] at q1
    rw [show cnt - i = 0 by omega] at he
    exact absurd he (znm1 (by omega))
  · rw [zle, znI (by omega), znI (by omega)] at q1
    rw [← e31] at hst
    refine ⟨fun s0 => ⟨fun s4 => h1 ?_, fun s4 => ⟨ia, ib, fun hvl => ⟨fun s3 => ⟨ia, ib, fun hcl => ⟨fun s1 => ⟨ia, fun y133 e133 => ⟨ib, fun y141 e141 => ?_⟩⟩, fun s1 => h2 ?_⟩, fun hcl => h1 ?_⟩, fun s3 => ⟨ib, ia, ?_⟩⟩, fun hvl => h1 ?_⟩⟩, fun s0 => ⟨fun hne => h1 ?_, fun hne => h2 ?_⟩⟩
    · rw [hiff, hst, if_neg s0, if_pos s4]; exact id
    · rw [if_neg s0, if_neg s4, if_neg (by simp [hvl]), if_neg s3, if_neg (by simp [hcl]), if_neg s1, ← e133, ← e141] at hst
      rw [← e133] at rfa
      rw [← e141] at rfb
      have fin : (y133 = -1 ∨ y141 = -1) → wbHeap_equal_154 n ln post y133 y141 hh := fun z => by
        rw [if_pos z] at hst
        unfold wbHeap_equal_154
        exact ⟨fun q => h1 (by rw [hiff, hst]; exact q), fun q => h2 (by rw [hiff, hst]; exact q)⟩
      refine ⟨fun q => fin (Or.inl q), fun q => ⟨fun q2 => ?_, fun q2 => fin (Or.inr q2)⟩⟩
      obtain ⟨j, hj, rfl⟩ := rfa.resolve_left q
      obtain ⟨k, hk, rfl⟩ := rfb.resolve_left q2
      rw [if_neg (by rintro (z | z); exact q z; exact q2 z), znc (by omega), znc (by omega)] at hst
      rw [nI_1]
      obtain ⟨f', ef, hf'⟩ := zend_next (by omega) he
      refine ih _ ⟨rfl, j, k, i + 1, rfl, rfl, rfl, hj, hk, by omega, by rw [show cnt - (i + 1) = f' by omega, e133]; exact hf', by rw [hiff, hst]⟩ ?_
      dsimp only
      rw [znc (by omega), znc (by omega)]
      omega
    · rw [hiff, hst, if_neg s0, if_neg s4, if_neg (by simp [hvl]), if_neg s3, if_neg (by simp [hcl]), if_pos s1]
      trivial
    · rw [hiff, hst, if_neg s0, if_neg s4, if_neg (by simp [hvl]), if_neg s3, if_pos hcl]
      exact id
    · rw [if_neg s0, if_neg s4, if_neg (by simp [hvl]), if_pos s3, eca, ecb, znc (by omega), znc (by omega)] at hst
      rw [eca, ecb]
      exact z_is hp hn cb ca cb2 ca2 _ (fun z => ⟨Or.inl rfl, h1 (by rw [hiff, hst]; exact z)⟩) (fun z => ⟨Or.inr rfl, h2 (by rw [hiff, hst]; exact z)⟩)
    · rw [hiff, hst, if_neg s0, if_neg s4, if_pos hvl]
      exact id
    · rw [hiff, hst, if_pos s0]
      exact fun z => hne (by rw [z])
    · rw [hiff, hst, if_pos s0]
      exact (nI_eq (by omega) (by omega)).mp hne
theorem m_equal {h g x : zM} {nc cnt : Nat} (hA : mAg g cnt x) (hv : zHv nc cnt x) (hp : zPar h nc) (hn : nc ≤ 4) (hg : ∀ i, 1 ≤ i → i ≤ nc → h 2 i = g 1 i ∧ h 3 i = g 2 i) {a b : Nat} (ha : a < cnt) (hb : b < cnt) (post : Int32 → zM → Prop) (h1 : ¬ zequ h x 10 a b → post 0 g) (h2 : zequ h x 10 a b → post 1 g) : wpMod_equal (nI a) (nI b) g post := by
  have hc := hv.1
  unfold wpMod_equal
  refine zL_rule (fun s => s.2.2.2 = g ∧ ∃ a' b' i : Nat, s.1 = nI a' ∧ s.2.1 = nI b' ∧ s.2.2.1 = nI i ∧ a' < cnt ∧ b' < cnt ∧ i ≤ 10 ∧ zend (x 2) (10 - i) (nI a') ∧ (zequ h x 10 a b ↔ zequ h x 10 a' b')) (fun s => 11 - s.2.2.1.toNatClampNeg) ?_ (nI a, nI b, 0, g) ⟨rfl, a, b, 0, rfl, rfl, rfl, ha, hb, Nat.zero_le _, zend_mono hc (hv.2 a ha).2.2, Iff.rfl⟩
  rintro ⟨v3, v4, v5, hh⟩ L ⟨e0, a', b', i, e1, e2, e3, ha', hb', hi, he, hiff⟩ ih
  dsimp only at e0 e1 e2 e3 ih
  subst e0 e1 e2 e3
  unfold stMod_equal_8
  dsimp only
  rw [znc (show a' < 2147483648 by omega), znc (show b' < 2147483648 by omega), (hA.2 a' ha').1, (hA.2 a' ha').2.1, (hA.2 a' ha').2.2, (hA.2 b' hb').1, (hA.2 b' hb').2.1, (hA.2 b' hb').2.2]
  have ia : vp_in (nI a') 10 := zin_nI (by omega) (by omega)
  have ib : vp_in (nI b') 10 := zin_nI (by omega) (by omega)
  obtain ⟨⟨ca, ca1, ca2, eca⟩, rfa, -⟩ := hv.2 a' ha'
  obtain ⟨⟨cb, cb1, cb2, ecb⟩, rfb, -⟩ := hv.2 b' hb'
  have hst := zequ_step (K := h) hv ha' hb'
  refine ⟨fun q1 => ?_, fun q1 => ⟨ia, by rw [eca]; exact zin_nI (by omega) (by omega), fun y26 e26 => ?_⟩⟩
  · rw [zle, znI (by omega), zti_10] at q1
    rw [show 10 - i = 0 by omega] at he
    exact absurd he (znm1 (by omega))
  · rw [zle, znI (by omega), zti_10] at q1
    have esn : y26 = h 3 (Int32.toNatClampNeg (x 0 a')) := by
      rw [e26, eca, znc (by omega)]
      exact (hg ca ca1 ca2).2.symm
    rw [← esn] at hst
    refine ⟨fun s0 => ⟨fun s4 => ⟨fun s3 => ⟨ia, ib, fun hcl => h1 ?_, fun hcl => ⟨ia, ib, fun hvl => ⟨fun s1 => ⟨ia, fun y149 e149 => ⟨ib, fun y157 e157 => ?_⟩⟩, fun s1 => h2 ?_⟩, fun hvl => h1 ?_⟩⟩, fun s3 => ⟨ib, ia, ?_⟩⟩, fun s4 => h1 ?_⟩, fun s0 => ⟨fun hne => h1 ?_, fun hne => h2 ?_⟩⟩
    · rw [hiff, hst, if_neg s0, if_neg s4]
      by_cases hvl : x 1 a' = x 1 b'
      · rw [if_neg (by simp [hvl]), if_neg s3, if_pos hcl]; exact id
      · rw [if_pos hvl]; exact id
    · rw [if_neg s0, if_neg s4, if_neg (by simp [hvl]), if_neg s3, if_neg (by simp [hcl]), if_neg s1, ← e149, ← e157] at hst
      rw [← e149] at rfa
      rw [← e157] at rfb
      have nega : y149 < 0 → y149 = -1 := fun q => by
        rcases rfa with hb | ⟨j, hj, rfl⟩
        · exact hb
        · exact absurd q (zn0 (by omega))
      have negb : ¬ 0 ≤ y157 → y157 = -1 := fun q => by
        rcases rfb with hb | ⟨j, hj, rfl⟩
        · exact hb
        · exact absurd (zp0 (by omega)) q
      have fin : (y149 = -1 ∨ y157 = -1) → wbMod_equal_168 post y149 y157 hh := fun z => by
        rw [if_pos z] at hst
        unfold wbMod_equal_168
        refine ⟨fun q => h1 ?_, fun q => ⟨fun q2 => h1 ?_, fun q2 => h2 ?_⟩⟩
        · rw [hiff, hst]
          have n1 : y149 ≠ -1 := fun w => absurd q (by rw [w]; decide)
          rcases z with z | z
          · exact absurd z n1
          · rw [z]; exact n1
        · rw [hiff, hst]
          have n1 : y157 ≠ -1 := fun w => absurd q2 (by rw [w]; decide)
          rcases z with z | z
          · rw [z]; exact Ne.symm n1
          · exact absurd z n1
        · rw [hiff, hst]
          have m1 : y149 = -1 := by
            rcases rfa with hb | ⟨j, hj, rfl⟩
            · exact hb
            · exact absurd (zp0 (by omega)) q
          rw [m1, negb q2]
      refine ⟨fun q => fin (Or.inl (nega q)), fun q => ⟨fun q2 => ?_, fun q2 => fin (Or.inr (negb q2))⟩⟩
      have n1 : y149 ≠ -1 := fun w => q (by rw [w]; decide)
      have n2 : y157 ≠ -1 := fun w => absurd q2 (by rw [w]; decide)
      obtain ⟨j, hj, rfl⟩ := rfa.resolve_left n1
      obtain ⟨k, hk, rfl⟩ := rfb.resolve_left n2
      rw [if_neg (by rintro (z | z); exact n1 z; exact n2 z), znc (by omega), znc (by omega)] at hst
      rw [nI_1]
      obtain ⟨f', ef, hf'⟩ := zend_next (by omega) he
      refine ih _ ⟨rfl, j, k, i + 1, rfl, rfl, rfl, hj, hk, by omega, by rw [show 10 - (i + 1) = f' by omega, e149]; exact hf', by rw [hiff, hst]⟩ ?_
      dsimp only
      rw [znc (by omega), znc (by omega)]
      omega
    · rw [hiff, hst, if_neg s0, if_neg s4, if_neg (by simp [hvl]), if_neg s3, if_neg (by simp [hcl]), if_pos s1]
      trivial
    · rw [hiff, hst, if_neg s0, if_neg s4, if_pos hvl]
      exact id
    · rw [if_neg s0, if_neg s4, if_pos s3, eca, ecb, znc (by omega), znc (by omega)] at hst
      rw [eca, ecb]
      refine m_is hp hn (fun i i1 i2 => (hg i i1 i2).1) cb ca cb2 ca2 ca1 _ (fun z => ⟨fun _ => h1 ?_, fun q => absurd rfl q⟩) (fun z => ⟨fun q => absurd q (by decide), fun _ => ⟨ia, ib, fun hvl => h1 ?_, fun hvl => h2 ?_⟩⟩)
      · rw [hiff, hst]
        by_cases hvl : x 1 a' = x 1 b'
        · rw [if_neg (by simp [hvl])]; exact z
        · rw [if_pos hvl]; exact id
      · rw [(hA.2 a' ha').2.1, (hA.2 b' hb').2.1] at hvl
        rw [hiff, hst, if_pos hvl]
        exact id
      · rw [(hA.2 a' ha').2.1, (hA.2 b' hb').2.1] at hvl
        rw [hiff, hst, if_neg (by simp [hvl])]
        exact z
    · rw [hiff, hst, if_neg s0, if_pos s4]; exact id
    · rw [hiff, hst, if_pos s0]
      exact fun z => hne (by rw [z])
    · rw [hiff, hst, if_pos s0]
      exact (nI_eq (by omega) (by omega)).mp hne
