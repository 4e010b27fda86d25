/-! the model's copies -/
def mCp (go gh ga go' gh' ga' : Nat → Int32) (b b' : Nat) : Prop := go' b' = go b ∧ ∀ a, a < 2 → gh' (2 * b' + a) = gh (2 * b + a) ∧ ga' (2 * b' + a) = ga (2 * b + a)
theorem mCp_sq {c go gh ga go' gh' ga' : Nat → Int32} {k b b' : Nat} (hc : mCp go gh ga go' gh' ga' b b') (hm : mSq c go gh ga k b) : mSq c go' gh' ga' k b' := by
  refine ⟨hc.1.trans hm.1, fun a ha => ?_⟩
  rw [(hc.2 a ha).1, (hc.2 a ha).2]
  exact hm.2 a ha
theorem mCp_tr {go gh ga go' gh' ga' go'' gh'' ga'' : Nat → Int32} {b b' b'' : Nat} (h : mCp go gh ga go' gh' ga' b b') (h' : mCp go' gh' ga' go'' gh'' ga'' b' b'') : mCp go gh ga go'' gh'' ga'' b b'' := ⟨h'.1.trans h.1, fun a ha => ⟨((h'.2 a ha).1).trans (h.2 a ha).1, ((h'.2 a ha).2).trans (h.2 a ha).2⟩⟩
theorem mCp_rf {go gh ga : Nat → Int32} {b : Nat} : mCp go gh ga go gh ga b b := ⟨rfl, fun _ _ => ⟨rfl, rfl⟩⟩
theorem m_copyFrom {g : zM} {b k : Nat} (hb : b < 410) (hk : k < 20) (post : zM → Prop) (hp : ∀ g', (∀ r s, r ≠ 8 → r ≠ 9 → r ≠ 10 → g' r s = g r s) → (∀ k', k' ≠ k → mCp (g 8) (g 9) (g 10) (g' 8) (g' 9) (g' 10) k' k') → mCp (g 14) (g 15) (g 16) (g' 8) (g' 9) (g' 10) b k → post g') : wpMod_copyFrom (nI b) (nI k) g post := by
  unfold wpMod_copyFrom
  refine ⟨zin_nI (by omega) (by omega), zin_nI (by omega) (by omega), fun h11 e11 => ?_⟩
  rw [znc (by omega), znc (by omega)] at e11
  refine zL_rule (fun s => s.1 = nI b ∧ s.2.1 = nI k ∧ (∀ r t, r ≠ 8 → r ≠ 9 → r ≠ 10 → s.2.2.2 r t = g r t) ∧ (∀ k', k' ≠ k → mCp (g 8) (g 9) (g 10) (s.2.2.2 8) (s.2.2.2 9) (s.2.2.2 10) k' k') ∧ s.2.2.2 8 k = g 14 b ∧ ∃ a : Nat, a ≤ 2 ∧ s.2.2.1 = nI a ∧ ∀ a', a' < a → s.2.2.2 9 (2 * k + a') = g 15 (2 * b + a') ∧ s.2.2.2 10 (2 * k + a') = g 16 (2 * b + a')) (fun s => 2 - s.2.2.1.toNatClampNeg) ?_ (nI b, nI k, 0, h11) ⟨rfl, rfl, fun r t r1 r2 r3 => ?_, fun k' hk' => ⟨?_, fun a ha => ?_⟩, ?_, 0, by omega, rfl, fun a ha => by omega⟩
  · rintro ⟨v1, v2, v3, hh⟩ L ⟨e1, e2, f1, f2, f3, a, ha, e3, f4⟩ ih
    dsimp only at e1 e2 e3 f1 f2 f3 f4 ih
    subst e1 e2 e3
    unfold stMod_copyFrom_14
    dsimp only
    rw [zn2, zn2, nI_add, nI_add, znc (by omega), znc (by omega)]
    refine pk_le 2 a (fun q => ?_) (fun q => ?_)
    · have : a = 2 := by omega
      subst this
      exact hp hh f1 f2 ⟨f3, f4⟩
    · have i1 : vp_in (nI (2 * b + a)) 820 := zin_nI (by omega) (by omega)
      have i2 : vp_in (nI (2 * k + a)) 40 := zin_nI (by omega) (by omega)
      refine ⟨i1, i2, fun h38 e38 => ⟨i1, i2, fun h58 e58 => ?_⟩⟩
      rw [f1 15 _ (by decide) (by decide) (by decide)] at e38
      have w : h38 16 (2 * b + a) = g 16 (2 * b + a) := by rw [e38, zuo (by decide)]; exact f1 16 _ (by decide) (by decide) (by decide)
      rw [w] at e58
      rw [zp1]
      refine ih _ ⟨rfl, rfl, fun r t r1 r2 r3 => ?_, fun k' hk' => ⟨?_, fun a' ha' => ⟨?_, ?_⟩⟩, ?_, a + 1, by omega, rfl, fun a' ha' => ⟨?_, ?_⟩⟩ ?_
      · show h58 r t = _
        rw [e58, zuo r3, e38, zuo r2]; exact f1 r t r1 r2 r3
      · show h58 8 k' = _
        rw [e58, zuo (by decide), e38, zuo (by decide)]; exact (f2 k' hk').1
      · show h58 9 _ = _
        rw [e58, zuo (by decide), e38, zun (by omega)]; exact ((f2 k' hk').2 a' ha').1
      · show h58 10 _ = _
        rw [e58, zun (by omega), e38, zuo (by decide)]; exact ((f2 k' hk').2 a' ha').2
      · show h58 8 k = _
        rw [e58, zuo (by decide), e38, zuo (by decide)]; exact f3
      · show h58 9 _ = _
        rw [e58, zuo (by decide), e38]
        by_cases q2 : a' = a
        · subst q2; rw [zux]
        · rw [zun (by omega)]; exact (f4 a' (by omega)).1
      · show h58 10 _ = _
        rw [e58]
        by_cases q2 : a' = a
        · subst q2; rw [zux]
        · rw [zun (by omega), e38, zuo (by decide)]; exact (f4 a' (by omega)).2
      · dsimp only
        rw [znc (by omega), znc (by omega)]
        omega
  · show h11 r t = _
    rw [e11, zuo r1]
  · show h11 8 k' = _
    rw [e11, zun (Or.inr hk')]
  · show h11 9 _ = _ ∧ h11 10 _ = _
    rw [e11, zuo (by decide), zuo (by decide)]
    exact ⟨rfl, rfl⟩
  · show h11 8 k = _
    rw [e11, zux]
theorem m_load {g : zM} {e sz : Nat} (he : e ≤ 40) (hsz : g 13 e = nI sz) (h10 : sz ≤ 10) (post : zM → Prop) (hp : ∀ g', (∀ r s, r ≠ 8 → r ≠ 9 → r ≠ 10 → (r ≠ 0 ∨ s ≠ 11) → g' r s = g r s) → g' 0 11 = nI sz → (∀ k, k < sz → mCp (g 14) (g 15) (g 16) (g' 8) (g' 9) (g' 10) (10 * e + k) k) → post g') : wpMod_load (nI e) g post := by
  unfold wpMod_load
  refine ⟨zin_nI (by omega) (by omega), fun h7 e7 => ?_⟩
  rw [znc (by omega), hsz] at e7
  refine zL_rule (fun s => s.1 = nI e ∧ (∀ r t, r ≠ 8 → r ≠ 9 → r ≠ 10 → (r ≠ 0 ∨ t ≠ 11) → s.2.2 r t = g r t) ∧ s.2.2 0 11 = nI sz ∧ ∃ k : Nat, k ≤ sz ∧ s.2.1 = nI k ∧ ∀ k', k' < k → mCp (g 14) (g 15) (g 16) (s.2.2 8) (s.2.2 9) (s.2.2 10) (10 * e + k') k') (fun s => sz - s.2.1.toNatClampNeg) ?_ (nI e, 0, h7) ⟨rfl, fun r t r1 r2 r3 r4 => ?_, ?_, 0, by omega, rfl, fun k' hk' => by omega⟩
  · rintro ⟨v1, v2, hh⟩ L ⟨e1, f1, f2, k, hk, e2, f3⟩ ih
    dsimp only at e1 e2 f1 f2 f3 ih
    subst e1 e2
    unfold stMod_load_12
    dsimp only
    rw [f2, zn10, nI_add]
    refine pk_le sz k (fun q => ?_) (fun q => m_copyFrom (by omega) (by omega) _ (fun g' k1 k2 k3 => ?_))
    · have : k = sz := by omega
      subst this
      exact hp hh f1 f2 f3
    · rw [zp1]
      have E : ∀ r, 14 ≤ r → r ≤ 16 → hh r = g r := fun r r1 r2 => funext fun t => f1 r t (by omega) (by omega) (by omega) (by omega)
      rw [E 14 (by omega) (by omega), E 15 (by omega) (by omega), E 16 (by omega) (by omega)] at k3
      refine ih _ ⟨rfl, fun r t r1 r2 r3 r4 => (k1 r t r1 r2 r3).trans (f1 r t r1 r2 r3 r4), (k1 0 11 (by decide) (by decide) (by decide)).trans f2, k + 1, by omega, rfl, fun k' hk' => ?_⟩ ?_
      · by_cases w : k' = k
        · subst w; exact k3
        · exact mCp_tr (f3 k' (by omega)) (k2 k' w)
      · dsimp only
        rw [znc (by omega), znc (by omega)]
        omega
  · show h7 r t = _
    rw [e7, zun (by omega)]
  · show h7 0 11 = _
    rw [e7, zux]
theorem m_store {g : zM} {e sz : Nat} (he : e ≤ 40) (hsz : g 0 11 = nI sz) (h10 : sz ≤ 10) (post : zM → Prop) (hp : ∀ g', (∀ r s, r < 13 ∨ 16 < r → g' r s = g r s) → (∀ s, s ≠ e → g' 13 s = g 13 s) → (∀ b, b < 10 * e ∨ 10 * e + 10 ≤ b → mCp (g 14) (g 15) (g 16) (g' 14) (g' 15) (g' 16) b b) → g' 13 e = nI sz → (∀ k, k < sz → mCp (g 8) (g 9) (g 10) (g' 14) (g' 15) (g' 16) k (10 * e + k)) → post g') : wpMod_store (nI e) g post := by
  unfold wpMod_store
  refine ⟨zin_nI (by omega) (by omega), fun h9 e9 => ?_⟩
  rw [znc (by omega), hsz] at e9
  refine zL_rule (fun s => s.1 = nI e ∧ (∀ r t, r < 13 ∨ 16 < r → s.2.2 r t = g r t) ∧ (∀ t, t ≠ e → s.2.2 13 t = g 13 t) ∧ (∀ b, b < 10 * e ∨ 10 * e + 10 ≤ b → mCp (g 14) (g 15) (g 16) (s.2.2 14) (s.2.2 15) (s.2.2 16) b b) ∧ s.2.2 13 e = nI sz ∧ ∃ k : Nat, k ≤ sz ∧ s.2.1 = nI k ∧ ∀ k', k' < k → mCp (g 8) (g 9) (g 10) (s.2.2 14) (s.2.2 15) (s.2.2 16) k' (10 * e + k')) (fun s => sz - s.2.1.toNatClampNeg) ?_ (nI e, 0, h9) ⟨rfl, fun r t hr => ?_, fun t ht => ?_, fun b hb => ?_, ?_, 0, by omega, rfl, fun k' hk' => by omega⟩
  · rintro ⟨v1, v2, hh⟩ L ⟨e1, f1, f2, f3, f4, k, hk, e2, f5⟩ ih
    dsimp only at e1 e2 f1 f2 f3 f4 f5 ih
    subst e1 e2
    unfold stMod_store_12
    dsimp only
    rw [f1 0 11 (by omega), hsz]
    refine pk_le sz k (fun q => ?_) (fun q y26 e26 => ?_)
    · have : k = sz := by omega
      subst this
      exact hp hh f1 f2 f3 f4 f5
    · rw [zn10, nI_add] at e26
      subst e26
      refine ⟨zin_nI (by omega) (by omega), zin_nI (by omega) (by omega), fun h38 e38 => ?_⟩
      rw [znc (by omega), znc (by omega), f1 8 k (by omega)] at e38
      refine zL_rule (fun s => s.1 = nI e ∧ s.2.1 = nI k ∧ s.2.2.1 = nI (10 * e + k) ∧ (∀ r t, r < 14 ∨ 16 < r → s.2.2.2.2 r t = hh r t) ∧ (∀ b, b ≠ 10 * e + k → mCp (hh 14) (hh 15) (hh 16) (s.2.2.2.2 14) (s.2.2.2.2 15) (s.2.2.2.2 16) b b) ∧ s.2.2.2.2 14 (10 * e + k) = g 8 k ∧ ∃ a : Nat, a ≤ 2 ∧ s.2.2.2.1 = nI a ∧ ∀ a', a' < a → s.2.2.2.2 15 (2 * (10 * e + k) + a') = g 9 (2 * k + a') ∧ s.2.2.2.2 16 (2 * (10 * e + k) + a') = g 10 (2 * k + a')) (fun s => 2 - s.2.2.2.1.toNatClampNeg) ?_ (nI e, nI k, nI (10 * e + k), 0, h38) ⟨rfl, rfl, rfl, fun r t hr => ?_, fun b hb => ⟨?_, fun a ha => ?_⟩, ?_, 0, by omega, rfl, fun a ha => by omega⟩
      · rintro ⟨w1, w2, w3, w4, h4⟩ L4 ⟨e1, e2, e3, k1, k2, k3, a, ha, e4, k4⟩ ih4
        dsimp only at e1 e2 e3 e4 k1 k2 k3 k4 ih4
        subst e1 e2 e3 e4
        unfold stMod_store_42
        dsimp only
        rw [zn2, zn2, nI_add, nI_add, znc (by omega), znc (by omega)]
        refine pk_le 2 a (fun q2 => ?_) (fun q2 => ?_)
        · have : a = 2 := by omega
          subst this
          rw [zp1]
          refine ih _ ⟨rfl, fun r t hr => (k1 r t (by omega)).trans (f1 r t hr), fun t ht => (k1 13 t (by omega)).trans (f2 t ht), fun b hb => mCp_tr (f3 b hb) (k2 b (by omega)), (k1 13 e (by omega)).trans f4, k + 1, by omega, rfl, fun k' hk' => ?_⟩ ?_
          · by_cases w : k' = k
            · subst w; exact ⟨k3, k4⟩
            · exact mCp_tr (f5 k' (by omega)) (k2 _ (by omega))
          · dsimp only
            rw [znc (by omega), znc (by omega)]
            omega
        · have i1 : vp_in (nI (2 * (10 * e + k) + a)) 820 := zin_nI (by omega) (by omega)
          have i2 : vp_in (nI (2 * k + a)) 40 := zin_nI (by omega) (by omega)
          refine ⟨i2, i1, fun h69 e69 => ⟨i2, i1, fun h91 e91 => ?_⟩⟩
          rw [k1 9 _ (by omega), f1 9 _ (by omega)] at e69
          have w : h69 10 (2 * k + a) = g 10 (2 * k + a) := by rw [e69, zuo (by decide), k1 10 _ (by omega), f1 10 _ (by omega)]
          rw [w] at e91
          rw [zp1]
          refine ih4 _ ⟨rfl, rfl, rfl, fun r t hr => ?_, fun b hb => ⟨?_, fun a' ha' => ⟨?_, ?_⟩⟩, ?_, a + 1, by omega, rfl, fun a' ha' => ⟨?_, ?_⟩⟩ ?_
          · show h91 r t = _
            rw [e91, zuo (by omega), e69, zuo (by omega)]; exact k1 r t hr
          · show h91 14 b = _
            rw [e91, zuo (by decide), e69, zuo (by decide)]; exact (k2 b hb).1
          · show h91 15 _ = _
            rw [e91, zuo (by decide), e69, zun (by omega)]; exact ((k2 b hb).2 a' ha').1
          · show h91 16 _ = _
            rw [e91, zun (by omega), e69, zuo (by decide)]; exact ((k2 b hb).2 a' ha').2
          · show h91 14 _ = _
            rw [e91, zuo (by decide), e69, zuo (by decide)]; exact k3
          · show h91 15 _ = _
            rw [e91, zuo (by decide), e69]
            by_cases q3 : a' = a
            · subst q3; rw [zux]
            · rw [zun (by omega)]; exact (k4 a' (by omega)).1
          · show h91 16 _ = _
            rw [e91]
            by_cases q3 : a' = a
            · subst q3; rw [zux]
            · rw [zun (by omega), e69, zuo (by decide)]; exact (k4 a' (by omega)).2
          · dsimp only
            rw [znc (by omega), znc (by omega)]
            omega
      · show h38 r t = _
        rw [e38, zuo (by omega)]
      · show h38 14 b = _
        rw [e38, zun (Or.inr hb)]
      · show h38 15 _ = _ ∧ h38 16 _ = _
        rw [e38, zuo (by decide), zuo (by decide)]
        exact ⟨rfl, rfl⟩
      · show h38 14 _ = _
        rw [e38, zux]
  · show h9 r t = _
    rw [e9, zuo (by omega)]
  · show h9 13 t = _
    rw [e9, zun (Or.inr ht)]
  · show mCp (g 14) (g 15) (g 16) (h9 14) (h9 15) (h9 16) b b
    rw [e9, zuo (by decide), zuo (by decide), zuo (by decide)]
    exact mCp_rf
  · show h9 13 e = _
    rw [e9, zux]
