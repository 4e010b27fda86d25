/-! literal -/
theorem z_literal {n : Nat} {ln : Nat → Nat} {h : zM} {nl : Nat} (hl : h 19 5 = nI nl) (hn : nl ≤ 8) (x : Int32) (post : Int32 → zM → Prop) (h1 : (nl = 8 ∨ ∃ j, j < nl ∧ h 22 j = x) → post (-1) h) (h2 : nl < 8 → (∀ j, j < nl → h 22 j ≠ x) → post (nI nl) (zu (zu h 22 nl x) 19 5 (nI (nl + 1)))) : wpTop_literal n ln x h post := by
  unfold wpTop_literal wpGrower_addLiteral
  rw [hl]
  refine ⟨fun q => ?_, fun q => h1 (Or.inl ?_)⟩
  · have hn8 : nl < 8 := by rw [zlt, znI (by omega), zti_8] at q; omega
    refine zL_rule (fun s => s.1 = x ∧ s.2.2 = h ∧ ∃ i, i ≤ nl ∧ s.2.1 = nI i ∧ ∀ j, j < i → h 22 j ≠ x) (fun s => nl + 1 - s.2.1.toNatClampNeg) ?_ (x, 0, h) ⟨rfl, rfl, 0, Nat.zero_le _, rfl, fun j hj => by omega⟩
    rintro ⟨v1, v2, hh⟩ L ⟨e1, e2, i, hi, e3, hlt⟩ ih
    dsimp only at e1 e2 e3 ih
    subst e1 e2 e3
    unfold stGrower_addLiteral_13
    dsimp only
    rw [hl]
    refine ⟨fun q2 => ?_, fun q2 => ?_⟩
    · have hin : i = nl := by rw [zle, znI (by omega), znI (by omega)] at q2; omega
      subst hin
      rw [znc (by omega)]
      refine ⟨zin_nI (by omega) (by omega), fun h48 e48 h56 e56 => ?_⟩
      have f1 : h48 19 5 = nI i := by rw [e48, zuo (by decide), hl]
      have f2 : h56 19 5 = nI (i + 1) := by rw [e56, zux, f1, nI_1]
      rw [f2, nI_pred, e56, f1, nI_1, e48]
      exact h2 hn8 hlt
    · have hin : i < nl := by rw [zle, znI (by omega), znI (by omega)] at q2; omega
      rw [znc (by omega)]
      refine ⟨zin_nI (by omega) (by omega), fun q3 => ?_, fun q3 => h1 (Or.inr ⟨i, hin, q3⟩)⟩
      rw [nI_1]
      refine ih _ ⟨rfl, rfl, i + 1, by omega, rfl, fun j hj => ?_⟩ ?_
      · by_cases hji : j = i
        · subst hji; exact q3
        · exact hlt j (by omega)
      · dsimp only
        rw [znc (by omega), znc (by omega)]
        omega
  · rw [zlt, znI (by omega), zti_8] at q; omega
theorem m_literal {g : zM} {nl : Nat} (hl : g 0 9 = nI nl) (hn : nl ≤ 8) (x : Int32) (post : Int32 → zM → Prop) (h1 : (nl = 8 ∨ ∃ j, j < nl ∧ g 7 j = x) → post (-1) g) (h2 : nl < 8 → (∀ j, j < nl → g 7 j ≠ x) → post (nI nl) (zu (zu g 7 nl x) 0 9 (nI (nl + 1)))) : wpMod_literal x g post := by
  unfold wpMod_literal
  rw [hl]
  refine ⟨fun q => ?_, fun q => h1 (Or.inl ?_)⟩
  · have hn8 : nl < 8 := by rw [zeq, znI (by omega), zti_8] at q; omega
    refine zL_rule (fun s => s.1 = x ∧ s.2.2 = g ∧ ∃ i, i ≤ nl ∧ s.2.1 = nI i ∧ ∀ j, j < i → g 7 j ≠ x) (fun s => nl + 1 - s.2.1.toNatClampNeg) ?_ (x, 0, g) ⟨rfl, rfl, 0, Nat.zero_le _, rfl, fun j hj => by omega⟩
    rintro ⟨v1, v2, hh⟩ L ⟨e1, e2, i, hi, e3, hlt⟩ ih
    dsimp only at e1 e2 e3 ih
    subst e1 e2 e3
    unfold stMod_literal_13
    dsimp only
    rw [hl]
    refine ⟨fun q2 => ?_, fun q2 => ?_⟩
    · have hin : i = nl := by rw [zle, znI (by omega), znI (by omega)] at q2; omega
      subst hin
      rw [znc (by omega)]
      refine ⟨zin_nI (by omega) (by omega), fun h48 e48 h56 e56 => ?_⟩
      have f1 : h48 0 9 = nI i := by rw [e48, zuo (by decide), hl]
      have f2 : h56 0 9 = nI (i + 1) := by rw [e56, zux, f1, nI_1]
      rw [f2, nI_pred, e56, f1, nI_1, e48]
      exact h2 hn8 hlt
    · have hin : i < nl := by rw [zle, znI (by omega), znI (by omega)] at q2; omega
      rw [znc (by omega)]
      refine ⟨zin_nI (by omega) (by omega), fun q3 => ?_, fun q3 => h1 (Or.inr ⟨i, hin, q3⟩)⟩
      rw [nI_1]
      refine ih _ ⟨rfl, rfl, i + 1, by omega, rfl, fun j hj => ?_⟩ ?_
      · by_cases hji : j = i
        · subst hji; exact q3
        · exact hlt j (by omega)
      · dsimp only
        rw [znc (by omega), znc (by omega)]
        omega
  · rw [zeq, znI (by omega), zti_8] at q; omega
