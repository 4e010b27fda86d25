/-! the relation -/
theorem zArgOk_K {h h' : zM} {c c' : Nat → Int32} {no sz k a : Nat} {t : Int32} (h10 : no ≤ 10) (hK : zKq h h' no) (hc : ∀ i, i < 5 * sz → c' i = c i) (hk : k < sz) (ha : a < 2) (hst : ∀ k, k < sz → zStOk h c no k) (hok : zArgOk h c k a t) : zArgOk h' c' k a t := by
  have key : ∀ v o' : Nat, v < k → o' < 10 → c (5 * v) = nI o' → h' 8 o' = h 8 o' := by
    intro v o' hv ho e
    obtain ⟨o, ho2, e2, -⟩ := hst v (by omega)
    have : o' = o := (nI_eq (by omega) (by omega)).mp (e.symm.trans e2)
    subst this
    exact (hK.2.2.2 o' ho2).2.2.2
  unfold zArgOk at *
  rw [hc _ (by omega), hc _ (by omega)]
  rcases hok with z | ⟨z1, z2 | ⟨z2, v, o', z3, z4, z5, z6, z7⟩⟩ | ⟨tt, z1, z2, z3, z4 | ⟨z4, v, o', tg, z5, z6, z7, z8, z9, z10, z11⟩⟩
  · exact Or.inl z
  · exact Or.inr (Or.inl ⟨z1, Or.inl z2⟩)
  · exact Or.inr (Or.inl ⟨z1, Or.inr ⟨z2, v, o', z3, z4, z5, by rw [hc _ (by omega)]; exact z6, by rw [key v o' z3 z5 z6]; exact z7⟩⟩)
  · exact Or.inr (Or.inr ⟨tt, z1, z2, z3, Or.inl z4⟩)
  · exact Or.inr (Or.inr ⟨tt, z1, z2, z3, Or.inr ⟨z4, v, o', tg, z5, z6, z7, by rw [hc _ (by omega)]; exact z8, z9, by rw [key v o' z5 z7 z8]; exact z10, by rw [hK.1]; exact z11⟩⟩)
theorem zStOk_K {h h' : zM} {c c' : Nat → Int32} {no no' sz : Nat} (h10 : no ≤ 10) (hK : zKq h h' no) (hn : no ≤ no') (hc : ∀ i, i < 5 * sz → c' i = c i) (hst : ∀ k, k < sz → zStOk h c no k) : ∀ k, k < sz → zStOk h' c' no' k := by
  intro k hk
  obtain ⟨o, ho, e, a0, a1⟩ := hst k hk
  refine ⟨o, by omega, by rw [hc _ (by omega)]; exact e, ?_, ?_⟩
  · rw [(hK.2.2.2 o ho).2.1]
    exact zArgOk_K h10 hK hc hk (by omega) hst a0
  · rw [(hK.2.2.2 o ho).2.2.1]
    exact zArgOk_K h10 hK hc hk (by omega) hst a1
theorem zSq_of {h : zM} {c c' : Nat → Int32} {no sz : Nat} (hc : ∀ i, i < 5 * sz → c' i = c i) (hst : ∀ k, k < sz → zStOk h c no k) : zSq c c' no sz := fun k hk => by
  obtain ⟨o, ho, e, -⟩ := hst k hk
  exact ⟨⟨o, ho, e⟩, fun i hi => hc _ (by omega)⟩
theorem mSq_c {c c' go gh ga : Nat → Int32} {sz k b : Nat} (hk : k < sz) (hc : ∀ i, i < 5 * sz → c' i = c i) (hm : mSq c go gh ga k b) : mSq c' go gh ga k b := by
  refine ⟨by rw [hc _ (by omega)]; exact hm.1, fun a ha => ?_⟩
  rw [hc _ (by omega), hc _ (by omega)]
  exact hm.2 a ha
/-- what a run that went well left in an entry -/
def zGot (h : zM) (c : Nat → Int32) (sz : Nat) (gv nm : Int32) (l : Nat) (rw' : Nat → Int32) : Prop := (zfin h c sz).1 = 0 ∧ gv = zgave h c sz (zfin h c sz) ∧ nm = znum h c sz (zfin h c sz) ∧ l = (zrws h c sz (zfin h c sz)).length ∧ ∀ i, i < l → (zrws h c sz (zfin h c sz))[i]? = some (rw' i)
theorem zGot_K {h h' : zM} {c c' : Nat → Int32} {no sz : Nat} {gv nm : Int32} {l : Nat} {rw' : Nat → Int32} (h10 : no ≤ 10) (hK : zKq h h' no) (h1 : 1 ≤ sz) (hs : zSq c c' no sz) (hg : zGot h c sz gv nm l rw') : zGot h' c' sz gv nm l rw' := by
  obtain ⟨e1, e2, e3, -⟩ := zgnr_K h10 hK hs h1
  unfold zGot at *
  rw [e1, e2, e3, zfin_K h10 hK hs]
  exact hg
def zEn (h g : zM) (no e sz : Nat) (l : Nat) : Prop := ∃ out det : Nat, 1 ≤ sz ∧ sz ≤ 10 ∧ h (34 + 4 * e + 1) 0 = nI sz ∧ g 13 e = nI sz ∧ (∀ k, k < sz → zStOk h (h (34 + 4 * e + 1 + 1)) no k) ∧ (∀ k, k < sz → mSq (h (34 + 4 * e + 1 + 1)) (g 14) (g 15) (g 16) k (10 * e + k)) ∧ out ≤ 3 ∧ h (34 + 4 * e) 1 = nI out ∧ g 17 e = nI out ∧ det ≤ 5 ∧ h (34 + 4 * e) 2 = nI det ∧ g 18 e = nI det ∧ h (34 + 4 * e) 3 = zlt8 h (h (34 + 4 * e + 1 + 1)) sz ∧ h (34 + 4 * e) 5 = g 19 e ∧ (out < 2 → zGot h (h (34 + 4 * e + 1 + 1)) sz (h (34 + 4 * e) 4) (h (34 + 4 * e) 5) l (h (34 + 4 * e + 3)))
def zEnt (h g : zM) (ln : Nat → Nat) (no e : Nat) : Prop := ∃ sz : Nat, zEn h g no e sz (ln e)
def zLit (h g : zM) : Prop := ∃ nl : Nat, 3 ≤ nl ∧ nl ≤ 8 ∧ h 19 5 = nI nl ∧ g 0 9 = nI nl ∧ ∀ i, i < nl → h 22 i = g 7 i
def zDft (h g : zM) : Prop := ∃ d : Nat, d ≤ 200 ∧ h 30 2 = nI d ∧ g 0 37 = nI d ∧ ∀ i, i < d → h 31 i = g 26 i ∧ ∃ ch : Nat, 32 ≤ ch ∧ ch ≤ 126 ∧ g 26 i = nI ch
def zR (n : Nat) (ln : Nat → Nat) (h g : zM) : Prop := ∃ nc no : Nat, zCat h g nc no ∧ (no = 0 → n = 0) ∧ zLit h g ∧ h 19 6 = g 0 0 ∧ zDft h g ∧ n ≤ 40 ∧ h 9 1 = nI n ∧ g 0 17 = nI n ∧ ∀ e, e < n → zEnt h g ln no e
/-! frames -/
theorem zEnt_h {h h' g : zM} {ln : Nat → Nat} {no no' e : Nat} (h10 : no ≤ 10) (hn : no ≤ no') (hK : zKq h h' no) (hf : ∀ r, 34 ≤ r → h' r = h r) (he : zEnt h g ln no e) : zEnt h' g ln no' e := by
  obtain ⟨sz, out, det, a1, a2, a3, a4, a5, a6, a7, a8, a9, b1, b2, b3, b4, b5, b6⟩ := he
  have f0 := hf (34 + 4 * e) (by omega)
  have f1 := hf (34 + 4 * e + 1) (by omega)
  have f2 := hf (34 + 4 * e + 1 + 1) (by omega)
  have f3 := hf (34 + 4 * e + 3) (by omega)
  refine ⟨sz, out, det, a1, a2, ?_, a4, ?_, ?_, a7, ?_, a9, b1, ?_, b3, ?_, ?_, fun q => ?_⟩
  · rw [f1]; exact a3
  · exact zStOk_K h10 hK hn (fun i _ => by rw [f2]) a5
  · rw [f2]; exact a6
  · rw [f0]; exact a8
  · rw [f0]; exact b2
  · rw [f0, f2, zlt8_K h10 hK (zSq_rf a5) a1]; exact b4
  · rw [f0]; exact b5
  · rw [f0, f2, f3]; exact zGot_K h10 hK a1 (zSq_rf a5) (b6 q)
theorem zEnt_g {h g g' : zM} {ln : Nat → Nat} {no e : Nat} (hf : ∀ r s, 13 ≤ r → r ≤ 19 → g' r s = g r s) (he : zEnt h g ln no e) : zEnt h g' ln no e := by
  have E : ∀ r, 13 ≤ r → r ≤ 19 → g' r = g r := fun r r1 r2 => funext fun s => hf r s r1 r2
  unfold zEnt zEn at *
  rw [E 13 (by omega) (by omega), E 14 (by omega) (by omega), E 15 (by omega) (by omega), E 16 (by omega) (by omega), E 17 (by omega) (by omega), E 18 (by omega) (by omega), E 19 (by omega) (by omega)]
  exact he
theorem zCat_g {h g g' : zM} {nc no : Nat} (hC : zCat h g nc no) (hf : ∀ r s, (r = 0 ∧ (s = 1 ∨ s = 5)) ∨ (1 ≤ r ∧ r ≤ 6) → g' r s = g r s) : zCat h g' nc no := by
  obtain ⟨z1, z2, z3, z4, z5, z6, z7, z8⟩ := hC
  refine ⟨z1, z2, z3, by rw [hf 0 1 (by omega)]; exact z4, z5, by rw [hf 0 5 (by omega)]; exact z6, fun i i1 i2 => ?_, fun o ho => zOpOk_g (z8 o ho) (hf 4 o (by omega)) (hf 5 o (by omega)) (hf 6 o (by omega))⟩
  unfold zClsOk
  rw [hf 1 i (by omega), hf 2 i (by omega), hf 3 i (by omega)]
  exact z7 i i1 i2
def zSm (h h' : zM) : Prop := (∀ r, r ≤ 9 ∨ r = 22 ∨ r = 31 ∨ 34 ≤ r → h' r = h r) ∧ h' 19 5 = h 19 5 ∧ h' 19 6 = h 19 6 ∧ h' 30 2 = h 30 2
def mSm (g g' : zM) : Prop := ∀ r s, (r = 0 ∧ (s = 0 ∨ s = 1 ∨ s = 5 ∨ s = 9 ∨ s = 17 ∨ s = 37)) ∨ (1 ≤ r ∧ r ≤ 7) ∨ (13 ≤ r ∧ r ≤ 19) ∨ r = 26 → g' r s = g r s
theorem zSm_tr {h h' h'' : zM} (a : zSm h h') (b : zSm h' h'') : zSm h h'' := ⟨fun r hr => (b.1 r hr).trans (a.1 r hr), b.2.1.trans a.2.1, b.2.2.1.trans a.2.2.1, b.2.2.2.trans a.2.2.2⟩
theorem mSm_tr {g g' g'' : zM} (a : mSm g g') (b : mSm g' g'') : mSm g g'' := fun r s hr => (b r s hr).trans (a r s hr)
theorem zR_fr {n : Nat} {ln : Nat → Nat} {h h' g g' : zM} (hz : zSm h h') (hm : mSm g g') (hR : zR n ln h g) : zR n ln h' g' := by
  obtain ⟨nc, no, hC, h0, ⟨nl, l1, l2, l3, l4, l5⟩, hs, ⟨d, d1, d2, d3, d4⟩, n40, hn, gn, he⟩ := hR
  have hK : zKq h h' no := zKq_of no (fun r hr => hz.1 r (by omega))
  refine ⟨nc, no, zCat_g (zCat_fr hC (fun r hr => hz.1 r (by omega))) (fun r s hr => hm r s (by omega)), h0, ⟨nl, l1, l2, ?_, ?_, fun i hi => ?_⟩, ?_, ⟨d, d1, ?_, ?_, fun i hi => ?_⟩, n40, ?_, ?_, fun e hl => zEnt_g (fun r s r1 r2 => hm r s (by omega)) (zEnt_h hC.2.1 (Nat.le_refl _) hK (fun r hr => hz.1 r (by omega)) (he e hl))⟩
  · rw [hz.2.1]; exact l3
  · rw [hm 0 9 (by omega)]; exact l4
  · rw [hz.1 22 (by omega), hm 7 i (by omega)]; exact l5 i hi
  · rw [hz.2.2.1, hm 0 0 (by omega)]; exact hs
  · rw [hz.2.2.2]; exact d2
  · rw [hm 0 37 (by omega)]; exact d3
  · rw [hz.1 31 (by omega), hm 26 i (by omega)]; exact d4 i hi
  · rw [hz.1 9 (by omega)]; exact hn
  · rw [hm 0 17 (by omega)]; exact gn
/-! the easy methods -/
theorem zH_entries (n : Nat) (ln : Nat → Nat) (h g : zM) (hR : zR n ln h g) : wpTop_entries n ln h (fun r h1 => wpMod_entries g (fun r1 g1 => r = r1 ∧ zR n ln h1 g1)) := by
  refine H_entries0 n ln h g (zR n ln) hR ?_
  obtain ⟨nc, no, -, -, -, -, -, -, hn, gn, -⟩ := hR
  rw [hn, gn]
theorem zH_state (n : Nat) (ln : Nat → Nat) (h g : zM) (hR : zR n ln h g) : wpTop_state n ln h (fun r h1 => wpMod_state g (fun r1 g1 => r = r1 ∧ zR n ln h1 g1)) := by
  refine H_state0 n ln h g (zR n ln) hR ?_
  obtain ⟨nc, no, -, -, -, hs, -⟩ := hR
  exact hs
theorem zH_type (n : Nat) (ln : Nat → Nat) (h g : zM) (a b c : Int32) (hR : zR n ln h g) : wpTop_type n ln a b c h (fun r h1 => wpMod_type a b c g (fun r1 g1 => r = r1 ∧ zR n ln h1 g1)) := by
  obtain ⟨nc, no, hC, h0, hl, hs, hd, n40, hn, gn, he⟩ := hR
  refine z_type (no := no) hC.2.2.1 hC.1 hC.2.2.2.2.1 hC.2.1 a b c _ (fun q => m_type (no := no) hC.2.2.2.1 hC.1 hC.2.2.2.2.2.1 hC.2.1 a b c _ (fun _ => ⟨rfl, nc, no, hC, h0, hl, hs, hd, n40, hn, gn, he⟩) (fun q2 => absurd q2 q)) (fun q => m_type (no := no) hC.2.2.2.1 hC.1 hC.2.2.2.2.2.1 hC.2.1 a b c _ (fun q2 => absurd q q2) (fun _ => ⟨rfl, ?_⟩))
  obtain rfl : no = 0 := q.2.1
  obtain rfl := h0 rfl
  have zz : ∀ r, 4 < r → zTy h nc a b c r = h r := by
    intro r hr
    unfold zTy
    rw [zuo (by omega), zuo (by omega), zuo (by omega), zuo (by omega)]
  have mm : ∀ r s, (r = 0 ∧ s ≠ 1) ∨ 3 < r → mTy g nc a b c r s = g r s := by
    intro r s hr
    unfold mTy
    rw [zun (by omega), zun (by omega), zun (by omega), zun (by omega)]
  refine ⟨nc + 1, 0, zCat_type hC q, fun _ => rfl, ?_, ?_, ?_, n40, ?_, ?_, fun e hl => by omega⟩
  · obtain ⟨nl, l1, l2, l3, l4, l5⟩ := hl
    exact ⟨nl, l1, l2, by rw [zz 19 (by omega)]; exact l3, by rw [mm 0 9 (by omega)]; exact l4, fun i hi => by rw [zz 22 (by omega), mm 7 i (by omega)]; exact l5 i hi⟩
  · rw [zz 19 (by omega), mm 0 0 (by omega)]; exact hs
  · obtain ⟨d, d1, d2, d3, d4⟩ := hd
    exact ⟨d, d1, by rw [zz 30 (by omega)]; exact d2, by rw [mm 0 37 (by omega)]; exact d3, fun i hi => by rw [zz 31 (by omega), mm 26 i (by omega)]; exact d4 i hi⟩
  · rw [zz 9 (by omega)]; exact hn
  · rw [mm 0 17 (by omega)]; exact gn
theorem zH_operation (n : Nat) (ln : Nat → Nat) (h g : zM) (a b c : Int32) (hR : zR n ln h g) : wpTop_operation n ln a b c h (fun r h1 => wpMod_operation a b c g (fun r1 g1 => r = r1 ∧ zR n ln h1 g1)) := by
  obtain ⟨nc, no, hC, h0, hl, hs, hd, n40, hn, gn, he⟩ := hR
  refine z_operation (no := no) hC.2.2.1 hC.1 hC.2.2.2.2.1 hC.2.1 a b c _ (fun q => m_operation (no := no) hC.2.2.2.1 hC.1 hC.2.2.2.2.2.1 hC.2.1 a b c _ (fun _ => ⟨rfl, nc, no, hC, h0, hl, hs, hd, n40, hn, gn, he⟩) (fun kd cc q2 => absurd q2 (q kd cc))) (fun kd cc q => m_operation (no := no) hC.2.2.2.1 hC.1 hC.2.2.2.2.2.1 hC.2.1 a b c _ (fun q2 => absurd q (q2 kd cc)) (fun kd' cc' q2 => ⟨rfl, ?_⟩))
  obtain ⟨rfl, rfl⟩ := zOpIn_eq hC.1 q q2
  have zz : ∀ r, 8 < r ∨ (1 < r ∧ r < 5) → zOp h no kd cc c r = h r := by
    intro r hr
    funext s
    exact zOp_lo (by omega) (by omega)
  have mm : ∀ r s, (r = 0 ∧ s ≠ 5) ∨ (0 < r ∧ r < 4) ∨ 6 < r → mOp g no kd cc c r s = g r s := by
    intro r s hr
    exact mOp_lo (by omega) (by omega)
  have hK : zKq h (zOp h no kd cc c) no := ⟨zz 2 (by omega), zz 3 (by omega), zz 4 (by omega), fun o ho => ⟨zOp_lo (by omega) (by omega), zOp_lo (by omega) (by omega), zOp_lo (by omega) (by omega), zOp_lo (by omega) (by omega)⟩⟩
  refine ⟨nc, no + 1, zCat_op hC q, fun z => by omega, ?_, ?_, ?_, n40, ?_, ?_, fun e hl => zEnt_g (fun r s r1 r2 => mm r s (by omega)) (zEnt_h hC.2.1 (Nat.le_succ _) hK (fun r hr => zz r (by omega)) (he e hl))⟩
  · obtain ⟨nl, l1, l2, l3, l4, l5⟩ := hl
    exact ⟨nl, l1, l2, by rw [zz 19 (by omega)]; exact l3, by rw [mm 0 9 (by omega)]; exact l4, fun i hi => by rw [zz 22 (by omega), mm 7 i (by omega)]; exact l5 i hi⟩
  · rw [zz 19 (by omega), mm 0 0 (by omega)]; exact hs
  · obtain ⟨d, d1, d2, d3, d4⟩ := hd
    exact ⟨d, d1, by rw [zz 30 (by omega)]; exact d2, by rw [mm 0 37 (by omega)]; exact d3, fun i hi => by rw [zz 31 (by omega), mm 26 i (by omega)]; exact d4 i hi⟩
  · rw [zz 9 (by omega)]; exact hn
  · rw [mm 0 17 (by omega)]; exact gn
theorem zH_literal (n : Nat) (ln : Nat → Nat) (h g : zM) (a : Int32) (hR : zR n ln h g) : wpTop_literal n ln a h (fun r h1 => wpMod_literal a g (fun r1 g1 => r = r1 ∧ zR n ln h1 g1)) := by
  have hR0 := hR
  obtain ⟨nc, no, hC, h0, ⟨nl, l1, l2, l3, l4, l5⟩, hs, hd, n40, hn, gn, he⟩ := hR
  refine z_literal l3 l2 a _ (fun q => m_literal l4 l2 a _ (fun _ => ⟨rfl, hR0⟩) (fun q1 q2 => ?_)) (fun q1 q2 => m_literal l4 l2 a _ (fun q => ?_) (fun _ _ => ⟨rfl, ?_⟩))
  · exfalso
    rcases q with q | ⟨j, hj, e⟩
    · omega
    · exact q2 j hj (by rw [← l5 j hj]; exact e)
  · exfalso
    rcases q with q | ⟨j, hj, e⟩
    · omega
    · exact q2 j hj (by rw [l5 j hj]; exact e)
  · have zz : ∀ r, r ≠ 22 → r ≠ 19 → zu (zu h 22 nl a) 19 5 (nI (nl + 1)) r = h r := by
      intro r r1 r2
      rw [zuo r2, zuo r1]
    have mm : ∀ r s, (r = 0 ∧ s ≠ 9) ∨ (r ≠ 0 ∧ r ≠ 7) → zu (zu g 7 nl a) 0 9 (nI (nl + 1)) r s = g r s := by
      intro r s hr
      rw [zun (by omega), zun (by omega)]
    have hK : zKq h (zu (zu h 22 nl a) 19 5 (nI (nl + 1))) no := zKq_of no (fun r hr => zz r (by omega) (by omega))
    refine ⟨nc, no, zCat_g (zCat_fr hC (fun r hr => zz r (by omega) (by omega))) (fun r s hr => mm r s (by omega)), h0, ⟨nl + 1, by omega, by omega, zux, zux, fun i hi => ?_⟩, ?_, ?_, n40, ?_, ?_, fun e hl => zEnt_g (fun r s r1 r2 => mm r s (by omega)) (zEnt_h hC.2.1 (Nat.le_refl _) hK (fun r hr => zz r (by omega) (by omega)) (he e hl))⟩
    · rw [zuo (show 22 ≠ 19 by decide), zuo (show 7 ≠ 0 by decide)]
      by_cases e : i = nl
      · subst e; rw [zux, zux]
      · rw [zun (Or.inr e), zun (Or.inr e)]
        exact l5 i (by omega)
    · rw [zun (by decide), zuo (by decide), mm 0 0 (by omega)]; exact hs
    · obtain ⟨d, d1, d2, d3, d4⟩ := hd
      exact ⟨d, d1, by rw [zz 30 (by omega) (by omega)]; exact d2, by rw [mm 0 37 (by omega)]; exact d3, fun i hi => by rw [zz 31 (by omega) (by omega), mm 26 i (by omega)]; exact d4 i hi⟩
    · rw [zz 9 (by omega) (by omega)]; exact hn
    · rw [mm 0 17 (by omega)]; exact gn
