/-! choosing an argument -/
abbrev zCR := Int32 × Int32 × Nat × (Nat → Int32) × Int32 × Int32
noncomputable def zee (h : zM) (t n : Nat) (s : Int32) : Nat := znth h t n (Int32.toNatClampNeg (zrv (zrs s) (nI (zoc h t n))))
noncomputable def zse (h : zM) (t n : Nat) (s : Int32) : Nat := Int32.toNatClampNeg (h (34 + 4 * zee h t n s + 1) 0)
noncomputable def zTake (h : zM) (n t : Nat) (s : Int32) (sz : Nat) (c : Nat → Int32) : zCR := if zoc h t n = 0 then (-2, s, sz, c, 0, 0) else if sz + zse h t n s ≤ 9 then (0, zrs s, sz + zse h t n s, zapp c sz (h (34 + 4 * zee h t n s + 1 + 1)), 0, nI (sz + zse h t n s - 1)) else (-3, zrs s, sz, c, 0, 0)
def zGf (h h' : zM) : Prop := (∀ r, r ≠ 11 → r ≠ 19 → r ≠ 20 → r ≠ 21 → r ≠ 23 → r ≠ 24 → h' r = h r) ∧ h' 19 5 = h 19 5
theorem zGf_rf {h : zM} : zGf h h := ⟨fun _ _ _ _ _ _ _ => rfl, rfl⟩
theorem zGf_tr {h h' h'' : zM} (a : zGf h h') (b : zGf h' h'') : zGf h h'' := ⟨fun r r1 r2 r3 r4 r5 r6 => (b.1 r r1 r2 r3 r4 r5 r6).trans (a.1 r r1 r2 r3 r4 r5 r6), b.2.trans a.2⟩
def zG (h hh : zM) (s : Int32) (sz : Nat) (c : Nat → Int32) : Prop := zGf h hh ∧ hh 19 6 = s ∧ hh 20 0 = nI sz ∧ ∀ i, i < 5 * sz → hh 21 i = c i
def mG (g gg : zM) (s : Int32) (sz : Nat) (c : Nat → Int32) : Prop := mGf g gg ∧ gg 0 0 = s ∧ gg 0 11 = nI sz ∧ ∀ k, k < sz → mSq c (gg 8) (gg 9) (gg 10) k k
def zCo (h : zM) (R : zCR) (a : Nat) (hh hh' : zM) : Prop := zGf h hh' ∧ hh' 19 6 = R.2.1 ∧ (R.1 = 0 → hh' 20 0 = nI R.2.2.1 ∧ (∀ i, i < 5 * R.2.2.1 → hh' 21 i = R.2.2.2.1 i) ∧ hh' 23 a = R.2.2.2.2.1 ∧ hh' 24 a = R.2.2.2.2.2 ∧ ∀ x, x ≠ a → hh' 23 x = hh 23 x ∧ hh' 24 x = hh 24 x)
def mCo (g : zM) (R : zCR) (a : Nat) (gg gg' : zM) : Prop := mGf g gg' ∧ gg' 0 0 = R.2.1 ∧ (R.1 = 0 → gg' 0 11 = nI R.2.2.1 ∧ (∀ k, k < R.2.2.1 → mSq R.2.2.2.1 (gg' 8) (gg' 9) (gg' 10) k k) ∧ gg' 11 a = R.2.2.2.2.1 ∧ gg' 12 a = R.2.2.2.2.2 ∧ ∀ x, x ≠ a → gg' 11 x = gg 11 x ∧ gg' 12 x = gg 12 x)
theorem zoff_fr {h hh : zM} {t e : Nat} (hf : ∀ r, r = 2 ∨ 34 ≤ r → hh r = h r) : zoff hh t e ↔ zoff h t e := by
  unfold zoff
  rw [hf 2 (by omega), hf (34 + 4 * e) (by omega)]
theorem zoc_fr {h hh : zM} {t : Nat} (hf : ∀ r, r = 2 ∨ 34 ≤ r → hh r = h r) : ∀ n, zoc hh t n = zoc h t n
  | 0 => rfl
  | n + 1 => by
    show _ + _ = _ + _
    rw [zoc_fr hf n, propext (zoff_fr hf)]
theorem zBk_ty {n : Nat} {ln : Nat → Nat} {h g : zM} {nc no : Nat} (hB : zBk n ln h g nc no) : ∀ e, e < n → ∃ ty : Nat, ty ≤ nc ∧ h (34 + 4 * e) 3 = nI ty := by
  intro e he
  obtain ⟨hC, n40, gn, hE⟩ := hB
  have hno := hC.2.1
  obtain ⟨sz, out, det, a1, a2, a3, a4, a5, a6, a7, a8, a9, b1, b2, b3, b4, b5, b6⟩ := hE e he
  obtain ⟨o, ho, eo, -⟩ := a5 (sz - 1) (by omega)
  obtain ⟨kd, cc, d, hkd, c1, c2, hd, e5, f4, f5, f6, e6, e7, e8⟩ := hC.2.2.2.2.2.2.2 o ho
  rw [b4]
  unfold zlt8
  rw [eo, znc (by omega), e8]
  unfold zrt
  split
  · exact ⟨cc, c2, rfl⟩
  · split
    · obtain ⟨e', e1, e2, rfl⟩ := hd (by unfold zhasD; omega)
      exact ⟨e', e2, rfl⟩
    · exact ⟨0, by omega, rfl⟩
theorem z_choose {n : Nat} {ln : Nat → Nat} {h : zM} {a : Nat} {f v : Int32} (ha : a < 2) (post : Int32 → zM → Prop) (hp : ∀ h', (∀ r, r ≠ 23 → r ≠ 24 → h' r = h r) → h' 23 a = f → h' 24 a = v → (∀ x, x ≠ a → h' 23 x = h 23 x ∧ h' 24 x = h 24 x) → post 0 h') : wpGrower_choose n ln (nI a) f v h post := by
  unfold wpGrower_choose
  have ia : vp_in (nI a) 2 := zin_nI (by omega) (by omega)
  rw [znc (by omega)]
  refine ⟨ia, fun h6 e6 => ⟨ia, fun h13 e13 => hp h13 (fun r r1 r2 => ?_) ?_ ?_ (fun x hx => ⟨?_, ?_⟩)⟩⟩
  · rw [e13, zuo r2, e6, zuo r1]
  · rw [e13, zuo (by decide), e6, zux]
  · rw [e13, zux]
  · rw [e13, zuo (by decide), e6, zun (Or.inr hx)]
  · rw [e13, zun (Or.inr hx), e6, zuo (by decide)]
theorem m_choose {g : zM} {a : Nat} {f v : Int32} (ha : a < 2) (post : zM → Prop) (hp : ∀ g', (∀ r, r ≠ 11 → r ≠ 12 → g' r = g r) → g' 11 a = f → g' 12 a = v → (∀ x, x ≠ a → g' 11 x = g 11 x ∧ g' 12 x = g 12 x) → post g') : wpMod_choose (nI a) f v g post := by
  unfold wpMod_choose
  have ia : vp_in (nI a) 2 := zin_nI (by omega) (by omega)
  rw [znc (by omega)]
  refine ⟨ia, fun h6 e6 => ⟨ia, fun h13 e13 => hp h13 (fun r r1 r2 => ?_) ?_ ?_ (fun x hx => ⟨?_, ?_⟩)⟩⟩
  · rw [e13, zuo r2, e6, zuo r1]
  · rw [e13, zuo (by decide), e6, zux]
  · rw [e13, zux]
  · rw [e13, zuo (by decide), e6, zun (Or.inr hx)]
  · rw [e13, zun (Or.inr hx), e6, zuo (by decide)]
theorem zG_list {n : Nat} {ln : Nat → Nat} {h g hh : zM} {nc no t sz : Nat} {s : Int32} {c : Nat → Int32} (hB : zBk n ln h g nc no) (h9 : h 9 1 = nI n) (hG : zG h hh s sz c) (ht : t ≤ nc) (post : Int32 → zM → Prop) (hp : ∀ h', zG h h' s sz c → (∀ r, r ≠ 11 → h' r = hh r) → (∀ e, e < n → zoff h t e → h' 11 (zoc h t e) = nI e) → post (nI (zoc h t n)) h') : wpBook_listFresh n ln (nI t) hh post := by
  obtain ⟨hF, G1, G2, G3⟩ := hG
  have fr : ∀ r, r ≤ 10 ∨ r = 22 ∨ 34 ≤ r → hh r = h r := fun r hr => hF.1 r (by omega) (by omega) (by omega) (by omega) (by omega) (by omega)
  have hpar : zPar hh nc := fun i a b => by rw [fr 2 (by omega)]; exact (hB.1.2.2.2.2.2.2.1 i a b).2.2.2.1
  have hf2 : ∀ r, r = 2 ∨ 34 ≤ r → hh r = h r := fun r hr => fr r (by omega)
  refine z_list hpar hB.1.1 (by rw [fr 9 (by omega)]; exact h9) hB.2.1 (fun e he => by rw [fr _ (by omega)]; exact zBk_ty hB e he) ht _ (fun h' k1 k2 => ?_)
  rw [zoc_fr hf2]
  refine hp h' ⟨⟨fun r r1 r2 r3 r4 r5 r6 => (k1 r r1).trans (hF.1 r r1 r2 r3 r4 r5 r6), by rw [k1 19 (by decide)]; exact hF.2⟩, by rw [k1 19 (by decide)]; exact G1, by rw [k1 20 (by decide)]; exact G2, fun i hi => by rw [k1 21 (by decide)]; exact G3 i hi⟩ k1 (fun e he zo => ?_)
  rw [← zoc_fr hf2 e]
  exact k2 e he ((zoff_fr hf2).mpr zo)
theorem z_take {n : Nat} {ln : Nat → Nat} {h g hh : zM} {nc no t sz a : Nat} {s : Int32} {c : Nat → Int32} (hB : zBk n ln h g nc no) (h9 : h 9 1 = nI n) (hG : zG h hh s sz c) (hsz : sz ≤ 9) (ht : t ≤ nc) (ha : a < 2) (post : Int32 → zM → Prop) (hp : ∀ hh', zCo h (zTake h n t s sz c) a hh hh' → post (zTake h n t s sz c).1 hh') : wpGrower_take n ln (nI a) (nI t) hh post := by
  have n40 := hB.2.1
  unfold wpGrower_take
  refine zG_list hB h9 hG ht _ (fun h5 G5 fr5 hl => ?_)
  have hle := zoc_le (h := h) (t := t) n
  refine ⟨fun q => ?_, fun q => ?_⟩
  · have q : zoc h t n ≠ 0 := fun w => q (by rw [w]; rfl)
    obtain ⟨⟨F5, L5⟩, G1, G2, G3⟩ := G5
    refine z_random (M := zoc h t n) (by omega) (by omega) _ ?_
    rw [G1]
    obtain ⟨j, hj, ej⟩ := zrv_lt (s := zrs s) (M := zoc h t n) (by omega) (by omega)
    obtain ⟨e, he, zo, ez⟩ := zoc_sur n hj
    have eee : zee h t n s = e := by
      unfold zee
      rw [ej, znc (by omega), ← ez]
      exact znth_eq zo n he
    rw [ej, znc (by omega)]
    refine ⟨zin_nI (by omega) (by omega), ?_⟩
    have l11 : zu h5 19 6 (zrs s) 11 j = nI e := by rw [zuo (by decide), ← ez]; exact hl e he zo
    rw [l11]
    have h9' : zu h5 19 6 (zrs s) 9 1 = nI n := by rw [zuo (by decide), F5 9 (by decide) (by decide) (by decide) (by decide) (by decide) (by decide)]; exact h9
    refine z_get h9' n40 (nI e) _ (fun w => absurd rfl (w e he)) (fun e' he' ee => ⟨fun w => absurd w (by simp), fun jr ejr => ?_⟩)
    obtain rfl : e' = jr := Option.some.inj ejr
    obtain rfl : e = e' := (nI_eq (by omega) (by omega)).mp ee
    refine ⟨he', ?_⟩
    obtain ⟨m, out, det, a1, a2, a3, a4, a5, a6, -⟩ := hB.2.2.2 e he
    have ese : zse h t n s = m := by
      unfold zse
      rw [eee, a3, znc (by omega)]
    have F33 : ∀ r, 34 ≤ r → zu h5 19 6 (zrs s) r = h r := fun r hr => by rw [zuo (by omega)]; exact F5 r (by omega) (by omega) (by omega) (by omega) (by omega) (by omega)
    have w20 : zu h5 19 6 (zrs s) 20 = h5 20 := zuo (by decide)
    rw [F33 (34 + 4 * e + 1) (by omega), a3, w20, G2, nI_add]
    refine pk_le (sz + m) 9 (fun z => ?_) (fun z => ?_)
    · have eT : zTake h n t s sz c = (0, zrs s, sz + m, zapp c sz (h (34 + 4 * e + 1 + 1)), 0, nI (sz + m - 1)) := by
        unfold zTake
        rw [if_neg q, ese, if_pos z, eee]
      rw [eT] at hp
      refine z_append (o1 := 34 + 4 * e + 1) (sz := sz) (m := m) (by omega) (by rw [w20]; exact G2) (by rw [F33 _ (by omega)]; exact a3) (by omega) (fun k a' hk ha' hz => ?_) _ (fun h79 k1 k2 k3 => ?_)
      · rw [F33 _ (by omega)] at hz ⊢
        obtain ⟨v, hv, ev⟩ := zSt_pos (by omega) ha' (a5 k hk) hz
        rw [ev]
        exact zn0 (by omega)
      · obtain ⟨q2, eq2⟩ : ∃ q2, sz + m = q2 + 1 := ⟨sz + m - 1, by omega⟩
        rw [k2, eq2, nI_pred]
        refine z_choose ha _ (fun h' c1 c2 c3 c4 => hp h' ⟨⟨fun r r1 r2 r3 r4 r5 r6 => ?_, ?_⟩, ?_, fun _ => ⟨?_, fun i hi => ?_, c2, ?_, fun x hx => ⟨?_, ?_⟩⟩⟩)
        · rw [c1 r r5 r6, k1 r r3 r4, zuo r2]; exact F5 r r1 r2 r3 r4 r5 r6
        · rw [c1 19 (by decide) (by decide), k1 19 (by decide) (by decide), zun (by decide)]; exact L5
        · rw [c1 19 (by decide) (by decide), k1 19 (by decide) (by decide), zux]
        · rw [c1 20 (by decide) (by decide)]; exact k2
        · have hi : i < 5 * (sz + m) := hi
          rw [c1 21 (by decide) (by decide), k3 i hi, F33 (34 + 4 * e + 1 + 1) (by omega)]
          show zapp _ _ _ i = zapp _ _ _ i
          unfold zapp
          by_cases i1 : i < 5 * sz
          · rw [if_pos i1, if_pos i1, zuo (by decide)]; exact G3 i i1
          · rw [if_neg i1, if_neg i1]
        · rw [c3]
          show nI q2 = nI (sz + m - 1)
          rw [eq2]; rfl
        · rw [(c4 x hx).1, k1 23 (by decide) (by decide), zuo (by decide), fr5 23 (by decide)]
        · rw [(c4 x hx).2, k1 24 (by decide) (by decide), zuo (by decide), fr5 24 (by decide)]
    · have eT : zTake h n t s sz c = (-3, zrs s, sz, c, 0, 0) := by
        unfold zTake
        rw [if_neg q, ese, if_neg (by omega)]
      rw [eT] at hp
      refine hp _ ⟨⟨fun r r1 r2 r3 r4 r5 r6 => ?_, ?_⟩, zux, fun w => absurd w (show (-3 : Int32) ≠ 0 by decide)⟩
      · rw [zuo r2]; exact F5 r r1 r2 r3 r4 r5 r6
      · rw [zun (by decide)]; exact L5
  · have q : zoc h t n = 0 := (nI_eq (b := 0) (by omega) (by omega)).mp q
    have eT : zTake h n t s sz c = (-2, s, sz, c, 0, 0) := by
      unfold zTake
      rw [if_pos q]
    rw [eT] at hp
    exact hp h5 ⟨G5.1, G5.2.1, fun w => absurd w (show (-2 : Int32) ≠ 0 by decide)⟩
theorem m_takeC {n : Nat} {ln : Nat → Nat} {h g gg : zM} {nc no t sz a : Nat} {s : Int32} {c : Nat → Int32} (hB : zBk n ln h g nc no) (hG : mG g gg s sz c) (hsz : sz ≤ 9) (ht : t ≤ nc) (ha : a < 2) (q : zoc h t n ≠ 0) (post : Int32 → zM → Prop) (hp : ∀ gg', mCo g (zTake h n t s sz c) a gg gg' → post (zTake h n t s sz c).1 gg') : wpMod_random (nI (zoc h t n)) gg (fun r183 h183 => wpMod_take (nI t) r183 (nI a) h183 (fun h187 => ((((h187 0 11) ≤ 9) → post 0 h187) ∧ (¬ ((h187 0 11) ≤ 9) → post (-3) h187)))) := by
  have n40 := hB.2.1
  obtain ⟨hF, G1, G2, G3⟩ := hG
  have hle := zoc_le (h := h) (t := t) n
  refine m_random (by omega) (by omega) _ ?_
  rw [G1]
  obtain ⟨j, hj, ej⟩ := zrv_lt (s := zrs s) (M := zoc h t n) (by omega) (by omega)
  rw [ej]
  have F0 : mGf g (zu gg 0 0 (zrs s)) := fun r x hr => by rw [zun (by omega)]; exact hF r x hr
  refine m_take (c := c) (sz := sz) (zBk_g hB F0) ht hj ha (by rw [zun (by decide)]; exact G2) hsz (fun k hk => by rw [zuo (by decide), zuo (by decide), zuo (by decide)]; exact G3 k hk) _ (fun e m g' he zo ez em m1 m10 k1 k2 k3 k4 k5 k6 k7 => ?_)
  have eee : zee h t n s = e := by
    unfold zee
    rw [ej, znc (by omega), ← ez]
    exact znth_eq zo n he
  have ese : zse h t n s = m := by
    unfold zse
    rw [eee, em, znc (by omega)]
  rw [k3]
  refine pk_le (sz + m) 9 (fun z => ?_) (fun z => ?_)
  · have eT : zTake h n t s sz c = (0, zrs s, sz + m, zapp c sz (h (34 + 4 * e + 1 + 1)), 0, nI (sz + m - 1)) := by
      unfold zTake
      rw [if_neg q, ese, if_pos z, eee]
    rw [eT] at hp
    refine hp g' ⟨mGf_tr F0 k1, by rw [k2, zux], fun _ => ⟨k3, k7, k4, k5, fun x hx => ⟨?_, ?_⟩⟩⟩
    · rw [(k6 x hx).1, zuo (by decide)]
    · rw [(k6 x hx).2, zuo (by decide)]
  · have eT : zTake h n t s sz c = (-3, zrs s, sz, c, 0, 0) := by
      unfold zTake
      rw [if_neg q, ese, if_neg (by omega)]
    rw [eT] at hp
    exact hp g' ⟨mGf_tr F0 k1, by rw [k2, zux], fun w => absurd w (show (-3 : Int32) ≠ 0 by decide)⟩
