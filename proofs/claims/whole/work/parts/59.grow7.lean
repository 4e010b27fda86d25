/-! what is chosen is in order -/
def zPk (h : zM) (no : Nat) (ty : Int32) (sz : Nat) (c : Nat → Int32) (R : zCR) : Prop := sz ≤ R.2.2.1 ∧ R.2.2.1 ≤ 9 ∧ (∀ k, k < R.2.2.1 → zStOk h R.2.2.2.1 no k) ∧ (∀ i, i < 5 * sz → R.2.2.2.1 i = c i) ∧ (ty ≠ -1 → R.2.2.2.2.1 ≠ -1) ∧ (R.2.2.2.2.1 = 0 → ∃ v : Nat, v < R.2.2.1 ∧ R.2.2.2.2.2 = nI v) ∧ ∀ (C : Nat → Int32) (k a : Nat), a < 2 → R.2.2.1 ≤ k → (∀ i, i < 5 * R.2.2.1 → C i = R.2.2.2.1 i) → C (5 * k + 1 + 2 * a) = R.2.2.2.2.1 → C (5 * k + 2 + 2 * a) = R.2.2.2.2.2 → zArgOk h C k a ty
theorem zIs_z {h : zM} {nc ty : Nat} (hpar : zPar h nc) (hnc : nc ≤ 4) (ty1 : ty ≤ nc) : zIs (h 2) ty 0 ↔ ty = 0 := by
  rcases Nat.eq_zero_or_pos ty with w | w
  · subst w; exact ⟨fun _ => rfl, fun _ => zIs_self⟩
  · obtain ⟨p, hp, ep⟩ := hpar ty w ty1
    rw [zIs_step hpar hnc w ty1 ep hp]
    constructor
    · rintro (y | ⟨y, -⟩)
      · exact y
      · exact absurd rfl y
    · intro y; exact Or.inl y
/-- a variable of a fitting type -/
theorem zPk_var {n : Nat} {ln : Nat → Nat} {h g : zM} {nc no t sz v o' : Nat} {C c : Nat → Int32} {k a : Nat} (hB : zBk n ln h g nc no) (ht : t ≤ nc) (hv : v < sz) (hk : sz ≤ k) (ho : o' < no) (eo : c (5 * v) = nI o') (hi : zIs (h 2) (Int32.toNatClampNeg (h 8 o')) t) (hC : ∀ i, i < 5 * sz → C i = c i) (e1 : C (5 * k + 1 + 2 * a) = 0) (e2 : C (5 * k + 2 + 2 * a) = nI v) : zArgOk h C k a (nI t) := by
  have hno := hB.1.2.1
  have hnc := hB.1.1
  have hpar : zPar h nc := fun i a b => (hB.1.2.2.2.2.2.2.1 i a b).2.2.2.1
  obtain ⟨ty, ty1, ety⟩ := zOp_ty hB.1 ho
  rw [ety, znc (by omega)] at hi
  unfold zArgOk
  rcases Nat.eq_zero_or_pos t with w | w
  · subst w
    rw [zIs_z hpar hnc ty1] at hi
    subst hi
    exact Or.inr (Or.inl ⟨rfl, Or.inr ⟨e1, v, o', by omega, e2, by omega, by rw [hC _ (by omega)]; exact eo, ety⟩⟩)
  · exact Or.inr (Or.inr ⟨t, w, by omega, rfl, Or.inr ⟨e1, v, o', ty, by omega, e2, by omega, by rw [hC _ (by omega)]; exact eo, by omega, ety, hi⟩⟩)
theorem zTake_ok {n : Nat} {ln : Nat → Nat} {h g : zM} {nc no t sz : Nat} {s : Int32} {c : Nat → Int32} (hB : zBk n ln h g nc no) (ht : t ≤ nc) (hsz : sz ≤ 9) (hst : ∀ k, k < sz → zStOk h c no k) (h0 : (zTake h n t s sz c).1 = 0) : zPk h no (nI t) sz c (zTake h n t s sz c) := by
  have hno := hB.1.2.1
  have hnc := hB.1.1
  have n40 := hB.2.1
  have hle := zoc_le (h := h) (t := t) n
  by_cases q : zoc h t n = 0
  · have eT : zTake h n t s sz c = (-2, s, sz, c, 0, 0) := by
      unfold zTake
      rw [if_pos q]
    rw [eT] at h0
    exact absurd h0 (show (-2 : Int32) ≠ 0 by decide)
  · obtain ⟨j, hj, ej⟩ := zrv_lt (s := zrs s) (M := zoc h t n) (by omega) (by omega)
    obtain ⟨e, he, zo, ez⟩ := zoc_sur n hj
    have eee : zee h t n s = e := by
      unfold zee
      rw [ej, znc (by omega), ← ez]
      exact znth_eq zo n he
    obtain ⟨m, out, det, a1, a2, a3, a4, a5, a6, a7, a8, a9, b1, b2, b3, b4, b5, b6⟩ := hB.2.2.2 e he
    have ese : zse h t n s = m := by
      unfold zse
      rw [eee, a3, znc (by omega)]
    by_cases z : sz + m ≤ 9
    · have eT : zTake h n t s sz c = (0, zrs s, sz + m, zapp c sz (h (34 + 4 * e + 1 + 1)), 0, nI (sz + m - 1)) := by
        unfold zTake
        rw [if_neg q, ese, if_pos z, eee]
      rw [eT]
      obtain ⟨o, ho, eo, -⟩ := a5 (m - 1) (by omega)
      have hop : zapp c sz (h (34 + 4 * e + 1 + 1)) (5 * (sz + m - 1)) = nI o := by
        rw [show sz + m - 1 = sz + (m - 1) by omega, zapp_op]; exact eo
      have hi : zIs (h 2) (Int32.toNatClampNeg (h 8 o)) t := by
        have := zo.2
        rw [b4] at this
        unfold zlt8 at this
        rw [eo, znc (by omega)] at this
        exact this
      refine ⟨by show sz ≤ sz + m; omega, z, zApp_ok (by omega) hno hst a5, fun i hi => zapp_lo hi, fun _ => (show (0 : Int32) ≠ -1 by decide), fun _ => ⟨sz + m - 1, by show _ < sz + m; omega, rfl⟩, fun C k a ha hk hC e1 e2 => ?_⟩
      exact zPk_var hB ht (show sz + m - 1 < sz + m by omega) hk ho hop hi hC e1 e2
    · have eT : zTake h n t s sz c = (-3, zrs s, sz, c, 0, 0) := by
        unfold zTake
        rw [if_neg q, ese, if_neg (by omega)]
      rw [eT] at h0
      exact absurd h0 (show (-3 : Int32) ≠ 0 by decide)
theorem zNum_ok {n : Nat} {ln : Nat → Nat} {h g : zM} {nc no sz : Nat} {s : Int32} {c : Nat → Int32} (hB : zBk n ln h g nc no) (hsz : sz ≤ 9) (hst : ∀ k, k < sz → zStOk h c no k) (h0 : (zNum h n s sz c).1 = 0) : zPk h no 0 sz c (zNum h n s sz c) := by
  unfold zNum at h0 ⊢
  by_cases q : zrv (zrs s) 3 = 0 ∧ 0 < zoc h 0 n
  · rw [if_pos q] at h0 ⊢
    exact zTake_ok (t := 0) hB (Nat.zero_le _) hsz hst h0
  · rw [if_neg q]
    refine ⟨Nat.le_refl _, hsz, hst, fun _ _ => rfl, fun _ => (show (1 : Int32) ≠ -1 by decide), fun z => absurd z (show (1 : Int32) ≠ 0 by decide), fun C k a ha hk hC e1 e2 => Or.inr (Or.inl ⟨rfl, Or.inl e1⟩)⟩
theorem zObj_ok {n : Nat} {ln : Nat → Nat} {h g : zM} {nc no sz a0 t : Nat} {s f0 v0 : Int32} {c : Nat → Int32} (hB : zBk n ln h g nc no) (ht1 : 1 ≤ t) (ht : t ≤ nc) (hsz : sz ≤ 9) (hst : ∀ k, k < sz → zStOk h c no k) (hf : a0 = 1 → f0 = 0 → ∃ v : Nat, v < sz ∧ v0 = nI v) (h0 : (zObj h n a0 t s sz c f0 v0).1 = 0) : zPk h no (nI t) sz c (zObj h n a0 t s sz c f0 v0) := by
  have hno := hB.1.2.1
  have hnc := hB.1.1
  unfold zObj at h0 ⊢
  by_cases q : zrv (zrs s) 6 = 0
  · rw [if_pos q]
    refine ⟨Nat.le_refl _, hsz, hst, fun _ _ => rfl, fun _ => (show (2 : Int32) ≠ -1 by decide), fun z => absurd z (show (2 : Int32) ≠ 0 by decide), fun C k a ha hk hC e1 e2 => Or.inr (Or.inr ⟨t, ht1, by omega, rfl, Or.inl ⟨e1, e2⟩⟩)⟩
  · rw [if_neg q] at h0 ⊢
    by_cases z : zrv (zrs (zrs s)) 3 = 0 ∧ a0 = 1 ∧ f0 = 0 ∧ zIs (h 2) (Int32.toNatClampNeg (h 8 (Int32.toNatClampNeg (c (5 * Int32.toNatClampNeg v0))))) t
    · rw [zdec_t z, if_pos rfl]
      obtain ⟨v, hv, ev⟩ := hf z.2.1 z.2.2.1
      obtain ⟨o, ho, eo, -⟩ := hst v hv
      have hi := z.2.2.2
      rw [ev, znc (by omega), eo, znc (by omega)] at hi
      refine ⟨Nat.le_refl _, hsz, hst, fun _ _ => rfl, fun _ => (show (0 : Int32) ≠ -1 by decide), fun _ => ⟨v, hv, ev⟩, fun C k a ha hk hC e1 e2 => ?_⟩
      exact zPk_var hB ht hv hk ho eo hi hC e1 (e2.trans ev)
    · rw [zdec_f z, if_neg (by decide)] at h0 ⊢
      exact zTake_ok hB ht hsz hst h0
noncomputable def zCh (h : zM) (n a : Nat) (ty s : Int32) (sz : Nat) (c : Nat → Int32) (f0 v0 : Int32) : zCR := if ty = -1 then (0, s, sz, c, -1, 0) else if ty = 0 then zNum h n s sz c else zObj h n a (Int32.toNatClampNeg ty) s sz c f0 v0
def zTyp (nc : Nat) (ty : Int32) : Prop := ty = -1 ∨ ty = 0 ∨ ∃ t : Nat, 1 ≤ t ∧ t ≤ nc ∧ ty = nI t
theorem zCh_ok {n : Nat} {ln : Nat → Nat} {h g : zM} {nc no sz a0 : Nat} {ty s f0 v0 : Int32} {c : Nat → Int32} (hB : zBk n ln h g nc no) (hty : zTyp nc ty) (hsz : sz ≤ 9) (hst : ∀ k, k < sz → zStOk h c no k) (hf : a0 = 1 → f0 = 0 → ∃ v : Nat, v < sz ∧ v0 = nI v) (h0 : (zCh h n a0 ty s sz c f0 v0).1 = 0) : zPk h no ty sz c (zCh h n a0 ty s sz c f0 v0) := by
  have hnc := hB.1.1
  unfold zCh at h0 ⊢
  rcases hty with rfl | rfl | ⟨t, t1, t2, rfl⟩
  · rw [if_pos rfl]
    exact ⟨Nat.le_refl _, hsz, hst, fun _ _ => rfl, fun z => absurd rfl z, fun z => absurd z (show (-1 : Int32) ≠ 0 by decide), fun C k a ha hk hC e1 e2 => Or.inl ⟨rfl, e1, e2⟩⟩
  · rw [if_neg (by decide), if_pos rfl] at h0 ⊢
    exact zNum_ok hB hsz hst h0
  · rw [if_neg (znm1 (by omega)), if_neg (nI_ne0 t1 (by omega)), znc (by omega)] at h0 ⊢
    exact zObj_ok hB t1 t2 hsz hst hf h0
theorem zOp_typ {h g : zM} {nc no o : Nat} (hC : zCat h g nc no) (ho : o < no) : zTyp nc (h 6 o) ∧ zTyp nc (h 7 o) := by
  obtain ⟨kd, cc, d, hkd, c1, c2, hd, e5, f4, f5, f6, e6, e7, e8⟩ := hC.2.2.2.2.2.2.2 o ho
  rw [e6, e7]
  unfold zft zst
  refine ⟨?_, ?_⟩
  · split
    · exact Or.inr (Or.inl rfl)
    · split
      · obtain ⟨e, e1, e2, rfl⟩ := hd (by unfold zhasD; omega)
        exact Or.inr (Or.inr ⟨e, e1, e2, rfl⟩)
      · exact Or.inr (Or.inr ⟨cc, c1, c2, rfl⟩)
  · split
    · exact Or.inr (Or.inl rfl)
    · split
      · obtain ⟨e, e1, e2, rfl⟩ := hd (by unfold zhasD; omega)
        exact Or.inr (Or.inr ⟨e, e1, e2, rfl⟩)
      · exact Or.inl rfl
theorem z_chArg {n : Nat} {ln : Nat → Nat} {h g hh : zM} {nc no sz a nl : Nat} {ty s f0 v0 : Int32} {c : Nat → Int32} (hB : zBk n ln h g nc no) (h9 : h 9 1 = nI n) (hl : h 19 5 = nI nl) (l1 : 3 ≤ nl) (l2 : nl ≤ 8) (hty : zTyp nc ty) (hG : zG h hh s sz c) (hsz : sz ≤ 9) (ha : a < 2) (hst : ∀ k, k < sz → zStOk h c no k) (h0 : a = 1 → hh 23 0 = f0 ∧ hh 24 0 = v0 ∧ (f0 = 0 → ∃ v : Nat, v < sz ∧ v0 = nI v)) (post : Int32 → zM → Prop) (hp : ∀ hh', zCo h (zCh h n a ty s sz c f0 v0) a hh hh' → post (zCh h n a ty s sz c f0 v0).1 hh') : wpGrower_chooseArgument n ln (nI a) ty hh post := by
  have hnc := hB.1.1
  unfold wpGrower_chooseArgument
  unfold zCh at hp
  refine ⟨fun q => ?_, fun q => ⟨fun q2 => ?_, fun q2 => ?_⟩⟩
  · rw [if_pos q] at hp
    exact zG_pick hG ha _ hp
  · rw [if_neg q, if_pos q2] at hp
    exact z_num hB h9 hl l1 l2 hG hsz ha _ hp
  · rw [if_neg q, if_neg q2] at hp
    obtain ⟨t, t1, t2, rfl⟩ := (hty.resolve_left q).resolve_left q2
    rw [znc (by omega)] at hp
    exact z_obj hB h9 hG hsz ha t2 hst h0 _ hp
theorem m_chArg {n : Nat} {ln : Nat → Nat} {h g gg : zM} {nc no sz a nl : Nat} {ty s f0 v0 : Int32} {c : Nat → Int32} (hB : zBk n ln h g nc no) (hl : h 19 5 = nI nl) (l1 : 3 ≤ nl) (l2 : nl ≤ 8) (gl : g 0 9 = nI nl) (hlit : ∀ i, i < nl → h 22 i = g 7 i) (hty : zTyp nc ty) (hn1 : ty ≠ -1) (hG : mG g gg s sz c) (hsz : sz ≤ 9) (ha : a < 2) (hst : ∀ k, k < sz → zStOk h c no k) (h0 : a = 1 → gg 11 0 = f0 ∧ gg 12 0 = v0 ∧ (f0 = 0 → ∃ v : Nat, v < sz ∧ v0 = nI v)) (post : Int32 → zM → Prop) (hp : ∀ gg', mCo g (zCh h n a ty s sz c f0 v0) a gg gg' → post (zCh h n a ty s sz c f0 v0).1 gg') : wpMod_chosen ty (nI a) gg post := by
  have hnc := hB.1.1
  unfold zCh at hp
  rw [if_neg hn1] at hp
  rcases hty.resolve_left hn1 with rfl | ⟨t, t1, t2, rfl⟩
  · rw [if_pos rfl] at hp
    exact m_num hB hl l1 l2 gl hlit hG hsz ha _ hp
  · rw [if_neg (nI_ne0 t1 (by omega)), znc (by omega)] at hp
    exact m_obj hB hG hsz ha t1 t2 hst h0 _ hp
/-! the last statement -/
def zpush (c : Nat → Int32) (sz : Nat) (o f0 v0 f1 v1 : Int32) (i : Nat) : Int32 := if i < 5 * sz then c i else if i = 5 * sz then o else if i = 5 * sz + 1 then f0 else if i = 5 * sz + 2 then v0 else if i = 5 * sz + 3 then f1 else v1
theorem zpush_lo {c : Nat → Int32} {sz i : Nat} {o f0 v0 f1 v1 : Int32} (h : i < 5 * sz) : zpush c sz o f0 v0 f1 v1 i = c i := if_pos h
theorem zpush_op {c : Nat → Int32} {sz : Nat} {o f0 v0 f1 v1 : Int32} : zpush c sz o f0 v0 f1 v1 (5 * sz) = o := by
  unfold zpush
  rw [if_neg (by omega), if_pos rfl]
theorem zpush_f {c : Nat → Int32} {sz a : Nat} {o f0 v0 f1 v1 : Int32} (ha : a < 2) : zpush c sz o f0 v0 f1 v1 (5 * sz + 1 + 2 * a) = if a = 0 then f0 else f1 := by
  unfold zpush
  rcases (show a = 0 ∨ a = 1 by omega) with rfl | rfl
  · rw [if_neg (by omega), if_neg (by omega), if_pos (by omega), if_pos rfl]
  · rw [if_neg (by omega), if_neg (by omega), if_neg (by omega), if_neg (by omega), if_pos (by omega), if_neg (by omega)]
theorem zpush_v {c : Nat → Int32} {sz a : Nat} {o f0 v0 f1 v1 : Int32} (ha : a < 2) : zpush c sz o f0 v0 f1 v1 (5 * sz + 2 + 2 * a) = if a = 0 then v0 else v1 := by
  unfold zpush
  rcases (show a = 0 ∨ a = 1 by omega) with rfl | rfl
  · rw [if_neg (by omega), if_neg (by omega), if_neg (by omega), if_pos (by omega), if_pos rfl]
  · rw [if_neg (by omega), if_neg (by omega), if_neg (by omega), if_neg (by omega), if_neg (by omega), if_neg (by omega)]
theorem z_pushS {o : Nat} {h : zM} {sz : Nat} {op : Int32} (hsz : h o 0 = nI sz) (h9 : sz ≤ 9) (post : Int32 → zM → Prop) (hp : ∀ h', (∀ r, r ≠ o → r ≠ o + 1 → h' r = h r) → h' o 0 = nI (sz + 1) → (∀ i, i < 5 * sz → h' (o + 1) i = h (o + 1) i) → h' (o + 1) (5 * sz) = op → (∀ a, a < 2 → h' (o + 1) (5 * sz + 1 + 2 * a) = -1 ∧ h' (o + 1) (5 * sz + 2 + 2 * a) = 0) → post (nI sz) h') : wpSequence_push o op h post := by
  unfold wpSequence_push
  intro y4 e4
  rw [hsz] at e4
  subst e4
  rw [zn5, znc (by omega)]
  refine ⟨zin_nI (by omega) (by omega), fun h13 e13 => z_setArg (a := 0) (by omega) (by omega) _ _ _ (z_setArg (a := 1) (by omega) (by omega) _ _ _ (fun h37 e37 => ?_))⟩
  have w : zu (zu (zu (zu h13 (o + 1) (5 * sz + 1 + 2 * 0) (-1)) (o + 1) (5 * sz + 2 + 2 * 0) 0) (o + 1) (5 * sz + 1 + 2 * 1) (-1)) (o + 1) (5 * sz + 2 + 2 * 1) 0 o = h o := by
    rw [zuo (by omega), zuo (by omega), zuo (by omega), zuo (by omega), e13, zuo (by omega)]
  rw [w, hsz, zp1] at e37
  refine hp h37 (fun r r1 r2 => ?_) ?_ (fun i hi => ?_) ?_ (fun a ha => ⟨?_, ?_⟩)
  · rw [e37, zuo r1, zuo r2, zuo r2, zuo r2, zuo r2, e13, zuo r2]
  · rw [e37, zux]
  · rw [e37, zuo (by omega), zun (by omega), zun (by omega), zun (by omega), zun (by omega), e13, zun (by omega)]
  · rw [e37, zuo (by omega), zun (by omega), zun (by omega), zun (by omega), zun (by omega), e13, zux]
  · rcases (show a = 0 ∨ a = 1 by omega) with rfl | rfl
    · rw [e37, zuo (by omega), zun (by omega), zun (by omega), zun (by omega), zux]
    · rw [e37, zuo (by omega), zun (by omega), zux]
  · rcases (show a = 0 ∨ a = 1 by omega) with rfl | rfl
    · rw [e37, zuo (by omega), zun (by omega), zun (by omega), zux]
    · rw [e37, zuo (by omega), zux]
theorem z_pushC {n : Nat} {ln : Nat → Nat} {h hh : zM} {s : Int32} {sz : Nat} {c : Nat → Int32} {op f0 v0 f1 v1 : Int32} (hG : zG h hh s sz c) (h9 : sz ≤ 9) (e1 : hh 23 0 = f0) (e2 : hh 24 0 = v0) (e3 : hh 23 1 = f1) (e4 : hh 24 1 = v1) (post : zM → Prop) (hp : ∀ h', zG h h' s (sz + 1) (zpush c sz op f0 v0 f1 v1) → post h') : wpGrower_pushChosen n ln op hh post := by
  obtain ⟨⟨F, L5⟩, G1, G2, G3⟩ := hG
  unfold wpGrower_pushChosen
  refine z_pushS G2 h9 _ (fun h5 k1 k2 k3 k4 k5 => ?_)
  refine zL_rule (fun t => t.1 = nI sz ∧ (∀ r, r ≠ 20 → r ≠ 21 → t.2.2 r = hh r) ∧ t.2.2 20 0 = nI (sz + 1) ∧ (∀ i, i < 5 * sz → t.2.2 21 i = c i) ∧ t.2.2 21 (5 * sz) = op ∧ ∃ a : Nat, a ≤ 2 ∧ t.2.1 = nI a ∧ ∀ a', a' < a → t.2.2 21 (5 * sz + 1 + 2 * a') = hh 23 a' ∧ t.2.2 21 (5 * sz + 2 + 2 * a') = hh 24 a') (fun t => 2 - t.2.1.toNatClampNeg) ?_ (nI sz, 0, h5) ⟨rfl, k1, k2, fun i hi => (k3 i hi).trans (G3 i hi), k4, 0, by omega, rfl, fun a ha => by omega⟩
  rintro ⟨v2, v3, h6⟩ L ⟨x1, f1', f2, f3, f4, a, ha, x2, f5⟩ ih
  dsimp only at x1 x2 f1' f2 f3 f4 f5 ih
  subst x1 x2
  unfold stGrower_pushChosen_11
  dsimp only
  rw [znc (by omega)]
  refine pk_le 2 a (fun q => ?_) (fun q => ?_)
  · have : a = 2 := by omega
    subst this
    refine hp h6 ⟨⟨fun r r1 r2 r3 r4 r5 r6 => (f1' r r3 r4).trans (F r r1 r2 r3 r4 r5 r6), by rw [f1' 19 (by decide) (by decide)]; exact L5⟩, by rw [f1' 19 (by decide) (by decide)]; exact G1, f2, fun i hi => ?_⟩
    unfold zpush
    by_cases i1 : i < 5 * sz
    · rw [if_pos i1]; exact f3 i i1
    · rw [if_neg i1]
      obtain ⟨g0, g1⟩ := f5 0 (by decide)
      obtain ⟨g2, g3⟩ := f5 1 (by decide)
      rcases (show i = 5 * sz ∨ i = 5 * sz + 1 ∨ i = 5 * sz + 2 ∨ i = 5 * sz + 3 ∨ i = 5 * sz + 4 by omega) with rfl | rfl | rfl | rfl | rfl
      · rw [if_pos rfl]; exact f4
      · rw [if_neg (by omega), if_pos rfl, ← e1]; exact g0
      · rw [if_neg (by omega), if_neg (by omega), if_pos rfl, ← e2]; exact g1
      · rw [if_neg (by omega), if_neg (by omega), if_neg (by omega), if_pos rfl, ← e3]; exact g2
      · rw [if_neg (by omega), if_neg (by omega), if_neg (by omega), if_neg (by omega), ← e4]; exact g3
  · have ia : vp_in (nI a) 2 := zin_nI (by omega) (by omega)
    rw [f1' 23 (by decide) (by decide), f1' 24 (by decide) (by decide)]
    refine ⟨ia, ia, z_setArg (by omega) (by omega) _ _ _ ?_⟩
    rw [zp1]
    refine ih _ ⟨rfl, fun r r1 r2 => ?_, ?_, fun i hi => ?_, ?_, a + 1, by omega, rfl, fun a' ha' => ⟨?_, ?_⟩⟩ ?_
    · show zu (zu h6 21 _ _) 21 _ _ r = _
      rw [zuo r2, zuo r2]; exact f1' r r1 r2
    · show zu (zu h6 21 (5 * sz + 1 + 2 * a) (hh 23 a)) 21 (5 * sz + 2 + 2 * a) (hh 24 a) 20 0 = _
      rw [zuo (by decide), zuo (by decide)]; exact f2
    · show zu (zu h6 21 _ _) 21 _ _ 21 i = _
      rw [zun (by omega), zun (by omega)]; exact f3 i hi
    · show zu (zu h6 21 _ _) 21 _ _ 21 (5 * sz) = _
      rw [zun (by omega), zun (by omega)]; exact f4
    · show zu (zu h6 21 _ _) 21 _ _ 21 (5 * sz + 1 + 2 * a') = _
      by_cases w : a' = a
      · subst w; rw [zun (by omega), zux]
      · rw [zun (by omega), zun (by omega)]; exact (f5 a' (by omega)).1
    · show zu (zu h6 21 _ _) 21 _ _ 21 (5 * sz + 2 + 2 * a') = _
      by_cases w : a' = a
      · subst w; rw [zux]
      · rw [zun (by omega), zun (by omega)]; exact (f5 a' (by omega)).2
    · dsimp only
      rw [znc (by omega), znc (by omega)]
      omega
