/-! shortening, the first part -/
theorem zd2 {j : Nat} (h : j < 2147483648) : nI j / 2 = nI (j / 2) := by rw [show (2 : Int32) = nI 2 from rfl]; exact pk_div h (by omega) (by omega)
theorem zm2 {j : Nat} (h : j < 2147483648) : nI j - nI j / 2 * 2 = nI (j % 2) := by rw [show (2 : Int32) = nI 2 from rfl]; exact pk_rem h (by omega) (by omega)
noncomputable def zfs (h : zM) (c : Nat → Int32) (t : Nat) : Nat → Nat → Nat
  | 0, v => v
  | m + 1, v => if zdec (zIs (h 2) (Int32.toNatClampNeg (h 8 (Int32.toNatClampNeg (c (5 * v))))) t) = true then v else zfs h c t m (v + 1)
theorem zfs_le {h : zM} {c : Nat → Int32} {t : Nat} : ∀ m v, v ≤ zfs h c t m v ∧ zfs h c t m v ≤ v + m
  | 0, v => ⟨Nat.le_refl _, Nat.le_refl _⟩
  | m + 1, v => by
    show v ≤ (if _ then _ else _) ∧ (if _ then _ else _) ≤ _
    split
    · exact ⟨Nat.le_refl _, by omega⟩
    · obtain ⟨a, b⟩ := zfs_le (h := h) (c := c) (t := t) m (v + 1)
      exact ⟨by omega, by omega⟩
theorem zfs_is {h : zM} {c : Nat → Int32} {t : Nat} : ∀ m v, zfs h c t m v < v + m → zIs (h 2) (Int32.toNatClampNeg (h 8 (Int32.toNatClampNeg (c (5 * zfs h c t m v))))) t
  | 0, v, hl => absurd hl (Nat.lt_irrefl _)
  | m + 1, v, hl => by
    have e : zfs h c t (m + 1) v = if zdec (zIs (h 2) (Int32.toNatClampNeg (h 8 (Int32.toNatClampNeg (c (5 * v))))) t) = true then v else zfs h c t m (v + 1) := rfl
    by_cases q : zIs (h 2) (Int32.toNatClampNeg (h 8 (Int32.toNatClampNeg (c (5 * v))))) t
    · rw [zdec_t q, if_pos rfl] at e
      rw [e]; exact q
    · rw [zdec_f q, if_neg (by decide)] at e
      rw [e] at hl ⊢
      exact zfs_is m (v + 1) (by omega)
def zTa (h : zM) (c : Nat → Int32) (k a : Nat) : Int32 := if a = 0 then h 6 (Int32.toNatClampNeg (c (5 * k))) else h 7 (Int32.toNatClampNeg (c (5 * k)))
noncomputable def zL1 (h : zM) (out det : Int32) (k a : Nat) (S : zSS) : zSS := if S.2 (5 * k + 1 + 2 * a) = 0 then (if zTa h S.2 k a = 0 then zKeep h out det S (S.1, zset S.2 k a 1 0) else if zfs h S.2 (Int32.toNatClampNeg (zTa h S.2 k a)) (Int32.toNatClampNeg (S.2 (5 * k + 2 + 2 * a))) 0 < Int32.toNatClampNeg (S.2 (5 * k + 2 + 2 * a)) then zKeep h out det S (S.1, zset S.2 k a 0 (nI (zfs h S.2 (Int32.toNatClampNeg (zTa h S.2 k a)) (Int32.toNatClampNeg (S.2 (5 * k + 2 + 2 * a))) 0))) else S) else S
noncomputable def zL3 (h : zM) (out det : Int32) (k a : Nat) (S : zSS) : zSS := if S.2 (5 * k + 1 + 2 * a) = 1 ∧ S.2 (5 * k + 2 + 2 * a) ≠ 0 then zKeep h out det S (S.1, zset S.2 k a 1 0) else S
def zIt (F : Nat → Nat → zSS → zSS) : Nat → Nat → zSS → zSS
  | 0, _, S => S
  | m + 1, j, S => zIt F m (j + 1) (F (j / 2) (j % 2) S)
theorem zKeep_1 {h : zM} {out det : Int32} {S S' : zSS} (he : S'.1 = S.1) : (zKeep h out det S S').1 = S.1 := by
  unfold zKeep
  split
  · exact he
  · rfl
theorem zKeep_s {h : zM} {out det : Int32} {S : zSS} : zKeep h out det S S = S := by
  unfold zKeep
  split <;> rfl
/-- what a variable stands for -/
theorem zVar_ty {h g : zM} {nc no k a o : Nat} {c : Nat → Int32} (hC : zCat h g nc no) (hk : k ≤ 10) (ha : a < 2) (hst : ∀ k', k' < k → zStOk h c no k') (ho : o < no) (hok : zArgOk h c k a (if a = 0 then h 6 o else h 7 o)) (hf : c (5 * k + 1 + 2 * a) = 0) : (if a = 0 then h 6 o else h 7 o) = 0 ∨ ∃ t v o' : Nat, 1 ≤ t ∧ t ≤ nc ∧ (if a = 0 then h 6 o else h 7 o) = nI t ∧ v < k ∧ c (5 * k + 2 + 2 * a) = nI v ∧ o' < no ∧ c (5 * v) = nI o' ∧ zIs (h 2) (Int32.toNatClampNeg (h 8 o')) t := by
  have hno := hC.2.1
  have hnc := hC.1
  rcases hok with ⟨-, z, -⟩ | ⟨z, -⟩ | ⟨tt, t1, t2, et, ⟨z, -⟩ | ⟨z, v, o', tg, hv, e, ho', eo, htg, erg, hi⟩⟩
  · rw [hf] at z; exact absurd z (by decide)
  · exact Or.inl z
  · rw [hf] at z; exact absurd z (by decide)
  · right
    have hty := zOp_typ hC ho
    have tnc : tt ≤ nc := by
      have : zTyp nc (if a = 0 then h 6 o else h 7 o) := by
        split
        · exact hty.1
        · exact hty.2
      rw [et] at this
      rcases this with w | w | ⟨t', w1, w2, w3⟩
      · exact absurd w (znm1 (by omega))
      · exact absurd w (nI_ne0 t1 (by omega))
      · have : tt = t' := (nI_eq (by omega) (by omega)).mp w3
        omega
    obtain ⟨o2, ho2, eo2, -⟩ := hst v hv
    have : o' = o2 := (nI_eq (by omega) (by omega)).mp (eo.symm.trans eo2)
    subst this
    exact ⟨tt, v, o', t1, tnc, et, hv, e, ho2, eo, by rw [erg, znc (by omega)]; exact hi⟩
theorem zL1_ok {h g : zM} {nc no : Nat} {ty out det : Int32} {S : zSS} {k a : Nat} (hC : zCat h g nc no) (hV : zVs h no ty S) (hk : k < S.1) (ha : a < 2) : zVs h no ty (zL1 h out det k a S) ∧ (zL1 h out det k a S).1 = S.1 := by
  have hno := hC.2.1
  have hnc := hC.1
  obtain ⟨v1, v2, v3, v4⟩ := id hV
  obtain ⟨o, ho, eo, ok0, ok1⟩ := v3 k hk
  have okA : zArgOk h S.2 k a (if a = 0 then h 6 o else h 7 o) := by
    rcases (show a = 0 ∨ a = 1 by omega) with rfl | rfl
    · exact ok0
    · exact ok1
  have eT : zTa h S.2 k a = (if a = 0 then h 6 o else h 7 o) := by
    unfold zTa
    rw [eo, znc (by omega)]
  unfold zL1
  by_cases q : S.2 (5 * k + 1 + 2 * a) = 0
  · rw [if_pos q, eT]
    rcases zVar_ty hC (by omega) ha (fun k' hk' => v3 k' (by omega)) ho okA q with z | ⟨t, v, o', t1, t2, et, hv, ev, ho', eo', hi⟩
    · rw [if_pos z]
      refine ⟨zKeep_ok hV (zset_ok hV hk ha eo ho hno (fun C x1 x2 x3 => ?_)), zKeep_1 rfl⟩
      rw [z]
      exact Or.inr (Or.inl ⟨rfl, Or.inl x2⟩)
    · rw [et, if_neg (nI_ne0 t1 (by omega)), znc (by omega), ev, znc (by omega)]
      by_cases w : zfs h S.2 t v 0 < v
      · rw [if_pos w]
        refine ⟨zKeep_ok hV (zset_ok hV hk ha eo ho hno (fun C x1 x2 x3 => ?_)), zKeep_1 rfl⟩
        obtain ⟨o2, ho2, eo2, -⟩ := v3 (zfs h S.2 t v 0) (by omega)
        have hz := zfs_is (h := h) (c := S.2) (t := t) v 0 (by omega)
        obtain ⟨ty2, y1, y2⟩ := zOp_ty hC ho2
        rw [eo2, znc (by omega), y2, znc (by omega)] at hz
        rw [et]
        exact Or.inr (Or.inr ⟨t, t1, by omega, rfl, Or.inr ⟨x2, zfs h S.2 t v 0, o2, ty2, by omega, x3, by omega, by rw [x1]; exact eo2, by omega, y2, hz⟩⟩)
      · rw [if_neg w]
        exact ⟨hV, rfl⟩
  · rw [if_neg q]
    exact ⟨hV, rfl⟩
theorem zL3_ok {h g : zM} {nc no : Nat} {ty out det : Int32} {S : zSS} {k a : Nat} (hC : zCat h g nc no) (hV : zVs h no ty S) (hk : k < S.1) (ha : a < 2) : zVs h no ty (zL3 h out det k a S) ∧ (zL3 h out det k a S).1 = S.1 := by
  have hno := hC.2.1
  obtain ⟨v1, v2, v3, v4⟩ := id hV
  obtain ⟨o, ho, eo, ok0, ok1⟩ := v3 k hk
  unfold zL3
  by_cases q : S.2 (5 * k + 1 + 2 * a) = 1 ∧ S.2 (5 * k + 2 + 2 * a) ≠ 0
  · rw [if_pos q]
    refine ⟨zKeep_ok hV (zset_ok hV hk ha eo ho hno (fun C x1 x2 x3 => ?_)), zKeep_1 rfl⟩
    have okA : zArgOk h S.2 k a (if a = 0 then h 6 o else h 7 o) := by
      rcases (show a = 0 ∨ a = 1 by omega) with rfl | rfl
      · exact ok0
      · exact ok1
    rcases okA with ⟨-, z, -⟩ | ⟨z, -⟩ | ⟨tt, -, -, -, ⟨z, -⟩ | ⟨z, -⟩⟩
    · rw [q.1] at z; exact absurd z (by decide)
    · rw [z]; exact Or.inr (Or.inl ⟨rfl, Or.inl x2⟩)
    · rw [q.1] at z; exact absurd z (by decide)
    · rw [q.1] at z; exact absurd z (by decide)
  · rw [if_neg q]
    exact ⟨hV, rfl⟩
theorem zIt_ok {h : zM} {no : Nat} {ty : Int32} {F : Nat → Nat → zSS → zSS} (hF : ∀ k a S, zVs h no ty S → k < S.1 → a < 2 → zVs h no ty (F k a S) ∧ (F k a S).1 = S.1) : ∀ (m j : Nat) (S : zSS), zVs h no ty S → j + m ≤ 2 * S.1 → zVs h no ty (zIt F m j S) ∧ (zIt F m j S).1 = S.1
  | 0, j, S, hV, _ => ⟨hV, rfl⟩
  | m + 1, j, S, hV, hm => by
    obtain ⟨a, b⟩ := hF (j / 2) (j % 2) S hV (by omega) (by omega)
    obtain ⟨c, d⟩ := zIt_ok hF m (j + 1) _ a (by rw [b]; omega)
    exact ⟨c, d.trans b⟩
theorem z_low {n : Nat} {ln : Nat → Nat} {h g hh : zM} {nc no e : Nat} {ty : Int32} {S : zSS} {k a : Nat} (hC : zCat h g nc no) (hH : zHs h hh e S) (hV : zVs h no ty S) (hk : k < S.1) (ha : a < 2) (hf : S.2 (5 * k + 1 + 2 * a) = 0) (post : Int32 → zM → Prop) (hp1 : ∀ h' S', zHs h h' e S → h' 26 0 = nI S'.1 → (∀ i, i < 5 * S'.1 → h' 27 i = S'.2 i) → zVs h no ty S' → (∀ out det, zL1 h out det k a S = zKeep h out det S S') → post 1 h') (hp0 : ∀ h', zHs h h' e S → (∀ out det, zL1 h out det k a S = S) → post 0 h') : wpShortener_lowerInTrial n ln (34 + 4 * e + 1) (nI k) (nI a) hh post := by
  have hno := hC.2.1
  have hnc := hC.1
  obtain ⟨v1, v2, v3, v4⟩ := id hV
  obtain ⟨hF, H1, H2⟩ := id hH
  obtain ⟨o, ho, eo, ok0, ok1⟩ := v3 k hk
  have okA : zArgOk h S.2 k a (if a = 0 then h 6 o else h 7 o) := by
    rcases (show a = 0 ∨ a = 1 by omega) with rfl | rfl
    · exact ok0
    · exact ok1
  have eT : zTa h S.2 k a = (if a = 0 then h 6 o else h 7 o) := by
    unfold zTa
    rw [eo, znc (by omega)]
  unfold wpShortener_lowerInTrial
  refine z_op (by omega) _ ?_
  rw [H2 (5 * k) (by omega), eo]
  refine z_argType (by omega) ha _ ?_
  rw [hF 6 (by omega), hF 7 (by omega)]
  refine z_copy (o := 26) (o1 := 34 + 4 * e + 1) (m := S.1) (by omega) H1 v2 _ (fun h20 k1 k2 k3 => ?_)
  have H20 : zHs h h20 e S := ⟨fun r hr => (k1 r (by omega) (by omega)).trans (hF r hr), by rw [k1 _ (by omega) (by omega)]; exact H1, fun i hi => by rw [k1 _ (by omega) (by omega)]; exact H2 i hi⟩
  have setd : ∀ (f v : Int32), (∀ out det, zL1 h out det k a S = zKeep h out det S (S.1, zset S.2 k a f v)) → zVs h no ty (S.1, zset S.2 k a f v) → post 1 (zu (zu h20 (26 + 1) (5 * k + 1 + 2 * a) f) (26 + 1) (5 * k + 2 + 2 * a) v) := by
    intro f v eq hV'
    refine hp1 _ (S.1, zset S.2 k a f v) ⟨fun r hr => ?_, ?_, fun i hi => ?_⟩ ?_ (fun i hi => ?_) hV' eq
    · rw [zuo (by omega), zuo (by omega)]; exact H20.1 r hr
    · rw [zuo (by omega), zuo (by omega)]; exact H20.2.1
    · rw [zuo (by omega), zuo (by omega)]; exact H20.2.2 i hi
    · rw [zuo (by omega), zuo (by omega)]; exact k2
    · show zu (zu h20 27 _ _) 27 _ _ 27 i = zset S.2 k a f v i
      unfold zset
      by_cases i1 : i = 5 * k + 2 + 2 * a
      · subst i1; rw [zux, if_pos rfl]
      · rw [zun (Or.inr i1), if_neg i1]
        by_cases i2 : i = 5 * k + 1 + 2 * a
        · subst i2; rw [zux, if_pos rfl]
        · rw [zun (Or.inr i2), if_neg i2, k3 i hi]; exact H2 i hi
  have V1 := fun out det => (zL1_ok (out := out) (det := det) hC hV hk ha).1
  rcases zVar_ty hC (by omega) ha (fun k' hk' => v3 k' (by omega)) ho okA hf with z | ⟨t, v, o', t1, t2, et, hv, ev, ho', eo', hi⟩
  · rw [z]
    refine ⟨fun w => absurd rfl w, fun _ => z_setArg (by omega) ha _ _ _ (setd 1 0 (fun out det => ?_) ?_)⟩
    · unfold zL1
      rw [if_pos hf, eT, if_pos z]
    · refine zset_ok hV hk ha eo ho hno (fun C x1 x2 x3 => ?_)
      rw [z]
      exact Or.inr (Or.inl ⟨rfl, Or.inl x2⟩)
  · rw [et]
    have eL : ∀ out det, zL1 h out det k a S = if zfs h S.2 t v 0 < v then zKeep h out det S (S.1, zset S.2 k a 0 (nI (zfs h S.2 t v 0))) else S := by
      intro out det
      unfold zL1
      rw [if_pos hf, eT, et, if_neg (nI_ne0 t1 (by omega)), znc (by omega), ev, znc (by omega)]
    refine ⟨fun _ => z_content (by omega) ha _ ?_, fun w => absurd w (nI_ne0 t1 (by omega))⟩
    rw [H20.2.2 _ (by omega), ev]
    refine zL_rule (fun s => s.1 = nI k ∧ s.2.1 = nI a ∧ s.2.2.1 = nI t ∧ s.2.2.2.1 = nI v ∧ s.2.2.2.2.2 = h20 ∧ ∃ w : Nat, w ≤ v ∧ s.2.2.2.2.1 = nI w ∧ zfs h S.2 t v 0 = zfs h S.2 t (v - w) w) (fun s => v - s.2.2.2.2.1.toNatClampNeg) ?_ (nI k, nI a, nI t, nI v, 0, h20) ⟨rfl, rfl, rfl, rfl, rfl, 0, by omega, rfl, rfl⟩
    rintro ⟨w2, w3, w4, w5, w6, h6⟩ L ⟨x2, x3, x4, x5, xh, w, hw, x6, ez⟩ ih
    dsimp only at x2 x3 x4 x5 xh x6 ih
    subst x2 x3 x4 x5 xh x6
    unfold stShortener_lowerInTrial_52
    dsimp only
    refine pk_le v w (fun q => hp0 h6 H20 (fun out det => ?_)) (fun q => z_op (by omega) _ ?_)
    · have : w = v := by omega
      subst this
      rw [Nat.sub_self] at ez
      have ez : zfs h S.2 t w 0 = w := ez
      rw [eL, ez, if_neg (Nat.lt_irrefl _)]
    · obtain ⟨m, em⟩ : ∃ m, v - w = m + 1 := ⟨v - w - 1, by omega⟩
      rw [em] at ez
      have es : zfs h S.2 t (m + 1) w = if zdec (zIs (h 2) (Int32.toNatClampNeg (h 8 (Int32.toNatClampNeg (S.2 (5 * w))))) t) = true then w else zfs h S.2 t m (w + 1) := rfl
      rw [es] at ez
      obtain ⟨o2, ho2, eo2, -⟩ := v3 w (by omega)
      obtain ⟨ty2, y1, y2⟩ := zOp_ty hC ho2
      rw [eo2, znc (by omega), y2, znc (by omega)] at ez
      rw [H20.2.2 _ (by omega), eo2, znc (by omega), H20.1 8 (by omega), y2]
      have hpar : zPar h6 nc := fun i a b => by rw [H20.1 2 (by omega)]; exact (hC.2.2.2.2.2.2.1 i a b).2.2.2.1
      refine ⟨zin_nI (by omega) (by omega), z_is hpar hnc ty2 t y1 t2 _ (fun z => ⟨fun _ => ?_, fun u => absurd rfl u⟩) (fun z => ⟨fun u => absurd u (by decide), fun _ => z_setArg (by omega) ha _ _ _ ?_⟩)⟩
      · rw [H20.1 2 (by omega)] at z
        rw [zdec_f z, if_neg (by decide)] at ez
        rw [zp1]
        refine ih _ ⟨rfl, rfl, rfl, rfl, rfl, w + 1, by omega, rfl, ?_⟩ ?_
        · rw [ez, show v - (w + 1) = m by omega]
        · dsimp only
          rw [znc (by omega), znc (by omega)]
          omega
      · rw [H20.1 2 (by omega)] at z
        rw [zdec_t z, if_pos rfl] at ez
        refine setd 0 (nI w) (fun out det => ?_) ?_
        · rw [eL, ez, if_pos q]
        · refine zset_ok hV hk ha eo ho hno (fun C x1 x2 x3 => ?_)
          rw [et]
          exact Or.inr (Or.inr ⟨t, t1, by omega, rfl, Or.inr ⟨x2, w, o2, ty2, by omega, x3, by omega, by rw [x1]; exact eo2, by omega, y2, z⟩⟩)
