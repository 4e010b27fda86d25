theorem zIt_s {F : Nat → Nat → zSS → zSS} {m j k a : Nat} {S : zSS} (hj : j = 2 * k + a) (ha : a < 2) : zIt F (m + 1) j S = zIt F m (j + 1) (F k a S) := by
  show zIt F m (j + 1) (F (j / 2) (j % 2) S) = _
  rw [show j / 2 = k by omega, show j % 2 = a by omega]
theorem z_ph1 {n : Nat} {ln : Nat → Nat} {h g hh : zM} {nc no e : Nat} {ty : Int32} {S : zSS} (hC : zCat h g nc no) (hH : zHs h hh e S) (hV : zVs h no ty S) (post : zM → Prop) (hp : ∀ h', zHs h h' e (zIt (zL1 h (h (34 + 4 * e) 1) (h (34 + 4 * e) 2)) (2 * S.1) 0 S) → post h') : wpShortener_lowerVariables n ln e hh post := by
  have s10 := hV.2.1
  unfold wpShortener_lowerVariables
  refine zL_rule (fun s => ∃ (k : Nat) (S' : zSS), k ≤ S.1 ∧ s.1 = nI k ∧ zHs h s.2 e S' ∧ zVs h no ty S' ∧ S'.1 = S.1 ∧ zIt (zL1 h (h (34 + 4 * e) 1) (h (34 + 4 * e) 2)) (2 * S.1 - 2 * k) (2 * k) S' = zIt (zL1 h (h (34 + 4 * e) 1) (h (34 + 4 * e) 2)) (2 * S.1) 0 S) (fun s => S.1 - s.1.toNatClampNeg) ?_ (0, hh) ⟨0, S, by omega, rfl, hH, hV, rfl, rfl⟩
  rintro ⟨v3, h3⟩ L ⟨k, S', hk, e3, H', V', es, ez⟩ ih
  dsimp only at e3 H' ih
  subst e3
  unfold stShortener_lowerVariables_7
  dsimp only
  rw [H'.2.1, es]
  refine pk_le S.1 k (fun q => hp h3 ?_) (fun q => ?_)
  · rw [show 2 * S.1 - 2 * k = 0 by omega] at ez
    have ez : S' = _ := ez
    rw [← ez]; exact H'
  · refine zL_rule (fun s => s.1 = nI k ∧ ∃ (a : Nat) (S' : zSS), a ≤ 2 ∧ s.2.1 = nI a ∧ zHs h s.2.2 e S' ∧ zVs h no ty S' ∧ S'.1 = S.1 ∧ zIt (zL1 h (h (34 + 4 * e) 1) (h (34 + 4 * e) 2)) (2 * S.1 - (2 * k + a)) (2 * k + a) S' = zIt (zL1 h (h (34 + 4 * e) 1) (h (34 + 4 * e) 2)) (2 * S.1) 0 S) (fun s => 2 - s.2.1.toNatClampNeg) ?_ (nI k, 0, h3) ⟨rfl, 0, S', by omega, rfl, H', V', es, ez⟩
    rintro ⟨w3, w4, h4⟩ L4 ⟨x3, a, S2, ha, x4, H2, V2, es2, ez2⟩ ih4
    dsimp only at x3 x4 H2 ih4
    subst x3 x4
    unfold stShortener_lowerVariables_18
    dsimp only
    refine pk_le 2 a (fun q2 => ?_) (fun q2 => ?_)
    · have : a = 2 := by omega
      subst this
      rw [zp1]
      refine ih _ ⟨k + 1, S2, by omega, rfl, H2, V2, es2, ez2⟩ ?_
      dsimp only
      rw [znc (by omega), znc (by omega)]
      omega
    · obtain ⟨m, em⟩ : ∃ m, 2 * S.1 - (2 * k + a) = m + 1 := ⟨2 * S.1 - (2 * k + a) - 1, by omega⟩
      rw [em, zIt_s rfl q2] at ez2
      obtain ⟨V3, es3⟩ := zL1_ok (out := h (34 + 4 * e) 1) (det := h (34 + 4 * e) 2) hC V2 (show k < S2.1 by omega) q2
      have nxt : ∀ h', zHs h h' e (zL1 h (h (34 + 4 * e) 1) (h (34 + 4 * e) 2) k a S2) → wbShortener_lowerVariables_50 n ln e post L L4 (nI k) (nI a) h' := by
        intro h' H3
        unfold wbShortener_lowerVariables_50
        rw [zp1]
        refine ih4 _ ⟨rfl, a + 1, _, by omega, rfl, H3, V3, es3.trans es2, ?_⟩ ?_
        · rw [show 2 * S.1 - (2 * k + (a + 1)) = m by omega]; exact ez2
        · dsimp only
          rw [znc (by omega), znc (by omega)]
          omega
      refine z_isVar (by omega) q2 _ (fun z => ⟨fun _ => nxt h4 ?_, fun w => absurd rfl w⟩) (fun z => ⟨fun w => absurd w (by decide), fun _ => ?_⟩)
      · rw [H2.2.2 _ (by omega)] at z
        unfold zL1
        rw [if_neg z]; exact H2
      · rw [H2.2.2 _ (by omega)] at z
        refine z_low hC H2 V2 (by omega) q2 z _ (fun h' S3 y1 y2 y3 y4 y5 => ⟨fun w => absurd w (by decide), fun _ => ?_⟩) (fun h' y1 y2 => ⟨fun _ => nxt h' (by rw [y2]; exact y1), fun w => absurd rfl w⟩)
        exact z_keep hC y1 y2 y3 y4 _ (fun h'' y6 => nxt h'' (by rw [y5]; exact y6))
theorem z_ph3 {n : Nat} {ln : Nat → Nat} {h g hh : zM} {nc no e : Nat} {ty : Int32} {S : zSS} (hC : zCat h g nc no) (hH : zHs h hh e S) (hV : zVs h no ty S) (post : zM → Prop) (hp : ∀ h', zHs h h' e (zIt (zL3 h (h (34 + 4 * e) 1) (h (34 + 4 * e) 2)) (2 * S.1) 0 S) → post h') : wpShortener_zeroLiterals n ln e hh post := by
  have hno := hC.2.1
  have s10 := hV.2.1
  unfold wpShortener_zeroLiterals
  refine zL_rule (fun s => ∃ (k : Nat) (S' : zSS), k ≤ S.1 ∧ s.1 = nI k ∧ zHs h s.2 e S' ∧ zVs h no ty S' ∧ S'.1 = S.1 ∧ zIt (zL3 h (h (34 + 4 * e) 1) (h (34 + 4 * e) 2)) (2 * S.1 - 2 * k) (2 * k) S' = zIt (zL3 h (h (34 + 4 * e) 1) (h (34 + 4 * e) 2)) (2 * S.1) 0 S) (fun s => S.1 - s.1.toNatClampNeg) ?_ (0, hh) ⟨0, S, by omega, rfl, hH, hV, rfl, rfl⟩
  rintro ⟨v3, h3⟩ L ⟨k, S', hk, e3, H', V', es, ez⟩ ih
  dsimp only at e3 H' ih
  subst e3
  unfold stShortener_zeroLiterals_7
  dsimp only
  rw [H'.2.1, es]
  refine pk_le S.1 k (fun q => hp h3 ?_) (fun q => ?_)
  · rw [show 2 * S.1 - 2 * k = 0 by omega] at ez
    have ez : S' = _ := ez
    rw [← ez]; exact H'
  · refine zL_rule (fun s => s.1 = nI k ∧ ∃ (a : Nat) (S' : zSS), a ≤ 2 ∧ s.2.1 = nI a ∧ zHs h s.2.2 e S' ∧ zVs h no ty S' ∧ S'.1 = S.1 ∧ zIt (zL3 h (h (34 + 4 * e) 1) (h (34 + 4 * e) 2)) (2 * S.1 - (2 * k + a)) (2 * k + a) S' = zIt (zL3 h (h (34 + 4 * e) 1) (h (34 + 4 * e) 2)) (2 * S.1) 0 S) (fun s => 2 - s.2.1.toNatClampNeg) ?_ (nI k, 0, h3) ⟨rfl, 0, S', by omega, rfl, H', V', es, ez⟩
    rintro ⟨w3, w4, h4⟩ L4 ⟨x3, a, S2, ha, x4, H2, V2, es2, ez2⟩ ih4
    dsimp only at x3 x4 H2 ih4
    subst x3 x4
    unfold stShortener_zeroLiterals_18
    dsimp only
    refine pk_le 2 a (fun q2 => ?_) (fun q2 => ?_)
    · have : a = 2 := by omega
      subst this
      rw [zp1]
      refine ih _ ⟨k + 1, S2, by omega, rfl, H2, V2, es2, ez2⟩ ?_
      dsimp only
      rw [znc (by omega), znc (by omega)]
      omega
    · obtain ⟨m, em⟩ : ∃ m, 2 * S.1 - (2 * k + a) = m + 1 := ⟨2 * S.1 - (2 * k + a) - 1, by omega⟩
      rw [em, zIt_s rfl q2] at ez2
      obtain ⟨V3, es3⟩ := zL3_ok (out := h (34 + 4 * e) 1) (det := h (34 + 4 * e) 2) hC V2 (show k < S2.1 by omega) q2
      have nxt : ∀ h', zHs h h' e (zL3 h (h (34 + 4 * e) 1) (h (34 + 4 * e) 2) k a S2) → wbShortener_zeroLiterals_70 n ln e post L L4 (nI k) (nI a) h' := by
        intro h' H3
        unfold wbShortener_zeroLiterals_70
        rw [zp1]
        refine ih4 _ ⟨rfl, a + 1, _, by omega, rfl, H3, V3, es3.trans es2, ?_⟩ ?_
        · rw [show 2 * S.1 - (2 * k + (a + 1)) = m by omega]; exact ez2
        · dsimp only
          rw [znc (by omega), znc (by omega)]
          omega
      have skip : ¬ (S2.2 (5 * k + 1 + 2 * a) = 1 ∧ S2.2 (5 * k + 2 + 2 * a) ≠ 0) → wbShortener_zeroLiterals_70 n ln e post L L4 (nI k) (nI a) h4 := by
        intro z
        refine nxt h4 ?_
        unfold zL3
        rw [if_neg z]; exact H2
      refine z_form (by omega) q2 _ ?_
      rw [H2.2.2 _ (by omega)]
      refine ⟨fun z => skip (fun w => z w.1), fun z => z_content (by omega) q2 _ ?_⟩
      rw [H2.2.2 _ (by omega)]
      refine ⟨fun z2 => skip (fun w => w.2 z2), fun z2 => ?_⟩
      obtain ⟨f1, f2, f3⟩ := id H2
      refine z_copy (o := 26) (o1 := 34 + 4 * e + 1) (m := S2.1) (by omega) f2 V2.2.1 _ (fun h20 k1 k2 k3 => z_setArg (by omega) q2 _ _ _ ?_)
      have eL : zL3 h (h (34 + 4 * e) 1) (h (34 + 4 * e) 2) k a S2 = zKeep h (h (34 + 4 * e) 1) (h (34 + 4 * e) 2) S2 (S2.1, zset S2.2 k a 1 0) := by
        unfold zL3
        rw [if_pos ⟨z, z2⟩]
      obtain ⟨o, ho, eo, ok0, ok1⟩ := V2.2.2.1 k (by omega)
      have okA : zArgOk h S2.2 k a (if a = 0 then h 6 o else h 7 o) := by
        rcases (show a = 0 ∨ a = 1 by omega) with rfl | rfl
        · exact ok0
        · exact ok1
      have VV : zVs h no ty (S2.1, zset S2.2 k a 1 0) := by
        refine zset_ok V2 (by omega) q2 eo ho hno (fun C x1 x2 x3 => ?_)
        rcases okA with ⟨-, y, -⟩ | ⟨y, -⟩ | ⟨tt, -, -, -, ⟨y, -⟩ | ⟨y, -⟩⟩
        · rw [z] at y; exact absurd y (by decide)
        · rw [y]; exact Or.inr (Or.inl ⟨rfl, Or.inl x2⟩)
        · rw [z] at y; exact absurd y (by decide)
        · rw [z] at y; exact absurd y (by decide)
      refine z_keep (S := S2) (S' := (S2.1, zset S2.2 k a 1 0)) hC ⟨fun r hr => ?_, ?_, fun i hi => ?_⟩ ?_ (fun i hi => ?_) VV _ (fun h'' y6 => nxt h'' (by rw [eL]; exact y6))
      · rw [zuo (by omega), zuo (by omega), k1 r (by omega) (by omega)]; exact f1 r hr
      · rw [zuo (by omega), zuo (by omega), k1 _ (by omega) (by omega)]; exact f2
      · rw [zuo (by omega), zuo (by omega), k1 _ (by omega) (by omega)]; exact f3 i hi
      · rw [zuo (by omega), zuo (by omega)]; exact k2
      · show zu (zu h20 27 _ _) 27 _ _ 27 i = zset S2.2 k a 1 0 i
        have hi : i < 5 * S2.1 := hi
        unfold zset
        by_cases i1 : i = 5 * k + 2 + 2 * a
        · subst i1; rw [zux, if_pos rfl]
        · rw [zun (Or.inr i1), if_neg i1]
          by_cases i2 : i = 5 * k + 1 + 2 * a
          · subst i2; rw [zux, if_pos rfl]
          · rw [zun (Or.inr i2), if_neg i2, k3 i hi]; exact f3 i hi
/-! the model's -/
theorem zm2' {j : Nat} (h : j < 2147483648) : nI j - nI (j / 2) * 2 = nI (j % 2) := by rw [← zd2 h]; exact zm2 h
theorem mSd_fr {g gg g' : zM} {e : Nat} {S : zSS} (hD : mSd g gg e S) (hf : ∀ r s, (r = 0 ∧ s ≠ 11 ∧ s ≠ 25 ∧ (s < 30 ∨ 33 < s)) ∨ (r ≠ 0 ∧ (r < 8 ∨ (10 < r ∧ r < 20) ∨ 24 < r)) → g' r s = gg r s) : mSd g g' e S := by
  refine ⟨mHf_tr hD.1 (mHf_of hf), by rw [hf 13 e (by omega)]; exact hD.2.1, fun k hk => ?_⟩
  rw [show g' 14 = gg 14 from funext fun s => hf 14 s (by omega), show g' 15 = gg 15 from funext fun s => hf 15 s (by omega), show g' 16 = gg 16 from funext fun s => hf 16 s (by omega)]
  exact hD.2.2 k hk
theorem m_simp {h g gg : zM} {nc no e : Nat} {ty : Int32} {S : zSS} {j k a : Nat} (hC : zCat h g nc no) (he : e ≤ 40) (e17 : g 17 e = h (34 + 4 * e) 1) (e18 : g 18 e = h (34 + 4 * e) 2) (hD : mSd g gg e S) (hW : mWk gg S) (hV : zVs h no ty S) (hj : j = 2 * k + a) (hk : k < S.1) (ha : a < 2) (hf : S.2 (5 * k + 1 + 2 * a) = 0) (post : zM → Prop) (hp : ∀ g', mSd g g' e (zL1 h (h (34 + 4 * e) 1) (h (34 + 4 * e) 2) k a S) → mWk g' (zL1 h (h (34 + 4 * e) 1) (h (34 + 4 * e) 2) k a S) → post g') : wpMod_simpler (nI e) (nI j) gg post := by
  have hno := hC.2.1
  have hnc := hC.1
  obtain ⟨v1, v2, v3, v4⟩ := id hV
  obtain ⟨o, ho, eo, ok0, ok1⟩ := v3 k hk
  have okA : zArgOk h S.2 k a (if a = 0 then h 6 o else h 7 o) := by
    rcases (show a = 0 ∨ a = 1 by omega) with rfl | rfl
    · exact ok0
    · exact ok1
  have eT : zTa h S.2 k a = (if a = 0 then h 6 o else h 7 o) := by
    unfold zTa
    rw [eo, znc (by omega)]
  have hC2 : zCat h gg nc no := zCat_g hC (fun r s hr => hD.1.1 r s (by omega))
  obtain ⟨kd, hkd, e5, f4, t0, tar, t1', t2'⟩ := zOp_ar hnc (hC2.2.2.2.2.2.2.2 o ho)
  unfold wpMod_simpler
  rw [zd2 (by omega), zm2' (by omega), show j / 2 = k by omega, show j % 2 = a by omega, znc (by omega), (hW.2 k hk).1, eo]
  refine ⟨zin_nI (by omega) (by omega), m_wants (h := h) (nc := nc) (by omega) (hC2.2.2.2.2.2.2.2 o ho) hnc ha (fun w => ⟨kd, e5, hkd, ?_⟩) _ ?_⟩
  · rcases tar with y | y
    · subst w
      have := t1' y
      rw [if_neg (by decide), this] at okA
      have := (zArg_not okA).1
      rw [hf] at this
      exact absurd this (by decide)
    · exact y
  have fin : ∀ (f v t : Int32), (t = 0 → f = 1) → (t ≠ 0 → f = 0) → (∀ out det, zL1 h out det k a S = zKeep h out det S (S.1, zset S.2 k a f v)) → zVs h no ty (S.1, zset S.2 k a f v) → wbMod_simpler_48 post (nI e) (nI j) t v gg := by
    intro f v t h1 h2 eq hV'
    have go : ∀ f', f' = f → f ≠ -1 → wbMod_simpler_62 post (nI e) (nI j) v (nI j) f' gg := by
      intro f' ef nf
      subst ef
      unfold wbMod_simpler_62
      rw [znc (by omega)]
      have ij : vp_in (nI j) 40 := zin_nI (by omega) (by omega)
      refine ⟨ij, fun h62 e62 => ⟨ij, fun h70 e70 => ?_⟩⟩
      have W70 : mWk h70 (S.1, zset S.2 k a f' v) := by
        rw [e70, e62, hj]
        exact mWk_set hW hk ha nf
      refine m_settle (S := S) (ty := ty) hC he e17 e18 (mSd_fr hD (fun r s hr => ?_)) v2 W70 hV' _ (fun g' y1 y2 => hp g' (by rw [eq]; exact y1) (by rw [eq]; exact y2))
      rw [e70, zuo (by omega), e62, zuo (by omega)]
    unfold wbMod_simpler_48
    refine ⟨fun q => go 0 (h2 q).symm (by rw [h2 q]; decide), fun q => go 1 (h1 q).symm (by rw [h1 q]; decide)⟩
  rcases zVar_ty hC (by omega) ha (fun k' hk' => v3 k' (by omega)) ho okA hf with z | ⟨t, v, o', t1, t2, et, hv, ev, ho', eo', hi⟩
  · rw [z]
    have F : wbMod_simpler_48 post (nI e) (nI j) 0 0 gg := by
      refine fin 1 0 0 (fun _ => rfl) (fun w => absurd rfl w) (fun out det => ?_) (zset_ok hV hk ha eo ho hno (fun C x1 x2 x3 => ?_))
      · unfold zL1
        rw [if_pos hf, eT, if_pos z]
      · rw [z]
        exact Or.inr (Or.inl ⟨rfl, Or.inl x2⟩)
    refine ⟨1, ?_⟩
    refine zl_mk ?_
    unfold stMod_simpler_19
    dsimp only
    exact ⟨fun _ => F, fun w => absurd (by decide) w⟩
  · rw [et]
    have eL : ∀ out det, zL1 h out det k a S = zKeep h out det S (S.1, zset S.2 k a 0 (nI (zfs h S.2 t v 0))) := by
      intro out det
      unfold zL1
      rw [if_pos hf, eT, et, if_neg (nI_ne0 t1 (by omega)), znc (by omega), ev, znc (by omega)]
      by_cases w : zfs h S.2 t v 0 < v
      · rw [if_pos w]
      · rw [if_neg w]
        have : zfs h S.2 t v 0 = v := by have := zfs_le (h := h) (c := S.2) (t := t) v 0; omega
        rw [this]
        have : zset S.2 k a 0 (nI v) = S.2 := by
          funext i
          unfold zset
          by_cases i1 : i = 5 * k + 2 + 2 * a
          · rw [if_pos i1, i1, ev]
          · rw [if_neg i1]
            by_cases i2 : i = 5 * k + 1 + 2 * a
            · rw [if_pos i2, i2, hf]
            · rw [if_neg i2]
        rw [this]
        exact (zKeep_s).symm
    have hle := zfs_le (h := h) (c := S.2) (t := t) v 0
    have VV : zVs h no ty (S.1, zset S.2 k a 0 (nI (zfs h S.2 t v 0))) := by
      refine zset_ok hV hk ha eo ho hno (fun C x1 x2 x3 => ?_)
      obtain ⟨o2, ho2, eo2, -⟩ := v3 (zfs h S.2 t v 0) (by omega)
      obtain ⟨ty2, y1, y2⟩ := zOp_ty hC ho2
      have hz : zIs (h 2) ty2 t := by
        by_cases w : zfs h S.2 t v 0 < v
        · have hz := zfs_is (h := h) (c := S.2) (t := t) v 0 (by omega)
          rw [eo2, znc (by omega), y2, znc (by omega)] at hz
          exact hz
        · have e' : zfs h S.2 t v 0 = v := by omega
          rw [e'] at eo2
          have : o2 = o' := (nI_eq (by omega) (by omega)).mp (eo2.symm.trans eo')
          subst this
          rw [y2, znc (by omega)] at hi
          exact hi
      rw [et]
      exact Or.inr (Or.inr ⟨t, t1, by omega, rfl, Or.inr ⟨x2, zfs h S.2 t v 0, o2, ty2, by omega, x3, by omega, by rw [x1]; exact eo2, by omega, y2, hz⟩⟩)
    refine zL_rule (fun s => s.1 = nI e ∧ s.2.1 = nI j ∧ s.2.2.1 = nI t ∧ s.2.2.2.2 = gg ∧ ∃ w : Nat, w ≤ v ∧ s.2.2.2.1 = nI w ∧ zfs h S.2 t v 0 = zfs h S.2 t (v - w) w) (fun s => v - s.2.2.2.1.toNatClampNeg) ?_ (nI e, nI j, nI t, 0, gg) ⟨rfl, rfl, rfl, rfl, 0, by omega, rfl, rfl⟩
    rintro ⟨w1, w2, w3, w4, g4⟩ L ⟨x1, x2, x3, xg, w, hw, x4, ez⟩ ih
    dsimp only at x1 x2 x3 xg x4 ih
    subst x1 x2 x3 xg x4
    unfold stMod_simpler_19
    dsimp only
    obtain ⟨o2, ho2, eo2, -⟩ := v3 w (by omega)
    obtain ⟨ty2, y1, y2⟩ := zOp_ty hC ho2
    rw [znc (by omega), (hW.2 w (by omega)).1, eo2]
    refine ⟨fun q => absurd q (nI_nle t1 (by omega)), fun _ => ⟨zin_nI (by omega) (by omega), m_gives (by omega) (hC2.2.2.2.2.2.2.2 o2 ho2) hnc _ ?_⟩⟩
    rw [y2]
    have hpar : zPar h nc := fun i a b => (hC.2.2.2.2.2.2.1 i a b).2.2.2.1
    have done : zfs h S.2 t v 0 = w → wbMod_simpler_48 post (nI e) (nI j) (nI t) (nI w) g4 := by
      intro z
      rw [← z]
      exact fin 0 _ (nI t) (fun y => absurd y (nI_ne0 t1 (by omega))) (fun _ => rfl) eL VV
    refine m_is hpar hnc (fun i a b => (hC2.2.2.2.2.2.2.1 i a b).1) ty2 t y1 t2 t1 _ (fun z => ⟨fun u => absurd rfl u, fun _ => ?_⟩) (fun z => ⟨fun _ => done ?_, fun u => absurd u (by decide)⟩)
    · have wv : w < v := by
        rcases Nat.lt_or_ge w v with u | u
        · exact u
        · have : w = v := by omega
          subst this
          have : o2 = o' := (nI_eq (by omega) (by omega)).mp (eo2.symm.trans eo')
          subst this
          rw [y2, znc (by omega)] at hi
          exact absurd hi z
      obtain ⟨m, em⟩ : ∃ m, v - w = m + 1 := ⟨v - w - 1, by omega⟩
      rw [em] at ez
      have es : zfs h S.2 t (m + 1) w = if zdec (zIs (h 2) (Int32.toNatClampNeg (h 8 (Int32.toNatClampNeg (S.2 (5 * w))))) t) = true then w else zfs h S.2 t m (w + 1) := rfl
      rw [es, eo2, znc (by omega), y2, znc (by omega), zdec_f z, if_neg (by decide)] at ez
      rw [zp1]
      refine ih _ ⟨rfl, rfl, rfl, rfl, w + 1, by omega, rfl, ?_⟩ ?_
      · rw [ez, show v - (w + 1) = m by omega]
      · dsimp only
        rw [znc (by omega), znc (by omega)]
        omega
    · rcases Nat.lt_or_ge w v with u | u
      · obtain ⟨m, em⟩ : ∃ m, v - w = m + 1 := ⟨v - w - 1, by omega⟩
        rw [em] at ez
        have es : zfs h S.2 t (m + 1) w = if zdec (zIs (h 2) (Int32.toNatClampNeg (h 8 (Int32.toNatClampNeg (S.2 (5 * w))))) t) = true then w else zfs h S.2 t m (w + 1) := rfl
        rw [es, eo2, znc (by omega), y2, znc (by omega), zdec_t z, if_pos rfl] at ez
        exact ez
      · have : w = v := by omega
        subst this
        rw [Nat.sub_self] at ez
        exact ez
