theorem zOpOk_g {h g g' : zM} {nc o : Nat} (hok : zOpOk h g nc o) (h4 : g' 4 o = g 4 o) (h5 : g' 5 o = g 5 o) (h6 : g' 6 o = g 6 o) : zOpOk h g' nc o := by
  unfold zOpOk at *
  rw [h4, h5, h6]
  exact hok
def mFf (g g' : zM) : Prop := ∀ r s, (r = 0 ∧ s ≠ 33) ∨ (r ≠ 0 ∧ r ≠ 24) → g' r s = g r s
theorem mFf_tr {g g' g'' : zM} (a : mFf g g') (b : mFf g' g'') : mFf g g'' := fun r s hr => (b r s hr).trans (a r s hr)
theorem mFf_Fr {g g' : zM} (a : mFf g g') : mFr g g' := fun r s hr => a r s (by omega)
theorem mFf_u1 {g : zM} {v : Int32} : mFf g (zu g 0 33 v) := fun r s hr => zun (by omega)
theorem mFf_u2 {g : zM} {s : Nat} {v : Int32} : mFf g (zu g 24 s v) := fun r' s' hr => zun (by omega)
theorem mAg_f {g g' x : zM} {cnt : Nat} (hA : mAg g cnt x) (hf : mFf g g') : mAg g' cnt x := by
  refine ⟨by rw [hf 0 25 (by omega)]; exact hA.1, fun i hi => ?_⟩
  rw [hf 20 i (by omega), hf 21 i (by omega), hf 22 i (by omega)]
  exact hA.2 i hi
theorem m_formL {g x : zM} {nc cnt : Nat} (hA : mAg g cnt x) (hv : zHv nc cnt x) {a : Int32} (ha : zRf cnt a) (t0 : Int32) (h33 : g 0 33 = nI 1) (h24 : g 24 0 = t0) (post : zM → Prop) (hp : ∀ g', mFf g g' → g' 0 33 = nI (t0 :: zrow x 10 a).length → (∀ i, i < (t0 :: zrow x 10 a).length → (t0 :: zrow x 10 a)[i]? = some (g' 24 i)) → post g') : zL (stMod_form_72 post) (a, g) := by
  have hc := hv.1
  have fin : ∀ (g' : zM) (pre : List Int32), t0 :: zrow x 10 a = pre → mFf g g' → g' 0 33 = nI pre.length → (∀ i, i < pre.length → pre[i]? = some (g' 24 i)) → post g' := by
    intro g' pre e; subst e; exact hp g'
  refine zL_rule (fun s => ∃ (i : Nat) (pre : List Int32), i ≤ 10 ∧ zRf cnt s.1 ∧ t0 :: zrow x 10 a = pre ++ zrow x (10 - i) s.1 ∧ pre.length = 1 + 2 * i ∧ s.2 0 33 = nI (1 + 2 * i) ∧ mFf g s.2 ∧ ∀ t, t < 1 + 2 * i → pre[t]? = some (s.2 24 t)) (fun s => 21 - (s.2 0 33).toNatClampNeg) ?_ (a, g) ⟨0, [t0], by omega, ha, rfl, rfl, h33, fun _ _ _ => rfl, fun t ht => ?_⟩
  · rintro ⟨v2, hh⟩ L ⟨i, pre, hi, hrf, ez, hl, e33, hF, h24'⟩ ih
    dsimp only at hrf ez e33 hF h24' ih
    have hAg := mAg_f hA hF
    unfold stMod_form_72
    dsimp only
    rcases hrf with rfl | ⟨j, hj, rfl⟩
    · refine ⟨fun _ => ?_, fun q => absurd (by decide) q⟩
      have : zrow x (10 - i) (-1) = [] := by
        cases 10 - i with
        | zero => rfl
        | succ f => exact if_pos rfl
      rw [this, List.append_nil] at ez
      exact fin hh pre ez hF (by rw [hl]; exact e33) (by rw [hl]; exact h24')
    · refine ⟨fun q => absurd q (zn0 (by omega)), fun _ => ?_⟩
      rw [e33]
      refine pk_le 21 (1 + 2 * i) (fun q => ?_) (fun q => ?_)
      · rw [show 10 - i = 0 by omega] at ez
        have ez : t0 :: zrow x 10 a = pre := ez.trans (List.append_nil pre)
        exact fin hh pre ez hF (by rw [hl]; exact e33) (by rw [hl]; exact h24')
      · obtain ⟨a1, a2, a3⟩ := hAg.2 j hj
        have ij : vp_in (nI j) 10 := zin_nI (by omega) (by omega)
        rw [znc (show j < 2147483648 by omega), znc (show 1 + 2 * i < 2147483648 by omega), a1]
        refine ⟨ij, zin_nI (by omega) (by omega), fun h99 e99 => ⟨ij, ?_⟩⟩
        have w33 : h99 0 33 = nI (1 + 2 * i) := by rw [e99, zuo (by decide), e33]
        have w21 : h99 21 j = x 1 j := by rw [e99, zuo (by decide), a2]
        rw [w33, zp1, znc (show 1 + 2 * i + 1 < 2147483648 by omega), w21]
        refine ⟨zin_nI (by omega) (by omega), fun h116 e116 h124 e124 => ⟨ij, fun y133 e133 => ?_⟩⟩
        have v33 : h116 0 33 = nI (1 + 2 * i) := by rw [e116, zuo (by decide), w33]
        rw [v33, zp2] at e124
        have w22 : h124 22 j = x 2 j := by rw [e124, zuo (by decide), e116, zuo (by decide), e99, zuo (by decide), a3]
        rw [w22] at e133
        subst e133
        obtain ⟨f, ef⟩ : ∃ f, 10 - i = f + 1 := ⟨9 - i, by omega⟩
        have es : zrow x (f + 1) (nI j) = x 0 j :: x 1 j :: zrow x f (x 2 j) := by
          show (if _ then _ else _) = _
          rw [if_neg (znm1 (by omega)), znc (by omega)]
        rw [ef, es] at ez
        refine ih _ ⟨i + 1, pre ++ [x 0 j, x 1 j], by omega, (hv.2 j hj).2.1, ?_, ?_, ?_, ?_, fun t ht => ?_⟩ ?_
        · rw [ez, show 10 - (i + 1) = f by omega]
          simp
        · simp [hl]; omega
        · show h124 0 33 = _
          rw [e124, zux]; rfl
        · refine mFf_tr hF ?_
          show mFf hh h124
          rw [e124, e116, e99]
          exact mFf_tr (mFf_tr mFf_u2 mFf_u2) mFf_u1
        · show _ = some (h124 24 t)
          rw [e124, zuo (by decide), e116]
          by_cases t1 : t = 1 + 2 * i + 1
          · subst t1
            rw [zux, List.getElem?_append_right (by omega), hl, show 1 + 2 * i + 1 - (1 + 2 * i) = 1 by omega]
            rfl
          · rw [zun (Or.inr t1), e99]
            by_cases t00 : t = 1 + 2 * i
            · subst t00
              rw [zux, List.getElem?_append_right (by omega), hl, Nat.sub_self]
              rfl
            · rw [zun (Or.inr t00), List.getElem?_append_left (by omega)]
              exact h24' t (by omega)
        · dsimp only
          rw [e33, e124, zux, znc (by omega), znc (by omega)]
          omega
  · have : t = 0 := by omega
    subst this
    show some t0 = some (g 24 0)
    rw [h24]
theorem m_form {h g x : zM} {nc cnt sz o0 : Nat} (hsz : g 0 11 = nI sz) (h1 : 1 ≤ sz) (h10 : sz ≤ 10) (ho0 : o0 < 10) (hnc : nc ≤ 4) (hop : zOpOk h g nc o0) (eo : g 8 (sz - 1) = nI o0) (hA : mAgR g cnt sz x) (hv : zHv nc cnt x) (hrv : h 8 o0 ≠ 0 → zRf cnt (x 3 (sz - 1))) (post : zM → Prop) (hp : ∀ g', mFf g g' → g' 0 33 = nI (if h 8 o0 = 0 then [0, x 3 (sz - 1)] else (if x 3 (sz - 1) = -1 then 1 else 2) :: zrow x 10 (x 3 (sz - 1))).length → (∀ i, i < (if h 8 o0 = 0 then [0, x 3 (sz - 1)] else (if x 3 (sz - 1) = -1 then 1 else 2) :: zrow x 10 (x 3 (sz - 1))).length → (if h 8 o0 = 0 then [0, x 3 (sz - 1)] else (if x 3 (sz - 1) = -1 then 1 else 2) :: zrow x 10 (x 3 (sz - 1)))[i]? = some (g' 24 i)) → post g') : wpMod_form g post := by
  unfold wpMod_form
  obtain ⟨m, rfl⟩ : ∃ m, sz = m + 1 := ⟨sz - 1, by omega⟩
  rw [Nat.add_sub_cancel] at *
  rw [hsz, nI_pred, znc (by omega), hA.2 m (by omega)]
  refine ⟨zin_nI (by omega) (by omega), fun y11 e11 h14 e14 => ⟨zin_nI (k := 0) (by omega) (by omega), fun h23 e23 => ⟨zin_nI (k := 1) (by omega) (by omega), fun h30 e30 => ?_⟩⟩⟩
  subst e11
  have F30 : mFf g h30 := by
    rw [e30, e23, e14]
    exact mFf_tr mFf_u1 (mFf_tr mFf_u2 mFf_u2)
  rw [F30 0 11 (by omega), hsz, nI_pred, znc (by omega), F30 8 m (by omega), eo]
  refine ⟨zin_nI (by omega) (by omega), m_gives ho0 (zOpOk_g hop (F30 4 o0 (by omega)) (F30 5 o0 (by omega)) (F30 6 o0 (by omega))) hnc _ ⟨fun q h52 e52 => ?_, fun q => ?_⟩⟩
  · simp only [if_neg q] at hp
    have F52 : mFf g h52 := by
      rw [e52]
      exact mFf_tr F30 mFf_u1
    have go : ∀ k2 : Int32, k2 = (if x 3 m = -1 then 1 else 2) → wbMod_form_69 post (x 3 m) 0 k2 h52 := by
      intro k2 ek
      unfold wbMod_form_69
      refine ⟨zin_nI (k := 0) (by omega) (by omega), fun h69 e69 => ?_⟩
      have F69 : mFf g h69 := by
        rw [e69]
        exact mFf_tr F52 mFf_u2
      refine m_formL (mAg_f hA.1 F69) hv (hrv q) (if x 3 m = -1 then 1 else 2) ?_ ?_ _ (fun g' f1 f2 f3 => hp g' (mFf_tr F69 f1) f2 f3)
      · rw [e69, zuo (by decide), e52, zux]; rfl
      · rw [e69]
        show zu h52 24 0 k2 24 0 = _
        rw [zux, ek]
    rcases hrv q with z | ⟨j, hj, z⟩
    · refine ⟨fun w => ?_, fun _ => go 1 (if_pos z).symm⟩
      rw [z] at w
      exact absurd w (by decide)
    · have := hv.1
      refine ⟨fun _ => go 2 (if_neg (by rw [z]; exact znm1 (by omega))).symm, fun w => ?_⟩
      rw [z] at w
      exact absurd (zp0 (by omega)) w
  · simp only [if_pos q] at hp
    refine hp h30 F30 ?_ (fun i hi => ?_)
    · rw [e30, zuo (by decide), e23, zuo (by decide), e14, zux]; rfl
    · have hi : i < 2 := hi
      rcases (show i = 0 ∨ i = 1 by omega) with rfl | rfl
      · show some 0 = some (h30 24 0)
        rw [e30, e23]
        show some 0 = some (zu (zu h14 24 0 0) 24 1 (x 3 m) 24 0)
        rw [zun (by decide), zux]
      · show some (x 3 m) = some (h30 24 1)
        rw [e30]
        show some (x 3 m) = some (zu h23 24 1 (x 3 m) 24 1)
        rw [zux]
theorem m_run {h g : zM} {c : Nat → Int32} {nc no sz : Nat} (hC : zCat h g nc no) (hsz : g 0 11 = nI sz) (h1 : 1 ≤ sz) (h10 : sz ≤ 10) (hst : ∀ k, k < sz → zStOk h c no k) (hm : ∀ k, k < sz → mSq c (g 8) (g 9) (g 10) k k) (post : zM → Prop) (hp : ∀ g', mFr g g' → g' 0 30 = (zfin h c sz).1 → g' 0 31 = (zcame h c (zfin h c sz)).1 → g' 0 32 = (zcame h c (zfin h c sz)).2 → ((zfin h c sz).1 = 0 → g' 23 (sz - 1) = (zfin h c sz).2.2.2 3 (sz - 1) ∧ g' 0 33 = nI (zshp h c sz (zfin h c sz)).length ∧ ∀ i, i < (zshp h c sz (zfin h c sz)).length → (zshp h c sz (zfin h c sz))[i]? = some (g' 24 i)) → post g') : wpMod_run g post := by
  unfold wpMod_run
  intro h2 e2 h7 e7
  have hno := hC.2.1
  have hnc := hC.1
  refine zL_rule (fun s => mFr g s.2 ∧ ∃ (k cnt : Nat) (x : zM), zHv nc cnt x ∧ zRv h c cnt x k ∧ cnt ≤ k ∧ mAgR s.2 cnt k x ∧ ((k ≤ sz ∧ s.1 = nI k ∧ s.2 0 30 = 0 ∧ zfin h c sz = zgo h c (sz - k) k cnt x) ∨ (k < sz ∧ s.1 = nI (k + 1) ∧ zfin h c sz = (s.2 0 30, k, cnt, x) ∧ s.2 0 30 ≠ 0))) (fun s => sz + 1 - s.1.toNatClampNeg) ?_ (0, h7) ⟨?_, 0, 0, zx0, ⟨by omega, fun i hi => by omega⟩, fun j hj => by omega, by omega, ⟨⟨?_, fun i hi => by omega⟩, fun j hj => by omega⟩, Or.inl ⟨by omega, rfl, ?_, rfl⟩⟩
  · rintro ⟨v1, gg⟩ L ⟨hF, k, cnt, x, hv, hrv, hcnt, hA, hcase⟩ ih
    dsimp only at hF hA hcase ih
    have w11 : gg 0 11 = nI sz := by rw [hF 0 11 (by omega), hsz]
    have hcat : zCat h gg nc no := by
      obtain ⟨z1, z2, z3, z4, z5, z6, z7, z8⟩ := hC
      refine ⟨z1, z2, z3, by rw [hF 0 1 (by omega)]; exact z4, z5, by rw [hF 0 5 (by omega)]; exact z6, fun i i1 i2 => ?_, fun o ho => zOpOk_g (z8 o ho) (hF 4 o (by omega)) (hF 5 o (by omega)) (hF 6 o (by omega))⟩
      unfold zClsOk
      rw [hF 1 i (by omega), hF 2 i (by omega), hF 3 i (by omega)]
      exact z7 i i1 i2
    have hmm : ∀ k, k < sz → mSq c (gg 8) (gg 9) (gg 10) k k := by
      intro k hk
      unfold mSq
      rw [show gg 8 = g 8 from funext fun s => hF 8 s (by omega), show gg 9 = g 9 from funext fun s => hF 9 s (by omega), show gg 10 = g 10 from funext fun s => hF 10 s (by omega)]
      exact hm k hk
    unfold stMod_run_12
    dsimp only
    rw [w11]
    rcases hcase with ⟨hk, e1, e30, ez⟩ | ⟨hk, e1, ez, n30⟩
    · subst e1
      rw [e30]
      refine pk_le sz k (fun q => ?_) (fun q => ⟨fun z => absurd rfl z, fun _ => ?_⟩)
      · have ek : k = sz := by omega
        subst ek
        rw [Nat.sub_self] at ez
        have ez : zfin h c k = (0, k, cnt, x) := ez
        obtain ⟨o0, ho0, eo, -, -⟩ := hst (k - 1) (by omega)
        have e8 : zlt8 h c k = h 8 o0 := by
          unfold zlt8
          rw [eo, znc (by omega)]
        rw [ez] at hp
        unfold zcame zshp at hp
        rw [e8] at hp
        dsimp only at hp
        rw [if_pos rfl] at hp
        have hrv' : h 8 o0 ≠ 0 → zRf cnt (x 3 (k - 1)) := by
          intro z
          obtain ⟨o', ho', e', z'⟩ := hrv (k - 1) (by omega)
          have : o' = o0 := (nI_eq (by omega) (by omega)).mp (e'.symm.trans eo)
          subst this
          exact z' z
        unfold wbMod_run_42
        rw [e30]
        refine ⟨fun _ => ⟨fun _ => ?_, fun z => absurd (by decide) z⟩, fun z => absurd z (by decide)⟩
        have hpar : zPar h nc := fun i a b => (hC.2.2.2.2.2.2.1 i a b).2.2.2.1
        refine m_unsound hA.1 hv hpar hnc (fun i a b => ⟨(hcat.2.2.2.2.2.2.1 i a b).1, (hcat.2.2.2.2.2.2.1 i a b).2.1, (hcat.2.2.2.2.2.2.1 i a b).2.2.1⟩) _ (fun h105 e105 => ?_)
        have w32 : h105 0 32 = zfault h x cnt := by rw [e105, zux]
        have fin : ∀ k1 : Int32, k1 = (if zfault h x cnt = 0 then 0 else 3) → wbMod_run_121 post k1 h105 := by
          intro k1 ek1 h121 e121
          have FA : ∀ r s, (r ≠ 0 ∨ s < 30) → h121 r s = gg r s := by
            intro r s hr
            rw [e121, zun (by omega), e105, zun (by omega)]
          have hA2 : mAgR h121 cnt k x := by
            refine ⟨⟨by rw [FA 0 25 (by omega)]; exact hA.1.1, fun i hi => ?_⟩, fun j hj => by rw [FA 23 j (by omega)]; exact hA.2 j hj⟩
            rw [FA 20 i (by omega), FA 21 i (by omega), FA 22 i (by omega)]
            exact hA.1.2 i hi
          refine m_form (h := h) (by rw [FA 0 11 (by omega), w11]) h1 h10 (by omega) hnc (zOpOk_g (hcat.2.2.2.2.2.2.2 o0 ho0) (FA 4 o0 (by omega)) (FA 5 o0 (by omega)) (FA 6 o0 (by omega))) (by rw [FA 8 (k - 1) (by omega), (hmm (k - 1) (by omega)).1, eo]) hA2 hv hrv' _ (fun g' f1 f2 f3 => hp g' ?_ ?_ ?_ ?_ (fun _ => ⟨?_, f2, f3⟩))
          · refine mFr_tr hF (mFr_tr ?_ (mFf_Fr f1))
            rw [e121, e105]
            exact mFr_tr (mFr_u (by omega)) (mFr_u (by omega))
          · rw [f1 0 30 (by omega), e121, zun (by decide), e105, zun (by decide), e30]
          · rw [f1 0 31 (by omega), e121, zux, ek1]
          · rw [f1 0 32 (by omega), e121, zun (by decide), w32]
          · rw [f1 23 (k - 1) (by omega)]
            exact hA2.2 (k - 1) (by omega)
        rw [w32]
        obtain ⟨t, ht, et⟩ := zfault_rg (K := h) (x := x) (cnt := cnt)
        rw [et]
        rw [et] at fin
        rcases Nat.eq_zero_or_pos t with rfl | t1
        · exact ⟨fun _ => fin 0 rfl, fun z => absurd (by decide) z⟩
        · exact ⟨fun z => absurd z (nI_nle t1 (by omega)), fun _ => fin 3 (if_neg (nI_ne0 t1 (by omega))).symm⟩
      · obtain ⟨m, em⟩ : ∃ m, sz - k = m + 1 := ⟨sz - k - 1, by omega⟩
        rw [em] at ez
        unfold zgo at ez
        refine m_exec hcat (by omega) (hst k (by omega)) (hmm k (by omega)) hA hv hrv hcnt _ (fun g' f1 f2 f3 h33 e33 => ?_) (fun g' f1 f2 f3 h33 e33 => ?_)
        · rw [if_pos f2] at ez
          obtain ⟨k1, k2, k3⟩ := zex_ok hC (by omega) (hst k (by omega)) hv hrv hcnt f2
          rw [zp1]
          refine ih _ ⟨?_, k + 1, _, _, k1, k2, k3, ?_, Or.inl ⟨by omega, rfl, ?_, ?_⟩⟩ ?_
          · refine mFr_tr hF (mFr_tr (mFx_Fr f1) ?_)
            show mFr g' h33
            rw [e33]
            exact mFr_u (by omega)
          · show mAgR h33 _ _ _
            refine ⟨⟨by rw [e33, zun (by decide)]; exact f3.1.1, fun i hi => ?_⟩, fun j hj => by rw [e33, zuo (by decide)]; exact f3.2 j hj⟩
            rw [e33, zuo (by decide), zuo (by decide), zuo (by decide)]
            exact f3.1.2 i hi
          · show h33 0 30 = 0
            rw [e33, zux]
          · rw [ez, show sz - (k + 1) = m by omega]
          · dsimp only
            rw [znc (by omega), znc (by omega)]
            omega
        · rw [if_neg f3] at ez
          rw [zp1]
          have w30 : h33 0 30 = (zex h c k cnt x).1 := by rw [e33, zux]
          refine ih _ ⟨?_, k, cnt, x, hv, hrv, hcnt, ?_, Or.inr ⟨q, rfl, ?_, ?_⟩⟩ ?_
          · refine mFr_tr hF (mFr_tr (mFx_Fr f1) ?_)
            show mFr g' h33
            rw [e33]
            exact mFr_u (by omega)
          · show mAgR h33 _ _ _
            refine ⟨⟨by rw [e33, zun (by decide)]; exact f2.1.1, fun i hi => ?_⟩, fun j hj => by rw [e33, zuo (by decide)]; exact f2.2 j hj⟩
            rw [e33, zuo (by decide), zuo (by decide), zuo (by decide)]
            exact f2.1.2 i hi
          · show _ = (h33 0 30, k, cnt, x)
            rw [w30]
            exact ez
          · show h33 0 30 ≠ 0
            rw [w30]
            exact f3
          · dsimp only
            rw [znc (by omega), znc (by omega)]
            omega
    · subst e1
      have fin : wbMod_run_42 post (nI (k + 1)) gg := by
        obtain ⟨t, ht, et⟩ := zgo_tr (K := h) (c := c) sz 0 0 zx0
        have et : (zfin h c sz).1 = nI t := et
        rw [ez] at et hp
        have et : gg 0 30 = nI t := et
        have t1 : 0 < t := by
          rcases Nat.eq_zero_or_pos t with rfl | t1
          · exact absurd et n30
          · exact t1
        unfold zcame at hp
        dsimp only at hp
        rw [if_neg n30] at hp
        unfold wbMod_run_42
        refine ⟨fun z => ⟨fun z2 => ?_, fun z2 h86 e86 h94 e94 => ?_⟩, fun z => ?_⟩
        · rw [et] at z2
          exact absurd z2 (nI_nle t1 (by omega))
        · rw [if_neg z] at hp
          refine hp h94 ?_ ?_ ?_ ?_ (fun z => absurd z n30)
          · refine mFr_tr hF ?_
            rw [e94, e86]
            exact mFr_tr (mFr_u (by omega)) (mFr_u (by omega))
          · rw [e94, zun (by decide), e86, zun (by decide)]
          · rw [e94, zun (by decide), e86, zux]
          · rw [e94, zux, e86, zun (by decide)]
        · rw [if_pos z] at hp
          rw [nI_pred]
          refine m_hadNull hcat (by omega) (hst k hk) (hmm k hk) hA.2 hrv hv.1 _ ?_
          have e : ∀ k1 : Int32, k1 = (if zdec (zbad h c x k) = true then 4 else 3) → wbMod_run_66 post k1 gg := by
            intro k1 ek1 h66 e66 h71 e71
            refine hp h71 ?_ ?_ ?_ ?_ (fun z => absurd z n30)
            · refine mFr_tr hF ?_
              rw [e71, e66]
              exact mFr_tr (mFr_u (by omega)) (mFr_u (by omega))
            · rw [e71, zun (by decide), e66, zun (by decide)]
            · rw [e71, zun (by decide), e66, zux, ek1]
            · rw [e71, zux]
          by_cases b : zdec (zbad h c x k) = true
          · rw [if_pos b] at e ⊢
            exact ⟨fun z => absurd z (by decide), fun _ => e 4 rfl⟩
          · rw [if_neg b] at e ⊢
            exact ⟨fun _ => e 3 rfl, fun z => absurd rfl z⟩
      refine pk_le sz (k + 1) (fun q => fin) (fun q => ⟨fun _ => fin, fun z => absurd z n30⟩)
  · show mFr g h7
    rw [e7, e2]
    exact mFr_tr (mFr_u (by omega)) (mFr_u (by omega))
  · show h7 0 25 = nI 0
    rw [e7, zun (by decide), e2, zux]; rfl
  · show h7 0 30 = 0
    rw [e7, zux]
