/-! the class runs a sequence as zfin says -/
def zFr (h h' : zM) : Prop := ∀ r, r < 12 ∨ 18 < r → h' r = h r
theorem zFr_tr {h h' h'' : zM} (a : zFr h h') (b : zFr h' h'') : zFr h h'' := fun r hr => (b r hr).trans (a r hr)
theorem zFx_Fr {h h' : zM} (a : zFx h h') : zFr h h' := fun r hr => a r (by omega)
theorem zFr_u {h : zM} {o k : Nat} {v : Int32} (h1 : 12 ≤ o) (h2 : o ≤ 18) : zFr h (zu h o k v) := fun r hr => zuo (by omega)
theorem zFr_rf {h : zM} : zFr h h := fun _ _ => rfl
theorem z_keepRow {n : Nat} {ln : Nat → Nat} {h x : zM} {nc cnt : Nat} (hA : zAg h cnt x) (hv : zHv nc cnt x) {a : Int32} (ha : zRf cnt a) (h7 : h 12 7 = nI 0) (post : zM → Prop) (hp : ∀ h', zFr h h' → zAg h' cnt x → (∀ s, s ≠ 7 → h' 12 s = h 12 s) → h' 12 7 = nI (zrow x 10 a).length → (∀ i, i < (zrow x 10 a).length → (zrow x 10 a)[i]? = some (h' 14 i)) → post h') : wpRunner_keepRow n ln a h post := by
  have hc := hv.1
  unfold wpRunner_keepRow
  have fin : ∀ (h' : zM) (pre : List Int32), zrow x 10 a = pre → zFr h h' → zAg h' cnt x → (∀ s, s ≠ 7 → h' 12 s = h 12 s) → h' 12 7 = nI pre.length → (∀ i, i < pre.length → pre[i]? = some (h' 14 i)) → post h' := by
    intro h' pre e; subst e; exact hp h'
  refine zL_rule (fun s => ∃ (i : Nat) (pre : List Int32), i ≤ 10 ∧ s.2.1 = nI i ∧ zRf cnt s.1 ∧ zrow x 10 a = pre ++ zrow x (10 - i) s.1 ∧ pre.length = 2 * i ∧ s.2.2 12 7 = nI (2 * i) ∧ zFr h s.2.2 ∧ zAg s.2.2 cnt x ∧ (∀ t, t ≠ 7 → s.2.2 12 t = h 12 t) ∧ ∀ t, t < 2 * i → pre[t]? = some (s.2.2 14 t)) (fun s => 10 - s.2.1.toNatClampNeg) ?_ (a, 0, h) ⟨0, [], by omega, rfl, ha, rfl, rfl, h7, zFr_rf, hA, fun _ _ => rfl, fun t ht => by omega⟩
  rintro ⟨v2, v3, hh⟩ L ⟨i, pre, hi, e3, hrf, ez, hl, e7, hF, hAg, h12, h14⟩ ih
  dsimp only at e3 hrf ez e7 hF hAg h12 h14 ih
  subst e3
  unfold stRunner_keepRow_4
  dsimp only
  refine pk_le 10 i (fun q => ?_) (fun q => ⟨fun q2 => ?_, fun q2 => ?_⟩)
  · rw [show 10 - i = 0 by omega] at ez
    have ez : zrow x 10 a = pre := ez.trans (List.append_nil pre)
    exact fin hh pre ez hF hAg h12 (by rw [hl]; exact e7) (by rw [hl]; exact h14)
  · obtain ⟨f, ef⟩ : ∃ f, 10 - i = f + 1 := ⟨9 - i, by omega⟩
    rw [ef, q2] at ez
    have ez : zrow x 10 a = pre := ez.trans (List.append_nil pre)
    exact fin hh pre ez hF hAg h12 (by rw [hl]; exact e7) (by rw [hl]; exact h14)
  · obtain ⟨j, hj, rfl⟩ := hrf.resolve_left q2
    obtain ⟨a1, a2, a3⟩ := hAg.2 j hj
    have ij : vp_in (nI j) 10 := zin_nI (by omega) (by omega)
    rw [e7, znc (show j < 2147483648 by omega), znc (show 2 * i < 2147483648 by omega)]
    refine ⟨ij, zin_nI (by omega) (by omega), fun h32 e32 => ⟨ij, ?_⟩⟩
    have w7 : h32 12 7 = nI (2 * i) := by rw [e32, zuo (by decide), e7]
    rw [w7, zp1, znc (show 2 * i + 1 < 2147483648 by omega)]
    refine ⟨zin_nI (by omega) (by omega), fun h52 e52 h60 e60 => ⟨ij, fun y72 e72 => ?_⟩⟩
    have w72 : h52 12 7 = nI (2 * i) := by rw [e52, zuo (by decide), w7]
    rw [w72, zp2] at e60
    have w18 : h60 18 j = x 2 j := by rw [e60, zuo (by decide), e52, zuo (by decide), e32, zuo (by decide), a3]
    have w17 : h32 17 j = x 1 j := by rw [e32, zuo (by decide), a2]
    rw [w18] at e72
    rw [w17] at e52
    rw [a1] at e32
    subst e72
    obtain ⟨f, ef⟩ : ∃ f, 10 - i = f + 1 := ⟨9 - i, by omega⟩
    have es : zrow x (f + 1) (nI j) = x 0 j :: x 1 j :: zrow x f (x 2 j) := by
      show (if _ then _ else _) = _
      rw [if_neg q2, znc (by omega)]
    rw [ef, es] at ez
    rw [zp1]
    refine ih _ ⟨i + 1, pre ++ [x 0 j, x 1 j], by omega, rfl, (hv.2 j hj).2.1, ?_, ?_, ?_, ?_, ?_, fun t ht => ?_, fun t ht => ?_⟩ ?_
    · rw [ez, show 10 - (i + 1) = f by omega]
      simp
    · simp [hl]; omega
    · show h60 12 7 = _
      rw [e60, zux]; rfl
    · refine zFr_tr hF ?_
      show zFr hh h60
      rw [e60, e52, e32]
      exact zFr_tr (zFr_u (by omega) (by omega)) (zFr_tr (zFr_u (by omega) (by omega)) (zFr_u (by omega) (by omega)))
    · show zAg h60 cnt x
      unfold zAg
      rw [e60, zuo (by decide), zuo (by decide), zuo (by decide), zuo (by decide), e52, zuo (by decide), zuo (by decide), zuo (by decide), zuo (by decide), e32, zuo (by decide), zuo (by decide), zuo (by decide), zuo (by decide)]
      exact hAg
    · show h60 12 t = _
      rw [e60, zun (Or.inr ht), e52, zuo (by decide), e32, zuo (by decide)]
      exact h12 t ht
    · show _ = some (h60 14 t)
      rw [e60, zuo (by decide), e52]
      by_cases t1 : t = 2 * i + 1
      · subst t1
        rw [zux, List.getElem?_append_right (by omega), hl, show 2 * i + 1 - 2 * i = 1 by omega]
        rfl
      · rw [zun (Or.inr t1), e32]
        by_cases t0 : t = 2 * i
        · subst t0
          rw [zux, List.getElem?_append_right (by omega), hl, Nat.sub_self]
          rfl
        · rw [zun (Or.inr t0), List.getElem?_append_left (by omega)]
          exact h14 t (by omega)
    · dsimp only
      rw [znc (by omega), znc (by omega)]
      omega
theorem z_keepResult {n : Nat} {ln : Nat → Nat} {o : Nat} {h x : zM} {nc cnt sz o0 : Nat} (ho : 18 < o) (hsz : h o 0 = nI sz) (h1 : 1 ≤ sz) (h10 : sz ≤ 10) (ho0 : o0 < 10) (eo : h (o + 1) (5 * (sz - 1)) = nI o0) (hA : zAgR h cnt sz x) (hv : zHv nc cnt x) (hrv : h 8 o0 ≠ 0 → zRf cnt (x 3 (sz - 1))) (e5 : h 12 5 = 0) (e6 : h 12 6 = 0) (e7 : h 12 7 = 0) (post : zM → Prop) (hp : ∀ h', zFr h h' → zAg h' cnt x → h' 12 5 = (if h 8 o0 = 0 then 1 else if x 3 (sz - 1) = -1 then 2 else 3) → h' 12 6 = (if h 8 o0 = 0 then x 3 (sz - 1) else 0) → h' 12 7 = nI (if h 8 o0 = 0 then [] else zrow x 10 (x 3 (sz - 1))).length → (∀ i, i < (if h 8 o0 = 0 then [] else zrow x 10 (x 3 (sz - 1))).length → (if h 8 o0 = 0 then [] else zrow x 10 (x 3 (sz - 1)))[i]? = some (h' 14 i)) → post h') : wpRunner_keepResult n ln o h post := by
  unfold wpRunner_keepResult
  obtain ⟨m, rfl⟩ : ∃ m, sz = m + 1 := ⟨sz - 1, by omega⟩
  rw [Nat.add_sub_cancel] at *
  rw [hsz, nI_pred]
  intro y6 ey
  subst ey
  refine ⟨fun _ => z_op (by omega) _ ?_, fun q => absurd (zp0 (by omega)) q⟩
  rw [eo, znc (by omega), znc (by omega)]
  have im : vp_in (nI m) 10 := zin_nI (by omega) (by omega)
  have em : h 13 m = x 3 m := hA.2 m (by omega)
  refine ⟨zin_nI (by omega) (by omega), fun q => ⟨im, ?_⟩, fun q h30 e30 => ⟨im, fun h40 e40 => ?_⟩⟩
  · simp only [if_neg q] at hp
    have go : ∀ k1 : Int32, k1 = (if x 3 m = -1 then 2 else 3) → wbRunner_keepResult_60 n ln o post (nI m) k1 h := by
      intro k1 ek
      unfold wbRunner_keepResult_60
      intro h60 e60
      refine ⟨im, ?_⟩
      have w13 : h60 13 m = x 3 m := by rw [e60, zuo (by decide), em]
      rw [znc (by omega), w13]
      have hA6 : zAg h60 cnt x := by
        unfold zAg
        rw [e60, zuo (by decide), zuo (by decide), zuo (by decide), zuo (by decide)]
        exact hA.1
      refine z_keepRow hA6 hv (hrv q) (by rw [e60, zun (by decide), e7]; rfl) _ (fun h' f1 f2 f3 f4 f5 => hp h' ?_ f2 ?_ ?_ f4 f5)
      · rw [e60] at f1
        exact zFr_tr (zFr_u (by omega) (by omega)) f1
      · rw [f3 5 (by decide), e60, zux, ek]
      · rw [f3 6 (by decide), e60, zun (by decide), e6]
    rw [em]
    exact ⟨fun q2 => go 3 (if_neg q2).symm, fun q2 => go 2 (if_pos q2).symm⟩
  · simp only [if_pos q] at hp
    have w13 : h30 13 m = x 3 m := by rw [e30, zuo (by decide), em]
    rw [w13] at e40
    refine hp h40 ?_ ?_ ?_ ?_ ?_ (fun i hi => absurd hi (Nat.not_lt_zero _))
    · rw [e40, e30]
      exact zFr_tr (zFr_u (by omega) (by omega)) (zFr_u (by omega) (by omega))
    · unfold zAg
      rw [e40, zuo (by decide), zuo (by decide), zuo (by decide), zuo (by decide), e30, zuo (by decide), zuo (by decide), zuo (by decide), zuo (by decide)]
      exact hA.1
    · rw [e40, zun (by decide), e30, zux]
    · rw [e40, zux]
    · rw [e40, zun (by decide), e30, zun (by decide), e7]
      rfl
theorem z_endT {n : Nat} {ln : Nat → Nat} {o : Nat} {h x : zM} {k o0 : Nat} {tr : Int32} (hk : k < 10) (hR : ∀ j, j < k → h 13 j = x 3 j) (ho0 : o0 < 10) (eo : h (o + 1) (5 * k) = nI o0) (ok0 : zArgOk h (h (o + 1)) k 0 (h 6 o0)) (ok1 : zArgOk h (h (o + 1)) k 1 (h 7 o0)) (post : zM → Prop) (hp : post (zu (zu h 12 3 (if tr = 5 then (if zdec (zbad h (h (o + 1)) x k) = true then 4 else 3) else 2)) 12 4 (if tr = 5 then 4 else tr))) : wpRunner_endWithTrouble n ln o (nI k) tr h post := by
  unfold wpRunner_endWithTrouble
  refine ⟨fun q => ?_, fun q h7 e7 h12 e12 => ?_⟩
  · simp only [if_pos q] at hp
    have eb : zbad h (h (o + 1)) x k ↔ ((h 6 o0 ≠ -1 ∧ h 6 o0 ≠ 0 ∧ zav (h (o + 1)) x k 0 = -1) ∨ (h 7 o0 ≠ -1 ∧ h 7 o0 ≠ 0 ∧ zav (h (o + 1)) x k 1 = -1)) := by
      unfold zbad
      rw [eo, znc (by omega)]
    have d4 : zbad h (h (o + 1)) x k → wbRunner_endWithTrouble_54 n ln o post 4 h := by
      intro z h54 e54 h59 e59
      rw [zdec_t z, if_pos rfl] at hp
      rw [e59, e54]
      exact hp
    have d3 : ¬ zbad h (h (o + 1)) x k → wbRunner_endWithTrouble_54 n ln o post 3 h := by
      intro z h54 e54 h59 e59
      rw [zdec_f z, if_neg (by decide)] at hp
      rw [e59, e54]
      exact hp
    unfold wbRunner_endWithTrouble_36 wbRunner_endWithTrouble_41
    refine z_isNull (x := x) hk (by decide) hR ho0 eo (show zArgOk h (h (o + 1)) k 0 (h 6 o0) from ok0) _ (fun z => ⟨fun q => absurd rfl q, fun _ => ?_⟩) (fun z => ⟨fun _ => ⟨fun q => absurd q (by decide), fun _ => d4 (eb.mpr (Or.inl z))⟩, fun q => absurd q (by decide)⟩)
    refine z_isNull (x := x) (a := 1) hk (by decide) hR ho0 eo (show zArgOk h (h (o + 1)) k 1 (h 7 o0) from ok1) _ (fun z2 => ⟨fun _ => ⟨fun _ => d3 ?_, fun q => absurd rfl q⟩, fun q => absurd rfl q⟩) (fun z2 => ⟨fun q => absurd q (by decide), fun _ => ⟨fun q => absurd q (by decide), fun _ => d4 (eb.mpr (Or.inr z2))⟩⟩)
    rw [eb]
    rintro (w | w)
    · exact z w
    · exact z2 w
  · simp only [if_neg q] at hp
    rw [e12, e7]
    exact hp
theorem zCat_fr {h h' g : zM} {nc no : Nat} (hC : zCat h g nc no) (hf : ∀ r, r ≤ 8 → h' r = h r) : zCat h' g nc no := by
  unfold zCat zClsOk zOpOk at *
  rw [hf 1 (by decide), hf 2 (by decide), hf 3 (by decide), hf 4 (by decide), hf 5 (by decide), hf 6 (by decide), hf 7 (by decide), hf 8 (by decide)]
  exact hC
theorem zStOk_fr {h h' : zM} {c : Nat → Int32} {no k : Nat} (hs : zStOk h c no k) (hf : ∀ r, r ≤ 8 → h' r = h r) : zStOk h' c no k := by
  unfold zStOk zArgOk at *
  rw [hf 2 (by decide), hf 6 (by decide), hf 7 (by decide), hf 8 (by decide)]
  exact hs
theorem zRv_fr {h h' x : zM} {c : Nat → Int32} {cnt k : Nat} (hs : zRv h c cnt x k) (hf : ∀ r, r ≤ 8 → h' r = h r) : zRv h' c cnt x k := by
  unfold zRv at *
  rw [hf 8 (by decide)]
  exact hs
theorem zSq_rf {h : zM} {c : Nat → Int32} {no sz : Nat} (hst : ∀ k, k < sz → zStOk h c no k) : zSq c c no sz := fun k hk => by
  obtain ⟨o, ho, e, -⟩ := hst k hk
  exact ⟨⟨o, ho, e⟩, fun _ _ => rfl⟩
theorem z_run {n : Nat} {ln : Nat → Nat} {o : Nat} {h g : zM} {nc no sz : Nat} (hC : zCat h g nc no) (ho : 18 < o) (hsz : h o 0 = nI sz) (h1 : 1 ≤ sz) (h10 : sz ≤ 10) (hst : ∀ k, k < sz → zStOk h (h (o + 1)) no k) (post : zM → Prop) (hp : ∀ h', zFr h h' → h' 12 3 = (zcame h (h (o + 1)) (zfin h (h (o + 1)) sz)).1 → h' 12 4 = (zcame h (h (o + 1)) (zfin h (h (o + 1)) sz)).2 → h' 12 5 = zgave h (h (o + 1)) sz (zfin h (h (o + 1)) sz) → h' 12 6 = znum h (h (o + 1)) sz (zfin h (h (o + 1)) sz) → h' 12 7 = nI (zrws h (h (o + 1)) sz (zfin h (h (o + 1)) sz)).length → (∀ i, i < (zrws h (h (o + 1)) sz (zfin h (h (o + 1)) sz)).length → (zrws h (h (o + 1)) sz (zfin h (h (o + 1)) sz))[i]? = some (h' 14 i)) → post h') : wpRunner_run n ln o h post := by
  unfold wpRunner_run
  intro h5 e5 h10' e10 h15 e15 h20 e20
  have hno := hC.2.1
  refine zL_rule (fun s => ∃ (k cnt : Nat) (x : zM), k ≤ sz ∧ s.1 = nI k ∧ zFr h s.2 ∧ s.2 12 5 = 0 ∧ s.2 12 6 = 0 ∧ s.2 12 7 = 0 ∧ zAgR s.2 cnt k x ∧ zHv nc cnt x ∧ zRv h (h (o + 1)) cnt x k ∧ cnt ≤ k ∧ zfin h (h (o + 1)) sz = zgo h (h (o + 1)) (sz - k) k cnt x) (fun s => sz - s.1.toNatClampNeg) ?_ (0, h20) ⟨0, 0, zx0, by omega, rfl, ?_, ?_, ?_, ?_, ⟨⟨?_, fun i hi => by omega⟩, fun j hj => by omega⟩, ⟨by omega, fun i hi => by omega⟩, fun j hj => by omega, by omega, rfl⟩
  · rintro ⟨v2, hh⟩ L ⟨k, cnt, x, hk, e2, hF, w5, w6, w7, hA, hv, hrv, hcnt, ez⟩ ih
    dsimp only at e2 hF w5 w6 w7 hA ih
    subst e2
    have fr : ∀ r, r ≤ 8 → hh r = h r := fun r hr => hF r (by omega)
    have eo1 : hh (o + 1) = h (o + 1) := hF (o + 1) (by omega)
    have eoo : hh o = h o := hF o (by omega)
    have hC' := zCat_fr hC fr
    unfold stRunner_run_25
    dsimp only
    rw [eoo, hsz]
    refine pk_le sz k (fun q => ?_) (fun q => ?_)
    · have ek : k = sz := by omega
      subst ek
      rw [Nat.sub_self] at ez
      have ez : zfin h (h (o + 1)) k = (0, k, cnt, x) := ez
      obtain ⟨o0, ho0, eo, -, -⟩ := hst (k - 1) (by omega)
      have e8 : zlt8 h (h (o + 1)) k = h 8 o0 := by
        unfold zlt8
        rw [eo, znc (by omega)]
      rw [ez] at hp
      unfold zcame zgave znum zrws at hp
      rw [e8] at hp
      dsimp only at hp
      rw [if_pos rfl, if_pos rfl, if_pos rfl, if_pos rfl] at hp
      have hrv' : hh 8 o0 ≠ 0 → zRf cnt (x 3 (k - 1)) := by
        rw [fr 8 (by decide)]
        intro z
        obtain ⟨o', ho', e', z'⟩ := hrv (k - 1) (by omega)
        have : o' = o0 := (nI_eq (by omega) (by omega)).mp (e'.symm.trans eo)
        subst this
        exact z' z
      refine z_keepResult ho (by rw [eoo, hsz]) h1 h10 (by omega) (by rw [eo1, eo]) hA hv hrv' w5 w6 w7 _ (fun h60 f1 f2 f3 f4 f5 f6 => ?_)
      have F60 : zFr h h60 := zFr_tr hF f1
      have fr60 : ∀ r, r ≤ 8 → h60 r = h r := fun r hr => F60 r (by omega)
      have hpar : zPar h60 nc := fun i a b => ((zCat_fr hC fr60).2.2.2.2.2.2.1 i a b).2.2.2.1
      refine z_findFault f2 hv hpar hC.1 _ (fun h71 e71 => ?_)
      have KK := zKq_of (K := h) (K' := h60) no fr60
      rw [zfault_K KK.1 KK.2.1 KK.2.2.1] at e71
      have w4 : h71 12 4 = zfault h x cnt := by rw [e71, zux]
      have fin : ∀ k1 : Int32, k1 = (if zfault h x cnt = 0 then 0 else 3) → wbRunner_run_87 n ln o post k1 h71 := by
        intro k1 ek1 h87 e87
        rw [fr 8 (by decide)] at f3 f4 f5 f6
        refine hp h87 ?_ ?_ ?_ ?_ ?_ ?_ (fun i hi => ?_)
        · refine zFr_tr F60 ?_
          rw [e87, e71]
          exact zFr_tr (zFr_u (by omega) (by omega)) (zFr_u (by omega) (by omega))
        · rw [e87, zux, ek1]
        · rw [e87, zun (by decide), w4]
        · rw [e87, zun (by decide), e71, zun (by decide), f3]
        · rw [e87, zun (by decide), e71, zun (by decide), f4]
        · rw [e87, zun (by decide), e71, zun (by decide), f5]
        · rw [e87, zuo (by decide), e71, zuo (by decide)]
          exact f6 i hi
      rw [w4]
      exact ⟨fun z => fin 3 (if_neg z).symm, fun z => fin 0 (if_pos z).symm⟩
    · have hstk := hst k (by omega)
      have hst' : zStOk hh (hh (o + 1)) no k := by rw [eo1]; exact zStOk_fr hstk fr
      have hrv' : zRv hh (hh (o + 1)) cnt x k := by rw [eo1]; exact zRv_fr hrv fr
      obtain ⟨⟨oo, hoo, eoo'⟩, hq5⟩ := zSq_rf hst k q
      have ex : zex hh (hh (o + 1)) k cnt x = zex h (h (o + 1)) k cnt x := by rw [eo1]; exact zex_K hno (zKq_of no fr) ⟨oo, hoo, eoo'⟩ hq5
      obtain ⟨m, em⟩ : ∃ m, sz - k = m + 1 := ⟨sz - k - 1, by omega⟩
      rw [em] at ez
      unfold zgo at ez
      refine z_exec hC' (by omega) hst' hA hv hrv' hcnt _ (fun h' f1 f2 f3 => ⟨fun _ => ?_, fun z => absurd rfl z⟩) (fun z => ⟨fun z2 => absurd z2 z, fun _ => ?_⟩)
      · rw [ex] at f2 f3
        rw [if_pos f2] at ez
        obtain ⟨k1, k2, k3⟩ := zex_ok hC (by omega) hstk hv hrv hcnt f2
        rw [zp1]
        refine ih _ ⟨k + 1, _, _, by omega, rfl, zFr_tr hF (zFx_Fr f1), ?_, ?_, ?_, f3, k1, k2, k3, ?_⟩ ?_
        · show h' 12 5 = 0
          rw [f1 12 (by omega)]; exact w5
        · show h' 12 6 = 0
          rw [f1 12 (by omega)]; exact w6
        · show h' 12 7 = 0
          rw [f1 12 (by omega)]; exact w7
        · rw [ez, show sz - (k + 1) = m by omega]
        · dsimp only
          rw [znc (by omega), znc (by omega)]
          omega
      · rw [ex] at z ⊢
        rw [if_neg z] at ez
        obtain ⟨o0, ho0, eo, ok0, ok1⟩ := hst'
        refine z_endT (x := x) (by omega) hA.2 (by omega) eo ok0 ok1 _ ?_
        have zb : zbad hh (hh (o + 1)) x k = zbad h (h (o + 1)) x k := by
          unfold zbad
          rw [eo1, fr 6 (by decide), fr 7 (by decide)]
        rw [zb]
        rw [ez] at hp
        unfold zcame zgave znum zrws at hp
        dsimp only at hp
        rw [if_neg z, if_neg z, if_neg z, if_neg z] at hp
        refine hp _ (zFr_tr hF (zFr_tr (zFr_u (by omega) (by omega)) (zFr_u (by omega) (by omega)))) ?_ ?_ ?_ ?_ ?_ (fun i hi => absurd hi (Nat.not_lt_zero _))
        · rw [zun (by decide), zux]
          by_cases t : (zex h (h (o + 1)) k cnt x).1 = 5
          · rw [if_pos t, if_pos t]
          · rw [if_neg t, if_neg t]
        · rw [zux]
          by_cases t : (zex h (h (o + 1)) k cnt x).1 = 5
          · rw [if_pos t, if_pos t]
          · rw [if_neg t, if_neg t]
        · rw [zun (by decide), zun (by decide), w5]
        · rw [zun (by decide), zun (by decide), w6]
        · rw [zun (by decide), zun (by decide), w7]; rfl
  · show zFr h h20
    rw [e20, e15, e10, e5]
    exact zFr_tr (zFr_tr (zFr_u (by omega) (by omega)) (zFr_u (by omega) (by omega))) (zFr_tr (zFr_u (by omega) (by omega)) (zFr_u (by omega) (by omega)))
  · show h20 12 5 = 0
    rw [e20, zun (by decide), e15, zun (by decide), e10, zux]
  · show h20 12 6 = 0
    rw [e20, zun (by decide), e15, zux]
  · show h20 12 7 = 0
    rw [e20, zux]
  · show h20 15 1 = nI 0
    rw [e20, zuo (by decide), e15, zuo (by decide), e10, zuo (by decide), e5, zux]
    rfl
