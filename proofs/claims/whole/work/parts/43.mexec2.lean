theorem m_exec37 {h g x : zM} {nc no cnt k o0 kd cc : Nat} {a b b' : Int32} {d : Int32} (hC : zCat h g nc no) (hk : k < 10) (ho0 : o0 < 10) (hA : mAgR g cnt k x) (hv : zHv nc cnt x) (hcnt : cnt ≤ k) (hkd : kd ≤ 9) (c1 : 1 ≤ cc) (c2 : cc ≤ nc) (hd : zhasD kd → ∃ e : Nat, 1 ≤ e ∧ e ≤ nc ∧ d = nI e) (f4 : g 4 o0 = nI kd) (f5 : g 5 o0 = nI cc) (f6 : g 6 o0 = d) (e8 : h 8 o0 = zrt kd (nI cc) d) (rf0 : kd ≠ 0 → zRf cnt a) (rf1 : kd = 4 ∨ kd = 9 → zRf cnt b) (hb : zar kd = 2 → b' = b) (post : Int32 → zM → Prop) (hp : ∀ g', mFx g g' → (zop h x (nI kd) (h 8 o0) a b k cnt).1 = 0 → mAgR g' (zop h x (nI kd) (h 8 o0) a b k cnt).2.1 (k + 1) (zop h x (nI kd) (h 8 o0) a b k cnt).2.2 → post 0 g') (hp2 : ∀ g', mFx g g' → mAgR g' cnt k x → (zop h x (nI kd) (h 8 o0) a b k cnt).1 ≠ 0 → post (zop h x (nI kd) (h 8 o0) a b k cnt).1 g') : wbMod_perform_37 post (nI k) (nI o0) a b' g := by
  obtain ⟨hnc, hno, -, -, -, -, hcls, hops⟩ := hC
  have hpar : zPar h nc := fun i a b => (hcls i a b).2.2.2.1
  have hc10 := hv.1
  have io : vp_in (nI o0) 10 := zin_nI (by omega) (by omega)
  have ik : vp_in (nI k) 10 := zin_nI (by omega) (by omega)
  unfold wbMod_perform_37
  rw [znc (show o0 < 2147483648 by omega), znc (show k < 2147483648 by omega), f4]
  refine ⟨io, fun hk0 => ?_, fun hk0 => ?_⟩
  · have hk0 : kd ≠ 0 := fun z => hk0 (by rw [z]; rfl)
    rcases rf0 hk0 with rfl | ⟨i, hi, rfl⟩
    · refine ⟨fun q => absurd q (by decide), fun _ => ?_⟩
      have := hp2 g mFx_rf hA
      rw [zop_n hkd hk0] at this
      exact this (show (5 : Int32) ≠ 0 by decide)
    · refine ⟨fun _ => ⟨ik, fun h90 e90 => ⟨io, ?_⟩⟩, fun q => absurd (zp0 (by omega)) q⟩
      obtain ⟨Z1, Z2, Z3⟩ := mAg_res hA (nI i)
      rw [← e90] at Z1 Z2 Z3
      have g4 : h90 4 o0 = nI kd := by rw [e90, zuo (by decide), f4]
      have g5 : h90 5 o0 = nI cc := by rw [e90, zuo (by decide), f5]
      have g6 : h90 6 o0 = d := by rw [e90, zuo (by decide), f6]
      have h1 : ∀ j, 1 ≤ j → j ≤ nc → h 2 j = h90 1 j := fun j q1 q2 => by rw [e90, zuo (by decide)]; exact (hcls j q1 q2).1
      have h2 : ∀ j, 1 ≤ j → j ≤ nc → h 3 j = h90 2 j := fun j q1 q2 => by rw [e90, zuo (by decide)]; exact (hcls j q1 q2).2.1
      have r90 : ∀ v, zu h90 23 k v = zu g 23 k v := by
        intro v
        rw [e90]
        funext r s
        by_cases hr : r = 23
        · subst hr
          by_cases hs : s = k
          · subst hs; rw [zux, zux]
          · rw [zun (Or.inr hs), zun (Or.inr hs), zun (Or.inr hs)]
        · rw [zuo hr, zuo hr, zuo hr]
      clear e90
      rw [g4, g5, znc (show i < 2147483648 by omega)]
      obtain ⟨s1, s2, s3, s4, s5, s6, s7, s8, s9⟩ := zop_s (K := h) (x := x) (ty := h 8 o0) (b := b) (k := k) (cnt := cnt) (i := i) (by omega)
      obtain ⟨q1, q2, q3⟩ := Z2.1.2 i hi
      rw [q2, q3]
      have ii : vp_in (nI i) 10 := zin_nI (by omega) (by omega)
      have give : ∀ v : Int32, zop h x (nI kd) (h 8 o0) (nI i) b k cnt = (0, cnt, zu x 3 k v) → post 0 (zu h90 23 k v) := by
        intro v e
        rw [e] at hp
        obtain ⟨z1, z2, z3⟩ := mAg_res hA v
        rw [r90]
        exact hp _ z3 rfl z1
      have stay : (zop h x (nI kd) (h 8 o0) (nI i) b k cnt).1 ≠ 0 → post (zop h x (nI kd) (h 8 o0) (nI i) b k cnt).1 h90 := hp2 h90 Z3 Z2
      have kk : ∀ j : Nat, j ≤ 9 → ∀ {w : Int32}, w = nI j → nI kd = w → kd = j := fun j hj w ew z => (nI_eq (by omega) (by omega)).mp (z.trans ew)
      refine ⟨fun q => ?_, fun n1 => ⟨fun q => ?_, fun n2 => ⟨fun q => ?_, fun n3 => ⟨fun q => ?_, fun n4 => ⟨fun q => ?_, fun n5 => ⟨fun q => ?_, fun n6 => ⟨fun q => ?_, fun n7 => ⟨fun q => ?_, fun n8 => ?_⟩⟩⟩⟩⟩⟩⟩⟩
      · obtain rfl := kk 1 (by omega) rfl q
        refine ⟨io, ii, m_made Z2.1.1 (by omega) _ _ _ _ ⟨ik, fun h166 e166 => ?_⟩⟩
        obtain ⟨z1, z2⟩ := mAg_mk hk Z2 (h 8 o0) (x 1 i) (nI i)
        rw [s1] at hp
        have e8' : h 8 o0 = nI cc := e8
        rw [e166, ← e8']
        exact hp _ (mFx_tr Z3 z2) rfl z1
      · obtain rfl := kk 2 (by omega) rfl q
        refine ⟨ii, ik, fun h180 e180 => ?_⟩
        rw [e180]
        exact give _ s2
      · obtain rfl := kk 3 (by omega) rfl q
        rw [hb rfl]
        refine ⟨ii, m_fits _ (fun hf => ⟨fun q => absurd rfl q, fun _ => ?_⟩) (fun hf => ⟨fun _ => ⟨ii, ii, fun h212 e212 => ?_⟩, fun q => absurd q (by decide)⟩)⟩
        · rw [zl_add] at hf
          rw [s3, zdec_f hf, if_neg (by decide)] at stay
          exact stay (show (1 : Int32) ≠ 0 by decide)
        · rw [zl_add] at hf
          rw [s3, zdec_t hf, if_pos rfl] at hp
          obtain ⟨z1, z2⟩ := mAg_val Z1 i (x 1 i + b)
          rw [zu_comm (by decide)] at z1
          rw [e212, q2]
          exact hp _ (mFx_tr Z3 z2) rfl z1
      · obtain rfl := kk 4 (by omega) rfl q
        rw [hb rfl]
        refine m_reaches Z2.1 hv (rf1 (Or.inl rfl)) hi _ (fun hr => ⟨fun _ => ⟨ii, fun h234 e234 => ?_⟩, fun q => absurd rfl q⟩) (fun hr => ⟨fun q => absurd q (by decide), fun _ => ?_⟩)
        · rw [s4, zdec_f hr, if_neg (by decide)] at hp
          obtain ⟨z1, z2⟩ := mAg_nxt Z1 i b
          rw [zu_comm (by decide)] at z1
          rw [e234]
          exact hp _ (mFx_tr Z3 z2) rfl z1
        · rw [s4, zdec_t hr, if_pos rfl] at stay
          exact stay (show (2 : Int32) ≠ 0 by decide)
      · obtain rfl := kk 5 (by omega) rfl q
        obtain ⟨e', e1, e2, rfl⟩ := hd (Or.inr (Or.inr (Or.inl rfl)))
        have e8' : h 8 o0 = nI e' := e8
        refine ⟨ii, ik, fun h248 e248 => ⟨ii, ?_⟩⟩
        have w22 : h248 22 = h90 22 := by rw [e248, zuo (by decide)]
        have w20 : h248 20 = h90 20 := by rw [e248, zuo (by decide)]
        have w6 : h248 6 o0 = nI e' := by rw [e248, zuo (by decide), g6]
        rw [w22, w20, q3, w6]
        refine ⟨fun q => ?_, fun q => ?_⟩
        · rcases (hv.2 i hi).2.1 with z | ⟨j, hj, ej⟩
          · rw [e248]
            exact give _ (by rw [s5, zdec_t (Or.inl z), if_pos rfl])
          · rw [ej] at q
            exact absurd q (zn0 (by omega))
        · rcases (hv.2 i hi).2.1 with z | ⟨j, hj, ej⟩
          · exact absurd (by rw [z]; decide) q
          · obtain ⟨⟨cj, cj1, cj2, ecj⟩, -, -⟩ := hv.2 j hj
            rw [ej, znc (by omega), (Z2.1.2 j hj).1, ecj]
            rw [ej, znc (by omega), ecj, e8', znc (by omega), znc (by omega)] at s5
            refine ⟨ii, zin_nI (by omega) (by omega), io, m_is hpar hnc (fun l l1 l2 => by rw [e248, zuo (by decide)]; exact h1 l l1 l2) cj e' cj2 e2 e1 _ (fun z => ⟨fun q => absurd rfl q, fun _ => ?_⟩) (fun z => ⟨fun _ => ?_, fun q => absurd q (by decide)⟩)⟩
            · obtain ⟨z1, z2, z3⟩ := mAg_res Z2 (x 2 i)
              have := hp2 h248 (by rw [e248]; exact mFx_tr Z3 z3) (by rw [e248]; exact z2)
              rw [e8', s5, zdec_f (by rintro (w | w); exact znm1 (by omega) w; exact z w), if_neg (by decide)] at this
              exact this (show (3 : Int32) ≠ 0 by decide)
            · rw [e248]
              exact give _ (by rw [e8', s5, zdec_t (Or.inr z), if_pos rfl, ej])
      · obtain rfl := kk 6 (by omega) rfl q
        rw [hb rfl]
        refine ⟨fun q => ⟨ii, q, ik, fun h309 e309 => ?_⟩, fun q => ?_⟩
        · rw [e309]
          exact give _ (by rw [s6, if_neg q])
        · rw [s6, if_pos q] at stay
          exact stay (show (4 : Int32) ≠ 0 by decide)
      · obtain rfl := kk 7 (by omega) rfl q
        refine ⟨ii, fun q => ?_, fun q => ?_⟩
        · rcases (hv.2 i hi).2.1 with z | ⟨j, hj, ej⟩
          · rw [z] at q
            exact absurd q (by decide)
          · rw [ej, znc (by omega), (Z2.1.2 j hj).2.1]
            rw [ej, if_neg (znm1 (by omega)), znc (by omega)] at s7
            refine ⟨ii, zin_nI (by omega) (by omega), ik, fun h339 e339 => ?_⟩
            rw [e339]
            exact give _ s7
        · rcases (hv.2 i hi).2.1 with z | ⟨j, hj, ej⟩
          · rw [s7, if_pos z] at stay
            exact stay (show (5 : Int32) ≠ 0 by decide)
          · exact absurd (by rw [ej]; exact zp0 (by omega)) q
      · obtain rfl := kk 8 (by omega) rfl q
        refine m_count Z2.1 hv (Or.inr ⟨i, hi, rfl⟩) _ ⟨ik, fun h352 e352 => ?_⟩
        rw [e352]
        exact give _ s8
      · have k9 : kd = 9 := by
          have m : ∀ j : Nat, ∀ {w : Int32}, w = nI j → ¬ nI kd = w → kd ≠ j := fun j w ew z e => z (by rw [ew, e])
          have := m 1 rfl n1
          have := m 2 rfl n2
          have := m 3 rfl n3
          have := m 4 rfl n4
          have := m 5 rfl n5
          have := m 6 rfl n6
          have := m 7 rfl n7
          have := m 8 rfl n8
          omega
        subst k9
        rw [hb rfl]
        unfold wbMod_perform_379 wbMod_perform_380
        rw [znc (show k < 2147483648 by omega)]
        rcases rf1 (Or.inr rfl) with z | ⟨j, hj, rfl⟩
        · rw [zdec_f (fun w => w.1 z), if_neg (by decide)] at s9
          refine ⟨fun _ => ⟨ik, fun h380 e380 => ?_⟩, fun q => absurd (by rw [z]; decide) q⟩
          rw [e380]
          exact give _ s9
        · rw [znc (by omega)] at s9
          refine ⟨fun q => absurd q (zn0 (by omega)), fun _ => m_equal Z2.1 hv hpar hnc (fun l l1 l2 => ⟨h1 l l1 l2, h2 l l1 l2⟩) hi hj _ (fun z => ⟨fun _ => ⟨ik, fun h380 e380 => ?_⟩, fun q => absurd rfl q⟩) (fun z => ⟨fun q => absurd q (by decide), fun _ => ⟨ik, fun h380 e380 => ?_⟩⟩)⟩
          · rw [e380]
            exact give _ (by rw [s9, zdec_f (fun w => z w.2), if_neg (by decide)])
          · rw [e380]
            exact give _ (by rw [s9, zdec_t ⟨znm1 (by omega), z⟩, if_pos rfl])
  · have k0 : kd = 0 := (nI_eq (b := 0) (by omega) (by omega)).mp hk0
    subst k0
    refine m_fits _ (fun hf => ⟨fun q => absurd rfl q, fun _ => ?_⟩) (fun hf => ⟨fun _ => ⟨io, ?_⟩, fun q => absurd q (by decide)⟩)
    · rw [zl_of] at hf
      have := hp2 g mFx_rf hA
      rw [zop_0, zdec_f hf, if_neg (by decide)] at this
      exact this (show (1 : Int32) ≠ 0 by decide)
    · rw [zl_of] at hf
      rw [zop_0, zdec_t hf, if_pos rfl] at hp
      refine m_made hA.1.1 (by omega) _ _ _ _ ⟨ik, fun h75 e75 => ?_⟩
      obtain ⟨z1, z2⟩ := mAg_mk hk hA (h 8 o0) a (-1)
      have e8' : h 8 o0 = nI cc := e8
      rw [e75, f5, ← e8']
      exact hp _ z2 rfl z1
theorem m_exec {h g x : zM} {c : Nat → Int32} {nc no cnt k : Nat} (hC : zCat h g nc no) (hk : k < 10) (hst : zStOk h c no k) (hm : mSq c (g 8) (g 9) (g 10) k k) (hA : mAgR g cnt k x) (hv : zHv nc cnt x) (hrv : zRv h c cnt x k) (hcnt : cnt ≤ k) (post : Int32 → zM → Prop) (hp : ∀ g', mFx g g' → (zex h c k cnt x).1 = 0 → mAgR g' (zex h c k cnt x).2.1 (k + 1) (zex h c k cnt x).2.2 → post 0 g') (hp2 : ∀ g', mFx g g' → mAgR g' cnt k x → (zex h c k cnt x).1 ≠ 0 → post (zex h c k cnt x).1 g') : wpMod_perform (nI k) g post := by
  obtain ⟨o0, ho0, eo, ok0, ok1⟩ := hst
  have hno := hC.2.1
  obtain ⟨kd, cc, d, hkd, c1, c2, hd, e5, f4, f5, f6, e6, e7, e8⟩ := hC.2.2.2.2.2.2.2 o0 ho0
  have E : zex h c k cnt x = zop h x (nI kd) (h 8 o0) (zav c x k 0) (zav c x k 1) k cnt := by
    unfold zex
    rw [eo, znc (by omega), e5]
  rw [E] at hp hp2
  obtain ⟨rf0, rf1, -⟩ := zSt_rf (g := g) hk hC.1 hkd c1 c2 hd e6 e7 ok0 ok1 hrv
  unfold wpMod_perform
  rw [znc (by omega), hm.1, eo]
  refine ⟨zin_nI (by omega) (by omega), fun y6 e6 => ?_⟩
  subst e6
  refine m_av (x := x) (a := 0) hk (by decide) hm hA.2 (fun z => zArg_var ok0 z) _ ⟨zin_nI (by omega) (by omega), ?_⟩
  rw [znc (by omega), f4]
  refine m_arity hkd _ ⟨fun q => ?_, fun q => ?_⟩
  · refine m_exec37 hC hk (by omega) hA hv hcnt hkd c1 c2 hd f4 f5 f6 e8 rf0 rf1 (fun z => absurd (by rw [z]; rfl) q) post hp hp2
  · refine m_av (x := x) (a := 1) hk (by decide) hm hA.2 (fun z => zArg_var ok1 z) _ ?_
    exact m_exec37 hC hk (by omega) hA hv hcnt hkd c1 c2 hd f4 f5 f6 e8 rf0 rf1 (fun _ => rfl) post hp hp2
