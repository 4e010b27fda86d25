/-! the class executes a statement as zex says -/
theorem z_exec {n : Nat} {ln : Nat → Nat} {o : Nat} {h g x : zM} {nc no cnt k : Nat} (hC : zCat h g nc no) (hk : k < 10) (hst : zStOk h (h (o + 1)) no k) (hA : zAgR h cnt k x) (hv : zHv nc cnt x) (hrv : zRv h (h (o + 1)) cnt x k) (hcnt : cnt ≤ k) (post : Int32 → zM → Prop) (hp : ∀ h', zFx h h' → (zex h (h (o + 1)) k cnt x).1 = 0 → zAgR h' (zex h (h (o + 1)) k cnt x).2.1 (k + 1) (zex h (h (o + 1)) k cnt x).2.2 → post 0 h') (hp2 : (zex h (h (o + 1)) k cnt x).1 ≠ 0 → post (zex h (h (o + 1)) k cnt x).1 h) : wpRunner_execute n ln o (nI k) h post := by
  obtain ⟨o0, ho0, eo, ok0, ok1⟩ := hst
  obtain ⟨hnc, hno, -, -, -, -, hcls, hops⟩ := hC
  have hpar : zPar h nc := fun i a b => (hcls i a b).2.2.2.1
  obtain ⟨kd, c, d, hkd, c1, c2, hd, e5, -, -, -, e6, e7, e8⟩ := hops o0 ho0
  have E : zex h (h (o + 1)) k cnt x = zop h x (nI kd) (h 8 o0) (zav (h (o + 1)) x k 0) (zav (h (o + 1)) x k 1) k cnt := by
    unfold zex
    rw [eo, znc (by omega), e5]
  rw [E] at hp hp2
  have hc10 := hv.1
  have io : vp_in (nI o0) 10 := zin_nI (by omega) (by omega)
  have rf0 : kd ≠ 0 → zRf cnt (zav (h (o + 1)) x k 0) := by
    intro hk0
    by_cases h1 : kd = 1
    · subst h1
      obtain ⟨e', e1, e2, rfl⟩ := hd (Or.inl rfl)
      have ok0 : zArgOk h (h (o + 1)) k 0 (nI e') := by rw [e6] at ok0; exact ok0
      exact zArg_rf (by omega) e1 (by omega) ok0 hrv
    · have ok0 : zArgOk h (h (o + 1)) k 0 (nI c) := by
        rw [e6] at ok0
        unfold zft at ok0
        rw [if_neg hk0, if_neg h1] at ok0
        exact ok0
      exact zArg_rf (by omega) c1 (by omega) ok0 hrv
  have rf1 : kd = 4 ∨ kd = 9 → zRf cnt (zav (h (o + 1)) x k 1) := by
    intro h49
    obtain ⟨e', e1, e2, rfl⟩ := hd (by unfold zhasD; omega)
    have ok1 : zArgOk h (h (o + 1)) k 1 (nI e') := by
      rw [e7] at ok1
      unfold zst at ok1
      rw [if_neg (by omega), if_pos h49] at ok1
      exact ok1
    exact zArg_rf (by omega) e1 (by omega) ok1 hrv
  have ty0 : kd ≠ 0 → h 6 o0 ≠ -1 ∧ h 6 o0 ≠ 0 := by
    intro hk0
    rw [e6]
    unfold zft
    rw [if_neg hk0]
    by_cases h1 : kd = 1
    · obtain ⟨e', e1, e2, rfl⟩ := hd (by unfold zhasD; omega)
      rw [if_pos h1]
      exact ⟨znm1 (by omega), fun q => by rw [zeq, znI (by omega), zti_0] at q; omega⟩
    · rw [if_neg h1]
      exact ⟨znm1 (by omega), fun q => by rw [zeq, znI (by omega), zti_0] at q; omega⟩
  unfold wpRunner_execute
  refine z_isNull (x := x) hk (by decide) hA.2 (by omega) eo (show zArgOk h (h (o + 1)) k 0 (h 6 o0) from ok0) _ (fun hnn => ⟨fun _ => ?_, fun q => absurd rfl q⟩) (fun hnn => ⟨fun q => absurd q (by decide), fun _ => ?_⟩)
  · refine z_op hk _ ?_
    rw [eo]
    refine z_av (x := x) (a := 0) hk (by decide) hA.2 (fun z => zArg_var ok0 z) _ (z_av (x := x) (a := 1) hk (by decide) hA.2 (fun z => zArg_var ok1 z) _ ?_)
    rw [znc (show o0 < 2147483648 by omega), e5]
    refine ⟨io, ?_⟩
    have hnn' : kd ≠ 0 → zav (h (o + 1)) x k 0 ≠ -1 := fun hk0 z => hnn ⟨(ty0 hk0).1, (ty0 hk0).2, z⟩
    generalize zav (h (o + 1)) x k 0 = a at hp hp2 rf0 hnn' ⊢
    generalize zav (h (o + 1)) x k 1 = b at hp hp2 rf1 ⊢
    have give : ∀ v : Int32, zop h x (nI kd) (h 8 o0) a b k cnt = (0, cnt, zu x 3 k v) → wpRunner_give n ln (nI k) v h (fun r h1 => post r h1) := by
      intro v e
      rw [e] at hp
      obtain ⟨z1, z2⟩ := zAg_res hA v
      exact z_give hk v _ (hp _ z2 rfl z1)
    have a1 : kd ≠ 0 → ∃ i : Nat, i < cnt ∧ a = nI i := fun hk0 => (rf0 hk0).resolve_left (hnn' hk0)
    rcases (show kd = 0 ∨ kd = 1 ∨ kd = 2 ∨ kd = 3 ∨ kd = 4 ∨ kd = 5 ∨ kd = 6 ∨ kd = 7 ∨ kd = 8 ∨ kd = 9 by omega) with rfl | rfl | rfl | rfl | rfl | rfl | rfl | rfl | rfl | rfl
    · refine ⟨fun _ => ⟨io, ?_⟩, fun q => absurd rfl q⟩
      unfold zop at hp hp2
      rw [if_pos (show nI 0 = (0 : Int32) from rfl)] at hp hp2
      unfold wpRunner_make
      refine z_canBe _ (fun hf => ⟨fun q => absurd rfl q, fun _ => ?_⟩) (fun hf => ⟨fun _ => ?_, fun q => absurd q (by decide)⟩)
      · rw [zl_of] at hf
        rw [zdec_f hf, if_neg (by decide)] at hp2
        exact hp2 (show (1 : Int32) ≠ 0 by decide)
      · rw [zl_of] at hf
        rw [zdec_t hf, if_pos rfl] at hp
        refine z_make hA.1.1 (by omega) _ _ _ _ (z_give hk _ _ ?_)
        obtain ⟨z1, z2⟩ := zAg_mk hk hA (h 8 o0) a (-1)
        exact hp _ z2 rfl z1
    · obtain ⟨i, hi, rfl⟩ := a1 (by decide)
      have na : nI i ≠ -1 := znm1 (by omega)
      have ii : vp_in (nI i) 10 := zin_nI (by omega) (by omega)
      rw [znc (show i < 2147483648 by omega)]
      refine ⟨fun q => absurd q (by decide), fun _ => ⟨fun _ => ⟨io, ii, ?_⟩, fun q => absurd rfl q⟩⟩
      unfold zop at hp
      rw [if_neg (by decide), if_neg na, if_pos (show nI 1 = (1 : Int32) from rfl), znc (by omega)] at hp
      refine z_make hA.1.1 (by omega) _ _ _ _ (z_give hk _ _ ?_)
      rw [(hA.1.2 i hi).2.1]
      obtain ⟨z1, z2⟩ := zAg_mk hk hA (h 8 o0) (x 1 i) (nI i)
      exact hp _ z2 rfl z1
    · obtain ⟨i, hi, rfl⟩ := a1 (by decide)
      have na : nI i ≠ -1 := znm1 (by omega)
      have ii : vp_in (nI i) 10 := zin_nI (by omega) (by omega)
      rw [znc (show i < 2147483648 by omega), (hA.1.2 i hi).2.1]
      refine ⟨fun q => absurd q (by decide), fun _ => ⟨fun q => absurd q (by decide), fun _ => ⟨fun _ => ⟨ii, give _ ?_⟩, fun q => absurd rfl q⟩⟩⟩
      unfold zop
      rw [if_neg (by decide), if_neg na, if_neg (by decide), if_pos (show nI 2 = (2 : Int32) from rfl), znc (by omega)]
    · obtain ⟨i, hi, rfl⟩ := a1 (by decide)
      have na : nI i ≠ -1 := znm1 (by omega)
      have ii : vp_in (nI i) 10 := zin_nI (by omega) (by omega)
      refine ⟨fun q => absurd q (by decide), fun _ => ⟨fun q => absurd q (by decide), fun _ => ⟨fun q => absurd q (by decide), fun _ => ⟨fun _ => ?_, fun q => absurd rfl q⟩⟩⟩⟩
      unfold zop at hp hp2
      rw [if_neg (by decide), if_neg na, if_neg (by decide), if_neg (by decide), if_pos (show nI 3 = (3 : Int32) from rfl), znc (by omega)] at hp hp2
      unfold wpRunner_add
      rw [znc (show i < 2147483648 by omega), (hA.1.2 i hi).2.1]
      refine ⟨ii, fun y13 e13 => ?_⟩
      refine z_canBe _ (fun hf => ⟨fun q => absurd rfl q, fun _ => ?_⟩) (fun hf => ⟨fun _ => ⟨ii, fun h37 e37 => ?_⟩, fun q => absurd q (by decide)⟩)
      · rw [e13, zl_add] at hf
        rw [zdec_f hf, if_neg (by decide)] at hp2
        exact hp2 (show (1 : Int32) ≠ 0 by decide)
      · rw [e13, zl_add] at hf
        rw [zdec_t hf, if_pos rfl] at hp
        rw [e13, zl_back] at e37
        obtain ⟨z1, z2⟩ := zAg_val hA i (x 1 i + b)
        obtain ⟨z3, z4⟩ := zAg_res z1 (nI i)
        refine z_give hk _ _ ?_
        rw [e37]
        exact hp _ (zFx_tr z2 z4) rfl z3
    · obtain ⟨i, hi, rfl⟩ := a1 (by decide)
      have na : nI i ≠ -1 := znm1 (by omega)
      have ii : vp_in (nI i) 10 := zin_nI (by omega) (by omega)
      refine ⟨fun q => absurd q (by decide), fun _ => ⟨fun q => absurd q (by decide), fun _ => ⟨fun q => absurd q (by decide), fun _ => ⟨fun q => absurd q (by decide), fun _ => ⟨fun _ => ?_, fun q => absurd rfl q⟩⟩⟩⟩⟩
      unfold zop at hp hp2
      rw [if_neg (by decide), if_neg na, if_neg (by decide), if_neg (by decide), if_neg (by decide), if_pos (show nI 4 = (4 : Int32) from rfl), znc (by omega)] at hp hp2
      unfold wpRunner_link
      refine z_reaches hA.1 hv (rf1 (Or.inl rfl)) hi _ (fun hr => ⟨fun _ => ?_, fun q => absurd rfl q⟩) (fun hr => ⟨fun q => absurd q (by decide), fun _ => ?_⟩)
      · rw [zdec_f hr, if_neg (by decide)] at hp
        rw [znc (by omega)]
        refine ⟨ii, fun h23 e23 => z_give hk _ _ ?_⟩
        obtain ⟨z1, z2⟩ := zAg_nxt hA i b
        obtain ⟨z3, z4⟩ := zAg_res z1 (nI i)
        rw [e23]
        exact hp _ (zFx_tr z2 z4) rfl z3
      · rw [zdec_t hr, if_pos rfl] at hp2
        exact hp2 (show (2 : Int32) ≠ 0 by decide)
    · obtain ⟨i, hi, rfl⟩ := a1 (by decide)
      have na : nI i ≠ -1 := znm1 (by omega)
      have ii : vp_in (nI i) 10 := zin_nI (by omega) (by omega)
      refine ⟨fun q => absurd q (by decide), fun _ => ⟨fun q => absurd q (by decide), fun _ => ⟨fun q => absurd q (by decide), fun _ => ⟨fun q => absurd q (by decide), fun _ => ⟨fun q => absurd q (by decide), fun _ => ⟨fun _ => ⟨io, ?_⟩, fun q => absurd rfl q⟩⟩⟩⟩⟩⟩
      have hzz : zop h x (nI 5) (h 8 o0) (nI i) b k cnt = (if zdec (x 2 i = -1 ∨ zIs (h 2) (Int32.toNatClampNeg (x 0 (Int32.toNatClampNeg (x 2 i)))) (Int32.toNatClampNeg (h 8 o0))) = true then (0, cnt, zu x 3 k (x 2 i)) else (3, cnt, x)) := by
        unfold zop
        rw [if_neg (by decide), if_neg na, if_neg (by decide), if_neg (by decide), if_neg (by decide), if_neg (by decide), if_pos (show nI 5 = (5 : Int32) from rfl), znc (by omega)]
      unfold wpRunner_getNext wbRunner_getNext_40
      rw [znc (show i < 2147483648 by omega), (hA.1.2 i hi).2.2]
      refine ⟨ii, fun y9 e9 => ⟨fun q => give _ ?_, fun q => ?_⟩⟩
      · rw [hzz, zdec_t (Or.inl (e9.symm.trans q)), if_pos rfl, e9]
      · obtain ⟨j, hj, ej⟩ := (hv.2 i hi).2.1.resolve_left (fun z => q (e9.trans z))
        rw [ej] at e9
        subst e9
        obtain ⟨⟨cj, cj1, cj2, ecj⟩, -, -⟩ := hv.2 j hj
        obtain ⟨e', e1, e2, rfl⟩ := hd (by unfold zhasD; omega)
        have e8' : h 8 o0 = nI e' := by rw [e8]; rfl
        rw [znc (by omega), (hA.1.2 j hj).1, ecj, e8']
        rw [ej, znc (by omega), ecj, znc (by omega), e8', znc (by omega)] at hzz
        rw [e8'] at hp2 give
        refine ⟨zin_nI (by omega) (by omega), z_is hpar hnc cj e' cj2 e2 _ (fun z => ⟨fun q => absurd rfl q, fun _ => ?_⟩) (fun z => ⟨fun _ => give _ ?_, fun q => absurd q (by decide)⟩)⟩
        · rw [hzz, zdec_f (by rintro (w | w); exact q w; exact z w), if_neg (by decide)] at hp2
          exact hp2 (show (3 : Int32) ≠ 0 by decide)
        · rw [hzz, zdec_t (Or.inr z), if_pos rfl]
    · obtain ⟨i, hi, rfl⟩ := a1 (by decide)
      have na : nI i ≠ -1 := znm1 (by omega)
      have ii : vp_in (nI i) 10 := zin_nI (by omega) (by omega)
      have hzz : zop h x (nI 6) (h 8 o0) (nI i) b k cnt = (if b = 0 then (4, cnt, x) else (0, cnt, zu x 3 k (x 1 i / b))) := by
        unfold zop
        rw [if_neg (by decide), if_neg na, if_neg (by decide), if_neg (by decide), if_neg (by decide), if_neg (by decide), if_neg (by decide), if_pos (show nI 6 = (6 : Int32) from rfl), znc (by omega)]
      rw [znc (show i < 2147483648 by omega), (hA.1.2 i hi).2.1]
      refine ⟨fun q => absurd q (by decide), fun _ => ⟨fun q => absurd q (by decide), fun _ => ⟨fun q => absurd q (by decide), fun _ => ⟨fun q => absurd q (by decide), fun _ => ⟨fun q => absurd q (by decide), fun _ => ⟨fun q => absurd q (by decide), fun _ => ⟨fun _ => ⟨fun q => ⟨ii, q, give _ ?_⟩, fun q => ?_⟩, fun q => absurd rfl q⟩⟩⟩⟩⟩⟩⟩
      · rw [hzz, if_neg q]
      · rw [hzz, if_pos q] at hp2
        exact hp2 (show (4 : Int32) ≠ 0 by decide)
    · obtain ⟨i, hi, rfl⟩ := a1 (by decide)
      have na : nI i ≠ -1 := znm1 (by omega)
      have ii : vp_in (nI i) 10 := zin_nI (by omega) (by omega)
      have hzz : zop h x (nI 7) (h 8 o0) (nI i) b k cnt = (if x 2 i = -1 then (5, cnt, x) else (0, cnt, zu x 3 k (x 1 (Int32.toNatClampNeg (x 2 i))))) := by
        unfold zop
        rw [if_neg (by decide), if_neg na, if_neg (by decide), if_neg (by decide), if_neg (by decide), if_neg (by decide), if_neg (by decide), if_neg (by decide), if_pos (show nI 7 = (7 : Int32) from rfl), znc (by omega)]
      refine ⟨fun q => absurd q (by decide), fun _ => ⟨fun q => absurd q (by decide), fun _ => ⟨fun q => absurd q (by decide), fun _ => ⟨fun q => absurd q (by decide), fun _ => ⟨fun q => absurd q (by decide), fun _ => ⟨fun q => absurd q (by decide), fun _ => ⟨fun q => absurd q (by decide), fun _ => ⟨fun _ => ?_, fun q => absurd rfl q⟩⟩⟩⟩⟩⟩⟩⟩
      unfold wpRunner_getNextValue
      rw [znc (show i < 2147483648 by omega), (hA.1.2 i hi).2.2]
      refine ⟨ii, fun y9 e9 => ⟨fun q => ?_, fun q => ?_⟩⟩
      · obtain ⟨j, hj, ej⟩ := (hv.2 i hi).2.1.resolve_left (fun z => q (e9.trans z))
        rw [ej] at e9
        subst e9
        rw [znc (by omega), (hA.1.2 j hj).2.1]
        refine ⟨zin_nI (by omega) (by omega), give _ ?_⟩
        rw [hzz, ej, if_neg q, znc (by omega)]
      · rw [hzz, if_pos (e9.symm.trans q)] at hp2
        exact hp2 (show (5 : Int32) ≠ 0 by decide)
    · obtain ⟨i, hi, rfl⟩ := a1 (by decide)
      have na : nI i ≠ -1 := znm1 (by omega)
      refine ⟨fun q => absurd q (by decide), fun _ => ⟨fun q => absurd q (by decide), fun _ => ⟨fun q => absurd q (by decide), fun _ => ⟨fun q => absurd q (by decide), fun _ => ⟨fun q => absurd q (by decide), fun _ => ⟨fun q => absurd q (by decide), fun _ => ⟨fun q => absurd q (by decide), fun _ => ⟨fun q => absurd q (by decide), fun _ => ⟨fun _ => ?_, fun q => absurd rfl q⟩⟩⟩⟩⟩⟩⟩⟩⟩
      refine z_chain hA.1 hv (Or.inr ⟨i, hi, rfl⟩) _ (give _ ?_)
      unfold zop
      rw [if_neg (by decide), if_neg na, if_neg (by decide), if_neg (by decide), if_neg (by decide), if_neg (by decide), if_neg (by decide), if_neg (by decide), if_neg (by decide), if_pos (show nI 8 = (8 : Int32) from rfl)]
    · obtain ⟨i, hi, rfl⟩ := a1 (by decide)
      have na : nI i ≠ -1 := znm1 (by omega)
      have hzz : zop h x (nI 9) (h 8 o0) (nI i) b k cnt = (0, cnt, zu x 3 k (if zdec (b ≠ -1 ∧ zequ h x 10 i (Int32.toNatClampNeg b)) = true then 1 else 0)) := by
        unfold zop
        rw [if_neg (by decide), if_neg na, if_neg (by decide), if_neg (by decide), if_neg (by decide), if_neg (by decide), if_neg (by decide), if_neg (by decide), if_neg (by decide), if_neg (by decide), znc (by omega)]
      unfold wbRunner_execute_277 wbRunner_execute_278
      refine ⟨fun q => absurd q (by decide), fun _ => ⟨fun q => absurd q (by decide), fun _ => ⟨fun q => absurd q (by decide), fun _ => ⟨fun q => absurd q (by decide), fun _ => ⟨fun q => absurd q (by decide), fun _ => ⟨fun q => absurd q (by decide), fun _ => ⟨fun q => absurd q (by decide), fun _ => ⟨fun q => absurd q (by decide), fun _ => ⟨fun q => absurd q (by decide), fun _ => ⟨fun q => give _ ?_, fun q => ?_⟩⟩⟩⟩⟩⟩⟩⟩⟩⟩
      · rw [hzz, zdec_f (fun z => z.1 q), if_neg (by decide)]
      · obtain ⟨j, hj, rfl⟩ := (rf1 (Or.inr rfl)).resolve_left q
        rw [znc (by omega)] at hzz
        refine z_equal hA.1 hv hpar hnc hi hj _ (fun z => ⟨fun _ => give _ ?_, fun q => absurd rfl q⟩) (fun z => ⟨fun q => absurd q (by decide), fun _ => give _ ?_⟩)
        · rw [hzz, zdec_f (fun w => z w.2), if_neg (by decide)]
        · rw [hzz, zdec_t ⟨q, z⟩, if_pos rfl]
  · obtain ⟨t1, t2, t3⟩ := hnn
    have hk0 : kd ≠ 0 := by
      rintro rfl
      exact t2 (by rw [if_pos rfl, e6]; rfl)
    unfold zop at hp2
    rw [if_neg (fun q => hk0 (by rw [zeq, znI (by omega), zti_0] at q; omega)), if_pos t3] at hp2
    exact hp2 (show (5 : Int32) ≠ 0 by decide)
