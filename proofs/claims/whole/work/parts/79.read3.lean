/-! replay: arguments -/
theorem zPar_C {h g : zM} {nc no : Nat} (hC : zCat h g nc no) : zPar h nc := fun i i1 i2 => (hC.2.2.2.2.2.2.1 i i1 i2).2.2.2.1
def zVk (K : zM) (c : Nat → Int32) (k : Nat) (t x : Int32) : Prop := x.toNatClampNeg < k ∧ zIs (K 2) (K 8 (c (5 * x.toNatClampNeg)).toNatClampNeg).toNatClampNeg t.toNatClampNeg
noncomputable def zRdV (K : zM) (c : Nat → Int32) (k : Nat) (t : Int32) (r : Option (Int32 × Nat)) : Option (Int32 × Int32 × Nat) := match r with
  | none => none
  | some (x, q) => if zdec (zVk K c k t x) = true then some (0, x, q) else none
def zRdL (r : Option (Int32 × Nat)) : Option (Int32 × Int32 × Nat) := match r with
  | none => none
  | some (x, q) => some (1, x, q)
noncomputable def zRdA (K : zM) (P : Nat → Nat) (c : Nat → Int32) (k : Nat) (t : Int32) (p : Nat) : Option (Int32 × Int32 × Nat) := if P p = 118 then zRdV K c k t (zRdS P false (p + 1)) else if t = 0 then zRdL (zRdN P p) else if P p = 110 then some (2, 0, p + 1) else none
theorem zRdS_nn {P : Nat → Nat} {s q : Nat} {x : Int32} (h : zRdS P false s = some (x, q)) : ∃ v : Nat, v < 2147483648 ∧ x = nI v := by
  unfold zRdS at h
  by_cases z : zRok P false s
  · rw [if_pos z] at h
    obtain ⟨c1, c2, -⟩ := zcnt_ok P 11 s
    have hlt := zdv_lt _ c2
    have hp : 10 ^ zcnt P 11 s ≤ 10 ^ 11 := Nat.pow_le_pow_right (by decide) c1
    have e : zyy false (zdv P s (zcnt P 11 s)) = lN (zdv P s (zcnt P 11 s)) := if_neg (by decide)
    have h2 := z.2.1
    rw [e, zFt_pos (by omega)] at h2
    rw [e, lN_i] at h
    exact ⟨_, h2, (congrArg Prod.fst (Option.some.inj h)).symm⟩
  · rw [if_neg z] at h
    cases h
theorem zRdS_q {P : Nat → Nat} {neg : Bool} {s q d : Nat} {x : Int32} (hd : ∀ i, P i ≠ 0 → i < d) (hs : s ≤ d) (h : zRdS P neg s = some (x, q)) : q ≤ d := by
  unfold zRdS at h
  by_cases z : zRok P neg s
  · rw [if_pos z] at h
    have := zcnt_le hd hs
    have e := congrArg Prod.snd (Option.some.inj h)
    dsimp only at e
    omega
  · rw [if_neg z] at h
    cases h
theorem zRdS_no {P : Nat → Nat} {neg : Bool} {s : Nat} (h : ¬ (48 ≤ P s ∧ P s ≤ 57)) : zRdS P neg s = none := by
  unfold zRdS
  have : zcnt P 11 s = 0 := by
    rw [zcnt, if_neg h]
  rw [if_neg (fun z => by have := z.1; omega)]
theorem zRdV_c {K : zM} {c c' : Nat → Int32} {k : Nat} {t : Int32} {r : Option (Int32 × Nat)} (hc : ∀ i, i < 5 * k → c' i = c i) : zRdV K c' k t r = zRdV K c k t r := by
  have e : ∀ x, zVk K c' k t x ↔ zVk K c k t x := by
    intro x
    unfold zVk
    constructor
    · rintro ⟨a, b⟩
      rw [hc _ (by omega)] at b
      exact ⟨a, b⟩
    · rintro ⟨a, b⟩
      refine ⟨a, ?_⟩
      rw [hc _ (by omega)]
      exact b
  cases r with
  | none => rfl
  | some w =>
    obtain ⟨x, q⟩ := w
    simp only [zRdV]
    by_cases z : zVk K c k t x
    · rw [zdec_t z, zdec_t ((e x).mpr z)]
    · rw [zdec_f z, zdec_f (fun z2 => z ((e x).mp z2))]
theorem zRdA_c {K : zM} {P : Nat → Nat} {c c' : Nat → Int32} {k p : Nat} {t : Int32} (hc : ∀ i, i < 5 * k → c' i = c i) : zRdA K P c' k t p = zRdA K P c k t p := by
  unfold zRdA
  rw [zRdV_c hc]
/-- the class's state while it reads -/
def zQf (h0 h : zM) : Prop := (∀ r, r ≠ 30 → r ≠ 32 → r ≠ 33 → h r = h0 r) ∧ h 30 2 = h0 30 2
def zQ (h0 h : zM) (p sz : Nat) (C : Nat → Int32) : Prop := zQf h0 h ∧ h 30 4 = nI p ∧ h 32 0 = nI sz ∧ ∀ i, i < 5 * sz → h 33 i = C i
theorem zQf_D {h0 h : zM} {d : Nat} {P : Nat → Nat} (hF : zQf h0 h) (hD : zDrH h0 d P) : zDrH h d P := ⟨hD.1, by rw [hF.2]; exact hD.2.1, fun i hi => by rw [hF.1 31 (by decide) (by decide) (by decide)]; exact hD.2.2.1 i hi, hD.2.2.2⟩
theorem zQf_N {h0 h h' : zM} (hF : zQf h0 h) (hN : zN5 h h') : zQf h0 h' := ⟨fun r a b c => (hN.1 r a).trans (hF.1 r a b c), (hN.2 2 (by decide) (by decide)).trans hF.2⟩
theorem zQ_N {h0 h h' : zM} {p p' sz : Nat} {C : Nat → Int32} (hQ : zQ h0 h p sz C) (hN : zN5 h h') (h4 : h' 30 4 = nI p') : zQ h0 h' p' sz C := ⟨zQf_N hQ.1 hN, h4, by rw [hN.1 32 (by decide)]; exact hQ.2.2.1, fun i hi => by rw [hN.1 33 (by decide)]; exact hQ.2.2.2 i hi⟩
theorem zQ_4 {h0 h : zM} {p p' sz : Nat} {C : Nat → Int32} (hQ : zQ h0 h p sz C) : zQ h0 (zu h 30 4 (nI p')) p' sz C := zQ_N hQ (zN5_u (Or.inl rfl)) zux
theorem zQf_set {h0 h : zM} {i : Nat} {v : Int32} (hF : zQf h0 h) : zQf h0 (zu h 33 i v) := ⟨fun r a b c => (zuo c).trans (hF.1 r a b c), (zun (Or.inl (by decide))).trans hF.2⟩
def zSa (C : Nat → Int32) (k a : Nat) (f v : Int32) : Nat → Int32 := fun i => if i = 5 * k + 2 + 2 * a then v else if i = 5 * k + 1 + 2 * a then f else C i
theorem zSa_lo {C : Nat → Int32} {k a i : Nat} {f v : Int32} (hi : i < 5 * k + 1) : zSa C k a f v i = C i := by
  unfold zSa
  rw [if_neg (by omega), if_neg (by omega)]
theorem zQ_set {h0 h : zM} {p sz k a : Nat} {C : Nat → Int32} {f v : Int32} (hQ : zQ h0 h p sz C) : zQ h0 (zu (zu h 33 (5 * k + 1 + 2 * a) f) 33 (5 * k + 2 + 2 * a) v) p sz (zSa C k a f v) := by
  refine ⟨zQf_set (zQf_set hQ.1), ?_, ?_, fun i hi => ?_⟩
  · rw [zun (Or.inl (by decide)), zun (Or.inl (by decide))]
    exact hQ.2.1
  · rw [zun (Or.inl (by decide)), zun (Or.inl (by decide))]
    exact hQ.2.2.1
  · unfold zSa
    by_cases q1 : i = 5 * k + 2 + 2 * a
    · rw [if_pos q1, q1, zux]
    · rw [if_neg q1, zun (Or.inr q1)]
      by_cases q2 : i = 5 * k + 1 + 2 * a
      · rw [if_pos q2, q2, zux]
      · rw [if_neg q2, zun (Or.inr q2)]
        exact hQ.2.2.2 i hi
theorem z_rdA {n : Nat} {ln : Nat → Nat} {h0 h g : zM} {d p k a o nc no : Nat} {P : Nat → Nat} {C : Nat → Int32} {t : Int32} (hC : zCat h0 g nc no) (hD : zDrH h0 d P) (hQ : zQ h0 h p (k + 1) C) (hp : p ≤ d) (hk : k < 10) (ha : a < 2) (ho : o < no) (eo : C (5 * k) = nI o) (hst : ∀ v, v < k → ∃ o' : Nat, o' < no ∧ C (5 * v) = nI o') (et : t = if a = 0 then h0 6 o else h0 7 o) (ht1 : t ≠ -1) (post : Int32 → zM → Prop) (kf : zRdA h0 P C k t p = none → ∀ h', zQf h0 h' → post 0 h') (ks : ∀ f v q, zRdA h0 P C k t p = some (f, v, q) → q ≤ d → ∀ h', zQ h0 h' q (k + 1) (zSa C k a f v) → post 1 h') : wpReader_readArgument n ln (nI k) (nI a) h post := by
  have hno := hC.2.1
  have hnc := hC.1
  have hd1 := hD.1
  have hDh := zQf_D hQ.1 hD
  unfold wpReader_readArgument
  refine z_op hk _ ?_
  rw [hQ.2.2.2 (5 * k) (by omega), eo]
  refine z_argType (by omega) ha _ ?_
  rw [hQ.1.1 6 (by decide) (by decide) (by decide), hQ.1.1 7 (by decide) (by decide) (by decide), ← et]
  have hty : zTyp nc t := by
    rw [et]
    have := zOp_typ hC ho
    split
    · exact this.1
    · exact this.2
  refine z_accept (c := 118) hDh hQ.2.1 (by omega) (by decide) _ (fun q => ⟨fun z => absurd z (by decide), fun _ => ?_⟩) (fun q => ⟨fun _ => ?_, fun z => absurd rfl z⟩)
  · unfold zRdA at kf ks
    rw [if_pos q] at kf ks
    have hpd : p + 1 ≤ d := (zDrH_P hDh p).2 (by omega)
    have hQ1 := zQ_4 (p' := p + 1) hQ
    have hD1 := zQf_D hQ1.1 hD
    have wrap0 : ∀ h', zQf h0 h' → zRdV h0 C k t (zRdS P false (p + 1)) = none → (((0 : Int32) = 0 ∨ (0 : Int32) = 1) ∧ post 0 h') := fun h' a b => ⟨Or.inl rfl, kf b h' a⟩
    unfold wpReader_readVariable
    refine z_digit hD1 hQ1.2.1 (by omega) _ (fun q2 => ⟨fun z => absurd z (by decide), fun _ => ?_⟩) (fun q2 => ⟨fun _ => wrap0 _ hQ1.1 (by rw [zRdS_no q2]; rfl), fun z => absurd rfl z⟩)
    have eN : zRdN P (p + 1) = zRdS P false (p + 1) := by
      unfold zRdN
      rw [if_neg (by omega)]
    refine z_rdN hD1 hQ1.2.1 hpd _ (fun z h' hN => ⟨fun _ => wrap0 h' (zQf_N hQ1.1 hN) (by rw [← eN, z]; rfl), fun z => absurd rfl z⟩) (fun x q' z hq' h' hN h4 h5 => ⟨fun z => absurd z (by decide), fun _ => ?_⟩)
    rw [eN] at z
    obtain ⟨v, hv, rfl⟩ := zRdS_nn z
    have eV : zVk h0 C k t (nI v) ↔ v < k ∧ zIs (h0 2) (h0 8 (C (5 * v)).toNatClampNeg).toNatClampNeg t.toNatClampNeg := by
      unfold zVk
      rw [znc hv]
    have eR : zRdV h0 C k t (zRdS P false (p + 1)) = if zdec (zVk h0 C k t (nI v)) = true then some (0, nI v, q') else none := by rw [z]; rfl
    rw [eR] at kf ks wrap0
    rw [h5]
    refine pk_lt v k (fun q3 => ?_) (fun q3 => wrap0 h' (zQf_N hQ1.1 hN) (by rw [zdec_f (fun z => by have := (eV.mp z).1; omega)]; rfl))
    have hQ2 : zQ h0 h' q' (k + 1) C := zQ_N hQ1 hN h4
    refine z_setArg hk ha _ _ _ ?_
    have hQ3 := zQ_set (k := k) (a := a) (f := 0) (v := nI v) hQ2
    have e5 : (zu (zu h' 33 (5 * k + 1 + 2 * a) 0) 33 (5 * k + 2 + 2 * a) (nI v)) 30 5 = nI v := by
      rw [zun (Or.inl (by decide)), zun (Or.inl (by decide))]
      exact h5
    generalize zu (zu h' 33 (5 * k + 1 + 2 * a) 0) 33 (5 * k + 2 + 2 * a) (nI v) = h3 at hQ3 e5
    rw [e5]
    obtain ⟨o', ho', eo'⟩ := hst v q3
    refine z_op (by omega) _ ?_
    rw [hQ3.2.2.2 (5 * v) (by omega), zSa_lo (by omega), eo', znc (by omega), hQ3.1.1 8 (by decide) (by decide) (by decide)]
    obtain ⟨ty, ty1, ty2⟩ := zOp_ty hC ho'
    rw [eo', znc (by omega), ty2, znc (by omega)] at eV
    have h32 : h3 2 = h0 2 := hQ3.1.1 2 (by decide) (by decide) (by decide)
    obtain ⟨tt, tt1, tt2⟩ : ∃ tt : Nat, tt ≤ nc ∧ t = nI tt := by
      rcases hty with z | z | ⟨tt, z1, z2, z3⟩
      · exact absurd z ht1
      · exact ⟨0, by omega, z⟩
      · exact ⟨tt, z2, z3⟩
    rw [tt2, znc (by omega)] at eV
    rw [ty2, tt2]
    refine ⟨zin_nI (by omega) (by decide), z_is (fun i i1 i2 => by rw [h32]; exact zPar_C hC i i1 i2) hnc ty tt ty1 tt1 _ (fun q4 => ?_) (fun q4 => ?_)⟩
    · rw [h32] at q4
      refine ⟨Or.inl rfl, wrap0 h3 hQ3.1 ?_⟩
      rw [tt2, zdec_f (fun z => q4 (eV.mp z).2)]
      rfl
    · rw [h32] at q4
      refine ⟨Or.inr rfl, Or.inr rfl, ks 0 (nI v) q' ?_ hq' h3 hQ3⟩
      rw [tt2, zdec_t (eV.mpr ⟨q3, q4⟩)]
      rfl
  · unfold zRdA at kf ks
    rw [if_neg q] at kf ks
    refine ⟨fun z => ?_, fun z => ?_⟩
    · rw [if_pos z] at kf ks
      refine z_rdN hDh hQ.2.1 hp _ (fun z2 h' hN => z_setArg hk ha _ _ _ ⟨Or.inl rfl, kf (by rw [z2]; rfl) _ (zQf_set (zQf_set (zQf_N hQ.1 hN)))⟩) (fun x q' z2 hq' h' hN h4 h5 => z_setArg hk ha _ _ _ ⟨Or.inr rfl, ks 1 x q' (by rw [z2]; rfl) hq' _ ?_⟩)
      rw [h5]
      exact zQ_set (zQ_N hQ hN h4)
    · rw [if_neg z] at kf ks
      refine z_setArg hk ha _ _ _ ?_
      have hQ3 := zQ_set (k := k) (a := a) (f := 2) (v := 0) hQ
      refine z_accept (c := 110) (zQf_D hQ3.1 hD) hQ3.2.1 (by omega) (by decide) _ (fun q2 => ⟨Or.inr rfl, ks 2 0 (p + 1) (by rw [if_pos q2]) ((zDrH_P hDh p).2 (by omega)) _ (zQ_4 hQ3)⟩) (fun q2 => ⟨Or.inl rfl, kf (by rw [if_neg q2]) _ hQ3.1⟩)
