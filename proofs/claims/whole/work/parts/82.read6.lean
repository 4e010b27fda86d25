/-! replay: what a read call is; the model's calls -/
theorem zRdA_ok {h g : zM} {nc no k a p q : Nat} {P : Nat → Nat} {c C : Nat → Int32} {t f v : Int32} (hC : zCat h g nc no) (hty : zTyp nc t) (ht1 : t ≠ -1) (hst : ∀ v, v < k → ∃ o' : Nat, o' < no ∧ c (5 * v) = nI o') (hz : zRdA h P c k t p = some (f, v, q)) (hc : ∀ i, i < 5 * k → C i = c i) (e1 : C (5 * k + 1 + 2 * a) = f) (e2 : C (5 * k + 2 + 2 * a) = v) : zArgOk h C k a t ∧ f ≠ -1 := by
  have hno := hC.2.1
  have hnc := hC.1
  unfold zRdA at hz
  unfold zArgOk
  rw [e1, e2]
  by_cases q1 : P p = 118
  · rw [if_pos q1] at hz
    cases hr : zRdS P false (p + 1) with
    | none =>
      rw [hr] at hz
      cases hz
    | some w =>
      obtain ⟨x, q'⟩ := w
      obtain ⟨vv, hv, rfl⟩ := zRdS_nn hr
      rw [hr] at hz
      simp only [zRdV] at hz
      by_cases z : zVk h c k t (nI vv)
      · rw [zdec_t z, if_pos rfl] at hz
        obtain ⟨z1, z2⟩ := z
        rw [znc hv] at z1 z2
        obtain ⟨o', ho', eo'⟩ := hst vv z1
        obtain ⟨ty, ty1, ty2⟩ := zOp_ty hC ho'
        rw [eo', znc (by omega), ty2, znc (by omega)] at z2
        have hz' := Option.some.inj hz
        have ef : f = 0 := (congrArg Prod.fst hz').symm
        have ev : v = nI vv := (congrArg (fun w => w.2.1) hz').symm
        subst ef
        subst ev
        refine ⟨Or.inr ?_, by decide⟩
        rcases hty with w | w | ⟨tt, w1, w2, w3⟩
        · exact absurd w ht1
        · subst w
          rw [show (0 : Int32).toNatClampNeg = 0 from rfl, zIs_z (zPar_C hC) hnc ty1] at z2
          subst z2
          exact Or.inl ⟨rfl, Or.inr ⟨rfl, vv, o', z1, rfl, by omega, by rw [hc _ (by omega)]; exact eo', ty2⟩⟩
        · subst w3
          rw [znc (by omega)] at z2
          exact Or.inr ⟨tt, w1, by omega, rfl, Or.inr ⟨rfl, vv, o', ty, z1, rfl, by omega, by rw [hc _ (by omega)]; exact eo', by omega, ty2, z2⟩⟩
      · rw [zdec_f z, if_neg (by decide)] at hz
        cases hz
  · rw [if_neg q1] at hz
    by_cases q2 : t = 0
    · rw [if_pos q2] at hz
      subst q2
      cases hr : zRdN P p with
      | none =>
        rw [hr] at hz
        cases hz
      | some w =>
        obtain ⟨x, q'⟩ := w
        rw [hr] at hz
        have hz' := Option.some.inj hz
        have ef : f = 1 := (congrArg Prod.fst hz').symm
        subst ef
        exact ⟨Or.inr (Or.inl ⟨rfl, Or.inl rfl⟩), by decide⟩
    · rw [if_neg q2] at hz
      by_cases q3 : P p = 110
      · rw [if_pos q3] at hz
        have hz' := Option.some.inj hz
        have ef : f = 2 := (congrArg Prod.fst hz').symm
        have ev : v = 0 := (congrArg (fun w => w.2.1) hz').symm
        subst ef
        subst ev
        refine ⟨Or.inr (Or.inr ?_), by decide⟩
        rcases hty with w | w | ⟨tt, w1, w2, w3⟩
        · exact absurd w ht1
        · exact absurd w q2
        · exact ⟨tt, w1, by omega, w3, Or.inl ⟨rfl, rfl⟩⟩
      · rw [if_neg q3] at hz
        cases hz
theorem zst_ops {h : zM} {c : Nat → Int32} {no k : Nat} (hst : ∀ j, j < k → zStOk h c no j) : ∀ v, v < k → ∃ o' : Nat, o' < no ∧ c (5 * v) = nI o' := fun v hv => by
  obtain ⟨o, ho, e, -⟩ := hst v hv
  exact ⟨o, ho, e⟩
theorem zst_push {h g : zM} {nc no k o : Nat} {c : Nat → Int32} {f0 v0 f1 v1 : Int32} (hC : zCat h g nc no) (ho : o < no) (hst : ∀ j, j < k → zStOk h c no j) (a0 : zArgOk h (zpush c k (nI o) f0 v0 f1 v1) k 0 (h 6 o)) (a1 : zArgOk h (zpush c k (nI o) f0 v0 f1 v1) k 1 (h 7 o)) : ∀ j, j < k + 1 → zStOk h (zpush c k (nI o) f0 v0 f1 v1) no j := by
  intro j hj
  rcases Nat.lt_or_ge j k with q | q
  · exact zStOk_K (sz := k) hC.2.1 (zKq_of no (fun r _ => rfl)) (Nat.le_refl _) (fun i hi => zpush_lo hi) hst j q
  · obtain rfl : j = k := by omega
    exact ⟨o, ho, zpush_op, a0, a1⟩
theorem zRdC_ok {h g : zM} {nc no k p q : Nat} {P : Nat → Nat} {c c' : Nat → Int32} (hC : zCat h g nc no) (hst : ∀ j, j < k → zStOk h c no j) (hz : zRdC h P no c k p = some (c', q)) : ∀ j, j < k + 1 → zStOk h c' no j := by
  have hops := zst_ops hst
  unfold zRdC at hz
  by_cases q0 : 97 ≤ P p ∧ P p < 97 + no
  · rw [if_pos q0] at hz
    have ho : P p - 97 < no := by omega
    generalize P p - 97 = o at hz ho
    by_cases q1 : P (p + 1) = 40
    · rw [if_pos q1] at hz
      obtain ⟨kd, -, -, -, n6, ar', ar1, ar2⟩ := zOp_ar hC.1 (hC.2.2.2.2.2.2.2 o ho)
      obtain ⟨ty6, ty7⟩ := zOp_typ hC ho
      cases hr : zRdA h P c k (h 6 o) (p + 2) with
      | none =>
        rw [hr] at hz
        cases hz
      | some w =>
        obtain ⟨f0, v0, q2⟩ := w
        rw [hr] at hz
        simp only [zRd2] at hz
        by_cases q7 : h 7 o = -1
        · rw [if_pos q7] at hz
          by_cases q3 : P q2 = 41
          · rw [if_pos q3] at hz
            have ec := congrArg Prod.fst (Option.some.inj hz)
            dsimp only at ec
            subst ec
            refine zst_push hC ho hst (zRdA_ok hC ty6 n6 hops hr (fun i hi => zpush_lo hi) (by rw [zpush_f (by decide)]; rfl) (by rw [zpush_v (by decide)]; rfl)).1 (Or.inl ⟨q7, ?_, ?_⟩)
            · rw [zpush_f (by decide)]; rfl
            · rw [zpush_v (by decide)]; rfl
          · rw [if_neg q3] at hz
            cases hz
        · rw [if_neg q7] at hz
          by_cases q3 : P q2 = 44
          · rw [if_pos q3] at hz
            cases hr2 : zRdA h P c k (h 7 o) (q2 + 1) with
            | none =>
              rw [hr2] at hz
              cases hz
            | some w =>
              obtain ⟨f1, v1, q4⟩ := w
              rw [hr2] at hz
              simp only [zRd3] at hz
              by_cases q5 : P q4 = 41
              · rw [if_pos q5] at hz
                have ec := congrArg Prod.fst (Option.some.inj hz)
                dsimp only at ec
                subst ec
                exact zst_push hC ho hst (zRdA_ok hC ty6 n6 hops hr (fun i hi => zpush_lo hi) (by rw [zpush_f (by decide)]; rfl) (by rw [zpush_v (by decide)]; rfl)).1 (zRdA_ok hC ty7 q7 hops hr2 (fun i hi => zpush_lo hi) (by rw [zpush_f (by decide)]; rfl) (by rw [zpush_v (by decide)]; rfl)).1
              · rw [if_neg q5] at hz
                cases hz
          · rw [if_neg q3] at hz
            cases hz
    · rw [if_neg q1] at hz
      cases hz
  · rw [if_neg q0] at hz
    cases hz
theorem zRdN_q {P : Nat → Nat} {p q d : Nat} {x : Int32} (hd : ∀ i, P i ≠ 0 → i < d) (hp : p ≤ d) (h : zRdN P p = some (x, q)) : q ≤ d := by
  unfold zRdN at h
  by_cases z : P p = 45
  · rw [if_pos z] at h
    exact zRdS_q hd (hd p (by omega)) h
  · rw [if_neg z] at h
    exact zRdS_q hd hp h
theorem zRdA_q {K : zM} {P : Nat → Nat} {c : Nat → Int32} {k p q d : Nat} {t f v : Int32} (hd : ∀ i, P i ≠ 0 → i < d) (hp : p ≤ d) (hz : zRdA K P c k t p = some (f, v, q)) : q ≤ d := by
  unfold zRdA at hz
  by_cases q1 : P p = 118
  · rw [if_pos q1] at hz
    cases hr : zRdS P false (p + 1) with
    | none =>
      rw [hr] at hz
      cases hz
    | some w =>
      obtain ⟨x, q'⟩ := w
      rw [hr] at hz
      simp only [zRdV] at hz
      by_cases z : zVk K c k t x
      · rw [zdec_t z, if_pos rfl] at hz
        have e : q = q' := (congrArg (fun w => w.2.2) (Option.some.inj hz)).symm
        subst e
        exact zRdS_q hd (hd p (by omega)) hr
      · rw [zdec_f z, if_neg (by decide)] at hz
        cases hz
  · rw [if_neg q1] at hz
    by_cases q2 : t = 0
    · rw [if_pos q2] at hz
      cases hr : zRdN P p with
      | none =>
        rw [hr] at hz
        cases hz
      | some w =>
        obtain ⟨x, q'⟩ := w
        rw [hr] at hz
        have e : q = q' := (congrArg (fun w => w.2.2) (Option.some.inj hz)).symm
        subst e
        exact zRdN_q hd hp hr
    · rw [if_neg q2] at hz
      by_cases q3 : P p = 110
      · rw [if_pos q3] at hz
        have e : q = p + 1 := (congrArg (fun w => w.2.2) (Option.some.inj hz)).symm
        have := hd p (by omega)
        omega
      · rw [if_neg q3] at hz
        cases hz
theorem m_rst {gg : zM} {o kd a : Nat} {post : zM → Prop} {L : Int32 × Int32 × zM → Prop} (ho : o < 10) (k9 : kd ≤ 9) (ha : a ≤ 2) (e42 : gg 0 42 = 0) (e4 : gg 4 o = nI kd) (c1 : zar kd ≤ a → wbMod_readStatement_110 post (nI o) gg) (c2 : a < zar kd → a = 0 → wbMod_readStatement_93 post L (nI o) (nI a) gg) (c3 : a < zar kd → a ≠ 0 → wpMod_expect 44 gg (fun h90 => wbMod_readStatement_93 post L (nI o) (nI a) h90)) : stMod_readStatement_63 post L (nI o, nI a, gg) := by
  unfold stMod_readStatement_63
  dsimp only
  rw [e42, znc (by omega), e4]
  have hz : zar kd ≤ 2 := by unfold zar; split <;> omega
  exact ⟨fun z => absurd rfl z, fun _ => ⟨zin_nI ho (by decide), m_arity k9 _ (pk_le (zar kd) a c1 (fun q => pk_le a 0 (fun q2 => c2 q (by omega)) (fun q2 => c3 q (by omega))))⟩⟩
/-- the model's state while it reads -/
def mQf (g0 g : zM) : Prop := ∀ r s, (r = 0 ∧ s ≠ 41 ∧ s ≠ 42 ∧ s ≠ 11) ∨ (r ≠ 0 ∧ (r < 8 ∨ 12 < r)) → g r s = g0 r s
def mQ (g0 g : zM) (p k : Nat) (c : Nat → Int32) : Prop := mQf g0 g ∧ g 0 41 = nI p ∧ g 0 42 = 0 ∧ g 0 11 = nI k ∧ ∀ j, j < k → mSq c (g 8) (g 9) (g 10) j j
theorem mQf_1 {g0 g g' : zM} (a : mQf g0 g) (b : mN1 g g') : mQf g0 g' := fun r s hr => (b r s (by omega)).trans (a r s hr)
theorem mQf_G {g0 g g' : zM} (a : mQf g0 g) (b : mGf g g') (e : g' 0 0 = g 0 0) : mQf g0 g' := fun r s hr => by
  by_cases q : r = 0 ∧ s = 0
  · obtain ⟨rfl, rfl⟩ := q
    exact e.trans (a 0 0 hr)
  · exact (b r s (by omega)).trans (a r s hr)
theorem mQf_D {g0 g : zM} {d : Nat} {P : Nat → Nat} (hF : mQf g0 g) (hD : mDrG g0 d P) : mDrG g d P := ⟨hD.1, by rw [hF 0 37 (by omega)]; exact hD.2.1, fun i hi => by rw [hF 26 i (by omega)]; exact hD.2.2.1 i hi, hD.2.2.2⟩
theorem mQf_C {h g0 g : zM} {nc no : Nat} (hF : mQf g0 g) (hC : zCat h g0 nc no) : zCat h g nc no := zCat_g hC (fun r s hr => hF r s (by omega))
theorem m_rdC {h g0 g : zM} {d p k nc no : Nat} {P : Nat → Nat} {c : Nat → Int32} (hC : zCat h g0 nc no) (hD : mDrG g0 d P) (hQ : mQ g0 g p k c) (hp : p ≤ d) (hk : k ≤ 10) (h97 : 97 ≤ P p) (hst : ∀ j, j < k → zStOk h c no j) (post : zM → Prop) (kf : (k = 10 ∨ zRdC h P no c k p = none) → ∀ g', mQf g0 g' → g' 0 42 = 1 → post g') (ks : k ≤ 9 → ∀ c' q, zRdC h P no c k p = some (c', q) → ∀ g', mQ g0 g' q (k + 1) c' → post g') : wpMod_readStatement g post := by
  have hno := hC.2.1
  have hnc := hC.1
  have hd1 := hD.1
  obtain ⟨hF, h41, h42, h11, hm⟩ := hQ
  have hDg := mQf_D hF hD
  have hCg := mQf_C hF hC
  have hPp := (mDrG_P hD p).1
  have hops := zst_ops hst
  have hpd : p < d := (mDrG_P hD p).2 (by omega)
  have B110 : ∀ gg q o, (k = 10 ∨ zRdC h P no c k p = none) → mN1 g gg → gg 0 42 = 1 → gg 0 41 = nI q → q < 9000 → wbMod_readStatement_110 post (nI o) gg := by
    intro gg q o hz hN e42 e41 hq
    unfold wbMod_readStatement_110
    have hDq := mQf_D (mQf_1 hF hN) hD
    refine m_expect (c := 41) hDq e41 (by omega) (by decide) (Or.inr e42) _ (fun z => absurd (z.symm.trans e42) (by decide)) (fun _ g' hN' e42' _ => ?_)
    rw [e42']
    exact ⟨fun _ => kf hz g' (mQf_1 hF (mN1_tr hN (mN1_4 hN'))) e42', fun z => absurd z (by decide)⟩
  have Bst : ∀ gg q o v2 L, (k = 10 ∨ zRdC h P no c k p = none) → mN1 g gg → gg 0 42 = 1 → gg 0 41 = nI q → q < 9000 → stMod_readStatement_63 post L (nI o, v2, gg) := by
    intro gg q o v2 L hz hN e42 e41 hq
    unfold stMod_readStatement_63
    dsimp only
    rw [e42]
    exact ⟨fun _ => B110 gg q o hz hN e42 e41 hq, fun z => absurd z (by decide)⟩
  unfold wpMod_readStatement
  refine m_peek hDg h41 (by omega) _ (fun y ey g1 e1 => ?_)
  subst ey
  rw [show (97 : Int32) = nI 97 from rfl, pk_sub h97]
  have N1 : mN1 g g1 := mN1_4 (by rw [e1]; exact mN4_u (Or.inl rfl))
  have e142 : g1 0 42 = 0 := by rw [e1, zun (Or.inr (by decide))]; exact h42
  have e141 : g1 0 41 = nI (p + 1) := by rw [e1, zux, h41, nI_1]
  have e15 : g1 0 5 = nI no := by rw [N1 0 5 (by omega)]; exact hCg.2.2.2.2.2.1
  have e111 : g1 0 11 = nI k := by rw [N1 0 11 (by omega)]; exact h11
  have B47 : ∀ o : Nat, (k = 10 ∨ zRdC h P no c k p = none) → wbMod_readStatement_47 post (nI o) g1 := by
    intro o hz
    unfold wbMod_readStatement_47 wbMod_readStatement_52
    refine ⟨Or.inr rfl, fun g2 e2 => ?_⟩
    have N2 : mN1 g g2 := mN1_tr N1 (mN1_4 (by rw [e2]; exact mN4_u (Or.inr rfl)))
    have e242 : g2 0 42 = 1 := by rw [e2]; exact zux
    have e241 : g2 0 41 = nI (p + 1) := by rw [e2, zun (Or.inr (by decide))]; exact e141
    refine m_expect (c := 40) (mQf_D (mQf_1 hF N2) hD) e241 (by omega) (by decide) (Or.inr e242) _ (fun z => absurd (z.symm.trans e242) (by decide)) (fun _ g' hN' e42' e41' => ⟨1, zl_mk (Bst g' (p + 1 + 1) o 0 _ hz (mN1_tr N2 (mN1_4 hN')) e42' e41' (by omega))⟩)
  rw [e142, e15, e111]
  refine ⟨fun z => absurd rfl z, fun _ => pk_lt (P p - 97) 0 (fun z => by omega) (fun _ => pk_le no (P p - 97) (fun q => B47 _ (Or.inr ?_)) (fun q => ?_))⟩
  · unfold zRdC
    rw [if_neg (by omega)]
  · have := pk_eq (A := wbMod_readStatement_47 post (nI (P p - 97)) g1) (B := wbMod_readStatement_52 post (nI (P p - 97)) 0 g1) (x := nI k) (y := 10) k 10 (fun w => B47 _ (Or.inl w)) (fun w => ?_)
    · exact ⟨this.2, this.1⟩
    have hk9 : k ≤ 9 := by omega
    have eC : zRdC h P no c k p = if P (p + 1) = 40 then zRd2 h P c k (P p - 97) (zRdA h P c k (h 6 (P p - 97)) (p + 2)) else none := by
      unfold zRdC
      rw [if_pos (by omega)]
    generalize ho : P p - 97 = o at q eC
    obtain ⟨kd, k9, e5h, e4, n6, ar', ar1, ar2⟩ := zOp_ar hnc (hCg.2.2.2.2.2.2.2 o q)
    obtain ⟨ty6, ty7⟩ := zOp_typ hC q
    have hops10 : o < 10 := by omega
    unfold wbMod_readStatement_52
    refine ⟨Or.inl rfl, fun g2 e2 => ?_⟩
    have N2 : mN1 g g2 := mN1_tr N1 (mN1_4 (by rw [e2]; exact mN4_u (Or.inr rfl)))
    have e242 : g2 0 42 = 0 := by rw [e2]; exact zux
    have e241 : g2 0 41 = nI (p + 1) := by rw [e2, zun (Or.inr (by decide))]; exact e141
    -- a state within the statement
    have S4 : ∀ gg, mN1 g gg → gg 4 o = nI kd := fun gg hN => by rw [hN 4 o (by omega)]; exact e4
    have Sh8 : ∀ gg, mN1 g gg → ∀ v, v < k → gg 8 v = c (5 * v) := fun gg hN v hv => by rw [hN 8 v (by omega)]; exact (hm v hv).1
    -- the end of a statement
    have S110 : ∀ gg q' f0 v0 f1 v1, mN1 g gg → gg 0 42 = 0 → gg 0 41 = nI q' → q' < 9000 → gg 11 0 = f0 → gg 12 0 = v0 → f0 ≠ -1 → (zar kd = 2 → gg 11 1 = f1 ∧ gg 12 1 = v1 ∧ f1 ≠ -1) → (zar kd = 1 → f1 = -1 ∧ v1 = 0) → zRdC h P no c k p = (if P q' = 41 then some (zpush c k (nI o) f0 v0 f1 v1, q' + 1) else none) → wbMod_readStatement_110 post (nI o) gg := by
      intro gg q' f0 v0 f1 v1 hN e42 e41 hq' x1 x2 x3 x4 x5 eZ
      unfold wbMod_readStatement_110
      refine m_expect (c := 41) (mQf_D (mQf_1 hF hN) hD) e41 (by omega) (by decide) (Or.inl e42) _ (fun _ w41 g3 hN3 e342 e341 => ?_) (fun z g3 hN3 e342 e341 => ?_)
      · rw [e342]
        refine ⟨fun z => absurd rfl z, fun _ => ?_⟩
        have hN3' := mN1_tr hN (mN1_4 hN3)
        have hG : mG g3 g3 (g3 0 0) k c := ⟨mGf_rf, rfl, by rw [hN3' 0 11 (by omega)]; exact h11, fun j hj => by
          rw [show g3 8 = g 8 from funext fun s => hN3' 8 s (by omega), show g3 9 = g 9 from funext fun s => hN3' 9 s (by omega), show g3 10 = g 10 from funext fun s => hN3' 10 s (by omega)]
          exact hm j hj⟩
        refine m_put (f0 := f0) (v0 := v0) (f1 := f1) (v1 := v1) hG hk9 hops10 (S4 g3 hN3') k9 ar' (by rw [hN3 11 0 (by omega)]; exact x1) (by rw [hN3 12 0 (by omega)]; exact x2) x3 (fun z => by rw [hN3 11 1 (by omega), hN3 12 1 (by omega)]; exact x4 z) x5 _ (fun g4 hG4 => ?_)
        refine ks hk9 _ _ (by rw [eZ, if_pos w41]) g4 ⟨mQf_G (mQf_1 hF hN3') hG4.1 hG4.2.1, ?_, ?_, hG4.2.2.1, hG4.2.2.2⟩
        · rw [hG4.1 0 41 (by omega)]; exact e341
        · rw [hG4.1 0 42 (by omega)]; exact e342
      · rw [e342]
        refine ⟨fun _ => kf (Or.inr ?_) g3 (mQf_1 hF (mN1_tr hN (mN1_4 hN3))) e342, fun z => absurd z (by decide)⟩
        rcases z with z | z
        · exact absurd (e42.symm.trans z) (by decide)
        · rw [eZ, if_neg z]
    refine m_expect (c := 40) (mQf_D (mQf_1 hF N2) hD) e241 (by omega) (by decide) (Or.inl e242) _ (fun _ w40 g3 hN3 e342 e341 => ⟨3, zl_mk ?_⟩) (fun z g3 hN3 e342 e341 => ⟨3, zl_mk (Bst g3 (p + 1 + 1) o 0 _ (Or.inr ?_) (mN1_tr N2 (mN1_4 hN3)) e342 e341 (by omega))⟩)
    · rw [if_pos w40] at eC
      have N3 := mN1_tr N2 (mN1_4 hN3)
      refine m_rst (a := 0) hops10 k9 (by decide) e342 (S4 g3 N3) (fun z => by omega) (fun _ _ => ?_) (fun _ z => absurd rfl z)
      unfold wbMod_readStatement_93
      rw [nI_1]
      refine m_wants (a := 0) hops10 ((mQf_C (mQf_1 hF N3) hC).2.2.2.2.2.2.2 o q) hnc (by decide) (fun z => absurd z (by decide)) _ ?_
      rw [if_pos rfl]
      refine m_rdA (a := 0) (mQf_C (mQf_1 hF N3) hC) (mQf_D (mQf_1 hF N3) hD) e341 (by omega) (Or.inl e342) (by rw [N3 0 11 (by omega)]; exact h11) (by omega) (by decide) hops (Sh8 g3 N3) ty6 n6 _ (fun z g4 q4 hN4 e442 e441 hq4 => zl_mk (Bst g4 q4 o _ _ (Or.inr ?_) (mN1_tr N3 hN4) e442 e441 (by omega))) (fun _ f0 v0 q4 z4 g4 hN4 e442 e441 x1 x2 _ => zl_mk ?_)
      · rcases z with z | z
        · exact absurd (e342.symm.trans z) (by decide)
        · rw [eC, show p + 2 = p + 1 + 1 from rfl, z]
          rfl
      · have hf0 : f0 ≠ -1 := (zRdA_ok (C := zpush c k (nI o) f0 v0 0 0) (a := 0) (mQf_C (mQf_1 hF N3) hC) ty6 n6 hops z4 (fun i hi => zpush_lo hi) (by rw [zpush_f (by decide)]; rfl) (by rw [zpush_v (by decide)]; rfl)).2
        have hq4 : q4 ≤ d := zRdA_q (fun i => (mDrG_P hD i).2) ((mDrG_P hD (p + 1)).2 (by omega)) z4
        have N4 := mN1_tr N3 hN4
        rw [show p + 2 = p + 1 + 1 from rfl, z4] at eC
        refine m_rst (a := 1) hops10 k9 (by decide) e442 (S4 g4 N4) (fun z => ?_) (fun _ z => absurd z (by decide)) (fun z _ => ?_)
        · have a1 : zar kd = 1 := by omega
          have e7 := ar1 a1
          refine S110 g4 q4 f0 v0 (-1) 0 N4 e442 e441 (by omega) x1 x2 hf0 (fun z => by omega) (fun _ => ⟨rfl, rfl⟩) ?_
          rw [eC]
          simp only [zRd2]
          rw [if_pos e7]
        · have a2 : zar kd = 2 := by omega
          have e7 := ar2 a2
          have eC2 : zRdC h P no c k p = if P q4 = 44 then zRd3 P c k o f0 v0 (zRdA h P c k (h 7 o) (q4 + 1)) else none := by
            rw [eC]
            simp only [zRd2]
            rw [if_neg e7]
          have fin : ∀ g5, mN1 g4 g5 → (g5 0 42 = 0 ∧ P q4 = 44) ∨ (g5 0 42 = 1 ∧ zRdC h P no c k p = none) → g5 0 41 = nI (q4 + 1) → (∀ x, g5 11 x = g4 11 x ∧ g5 12 x = g4 12 x) → wbMod_readStatement_93 post (zl (stMod_readStatement_63 post) 1) (nI o) (nI 1) g5 := by
            intro g5 hN5 hb5 e541 x5
            have N5 := mN1_tr N4 hN5
            unfold wbMod_readStatement_93
            rw [nI_1]
            refine m_wants (a := 1) hops10 ((mQf_C (mQf_1 hF N5) hC).2.2.2.2.2.2.2 o q) hnc (by decide) (fun _ => ⟨kd, e5h, k9, a2⟩) _ ?_
            rw [if_neg (by decide)]
            refine m_rdA (a := 1) (mQf_C (mQf_1 hF N5) hC) (mQf_D (mQf_1 hF N5) hD) e541 (by omega) (hb5.imp And.left And.left) (by rw [N5 0 11 (by omega)]; exact h11) (by omega) (by decide) hops (Sh8 g5 N5) ty7 e7 _ (fun z g6 q6 hN6 e642 e641 hq6 => zl_mk (Bst g6 q6 o _ _ (Or.inr ?_) (mN1_tr N5 hN6) e642 e641 (by omega))) (fun z5 f1 v1 q6 z6 g6 hN6 e642 e641 y1 y2 y3 => zl_mk ?_)
            · rcases hb5 with ⟨b1, b2⟩ | ⟨b1, b2⟩
              · rcases z with z | z
                · exact absurd (b1.symm.trans z) (by decide)
                · rw [eC2, if_pos b2, z]
                  rfl
              · exact b2
            · have w44 : P q4 = 44 := by
                rcases hb5 with ⟨b1, b2⟩ | ⟨b1, b2⟩
                · exact b2
                · exact absurd (z5.symm.trans b1) (by decide)
              have hf1 : f1 ≠ -1 := (zRdA_ok (C := zpush c k (nI o) 0 0 f1 v1) (a := 1) (mQf_C (mQf_1 hF N5) hC) ty7 e7 hops z6 (fun i hi => zpush_lo hi) (by rw [zpush_f (by decide)]; rfl) (by rw [zpush_v (by decide)]; rfl)).2
              have hq6 : q6 ≤ d := zRdA_q (fun i => (mDrG_P hD i).2) ((mDrG_P hD q4).2 (by omega)) z6
              have N6 := mN1_tr N5 hN6
              refine m_rst (a := 2) hops10 k9 (by decide) e642 (S4 g6 N6) (fun z => ?_) (fun _ z => absurd z (by decide)) (fun z _ => by omega)
              refine S110 g6 q6 f0 v0 f1 v1 N6 e642 e641 (by omega) ?_ ?_ hf0 (fun _ => ⟨y1, y2, hf1⟩) (fun z => by omega) ?_
              · rw [(y3 0 (by decide)).1, (x5 0).1]; exact x1
              · rw [(y3 0 (by decide)).2, (x5 0).2]; exact x2
              · rw [eC2, if_pos w44, z6]
                rfl
          refine m_expect (c := 44) (mQf_D (mQf_1 hF N4) hD) e441 (by omega) (by decide) (Or.inl e442) _ (fun _ w44 g5 hN5 e542 e541 => fin g5 (mN1_4 hN5) (Or.inl ⟨e542, w44⟩) e541 (fun x => ⟨hN5 11 x (by omega), hN5 12 x (by omega)⟩)) (fun z g5 hN5 e542 e541 => fin g5 (mN1_4 hN5) (Or.inr ⟨e542, ?_⟩) e541 (fun x => ⟨hN5 11 x (by omega), hN5 12 x (by omega)⟩))
          rcases z with z | z
          · exact absurd (e442.symm.trans z) (by decide)
          · rw [eC2, if_neg z]
    · rcases z with z | z
      · exact absurd (e242.symm.trans z) (by decide)
      · rw [eC, if_neg z]
