/-! the model runs a sequence as zfin says -/
def mFr (g g' : zM) : Prop := ∀ r s, (r = 0 ∧ s ≠ 25 ∧ (s < 30 ∨ 33 < s)) ∨ (r ≠ 0 ∧ (r < 20 ∨ 24 < r)) → g' r s = g r s
theorem mFr_rf {g : zM} : mFr g g := fun _ _ _ => rfl
theorem mFr_tr {g g' g'' : zM} (a : mFr g g') (b : mFr g' g'') : mFr g g'' := fun r s hr => (b r s hr).trans (a r s hr)
theorem mFx_Fr {g g' : zM} (a : mFx g g') : mFr g g' := fun r s hr => a r s (by omega)
theorem mFr_u {g : zM} {r s : Nat} {v : Int32} (h : (r = 0 ∧ (s = 25 ∨ (30 ≤ s ∧ s ≤ 33))) ∨ (20 ≤ r ∧ r ≤ 24)) : mFr g (zu g r s v) := fun r' s' hr => zun (by omega)
def zPt (r : Int32 × Nat × zM) : Prop := ∃ t : Nat, t ≤ 5 ∧ r.1 = nI t
theorem zPt_if {c : Prop} [Decidable c] {a b : Int32 × Nat × zM} (ha : zPt a) (hb : zPt b) : zPt (if c then a else b) := by
  split
  · exact ha
  · exact hb
theorem zop_tr {K x : zM} {kd ty a b : Int32} {k cnt : Nat} : zPt (zop K x kd ty a b k cnt) := by
  unfold zop
  repeat' apply zPt_if
  all_goals first
    | exact ⟨0, by decide, rfl⟩
    | exact ⟨1, by decide, rfl⟩
    | exact ⟨2, by decide, rfl⟩
    | exact ⟨3, by decide, rfl⟩
    | exact ⟨4, by decide, rfl⟩
    | exact ⟨5, by decide, rfl⟩
theorem zgo_tr {K : zM} {c : Nat → Int32} : ∀ (m k cnt : Nat) (x : zM), ∃ t : Nat, t ≤ 5 ∧ (zgo K c m k cnt x).1 = nI t := by
  intro m
  induction m with
  | zero => intro k cnt x; exact ⟨0, by decide, rfl⟩
  | succ m ih =>
    intro k cnt x
    unfold zgo
    by_cases e : (zex K c k cnt x).1 = 0
    · rw [if_pos e]
      exact ih _ _ _
    · rw [if_neg e]
      exact zop_tr
theorem zpr_rg {K x : zM} {a b : Nat} : ∃ t : Nat, t ≤ 3 ∧ zpr K x a b = nI t := by
  unfold zpr
  repeat' split
  all_goals first
    | exact ⟨0, by decide, rfl⟩
    | exact ⟨2, by decide, rfl⟩
    | exact ⟨3, by decide, rfl⟩
theorem zinn_rg {K x : zM} {a : Nat} : ∀ m b, ∃ t : Nat, t ≤ 3 ∧ zinn K x a m b = nI t := by
  intro m
  induction m with
  | zero => intro b; exact ⟨0, by decide, rfl⟩
  | succ m ih =>
    intro b
    unfold zinn
    split
    · exact ih _
    · exact zpr_rg
theorem zout_rg {K x : zM} {cnt : Nat} : ∀ m a, ∃ t : Nat, t ≤ 3 ∧ zout K x cnt m a = nI t := by
  intro m
  induction m with
  | zero => intro b; exact ⟨0, by decide, rfl⟩
  | succ m ih =>
    intro b
    unfold zout
    split
    · exact ih _
    · exact zinn_rg _ _
theorem zfault_rg {K x : zM} {cnt : Nat} : ∃ t : Nat, t ≤ 3 ∧ zfault K x cnt = nI t := by
  unfold zfault
  split
  · exact zout_rg _ _
  · exact ⟨1, by decide, rfl⟩
theorem zgo_ok {h g : zM} {c : Nat → Int32} {nc no sz : Nat} (hC : zCat h g nc no) (h10 : sz ≤ 10) (hst : ∀ k, k < sz → zStOk h c no k) : ∀ (m k cnt : Nat) (x : zM), k + m = sz → zHv nc cnt x → zRv h c cnt x k → cnt ≤ k → (zgo h c m k cnt x).1 = 0 → zHv nc (zgo h c m k cnt x).2.2.1 (zgo h c m k cnt x).2.2.2 ∧ zRv h c (zgo h c m k cnt x).2.2.1 (zgo h c m k cnt x).2.2.2 sz := by
  intro m
  induction m with
  | zero =>
    intro k cnt x hm hv hr hcnt _
    have : k = sz := by omega
    subst this
    exact ⟨hv, hr⟩
  | succ m ih =>
    intro k cnt x hm hv hr hcnt
    unfold zgo
    by_cases e : (zex h c k cnt x).1 = 0
    · rw [if_pos e]
      obtain ⟨k1, k2, k3⟩ := zex_ok hC (by omega) (hst k (by omega)) hv hr hcnt e
      exact ih _ _ _ (by omega) k1 k2 k3
    · rw [if_neg e]
      exact fun z => absurd z e
theorem zfin_rf {h g : zM} {c : Nat → Int32} {nc no sz : Nat} (hC : zCat h g nc no) (h1 : 1 ≤ sz) (h10 : sz ≤ 10) (hst : ∀ k, k < sz → zStOk h c no k) (h0 : (zfin h c sz).1 = 0) (h8 : zlt8 h c sz ≠ 0) : zRf 10 ((zfin h c sz).2.2.2 3 (sz - 1)) := by
  obtain ⟨k1, k2⟩ := zgo_ok hC h10 hst sz 0 0 zx0 (by omega) ⟨by omega, fun i hi => by omega⟩ (fun j hj => by omega) (by omega) h0
  obtain ⟨o, ho, e, z⟩ := k2 (sz - 1) (by omega)
  have : zlt8 h c sz = h 8 o := by
    unfold zlt8
    rw [e, znc (by omega)]
  rw [this] at h8
  exact zRf_up (z h8) k1.1
theorem m_hadNull {h g x : zM} {c : Nat → Int32} {nc no cnt k : Nat} (hC : zCat h g nc no) (hk : k < 10) (hst : zStOk h c no k) (hm : mSq c (g 8) (g 9) (g 10) k k) (hR : ∀ j, j < k → g 23 j = x 3 j) (hrv : zRv h c cnt x k) (hcn : cnt ≤ 10) (post : Int32 → zM → Prop) (hp : post (if zdec (zbad h c x k) = true then 1 else 0) g) : wpMod_hadNull (nI k) g post := by
  obtain ⟨o0, ho0, eo, ok0, ok1⟩ := hst
  have hno := hC.2.1
  have hnc := hC.1
  have hop := hC.2.2.2.2.2.2.2 o0 ho0
  obtain ⟨kd, cc, d, hkd, c1, c2, hd, e5, f4, f5, f6, e6, e7, e8⟩ := hC.2.2.2.2.2.2.2 o0 ho0
  obtain ⟨rf0, rf1, -⟩ := zSt_rf (g := g) hk hC.1 hkd c1 c2 hd e6 e7 ok0 ok1 hrv
  have ik : vp_in (nI k) 20 := zin_nI (by omega) (by omega)
  have io : vp_in (nI o0) 10 := zin_nI (by omega) (by omega)
  have g8 : g 8 k = nI o0 := by rw [hm.1, eo]
  have ar12 : 1 ≤ zar kd ∧ zar kd ≤ 2 := by unfold zar; split <;> omega
  have okA : ∀ a, a < 2 → zArgOk h c k a (if a = 0 then h 6 o0 else h 7 o0) := by
    intro a ha
    rcases (show a = 0 ∨ a = 1 by omega) with rfl | rfl
    · exact ok0
    · exact ok1
  have Tp : ∀ a, a < zar kd → ((if a = 0 then h 6 o0 else h 7 o0) ≤ 0 ↔ ¬ ((if a = 0 then h 6 o0 else h 7 o0) ≠ -1 ∧ (if a = 0 then h 6 o0 else h 7 o0) ≠ 0)) := by
    intro a ha
    have key : ∀ t : Int32, (t = 0 ∨ t = -1 ∨ ∃ e : Nat, 1 ≤ e ∧ e ≤ 4 ∧ t = nI e) → (t ≤ 0 ↔ ¬ (t ≠ -1 ∧ t ≠ 0)) := by
      rintro t (rfl | rfl | ⟨e, e1, e2, rfl⟩)
      · decide
      · decide
      · have n0 : nI e ≠ 0 := nI_ne0 (by omega) (by omega)
        exact ⟨fun z => absurd z (nI_nle (by omega) (by omega)), fun z => absurd ⟨znm1 (by omega), n0⟩ z⟩
    apply key
    rcases (show a = 0 ∨ a = 1 by omega) with rfl | rfl
    · rw [if_pos rfl, e6]
      unfold zft
      split
      · exact Or.inl rfl
      · split
        · obtain ⟨e, e1, e2, rfl⟩ := hd (by unfold zhasD; omega)
          exact Or.inr (Or.inr ⟨e, e1, by omega, rfl⟩)
        · exact Or.inr (Or.inr ⟨cc, c1, by omega, rfl⟩)
    · rw [if_neg (by decide), e7]
      unfold zst
      split
      · exact Or.inl rfl
      · split
        · obtain ⟨e, e1, e2, rfl⟩ := hd (by unfold zhasD; omega)
          exact Or.inr (Or.inr ⟨e, e1, by omega, rfl⟩)
        · exact Or.inr (Or.inl rfl)
  have T1 : zar kd = 1 → h 7 o0 = -1 := by
    rw [e7]
    unfold zar zst
    intro z
    by_cases q : kd = 3 ∨ kd = 4 ∨ kd = 6 ∨ kd = 9
    · rw [if_pos q] at z; omega
    · rw [if_neg (by omega), if_neg (by omega)]
  have RF : ∀ a, a < zar kd → (if a = 0 then h 6 o0 else h 7 o0) ≠ 0 → zRf cnt (zav c x k a) := by
    intro a ha hn
    rcases (show a = 0 ∨ a = 1 by omega) with rfl | rfl
    · rw [if_pos rfl] at hn
      refine rf0 (fun z => hn ?_)
      rw [e6, z]
      rfl
    · rw [if_neg (by decide)] at hn
      refine rf1 ?_
      unfold zar at ha
      rw [e7] at hn
      unfold zst at hn
      by_cases q : kd = 3 ∨ kd = 6
      · rw [if_pos q] at hn; exact absurd rfl hn
      · by_cases q2 : kd = 3 ∨ kd = 4 ∨ kd = 6 ∨ kd = 9
        · omega
        · rw [if_neg q2] at ha; omega
  have eb : zbad h c x k ↔ ∃ b, b < zar kd ∧ (if b = 0 then h 6 o0 else h 7 o0) ≠ -1 ∧ (if b = 0 then h 6 o0 else h 7 o0) ≠ 0 ∧ zav c x k b = -1 := by
    unfold zbad
    rw [eo, znc (by omega)]
    constructor
    · rintro (z | z)
      · exact ⟨0, by omega, z⟩
      · refine ⟨1, ?_, z⟩
        rcases (show zar kd = 1 ∨ zar kd = 2 by omega) with w | w
        · exact absurd (T1 w) z.1
        · omega
    · rintro ⟨b, hb, z⟩
      rcases (show b = 0 ∨ b = 1 by omega) with rfl | rfl
      · exact Or.inl z
      · exact Or.inr z
  unfold wpMod_hadNull
  refine zL_rule (fun s => ∃ a : Nat, a ≤ zar kd ∧ s.1 = nI k ∧ s.2.2.1 = nI a ∧ s.2.2.2 = g ∧ s.2.1 = (if zdec (∃ b, b < a ∧ (if b = 0 then h 6 o0 else h 7 o0) ≠ -1 ∧ (if b = 0 then h 6 o0 else h 7 o0) ≠ 0 ∧ zav c x k b = -1) = true then 1 else 0)) (fun s => 3 - s.2.2.1.toNatClampNeg) ?_ (nI k, 0, 0, g) ⟨0, by omega, rfl, rfl, rfl, ?_⟩
  · rintro ⟨v1, v2, v3, hh⟩ L ⟨a, ha, e1, e3, eh, e2⟩ ih
    dsimp only at e1 e3 eh e2 ih
    subst e1 e3 eh
    unfold stMod_hadNull_4
    dsimp only
    rw [znc (by omega), g8, znc (by omega), f4]
    refine ⟨ik, io, m_arity hkd _ (pk_le (zar kd) a (fun q => ?_) (fun q => ?_))⟩
    · have : a = zar kd := by omega
      subst this
      rw [e2, ← propext eb]
      refine ⟨?_, hp⟩
      split
      · exact Or.inr rfl
      · exact Or.inl rfl
    · have nxt : ∀ w : Int32, w = (if zdec (∃ b, b < a + 1 ∧ (if b = 0 then h 6 o0 else h 7 o0) ≠ -1 ∧ (if b = 0 then h 6 o0 else h 7 o0) ≠ 0 ∧ zav c x k b = -1) = true then 1 else 0) → wbMod_hadNull_54 post L (nI k) (nI a) w hh := by
        intro w ew
        unfold wbMod_hadNull_54
        rw [zp1]
        refine ih _ ⟨a + 1, by omega, rfl, rfl, rfl, ew⟩ ?_
        dsimp only
        rw [znc (by omega), znc (by omega)]
        omega
      unfold wbMod_hadNull_49 wbMod_hadNull_53
      by_cases ex : ∃ b, b < a ∧ (if b = 0 then h 6 o0 else h 7 o0) ≠ -1 ∧ (if b = 0 then h 6 o0 else h 7 o0) ≠ 0 ∧ zav c x k b = -1
      · rw [zdec_t ex, if_pos rfl] at e2
        subst e2
        obtain ⟨b, hb, z⟩ := ex
        exact ⟨fun _ => nxt 1 (by rw [zdec_t ⟨b, by omega, z⟩, if_pos rfl]), fun q => absurd q (by decide)⟩
      · rw [zdec_f ex, if_neg (by decide)] at e2
        subst e2
        have no : ∀ b, b < a + 1 → (if b = 0 then h 6 o0 else h 7 o0) ≠ -1 ∧ (if b = 0 then h 6 o0 else h 7 o0) ≠ 0 ∧ zav c x k b = -1 → b = a := by
          intro b hb z
          by_cases w : b = a
          · exact w
          · exact absurd ⟨b, by omega, z⟩ ex
        refine ⟨fun q => absurd rfl q, fun _ => ⟨ik, ?_⟩⟩
        rw [g8]
        refine m_wants (nc := nc) (by omega) hop hnc (by omega) (fun w => ⟨kd, e5, hkd, by omega⟩) _ ⟨fun z => ?_, fun z => ?_⟩
        · rw [Tp a q] at z
          refine nxt 0 ?_
          rw [zdec_f, if_neg (by decide)]
          rintro ⟨b, hb, w⟩
          obtain rfl := no b hb w
          exact z ⟨w.1, w.2.1⟩
        · rw [Tp a q] at z
          have z := Classical.not_not.mp z
          refine m_av (x := x) hk (by omega) hm hR (fun w => zArg_var (okA a (by omega)) w) _ ⟨fun w => ?_, fun w => ?_⟩
          · refine nxt 0 ?_
            rw [zdec_f, if_neg (by decide)]
            rintro ⟨b, hb, w'⟩
            obtain rfl := no b hb w'
            rw [w'.2.2] at w
            exact absurd w (by decide)
          · refine nxt 1 ?_
            rcases RF a q z.2 with r | ⟨j, hj, r⟩
            · rw [zdec_t ⟨a, by omega, z.1, z.2, r⟩, if_pos rfl]
            · rw [r] at w
              exact absurd (zp0 (by omega)) w
  · rw [zdec_f, if_neg (by decide)]
    rintro ⟨b, hb, -⟩
    omega
