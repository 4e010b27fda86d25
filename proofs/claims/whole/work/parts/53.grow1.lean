/-! random numbers; which entries are offered -/
def zrs (s : Int32) : Int32 := 1103515245 * s + 12345
def zrv (s m : Int32) : Int32 := ((Int32.toUInt32 s >>> (Int32.toUInt32 16 &&& Int32.toUInt32 31)).toInt32) - ((Int32.toUInt32 s >>> (Int32.toUInt32 16 &&& Int32.toUInt32 31)).toInt32) / m * m
theorem zrv_lt {s : Int32} {M : Nat} (h1 : 1 ≤ M) (h2 : M < 2147483648) : ∃ j : Nat, j < M ∧ zrv s (nI M) = nI j := by
  have e : (Int32.toUInt32 s >>> (Int32.toUInt32 16 &&& Int32.toUInt32 31)).toInt32.toBitVec.toNat = s.toBitVec.toNat / 2 ^ 16 := pk_ushr s 16 16 (by decide)
  have hb : s.toBitVec.toNat < 2 ^ 32 := s.toBitVec.isLt
  have e2 : (Int32.toUInt32 s >>> (Int32.toUInt32 16 &&& Int32.toUInt32 31)).toInt32 = nI (s.toBitVec.toNat / 2 ^ 16) := by
    apply Int32.toBitVec_inj.mp
    apply BitVec.eq_of_toNat_eq
    rw [e]
    exact (pk_tn (by omega)).symm
  refine ⟨s.toBitVec.toNat / 2 ^ 16 % M, Nat.mod_lt _ h1, ?_⟩
  unfold zrv
  rw [e2]
  exact pk_rem (by omega) h1 h2
theorem z_random {n : Nat} {ln : Nat → Nat} {h : zM} {M : Nat} (h1 : 1 ≤ M) (h2 : M < 2147483648) (post : Int32 → zM → Prop) (hp : post (zrv (zrs (h 19 6)) (nI M)) (zu h 19 6 (zrs (h 19 6)))) : wpGrower_random n ln (nI M) h post := by
  unfold wpGrower_random
  intro h12 e12
  have e6 : h12 19 6 = zrs (h 19 6) := by rw [e12, zux]; rfl
  refine ⟨fun _ => ⟨nI_ne0 h1 h2, ?_⟩, fun q => absurd ?_ q⟩
  · rw [e6, e12]
    exact hp
  · rw [zle, znI h2, zti_1]; omega
theorem m_random {g : zM} {M : Nat} (h1 : 1 ≤ M) (h2 : M < 2147483648) (post : Int32 → zM → Prop) (hp : post (zrv (zrs (g 0 0)) (nI M)) (zu g 0 0 (zrs (g 0 0)))) : wpMod_random (nI M) g post := by
  unfold wpMod_random
  intro h12 e12
  have e6 : h12 0 0 = zrs (g 0 0) := by rw [e12, zux]; rfl
  refine ⟨nI_ne0 h1 h2, ?_⟩
  rw [e6, e12]
  exact hp
def zoff (h : zM) (t e : Nat) : Prop := h (34 + 4 * e) 1 = 0 ∧ zIs (h 2) (Int32.toNatClampNeg (h (34 + 4 * e) 3)) t
noncomputable def zoc (h : zM) (t : Nat) : Nat → Nat
  | 0 => 0
  | e + 1 => zoc h t e + (if zdec (zoff h t e) = true then 1 else 0)
theorem zoc_t {h : zM} {t e : Nat} (q : zoff h t e) : zoc h t (e + 1) = zoc h t e + 1 := by
  show _ + _ = _
  rw [zdec_t q, if_pos rfl]
theorem zoc_f {h : zM} {t e : Nat} (q : ¬ zoff h t e) : zoc h t (e + 1) = zoc h t e := by
  show _ + _ = _
  rw [zdec_f q, if_neg (by decide)]
  rfl
theorem zoc_le {h : zM} {t : Nat} : ∀ e, zoc h t e ≤ e
  | 0 => Nat.le_refl _
  | e + 1 => by
    have := zoc_le (h := h) (t := t) e
    by_cases q : zoff h t e
    · rw [zoc_t q]; omega
    · rw [zoc_f q]; omega
theorem zoc_mono {h : zM} {t : Nat} {e : Nat} : ∀ d, zoc h t e ≤ zoc h t (e + d)
  | 0 => Nat.le_refl _
  | d + 1 => by
    have := zoc_mono (h := h) (t := t) (e := e) d
    rw [← Nat.add_assoc]
    by_cases q : zoff h t (e + d)
    · rw [zoc_t q]; omega
    · rw [zoc_f q]; omega
theorem zoc_lt {h : zM} {t e e' : Nat} (q : zoff h t e) (hl : e < e') : zoc h t e < zoc h t e' := by
  have := zoc_mono (h := h) (t := t) (e := e + 1) (e' - (e + 1))
  rw [show e + 1 + (e' - (e + 1)) = e' by omega, zoc_t q] at this
  omega
theorem zoc_inj {h : zM} {t e e' : Nat} (q : zoff h t e) (q' : zoff h t e') (he : zoc h t e = zoc h t e') : e = e' := by
  rcases Nat.lt_trichotomy e e' with z | z | z
  · have := zoc_lt q z; omega
  · exact z
  · have := zoc_lt q' z; omega
theorem zoc_sur {h : zM} {t r : Nat} : ∀ n, r < zoc h t n → ∃ e, e < n ∧ zoff h t e ∧ zoc h t e = r
  | 0, hr => absurd hr (Nat.not_lt_zero _)
  | n + 1, hr => by
    by_cases q : zoff h t n
    · rw [zoc_t q] at hr
      by_cases z : r < zoc h t n
      · obtain ⟨e, e1, e2⟩ := zoc_sur n z
        exact ⟨e, by omega, e2⟩
      · exact ⟨n, by omega, q, by omega⟩
    · rw [zoc_f q] at hr
      obtain ⟨e, e1, e2⟩ := zoc_sur n hr
      exact ⟨e, by omega, e2⟩
noncomputable def znth (h : zM) (t : Nat) : Nat → Nat → Nat
  | 0, _ => 0
  | e + 1, r => if zdec (zoff h t e ∧ zoc h t e = r) = true then e else znth h t e r
theorem znth_eq {h : zM} {t e : Nat} (q : zoff h t e) : ∀ n, e < n → znth h t n (zoc h t e) = e
  | 0, hl => absurd hl (Nat.not_lt_zero _)
  | n + 1, hl => by
    show (if _ then _ else _) = _
    by_cases z : zoff h t n ∧ zoc h t n = zoc h t e
    · rw [zdec_t z, if_pos rfl]
      exact zoc_inj z.1 q z.2
    · rw [zdec_f z, if_neg (by decide)]
      refine znth_eq q n ?_
      rcases Nat.lt_or_ge e n with w | w
      · exact w
      · have : e = n := by omega
        subst this
        exact absurd ⟨q, rfl⟩ z
theorem z_list {n : Nat} {ln : Nat → Nat} {h : zM} {nc t : Nat} (hp' : zPar h nc) (hn : nc ≤ 4) (h9 : h 9 1 = nI n) (n40 : n ≤ 40) (hty : ∀ e, e < n → ∃ ty : Nat, ty ≤ nc ∧ h (34 + 4 * e) 3 = nI ty) (ht : t ≤ nc) (post : Int32 → zM → Prop) (hp : ∀ h', (∀ r, r ≠ 11 → h' r = h r) → (∀ e, e < n → zoff h t e → h' 11 (zoc h t e) = nI e) → post (nI (zoc h t n)) h') : wpBook_listFresh n ln (nI t) h post := by
  unfold wpBook_listFresh
  refine zL_rule (fun s => s.1 = nI t ∧ (∀ r, r ≠ 11 → s.2.2.2 r = h r) ∧ ∃ e : Nat, e ≤ n ∧ s.2.1 = nI (zoc h t e) ∧ s.2.2.1 = nI e ∧ ∀ e', e' < e → zoff h t e' → s.2.2.2 11 (zoc h t e') = nI e') (fun s => n - s.2.2.1.toNatClampNeg) ?_ (nI t, 0, 0, h) ⟨rfl, fun _ _ => rfl, 0, by omega, rfl, rfl, fun e he => by omega⟩
  rintro ⟨v1, v2, v3, hh⟩ L ⟨e1, f1, e, he, e2, e3, f2⟩ ih
  dsimp only at e1 e2 e3 f1 f2 ih
  subst e1 e2 e3
  unfold stBook_listFresh_4
  dsimp only
  have hle := zoc_le (h := h) (t := t) e
  rw [f1 9 (by decide), h9, znc (by omega), f1 (34 + 4 * e) (by omega)]
  refine pk_le n e (fun q => ?_) (fun q => ?_)
  · have : e = n := by omega
    subst this
    exact hp hh f1 f2
  · obtain ⟨ty, ty1, ty2⟩ := hty e q
    have ie : vp_in (nI e) 40 := zin_nI (by omega) (by omega)
    have nxt : ∀ h', (∀ r, r ≠ 11 → h' r = h r) → (∀ e', e' < e + 1 → zoff h t e' → h' 11 (zoc h t e') = nI e') → ∀ v, v = nI (zoc h t (e + 1)) → wbBook_listFresh_54 n ln post L (nI t) v (nI e) h' := by
      intro h' k1 k2 v ev
      unfold wbBook_listFresh_54
      rw [zp1, ev]
      refine ih _ ⟨rfl, k1, e + 1, by omega, rfl, rfl, k2⟩ ?_
      dsimp only
      rw [znc (by omega), znc (by omega)]
      omega
    have skip : ¬ zoff h t e → wbBook_listFresh_54 n ln post L (nI t) (nI (zoc h t e)) (nI e) hh := by
      intro z
      refine nxt hh f1 (fun e' he' zo => ?_) _ (by rw [zoc_f z])
      by_cases w : e' = e
      · subst w; exact absurd zo z
      · exact f2 e' (by omega) zo
    have eo : zoff h t e ↔ (h (34 + 4 * e) 1 = 0 ∧ zIs (h 2) ty t) := by
      unfold zoff
      rw [ty2, znc (by omega)]
    refine ⟨ie, q, fun z => skip (fun w => z w.1), fun z => ⟨ie, q, ?_⟩⟩
    rw [ty2]
    have hpar : zPar hh nc := fun i a b => by rw [f1 2 (by decide)]; exact hp' i a b
    refine z_is hpar hn ty t ty1 ht _ (fun w => ⟨fun _ => skip ?_, fun w2 => absurd rfl w2⟩) (fun w => ⟨fun w2 => absurd w2 (by decide), fun _ => ⟨zin_nI (by omega) (by omega), fun h50 e50 => ?_⟩⟩)
    · rw [f1 2 (by decide)] at w
      rw [eo]
      exact fun y => w y.2
    · rw [f1 2 (by decide)] at w
      have zo : zoff h t e := eo.mpr ⟨z, w⟩
      rw [znc (by omega)] at e50
      refine nxt h50 (fun r hr => by rw [e50, zuo hr]; exact f1 r hr) (fun e' he' zo' => ?_) _ (by rw [zoc_t zo, zp1])
      rw [e50]
      by_cases w' : e' = e
      · subst w'; rw [zux]
      · have := zoc_lt zo' (show e' < e by omega)
        rw [zun (by omega)]
        exact f2 e' (by omega) zo'
theorem pk_eq_sw {x y : Int32} {A B : Prop} (hA : ¬ x = y → A) (hB : x = y → B) : (¬ x = y → A) ∧ (x = y → B) := ⟨hA, hB⟩
theorem m_offers {h g : zM} {nc no e sz o t : Nat} (hC : zCat h g nc no) (he : e ≤ 40) (hsz : g 13 e = nI sz) (h1 : 1 ≤ sz) (h10 : sz ≤ 10) (ho : o < no) (eo : g 14 (10 * e + (sz - 1)) = nI o) (e17 : g 17 e = h (34 + 4 * e) 1) (ty2 : h (34 + 4 * e) 3 = h 8 o) (ht : t ≤ nc) (post : Int32 → zM → Prop) (hp1 : ¬ zoff h t e → post 0 g) (hp2 : zoff h t e → post 1 g) : wpMod_offers (nI e) (nI t) g post := by
  have hno := hC.2.1
  have hnc := hC.1
  have hpar : zPar h nc := fun i a b => (hC.2.2.2.2.2.2.1 i a b).2.2.2.1
  obtain ⟨kd, cc, d, hkd, c1, c2, hd, e5, f4, f5, f6, e6, e7, e8⟩ := hC.2.2.2.2.2.2.2 o ho
  have ty : ∃ ty : Nat, ty ≤ nc ∧ h 8 o = nI ty := by
    rw [e8]
    unfold zrt
    split
    · exact ⟨cc, c2, rfl⟩
    · split
      · obtain ⟨e', e1, e2, rfl⟩ := hd (by unfold zhasD; omega)
        exact ⟨e', e2, rfl⟩
      · exact ⟨0, by omega, rfl⟩
  obtain ⟨ty, ty1, ety⟩ := ty
  have eq : zoff h t e ↔ (g 17 e = 0 ∧ zIs (h 2) ty t) := by
    unfold zoff
    rw [ty2, ety, znc (by omega), e17]
  unfold wpMod_offers
  rw [znc (by omega)]
  refine ⟨zin_nI (by omega) (by omega), fun q => hp1 (fun z => q (eq.mp z).1), fun q => pk_eq_sw ?_ ?_⟩
  · intro z
    refine m_typeOf hC he hsz h1 h10 ho eo _ ?_
    rw [ety]
    refine m_is hpar hnc (fun i a b => (hC.2.2.2.2.2.2.1 i a b).1) ty t ty1 ht (by
      rcases Nat.eq_zero_or_pos t with w | w
      · subst w; exact absurd rfl z
      · exact w) _ (fun w => ⟨fun _ => hp1 (fun y => w (eq.mp y).2), fun w2 => absurd rfl w2⟩) (fun w => ⟨fun w2 => absurd w2 (by decide), fun _ => hp2 (eq.mpr ⟨q, w⟩)⟩)
  · intro z
    have t0 : t = 0 := (nI_eq (b := 0) (by omega) (by omega)).mp z
    subst t0
    refine m_typeOf hC he hsz h1 h10 ho eo _ ?_
    rw [ety]
    have z0 : zIs (h 2) ty 0 ↔ ty = 0 := by
      rcases Nat.eq_zero_or_pos ty with w | w
      · subst w; exact ⟨fun _ => rfl, fun _ => zIs_self⟩
      · obtain ⟨p, hp, ep⟩ := hpar ty w ty1
        rw [zIs_step hpar hnc w ty1 ep hp]
        constructor
        · rintro (y | ⟨y, -⟩)
          · exact y
          · exact absurd rfl y
        · intro y; exact Or.inl y
    refine ⟨fun w => hp1 (fun y => w ?_), fun w => hp2 (eq.mpr ⟨q, z0.mpr ?_⟩)⟩
    · rw [z0.mp (eq.mp y).2]; rfl
    · exact (nI_eq (b := 0) (by omega) (by omega)).mp w
