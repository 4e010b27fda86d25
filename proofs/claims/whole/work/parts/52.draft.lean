/-! draft -/
def zby (s : Int64) (v : Int32) : Nat := ((Int64.toUInt64 s >>> ((Int32.toInt64 (8 * v)).toUInt64 &&& Int64.toUInt64 63)).toInt64).toBitVec.toNat % 2 ^ 8
def zb (s : Int64) (i : Nat) : Nat := zby s (nI i)
theorem zl_and (x : Int64) {m : Int64} (k : Nat) (hm : m.toBitVec.toNat = 2 ^ k - 1) : x &&& m = lN (x.toBitVec.toNat % 2 ^ k) := by
  apply Int64.toBitVec_inj.mp
  apply BitVec.eq_of_toNat_eq
  rw [Int64.toBitVec_and, BitVec.toNat_and, hm, Nat.and_two_pow_sub_one_eq_mod]
  show _ = (BitVec.ofNat 64 _).toNat
  rw [BitVec.toNat_ofNat]
  exact (Nat.mod_eq_of_lt (Nat.lt_of_le_of_lt (Nat.mod_le _ _) x.toBitVec.isLt)).symm
theorem zby_l (s : Int64) (v : Int32) : ((Int64.toUInt64 s >>> ((Int32.toInt64 (8 * v)).toUInt64 &&& Int64.toUInt64 63)).toInt64) &&& 255 = lN (zby s v) := zl_and _ 8 rfl
theorem zb_lt (s : Int64) (i : Nat) : zb s i < 256 := Nat.mod_lt _ (by decide)
theorem zl_cmp0 {k : Nat} (h : k < 2147483648) : lg_cmp (lN k) 0 = 0 ↔ k = 0 := by
  constructor
  · intro z
    have a : ¬ lg_cmp (lN k) 0 < 0 := by rw [z]; decide
    have b : ¬ 0 < lg_cmp (lN k) 0 := by rw [z]; decide
    rw [zl_cmp_lt, lN_toInt h] at a
    rw [zl_cmp_gt, lN_toInt h] at b
    have : (0 : Int64).toInt = 0 := rfl
    rw [this] at a b
    omega
  · rintro rfl
    rfl
def zCb (s : Int64) (c : Nat) : Prop := c ≤ 8 ∧ (∀ i, i < c → zb s i ≠ 0) ∧ (c = 8 ∨ zb s c = 0)
theorem zCb_eq {s : Int64} {c c' : Nat} (h : zCb s c) (h' : zCb s c') : c = c' := by
  obtain ⟨a1, a2, a3⟩ := h
  obtain ⟨b1, b2, b3⟩ := h'
  rcases Nat.lt_trichotomy c c' with q | q | q
  · exact absurd (a3.resolve_left (by omega)) (b2 c q)
  · exact q
  · exact absurd (b3.resolve_left (by omega)) (a2 c' q)
def zGd (s : Int64) (c d : Nat) : Prop := 1 ≤ c ∧ d + c ≤ 200 ∧ ∀ i, i < c → 32 ≤ zb s i ∧ zb s i ≤ 126
theorem z_byte {n : Nat} {ln : Nat → Nat} {s : Int64} {i : Nat} {h : zM} (post : Int32 → zM → Prop) (hp : post (nI (zb s i)) h) : wpReader_byteOf n ln s (nI i) h post := by
  unfold wpReader_byteOf
  rw [zby_l, lN_i]
  exact hp
theorem z_count {n : Nat} {ln : Nat → Nat} {s : Int64} {h : zM} (post : Int32 → zM → Prop) (hp : ∀ c, zCb s c → post (nI c) h) : wpReader_countBytes n ln s h post := by
  unfold wpReader_countBytes
  refine zL_rule (fun t => t.1 = s ∧ t.2.2 = h ∧ ∃ i : Nat, i ≤ 8 ∧ t.2.1 = nI i ∧ ∀ j, j < i → zb s j ≠ 0) (fun t => 8 - t.2.1.toNatClampNeg) ?_ (s, 0, h) ⟨rfl, rfl, 0, by omega, rfl, fun j hj => by omega⟩
  rintro ⟨u1, v3, hh⟩ L ⟨e1, e2, i, hi, e3, hz⟩ ih
  dsimp only at e1 e2 e3 ih
  subst e1 e2 e3
  unfold stReader_countBytes_2
  dsimp only
  refine pk_le 8 i (fun q => hp i ⟨hi, hz, Or.inl (by omega)⟩) (fun q => z_byte _ ?_)
  have hl := zb_lt u1 i
  refine pk_eq (zb u1 i) 0 (fun z => hp i ⟨hi, hz, Or.inr z⟩) (fun z => ?_)
  rw [zp1]
  refine ih _ ⟨rfl, rfl, i + 1, by omega, rfl, fun j hj => ?_⟩ ?_
  · by_cases e : j = i
    · rw [e]; exact z
    · exact hz j (by omega)
  · dsimp only
    rw [znc (by omega), znc (by omega)]
    omega
theorem z_char : ∀ k, k < 256 → vp_nar .char (((nI k).toUInt32 % 65536).toInt32) = nI k := by decide +kernel
theorem z_draft {n : Nat} {ln : Nat → Nat} {s : Int64} {h : zM} {d : Nat} (hd : h 30 2 = nI d) (hd2 : d ≤ 200) (post : Int32 → zM → Prop) (p0 : lg_cmp s 0 = 0 → post 1 (zu h 30 2 0)) (p1 : ¬ lg_cmp s 0 = 0 → ∀ c, zCb s c → ¬ zGd s c d → post 0 h) (p2 : ¬ lg_cmp s 0 = 0 → ∀ c, zCb s c → zGd s c d → ∀ h', (∀ r, r ≠ 30 → r ≠ 31 → h' r = h r) → h' 30 2 = nI (d + c) → (∀ i, i < d → h' 31 i = h 31 i) → (∀ i, i < c → h' 31 (d + i) = nI (zb s i)) → post 1 h') : wpTop_draft n ln s h post := by
  unfold wpTop_draft wpReader_addToDraft
  refine ⟨fun q => z_count _ (fun c hc => ?_), fun q h8 e8 => ⟨Or.inr rfl, by rw [e8]; exact p0 q⟩⟩
  have hc8 := hc.1
  have no : ¬ zGd s c d → ((0 : Int32) = 0 ∨ (0 : Int32) = 1) ∧ post 0 h := fun z => ⟨Or.inl rfl, p1 q c hc z⟩
  rw [hd, nI_add]
  refine pk_eq c 0 (fun z => no (fun w => by have := w.1; omega)) (fun z => pk_le (d + c) 200 (fun z2 => ?_) (fun z2 => no (fun w => by have := w.2.1; omega)))
  refine zL_rule (fun t => t.1 = s ∧ t.2.1 = nI c ∧ t.2.2.2 = h ∧ ∃ i : Nat, i ≤ c ∧ t.2.2.1 = nI i ∧ ∀ j, j < i → 32 ≤ zb s j ∧ zb s j ≤ 126) (fun t => 8 - t.2.2.1.toNatClampNeg) ?_ (s, nI c, 0, h) ⟨rfl, rfl, rfl, 0, by omega, rfl, fun j hj => by omega⟩
  rintro ⟨u1, v3, v4, hh⟩ L ⟨e1, e2, e3, i, hi, e4, hz⟩ ih
  dsimp only at e1 e2 e3 e4 ih
  subst e1 e2 e3 e4
  unfold stReader_addToDraft_40
  dsimp only
  refine pk_le c i (fun q1 => ?_) (fun q1 => z_byte _ ?_)
  · have ei : i = c := by omega
    subst ei
    have good : zGd u1 i d := ⟨by omega, z2, hz⟩
    refine zL_rule (fun t => t.1 = u1 ∧ t.2.1 = nI i ∧ (∀ r, r ≠ 31 → t.2.2.2 r = hh r) ∧ (∀ j, j < d → t.2.2.2 31 j = hh 31 j) ∧ ∃ k : Nat, k ≤ i ∧ t.2.2.1 = nI k ∧ ∀ j, j < k → t.2.2.2 31 (d + j) = nI (zb u1 j)) (fun t => 8 - t.2.2.1.toNatClampNeg) ?_ (u1, nI i, 0, hh) ⟨rfl, rfl, fun _ _ => rfl, fun _ _ => rfl, 0, by omega, rfl, fun j hj => by omega⟩
    rintro ⟨u2, v5, v6, h6⟩ L2 ⟨e1, e2, f1, f2, k, hk, e4, f3⟩ ih2
    dsimp only at e1 e2 e4 f1 f2 f3 ih2
    subst e1 e2 e4
    unfold stReader_addToDraft_81
    dsimp only
    rw [f1 30 (by decide), hd, nI_add, nI_add]
    refine pk_le i k (fun q3 h120 e120 => ⟨Or.inr rfl, ?_⟩) (fun q3 => z_byte _ ⟨zin_nI (by omega) (by omega), fun h106 e106 => ?_⟩)
    · have ek : k = i := by omega
      subst ek
      refine p2 q k hc good h120 (fun r r1 r2 => ?_) ?_ (fun j hj => ?_) (fun j hj => ?_)
      · rw [e120, zuo r1]; exact f1 r r2
      · rw [e120, zux]
      · rw [e120, zuo (by decide)]; exact f2 j hj
      · rw [e120, zuo (by decide)]; exact f3 j hj
    · rw [znc (by omega), z_char _ (zb_lt _ _)] at e106
      rw [zp1]
      refine ih2 _ ⟨rfl, rfl, fun r hr => ?_, fun j hj => ?_, k + 1, by omega, rfl, fun j hj => ?_⟩ ?_
      · show h106 r = _
        rw [e106, zuo hr]; exact f1 r hr
      · show h106 31 j = _
        rw [e106, zun (by omega)]; exact f2 j hj
      · show h106 31 (d + j) = _
        rw [e106]
        by_cases e : j = k
        · subst e; rw [zux]
        · rw [zun (by omega)]; exact f3 j (by omega)
      · dsimp only
        rw [znc (by omega), znc (by omega)]
        omega
  · have hl := zb_lt u1 i
    refine pk_lt (zb u1 i) 32 (fun w => no (fun y => ?_)) (fun w => z_byte _ (pk_le (zb u1 i) 126 (fun w2 => ?_) (fun w2 => no (fun y => ?_))))
    · have := y.2.2 i q1; omega
    · rw [zp1]
      refine ih _ ⟨rfl, rfl, rfl, i + 1, by omega, rfl, fun j hj => ?_⟩ ?_
      · by_cases e : j = i
        · rw [e]; exact ⟨w, w2⟩
        · exact hz j (by omega)
      · dsimp only
        rw [znc (by omega), znc (by omega)]
        omega
    · have := y.2.2 i q1; omega
theorem m_draft {s : Int64} {g : zM} {d : Nat} (hd : g 0 37 = nI d) (hd2 : d ≤ 200) (post : Int32 → zM → Prop) (p0 : lg_cmp s 0 = 0 → post 1 (zu g 0 37 0)) (p1 : ¬ lg_cmp s 0 = 0 → ∀ c, zCb s c → ¬ zGd s c d → post 0 g) (p2 : ¬ lg_cmp s 0 = 0 → ∀ c, zCb s c → zGd s c d → ∀ g', (∀ r t, (r ≠ 0 ∨ t ≠ 37) → r ≠ 26 → g' r t = g r t) → g' 0 37 = nI (d + c) → (∀ i, i < d → g' 26 i = g 26 i) → (∀ i, i < c → g' 26 (d + i) = nI (zb s i)) → post 1 g') : wpMod_draft s g post := by
  unfold wpMod_draft
  refine ⟨fun q => ?_, fun q h8 e8 => by rw [e8]; exact p0 q⟩
  have fin : ∀ (c : Nat) (v : Int32), zCb s c → v = (if zdec (∀ j, j < c → 32 ≤ zb s j ∧ zb s j ≤ 126) = true then 1 else 0) → wbMod_draft_84 post s (nI c) v g := by
    intro c v hc ev
    have hc8 := hc.1
    have no : ¬ zGd s c d → post 0 g := p1 q c hc
    unfold wbMod_draft_84
    refine pk_eq c 0 (fun z => no (fun w => by have := w.1; omega)) (fun z => ?_)
    by_cases good : ∀ j, j < c → 32 ≤ zb s j ∧ zb s j ≤ 126
    · rw [zdec_t good, if_pos rfl] at ev
      subst ev
      refine ⟨fun w => absurd w (by decide), fun _ => ?_⟩
      rw [hd, nI_add]
      refine pk_le (d + c) 200 (fun z2 => ?_) (fun z2 => no (fun w => by have := w.2.1; omega))
      refine zL_rule (fun t => t.1 = s ∧ t.2.1 = nI c ∧ (∀ r u, (r ≠ 0 ∨ u ≠ 37) → r ≠ 26 → t.2.2.2 r u = g r u) ∧ (∀ j, j < d → t.2.2.2 26 j = g 26 j) ∧ ∃ k : Nat, k ≤ c ∧ t.2.2.1 = nI k ∧ t.2.2.2 0 37 = nI (d + k) ∧ ∀ j, j < k → t.2.2.2 26 (d + j) = nI (zb s j)) (fun t => 8 - t.2.2.1.toNatClampNeg) ?_ (s, nI c, 0, g) ⟨rfl, rfl, fun _ _ _ _ => rfl, fun _ _ => rfl, 0, by omega, rfl, hd, fun j hj => by omega⟩
      rintro ⟨u2, v5, v6, h6⟩ L2 ⟨e1, e2, f1, f2, k, hk, e4, f4, f3⟩ ih2
      dsimp only at e1 e2 e4 f1 f2 f3 f4 ih2
      subst e1 e2 e4
      unfold stMod_draft_110
      dsimp only
      rw [f4, zby_l, lN_i]
      refine pk_le c k (fun q3 => ?_) (fun q3 => ⟨zin_nI (by omega) (by omega), fun h136 e136 h144 e144 => ?_⟩)
      · have ek : k = c := by omega
        subst ek
        exact p2 q k hc ⟨by omega, z2, good⟩ h6 f1 f4 f2 f3
      · rw [znc (by omega)] at e136
        have w37 : h136 0 37 = nI (d + k) := by rw [e136, zuo (by decide), f4]
        rw [w37, zp1] at e144
        rw [zp1]
        refine ih2 _ ⟨rfl, rfl, fun r u hr h2 => ?_, fun j hj => ?_, k + 1, by omega, rfl, ?_, fun j hj => ?_⟩ ?_
        · show h144 r u = _
          rw [e144, zun (by omega), e136, zuo h2]; exact f1 r u hr h2
        · show h144 26 j = _
          rw [e144, zuo (by decide), e136, zun (by omega)]; exact f2 j hj
        · show h144 0 37 = _
          rw [e144, zux]; rfl
        · show h144 26 (d + j) = _
          rw [e144, zuo (by decide), e136]
          by_cases e : j = k
          · subst e; rw [zux]; rfl
          · rw [zun (by omega)]; exact f3 j (by omega)
        · dsimp only
          rw [znc (by omega), znc (by omega)]
          omega
    · rw [zdec_f good, if_neg (by decide)] at ev
      subst ev
      exact ⟨fun _ => no (fun w => good w.2.2), fun w => absurd rfl w⟩
  refine zL_rule (fun t => t.1 = s ∧ t.2.2.2 = g ∧ ∃ i : Nat, i ≤ 8 ∧ t.2.1 = nI i ∧ (∀ j, j < i → zb s j ≠ 0) ∧ t.2.2.1 = (if zdec (∀ j, j < i → 32 ≤ zb s j ∧ zb s j ≤ 126) = true then 1 else 0)) (fun t => 8 - t.2.1.toNatClampNeg) ?_ (s, 0, 1, g) ⟨rfl, rfl, 0, by omega, rfl, fun j hj => by omega, by rw [zdec_t (fun j hj => by omega), if_pos rfl]⟩
  rintro ⟨u1, v3, v4, hh⟩ L ⟨e1, e2, i, hi, e3, hz, e4⟩ ih
  dsimp only at e1 e2 e3 e4 ih
  subst e1 e2 e3
  unfold stMod_draft_18
  dsimp only
  have hl := zb_lt u1 i
  rw [zby_l, lN_i]
  refine pk_le 8 i (fun q1 => fin i v4 ⟨hi, hz, Or.inl (by omega)⟩ e4) (fun q1 => ?_)
  have nxt : ∀ w : Int32, zb u1 i ≠ 0 → w = (if zdec (∀ j, j < i + 1 → 32 ≤ zb u1 j ∧ zb u1 j ≤ 126) = true then 1 else 0) → wbMod_draft_76 post L u1 (nI i) w hh := by
    intro w hn ew
    unfold wbMod_draft_76
    rw [zp1]
    refine ih _ ⟨rfl, rfl, i + 1, by omega, rfl, fun j hj => ?_, ew⟩ ?_
    · by_cases e : j = i
      · rw [e]; exact hn
      · exact hz j (by omega)
    · dsimp only
      rw [znc (by omega), znc (by omega)]
      omega
  have zz : lg_cmp (lN (zb u1 i)) 0 = 0 ↔ zb u1 i = 0 := zl_cmp0 (by omega)
  refine ⟨fun z => fin i v4 ⟨hi, hz, Or.inr (zz.mp z)⟩ e4, fun z y50 e50 => ?_⟩
  have hn : zb u1 i ≠ 0 := fun w => z (zz.mpr w)
  have e50 : y50 = nI (zb u1 i) := e50
  subst e50
  unfold wbMod_draft_75
  have bad : ¬ (∀ j, j < i + 1 → 32 ≤ zb u1 j ∧ zb u1 j ≤ 126) → wbMod_draft_76 post L u1 (nI i) 0 hh := fun w => nxt 0 hn (by rw [zdec_f w, if_neg (by decide)])
  by_cases good : ∀ j, j < i → 32 ≤ zb u1 j ∧ zb u1 j ≤ 126
  · rw [zdec_t good, if_pos rfl] at e4
    subst e4
    refine ⟨fun w => absurd w (by decide), fun _ => pk_lt (zb u1 i) 32 (fun w => bad (fun y => ?_)) (fun w => pk_lt 126 (zb u1 i) (fun w2 => bad (fun y => ?_)) (fun w2 => nxt 1 hn ?_))⟩
    · have := y i (by omega); omega
    · have := y i (by omega); omega
    · rw [zdec_t, if_pos rfl]
      intro j hj
      by_cases e : j = i
      · rw [e]; exact ⟨w, w2⟩
      · exact good j (by omega)
  · rw [zdec_f good, if_neg (by decide)] at e4
    subst e4
    exact ⟨fun _ => bad (fun y => good (fun j hj => y j (by omega))), fun w => absurd rfl w⟩
theorem zH_draft (n : Nat) (ln : Nat → Nat) (h g : zM) (s : Int64) (hR : zR n ln h g) : wpTop_draft n ln s h (fun r h1 => wpMod_draft s g (fun r1 g1 => r = r1 ∧ zR n ln h1 g1)) := by
  have hR0 := hR
  obtain ⟨nc, no, hC, h0, hl, hs, ⟨d, d1, d2, d3, d4⟩, n40, hn, gn, he⟩ := hR
  have key : ∀ h' g', (∀ r, r ≠ 30 → r ≠ 31 → h' r = h r) → (∀ r t, (r ≠ 0 ∨ t ≠ 37) → r ≠ 26 → g' r t = g r t) → zDft h' g' → zR n ln h' g' := by
    intro h' g' f1 f2 f3
    have hK : zKq h h' no := zKq_of no (fun r hr => f1 r (by omega) (by omega))
    refine ⟨nc, no, zCat_g (zCat_fr hC (fun r hr => f1 r (by omega) (by omega))) (fun r s hr => f2 r s (by omega) (by omega)), h0, ?_, ?_, f3, n40, ?_, ?_, fun e hl => zEnt_g (fun r s r1 r2 => f2 r s (by omega) (by omega)) (zEnt_h hC.2.1 (Nat.le_refl _) hK (fun r hr => f1 r (by omega) (by omega)) (he e hl))⟩
    · obtain ⟨nl, l1, l2, l3, l4, l5⟩ := hl
      exact ⟨nl, l1, l2, by rw [f1 19 (by omega) (by omega)]; exact l3, by rw [f2 0 9 (by omega) (by omega)]; exact l4, fun i hi => by rw [f1 22 (by omega) (by omega), f2 7 i (by omega) (by omega)]; exact l5 i hi⟩
    · rw [f1 19 (by omega) (by omega), f2 0 0 (by omega) (by omega)]; exact hs
    · rw [f1 9 (by omega) (by omega)]; exact hn
    · rw [f2 0 17 (by omega) (by omega)]; exact gn
  refine z_draft d2 d1 _ (fun q => m_draft d3 d1 _ (fun _ => ⟨rfl, ?_⟩) (fun z => absurd q z) (fun z => absurd q z)) (fun q c hc hb => m_draft d3 d1 _ (fun z => absurd z q) (fun _ _ _ _ => ⟨rfl, hR0⟩) (fun _ c' hc' hg => ?_)) (fun q c hc hg h' f1 f2 f3 f4 => m_draft d3 d1 _ (fun z => absurd z q) (fun _ c' hc' hb => ?_) (fun _ c' hc' _ g' k1 k2 k3 k4 => ⟨rfl, ?_⟩))
  · refine key _ _ (fun r r1 r2 => zuo r1) (fun r t r1 r2 => zun (by omega)) ⟨0, by omega, zux, zux, fun i hi => by omega⟩
  · obtain rfl := zCb_eq hc hc'
    exact absurd hg hb
  · obtain rfl := zCb_eq hc hc'
    exact absurd hg hb
  · obtain rfl := zCb_eq hc hc'
    refine key _ _ f1 k1 ⟨d + c, hg.2.1, f2, k2, fun i hi => ?_⟩
    by_cases e : i < d
    · rw [f3 i e, k3 i e]; exact d4 i e
    · obtain ⟨j, rfl⟩ : ∃ j, i = d + j := ⟨i - d, by omega⟩
      rw [f4 j (by omega), k4 j (by omega)]
      exact ⟨rfl, zb s j, (hg.2.2 j (by omega)).1, (hg.2.2 j (by omega)).2, rfl⟩
