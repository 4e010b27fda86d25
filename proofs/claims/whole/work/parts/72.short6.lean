theorem m_ph3 {h g gg : zM} {nc no e : Nat} {ty : Int32} {S : zSS} (hC : zCat h g nc no) (he : e ≤ 40) (e17 : g 17 e = h (34 + 4 * e) 1) (e18 : g 18 e = h (34 + 4 * e) 2) (hD : mSd g gg e S) (hW : mWk gg S) (hV : zVs h no ty S) (post : Int32 → zM → Prop) (hp : ∀ g', mSd g g' e (zIt (zL3 h (h (34 + 4 * e) 1) (h (34 + 4 * e) 2)) (2 * S.1) 0 S) → post (nI (zIt (zL3 h (h (34 + 4 * e) 1) (h (34 + 4 * e) 2)) (2 * S.1) 0 S).1) g') : zL (stMod_shorten_121 post) (nI e, 0, gg) := by
  have hno := hC.2.1
  have s10 := hV.2.1
  refine zL_rule (fun s => s.1 = nI e ∧ ∃ (j : Nat) (S' : zSS), j ≤ 2 * S.1 ∧ s.2.1 = nI j ∧ mSd g s.2.2 e S' ∧ mWk s.2.2 S' ∧ zVs h no ty S' ∧ S'.1 = S.1 ∧ zIt (zL3 h (h (34 + 4 * e) 1) (h (34 + 4 * e) 2)) (2 * S.1 - j) j S' = zIt (zL3 h (h (34 + 4 * e) 1) (h (34 + 4 * e) 2)) (2 * S.1) 0 S) (fun s => 2 * S.1 - s.2.1.toNatClampNeg) ?_ (nI e, 0, gg) ⟨rfl, 0, S, by omega, rfl, hD, hW, hV, rfl, rfl⟩
  rintro ⟨v1, v2, g2⟩ L ⟨x1, j, S', hj, x2, D', W', V', es, ez⟩ ih
  dsimp only at x1 x2 D' W' ih
  subst x1 x2
  have hC2 : zCat h g2 nc no := zCat_g hC (fun r s hr => D'.1.1 r s (by omega))
  unfold stMod_shorten_121
  dsimp only
  rw [W'.1, es, zn2, zd2 (by omega), zm2' (by omega), znc (show j < 2147483648 by omega)]
  refine pk_le (2 * S.1) j (fun q => ?_) (fun q => ?_)
  · rw [show 2 * S.1 - j = 0 by omega] at ez
    have ez : S' = _ := ez
    rw [← ez] at hp
    rw [← es]
    exact hp g2 D'
  · obtain ⟨k, a, hja, ha⟩ : ∃ k a, j = 2 * k + a ∧ a < 2 := ⟨j / 2, j % 2, by omega, by omega⟩
    have hk : k < S'.1 := by omega
    obtain ⟨m, em⟩ : ∃ m, 2 * S.1 - j = m + 1 := ⟨2 * S.1 - j - 1, by omega⟩
    rw [em, zIt_s hja ha] at ez
    obtain ⟨V3, es3⟩ := zL3_ok (out := h (34 + 4 * e) 1) (det := h (34 + 4 * e) 2) hC V' hk ha
    obtain ⟨o, ho, eo, ok0, ok1⟩ := V'.2.2.1 k hk
    obtain ⟨kd, hkd, e5, f4, t0, tar, t1, t2⟩ := zOp_ar hC.1 (hC2.2.2.2.2.2.2.2 o ho)
    rw [show j / 2 = k by omega, show j % 2 = a by omega, znc (by omega), (W'.2 k hk).1, eo, znc (by omega), f4]
    have nxt : ∀ g', mSd g g' e (zL3 h (h (34 + 4 * e) 1) (h (34 + 4 * e) 2) k a S') → mWk g' (zL3 h (h (34 + 4 * e) 1) (h (34 + 4 * e) 2) k a S') → wbMod_shorten_184 post L (nI e) (nI j) g' := by
      intro g' D3 W3
      unfold wbMod_shorten_184
      rw [zp1]
      refine ih _ ⟨rfl, j + 1, _, by omega, rfl, D3, W3, V3, es3.trans es, ?_⟩ ?_
      · rw [show 2 * S.1 - (j + 1) = m by omega]; exact ez
      · dsimp only
        rw [znc (by omega), znc (by omega)]
        omega
    have skip : ¬ (S'.2 (5 * k + 1 + 2 * a) = 1 ∧ S'.2 (5 * k + 2 + 2 * a) ≠ 0) → wbMod_shorten_184 post L (nI e) (nI j) g2 := by
      intro z
      have : zL3 h (h (34 + 4 * e) 1) (h (34 + 4 * e) 2) k a S' = S' := by
        unfold zL3
        rw [if_neg z]
      exact nxt g2 (by rw [this]; exact D') (by rw [this]; exact W')
    have okA : zArgOk h S'.2 k a (if a = 0 then h 6 o else h 7 o) := by
      rcases (show a = 0 ∨ a = 1 by omega) with rfl | rfl
      · exact ok0
      · exact ok1
    have ij : vp_in (nI j) 40 := zin_nI (by omega) (by omega)
    have qa := (W'.2 k hk).2 a ha
    rw [← hja] at qa
    have q1 : g2 9 j = 1 ↔ S'.2 (5 * k + 1 + 2 * a) = 1 := by
      rcases qa with ⟨y1, -, y3, -⟩ | ⟨-, y2, -⟩
      · rw [y1, y3]; decide
      · rw [y2]
    refine ⟨zin_nI (by omega) (by omega), zin_nI (by omega) (by omega), m_arity hkd _ (pk_le (zar kd) a (fun z => skip (fun y => ?_)) (fun z => ⟨ij, fun w => skip (fun y => w (q1.mpr y.1)), fun w => ⟨ij, ?_⟩⟩))⟩
    · have a1 : a = 1 := by omega
      subst a1
      rw [if_neg (by decide), t1 (by omega)] at okA
      have := (zArg_not okA).1
      rw [y.1] at this
      exact absurd this (by decide)
    · have w1 := q1.mp w
      have ev : g2 10 j = S'.2 (5 * k + 2 + 2 * a) := by
        rcases qa with ⟨y1, -⟩ | ⟨-, -, y3⟩
        · rw [w1] at y1; exact absurd y1 (by decide)
        · exact y3
      rw [ev]
      refine ⟨fun u => skip (fun y => y.2 u), fun u => ⟨ij, fun h178 e178 => ?_⟩⟩
      have eL : zL3 h (h (34 + 4 * e) 1) (h (34 + 4 * e) 2) k a S' = zKeep h (h (34 + 4 * e) 1) (h (34 + 4 * e) 2) S' (S'.1, zset S'.2 k a 1 0) := by
        unfold zL3
        rw [if_pos ⟨w1, u⟩]
      have VV : zVs h no ty (S'.1, zset S'.2 k a 1 0) := by
        refine zset_ok V' hk ha eo ho hno (fun C x1 x2 x3 => ?_)
        rcases okA with ⟨-, y, -⟩ | ⟨y, -⟩ | ⟨tt, -, -, -, ⟨y, -⟩ | ⟨y, -⟩⟩
        · rw [w1] at y; exact absurd y (by decide)
        · rw [y]; exact Or.inr (Or.inl ⟨rfl, Or.inl x2⟩)
        · rw [w1] at y; exact absurd y (by decide)
        · rw [w1] at y; exact absurd y (by decide)
      have e178' : h178 = zu (zu g2 9 (2 * k + a) 1) 10 (2 * k + a) 0 := by
        rw [e178, ← hja]
        have : zu g2 9 j 1 = g2 := by
          funext r s
          by_cases r1 : r = 9
          · subst r1
            by_cases s1 : s = j
            · subst s1; rw [zux, w]
            · rw [zun (Or.inr s1)]
          · rw [zuo r1]
        rw [this]
      refine m_settle (S := S') (ty := ty) hC he e17 e18 (mSd_fr D' (fun r s hr => ?_)) V'.2.1 (S' := (S'.1, zset S'.2 k a 1 0)) (by rw [e178']; exact mWk_set W' hk ha (by decide)) VV _ (fun g' y1 y2 => nxt g' (by rw [eL]; exact y1) (by rw [eL]; exact y2))
      rw [e178, zuo (by omega)]
theorem m_ph2 {h g gg : zM} {nc no e : Nat} {ty : Int32} {S : zSS} (hC : zCat h g nc no) (he : e ≤ 40) (e17 : g 17 e = h (34 + 4 * e) 1) (e18 : g 18 e = h (34 + 4 * e) 2) (hD : mSd g gg e S) (hW : mWk gg S) (hV : zVs h no ty S) (post : Int32 → zM → Prop) (hp : ∀ g', mSd g g' e (zP2 h (h (34 + 4 * e) 1) (h (34 + 4 * e) 2) (S.1 - 1) S) → mWk g' (zP2 h (h (34 + 4 * e) 1) (h (34 + 4 * e) 2) (S.1 - 1) S) → zL (stMod_shorten_121 post) (nI e, 0, g')) : zL (stMod_shorten_91 post) (nI e, zdn (S.1 - 1), gg) := by
  have hno := hC.2.1
  have s1 := hV.1
  have s10 := hV.2.1
  refine zL_rule (fun s => s.1 = nI e ∧ ∃ (k : Nat) (S' : zSS), k < 10 ∧ s.2.1 = zdn k ∧ mSd g s.2.2 e S' ∧ mWk s.2.2 S' ∧ zVs h no ty S' ∧ k + 1 ≤ S'.1 ∧ zP2 h (h (34 + 4 * e) 1) (h (34 + 4 * e) 2) k S' = zP2 h (h (34 + 4 * e) 1) (h (34 + 4 * e) 2) (S.1 - 1) S) (fun s => if s.2.1 < 0 then 0 else s.2.1.toNatClampNeg + 1) ?_ (nI e, zdn (S.1 - 1), gg) ⟨rfl, S.1 - 1, S, by omega, rfl, hD, hW, hV, by omega, rfl⟩
  rintro ⟨v1, v2, g2⟩ L ⟨x1, k, S', hk, x2, D', W', V', ks, ez⟩ ih
  dsimp only at x1 x2 D' W' ih
  subst x1 x2
  unfold stMod_shorten_91
  dsimp only
  cases k with
  | zero =>
    refine ⟨fun _ => hp g2 ?_ ?_, fun q => absurd (by decide) q⟩
    · have ez : S' = _ := ez
      rw [← ez]; exact D'
    · have ez : S' = _ := ez
      rw [← ez]; exact W'
  | succ k =>
    have ev : zdn (k + 1) = nI k := rfl
    rw [ev] at ih ⊢
    obtain ⟨V3, s3⟩ := zL2_ok (out := h (34 + 4 * e) 1) (det := h (34 + 4 * e) 2) hno V' (show k + 2 ≤ S'.1 by omega)
    have ez : zP2 h (h (34 + 4 * e) 1) (h (34 + 4 * e) 2) k (zL2 h (h (34 + 4 * e) 1) (h (34 + 4 * e) 2) k S') = _ := ez
    have nxt : ∀ g', mSd g g' e (zL2 h (h (34 + 4 * e) 1) (h (34 + 4 * e) 2) k S') → mWk g' (zL2 h (h (34 + 4 * e) 1) (h (34 + 4 * e) 2) k S') → wbMod_shorten_113 post L (nI e) (nI k) g' := by
      intro g' D3 W3
      unfold wbMod_shorten_113
      rw [zdn_m]
      refine ih _ ⟨rfl, k, _, by omega, rfl, D3, W3, V3, by omega, ez⟩ ?_
      dsimp only
      rw [if_neg (zn0 (by omega)), znc (by omega)]
      cases k with
      | zero => rw [if_pos (by decide)]; omega
      | succ k =>
        rw [show zdn (k + 1) = nI k from rfl, if_neg (zn0 (by omega)), znc (by omega)]; omega
    refine ⟨fun q => absurd q (zn0 (by omega)), fun _ => ?_⟩
    have v10 := V'.2.1
    refine m_used W' v10 (by omega) _ (fun z => ⟨fun w => absurd rfl w, fun _ => ?_⟩) (fun z => ⟨fun _ => ?_, fun w => absurd w (by decide)⟩)
    · have eL : zL2 h (h (34 + 4 * e) 1) (h (34 + 4 * e) 2) k S' = zKeep h (h (34 + 4 * e) 1) (h (34 + 4 * e) 2) S' (S'.1 - 1, zrem S'.2 k) := by
        unfold zL2
        rw [zdec_f z, if_neg (by decide)]
      refine m_without W' V' (by omega) z _ (fun g3 l1 l2 => ?_)
      exact m_settle (S := S') (ty := ty) hC he e17 e18 (mSd_fr D' (fun r s hr => l1 r s (by omega) (by omega) (by omega) (by omega))) v10 l2 (zrem_ok hno V' (by omega) z) _ (fun g' y1 y2 => nxt g' (by rw [eL]; exact y1) (by rw [eL]; exact y2))
    · have eL : zL2 h (h (34 + 4 * e) 1) (h (34 + 4 * e) 2) k S' = S' := by
        unfold zL2
        rw [zdec_t z, if_pos rfl]
      exact nxt g2 (by rw [eL]; exact D') (by rw [eL]; exact W')
theorem m_ph1 {h g gg : zM} {nc no e : Nat} {ty : Int32} {S : zSS} (hC : zCat h g nc no) (he : e ≤ 40) (e17 : g 17 e = h (34 + 4 * e) 1) (e18 : g 18 e = h (34 + 4 * e) 2) (hD : mSd g gg e S) (hW : mWk gg S) (hV : zVs h no ty S) (post : Int32 → zM → Prop) (hp : ∀ g', mSd g g' e (zIt (zL1 h (h (34 + 4 * e) 1) (h (34 + 4 * e) 2)) (2 * S.1) 0 S) → mWk g' (zIt (zL1 h (h (34 + 4 * e) 1) (h (34 + 4 * e) 2)) (2 * S.1) 0 S) → zL (stMod_shorten_91 post) (nI e, zdn ((zIt (zL1 h (h (34 + 4 * e) 1) (h (34 + 4 * e) 2)) (2 * S.1) 0 S).1 - 1), g')) : zL (stMod_shorten_31 post) (nI e, 0, gg) := by
  have hno := hC.2.1
  have s1 := hV.1
  have s10 := hV.2.1
  refine zL_rule (fun s => s.1 = nI e ∧ ∃ (j : Nat) (S' : zSS), j ≤ 2 * S.1 ∧ s.2.1 = nI j ∧ mSd g s.2.2 e S' ∧ mWk s.2.2 S' ∧ zVs h no ty S' ∧ S'.1 = S.1 ∧ zIt (zL1 h (h (34 + 4 * e) 1) (h (34 + 4 * e) 2)) (2 * S.1 - j) j S' = zIt (zL1 h (h (34 + 4 * e) 1) (h (34 + 4 * e) 2)) (2 * S.1) 0 S) (fun s => 2 * S.1 - s.2.1.toNatClampNeg) ?_ (nI e, 0, gg) ⟨rfl, 0, S, by omega, rfl, hD, hW, hV, rfl, rfl⟩
  rintro ⟨v1, v2, g2⟩ L ⟨x1, j, S', hj, x2, D', W', V', es, ez⟩ ih
  dsimp only at x1 x2 D' W' ih
  subst x1 x2
  have hC2 : zCat h g2 nc no := zCat_g hC (fun r s hr => D'.1.1 r s (by omega))
  unfold stMod_shorten_31
  dsimp only
  rw [W'.1, es, zn2, zd2 (by omega), zm2' (by omega), znc (show j < 2147483648 by omega), zdn_2 s1 s10]
  refine pk_le (2 * S.1) j (fun q y90 e90 => ?_) (fun q => ?_)
  · rw [show 2 * S.1 - j = 0 by omega] at ez
    have ez : S' = _ := ez
    rw [← ez] at hp
    rw [e90, ← es]
    exact hp g2 D' W'
  · obtain ⟨k, a, hja, ha⟩ : ∃ k a, j = 2 * k + a ∧ a < 2 := ⟨j / 2, j % 2, by omega, by omega⟩
    have hk : k < S'.1 := by omega
    obtain ⟨m, em⟩ : ∃ m, 2 * S.1 - j = m + 1 := ⟨2 * S.1 - j - 1, by omega⟩
    rw [em, zIt_s hja ha] at ez
    obtain ⟨V3, es3⟩ := zL1_ok (out := h (34 + 4 * e) 1) (det := h (34 + 4 * e) 2) hC V' hk ha
    obtain ⟨o, ho, eo, ok0, ok1⟩ := V'.2.2.1 k hk
    obtain ⟨kd, hkd, e5, f4, t0, tar, t1, t2⟩ := zOp_ar hC.1 (hC2.2.2.2.2.2.2.2 o ho)
    rw [show j / 2 = k by omega, show j % 2 = a by omega, znc (by omega), (W'.2 k hk).1, eo, znc (by omega), f4]
    have nxt : ∀ g', mSd g g' e (zL1 h (h (34 + 4 * e) 1) (h (34 + 4 * e) 2) k a S') → mWk g' (zL1 h (h (34 + 4 * e) 1) (h (34 + 4 * e) 2) k a S') → wbMod_shorten_78 post L (nI e) (nI j) g' := by
      intro g' D3 W3
      unfold wbMod_shorten_78
      rw [zp1]
      refine ih _ ⟨rfl, j + 1, _, by omega, rfl, D3, W3, V3, es3.trans es, ?_⟩ ?_
      · rw [show 2 * S.1 - (j + 1) = m by omega]; exact ez
      · dsimp only
        rw [znc (by omega), znc (by omega)]
        omega
    have skip : ¬ S'.2 (5 * k + 1 + 2 * a) = 0 → wbMod_shorten_78 post L (nI e) (nI j) g2 := by
      intro z
      have : zL1 h (h (34 + 4 * e) 1) (h (34 + 4 * e) 2) k a S' = S' := by
        unfold zL1
        rw [if_neg z]
      exact nxt g2 (by rw [this]; exact D') (by rw [this]; exact W')
    have okA : zArgOk h S'.2 k a (if a = 0 then h 6 o else h 7 o) := by
      rcases (show a = 0 ∨ a = 1 by omega) with rfl | rfl
      · exact ok0
      · exact ok1
    have qa := (W'.2 k hk).2 a ha
    rw [← hja] at qa
    have q1 := zAq_0 qa
    refine ⟨zin_nI (by omega) (by omega), zin_nI (by omega) (by omega), m_arity hkd _ (pk_le (zar kd) a (fun z => skip (fun y => ?_)) (fun z => ⟨zin_nI (by omega) (by omega), fun w => skip (fun y => w (q1.mpr y)), fun w => ?_⟩))⟩
    · have a1 : a = 1 := by omega
      subst a1
      rw [if_neg (by decide), t1 (by omega)] at okA
      have := (zArg_not okA).1
      rw [y] at this
      exact absurd this (by decide)
    · exact m_simp hC he e17 e18 D' W' V' hja hk ha (q1.mp w) _ (fun g' y1 y2 => nxt g' y1 y2)
theorem zH_shorten (n : Nat) (ln : Nat → Nat) (h g : zM) (x : Int32) (hR : zR n ln h g) : wpTop_shorten n ln x h (fun r h1 => wpMod_shorten x g (fun r1 g1 => r = r1 ∧ zR n ln h1 g1)) := by
  have hR0 := hR
  obtain ⟨nc, no, hC, h0, hl, hs, hd, n40, hn, gn, he⟩ := hR
  have hno := hC.2.1
  unfold wpTop_shorten wpMod_shorten
  rw [gn]
  refine z_get hn n40 x _ (fun q => ⟨fun _ => ?_, fun j ej => absurd ej (by simp)⟩) (fun e hel ea => ⟨fun z => absurd z (by simp), fun j ej => ?_⟩)
  · refine ⟨fun _ => ⟨rfl, hR0⟩, fun q1 => ⟨fun _ => ⟨rfl, hR0⟩, fun q2 => ?_⟩⟩
    rcases zix x (n := n) (by omega) with z | z | ⟨e, hel, z⟩
    · exact absurd z q1
    · exact absurd z q2
    · exact absurd z (q e hel)
  · obtain rfl : e = j := Option.some.inj ej
    subst ea
    refine ⟨hel, ?_⟩
    have hE := he e hel
    obtain ⟨sz, out, det, a1, a2, a3, a4, a5, a6, a7, a8, a9, b1, b2, b3, b4, b5, b6⟩ := hE
    have m0 : ∀ {X Y : Prop}, Y → ((nI e < 0 → X) ∧ (¬ nI e < 0 → ((nI n ≤ nI e → X) ∧ (¬ nI n ≤ nI e → Y)))) := fun hY => ⟨fun z => absurd z (zn0 (by omega)), fun _ => pk_le n e (fun z => by omega) (fun _ => hY)⟩
    have ie : vp_in (nI e) 41 := zin_nI (by omega) (by omega)
    rw [znc (show e < 2147483648 by omega), a9, a8]
    have sh : 2 ≤ out → wbTop_shorten_31 n ln e (fun r h1 => (nI e < 0 → r = -1 ∧ zR n ln h1 g) ∧ (¬ nI e < 0 → ((nI n ≤ nI e → r = -1 ∧ zR n ln h1 g) ∧ (¬ nI n ≤ nI e → (vp_in (nI e) 41 ∧ ((2 ≤ nI out → wpMod_load (nI e) g (fun h26 => zL (stMod_shorten_31 (fun r1 g1 => r = r1 ∧ zR n ln h1 g1)) (nI e, 0, h26))) ∧ (¬ 2 ≤ nI out → r = -1 ∧ zR n ln h1 g))))))) h := by
      intro o2
      unfold wbTop_shorten_31
      have S0 : zHs h h e (sz, h (34 + 4 * e + 1 + 1)) := ⟨fun _ _ => rfl, a3, fun _ _ => rfl⟩
      have V0 : zVs h no (h (34 + 4 * e) 3) (sz, h (34 + 4 * e + 1 + 1)) := ⟨a1, a2, a5, b4.symm⟩
      refine z_ph1 hC S0 V0 _ (fun h1 H1 => ?_)
      have V1 := (zIt_ok (fun k a S z1 z2 z3 => zL1_ok (out := h (34 + 4 * e) 1) (det := h (34 + 4 * e) 2) hC z1 z2 z3) (2 * sz) 0 _ V0 (by show 0 + 2 * sz ≤ 2 * sz; omega)).1
      refine z_ph2 hC H1 V1 _ (fun h2 H2 => ?_)
      have V1 : zVs h no (h (34 + 4 * e) 3) (zIt (zL1 h (h (34 + 4 * e) 1) (h (34 + 4 * e) 2)) (2 * sz) 0 (sz, h (34 + 4 * e + 1 + 1))) := V1
      have V2 := zP2_ok (out := h (34 + 4 * e) 1) (det := h (34 + 4 * e) 2) hno ((zIt (zL1 h (h (34 + 4 * e) 1) (h (34 + 4 * e) 2)) (2 * sz) 0 (sz, h (34 + 4 * e + 1 + 1))).1 - 1) _ V1 (by have := V1.1; omega)
      refine z_ph3 hC H2 V2 _ (fun h3 H3 => ?_)
      have V3 := (zIt_ok (fun k a S z1 z2 z3 => zL3_ok (out := h (34 + 4 * e) 1) (det := h (34 + 4 * e) 2) hC z1 z2 z3) _ 0 _ V2 (by rw [Nat.zero_add]; exact Nat.le_refl _)).1
      refine m0 ⟨ie, fun _ => ?_, fun w => absurd ?_ w⟩
      · refine m_load (by omega) a4 a2 _ (fun g1 l1 l2 l3 => ?_)
        have D0 : mSd g g1 e (sz, h (34 + 4 * e + 1 + 1)) := by
          refine ⟨mHf_of (fun r s hr => l1 r s (by omega) (by omega) (by omega) (by omega)), by rw [l1 13 e (by omega) (by omega) (by omega) (by omega)]; exact a4, fun k hk => ?_⟩
          rw [show g1 14 = g 14 from funext fun s => l1 14 s (by omega) (by omega) (by omega) (by omega), show g1 15 = g 15 from funext fun s => l1 15 s (by omega) (by omega) (by omega) (by omega), show g1 16 = g 16 from funext fun s => l1 16 s (by omega) (by omega) (by omega) (by omega)]
          exact a6 k hk
        have W0 : mWk g1 (sz, h (34 + 4 * e + 1 + 1)) := ⟨l2, fun k hk => mCp_sq (l3 k hk) (a6 k hk)⟩
        have e17 : g 17 e = h (34 + 4 * e) 1 := by rw [a9, a8]
        have e18 : g 18 e = h (34 + 4 * e) 2 := by rw [b3, b2]
        refine m_ph1 hC (by omega) e17 e18 D0 W0 V0 _ (fun g2 D1 W1 => m_ph2 hC (by omega) e17 e18 D1 W1 V1 _ (fun g3 D2 W2 => m_ph3 hC (by omega) e17 e18 D2 W2 V2 _ (fun g4 D3 => ⟨H3.2.1, ?_⟩)))
        obtain ⟨c1, c2, c3⟩ := H3
        obtain ⟨d1, d2, d3⟩ := D3
        generalize zIt (zL3 h (h (34 + 4 * e) 1) (h (34 + 4 * e) 2)) _ 0 _ = T at c2 c3 d2 d3 V3
        obtain ⟨v1, v2, v3, v4⟩ := V3
        have hK : zKq h h3 no := zKq_of no (fun r hr => c1 r (by omega))
        refine ⟨nc, no, zCat_g (zCat_fr hC (fun r hr => c1 r (by omega))) (fun r s hr => d1.1 r s (by omega)), h0, ?_, ?_, ?_, n40, ?_, ?_, fun e' hel' => ?_⟩
        · obtain ⟨nl, q1, q2, q3, q4, q5⟩ := hl
          exact ⟨nl, q1, q2, by rw [c1 19 (by omega)]; exact q3, by rw [d1.1 0 9 (by omega)]; exact q4, fun i hi => by rw [c1 22 (by omega), d1.1 7 i (by omega)]; exact q5 i hi⟩
        · rw [c1 19 (by omega), d1.1 0 0 (by omega)]; exact hs
        · obtain ⟨d, q1, q2, q3, q4⟩ := hd
          exact ⟨d, q1, by rw [c1 30 (by omega)]; exact q2, by rw [d1.1 0 37 (by omega)]; exact q3, fun i hi => by rw [c1 31 (by omega), d1.1 26 i (by omega)]; exact q4 i hi⟩
        · rw [c1 9 (by omega)]; exact hn
        · rw [d1.1 0 17 (by omega)]; exact gn
        · by_cases w : e' = e
          · subst w
            have hsq : zSq T.2 (h3 (34 + 4 * e' + 1 + 1)) no T.1 := zSq_of c3 v3
            refine ⟨T.1, out, det, v1, v2, c2, d2, zStOk_K hno hK (Nat.le_refl _) c3 v3, fun k hk => mSq_c hk c3 (d3 k hk), a7, by rw [c1 _ (by omega)]; exact a8, by rw [d1.1 17 e' (by omega)]; exact a9, b1, by rw [c1 _ (by omega)]; exact b2, by rw [d1.1 18 e' (by omega)]; exact b3, ?_, by rw [c1 _ (by omega), d1.1 19 e' (by omega)]; exact b5, fun q => by omega⟩
            rw [c1 _ (by omega), zlt8_K hno hK hsq v1]; exact v4.symm
          · obtain ⟨sz', out', det', A1, A2, A3, A4, A5, A6, A7, A8, A9, B1, B2, B3, B4, B5, B6⟩ := zEnt_r hno hK (fun r r1 r2 => c1 r (by omega)) (he e' hel')
            refine ⟨sz', out', det', A1, A2, A3, (d1.2.1 e' w).trans A4, A5, fun k hk => mCp_sq (d1.2.2 _ (by omega)) (A6 k hk), A7, A8, (d1.1 17 e' (by omega)).trans A9, B1, B2, (d1.1 18 e' (by omega)).trans B3, B4, B5.trans (d1.1 19 e' (by omega)).symm, B6⟩
      · rw [zle, znI (by omega), zti_2]; omega
    have low : out < 2 → ¬ 2 ≤ nI out := by
      intro w
      rw [zle, znI (by omega), zti_2]; omega
    refine pk_eq out 2 (fun w => sh (by omega)) (fun w => pk_eq out 3 (fun w2 => sh (by omega)) (fun w2 => m0 ⟨ie, fun z => absurd z (low (by omega)), fun _ => ⟨rfl, hR0⟩⟩))
