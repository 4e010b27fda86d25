theorem z_grow1 {n : Nat} {ln : Nat → Nat} {h g : zM} {nc no nl : Nat} {s : Int32} (hB : zBk n ln h g nc no) (h9 : h 9 1 = nI n) (hn : n < 40) (hno : 1 ≤ no) (hl : h 19 5 = nI nl) (l1 : 3 ≤ nl) (l2 : nl ≤ 8) (hs : h 19 6 = s) (post : Int32 → Nat → (Nat → Nat) → zM → Prop) (hp1 : zGcd h n s ≠ 0 → ∀ h', zGf h h' → h' 19 6 = zGsd h n s → post (zGcd h n s) n ln h') (hp2 : zGcd h n s = 0 → ∀ h', zG h h' (zGsd h n s) (zGsz h n s) (zGcl h n s) → wpBook_holds n ln 20 h' (fun r91 h91 => ((r91 = 0 → wpRunner_run n ln 20 h91 (fun h108 => ((¬ (h108 12 3) = 4 → wpBook_add n ln 20 h108 post) ∧ ((h108 12 3) = 4 → post (-5) n ln h108)))) ∧ (¬ r91 = 0 → post (-4) n ln h91)))) : wpGrower_grow n ln h post := by
  have h10 := hB.1.2.1
  unfold wpGrower_grow wpBook_isFull
  rw [h9]
  refine pk_lt n 40 (fun _ => ⟨fun _ => ⟨fun _ => ?_, fun q => ?_⟩, fun q => absurd rfl q⟩) (fun q => by omega)
  · rw [hB.1.2.2.2.2.1]
    refine z_random (by omega) (by omega) _ ?_
    rw [hs]
    obtain ⟨o1, o2⟩ := zgo0_lt (s := s) hB hno
    rw [o2]
    unfold wpSequence_clear
    intro h41 e41
    have G0 : zG h h41 (zrs s) 0 (fun _ => 0) := by
      refine ⟨⟨fun r r1 r2 r3 r4 r5 r6 => ?_, ?_⟩, ?_, ?_, fun i hi => by omega⟩
      · rw [e41, zuo r3, zuo r2]
      · rw [e41, zuo (by decide), zun (by decide)]
      · rw [e41, zuo (by decide), zux]
      · rw [e41, zux]; rfl
    refine zL_rule (fun t => t.1 = nI (zgo0 h s) ∧ ((t.2.1 = nI 0 ∧ zG h t.2.2 (zrs s) 0 (fun _ => 0)) ∨ (t.2.1 = nI 1 ∧ (zR0 h n s).1 = 0 ∧ zG h t.2.2 (zR0 h n s).2.1 (zR0 h n s).2.2.1 (zR0 h n s).2.2.2.1 ∧ t.2.2 23 0 = (zR0 h n s).2.2.2.2.1 ∧ t.2.2 24 0 = (zR0 h n s).2.2.2.2.2) ∨ (t.2.1 = nI 2 ∧ (zR0 h n s).1 = 0 ∧ (zR1 h n s).1 = 0 ∧ zG h t.2.2 (zR1 h n s).2.1 (zR1 h n s).2.2.1 (zR1 h n s).2.2.2.1 ∧ t.2.2 23 0 = (zR0 h n s).2.2.2.2.1 ∧ t.2.2 24 0 = (zR0 h n s).2.2.2.2.2 ∧ t.2.2 23 1 = (zR1 h n s).2.2.2.2.1 ∧ t.2.2 24 1 = (zR1 h n s).2.2.2.2.2))) (fun t => 2 - t.2.1.toNatClampNeg) ?_ (nI (zgo0 h s), 0, h41) ⟨rfl, Or.inl ⟨rfl, G0⟩⟩
    rintro ⟨v1, v2, hh⟩ L ⟨e1, hcase⟩ ih
    dsimp only at e1 hcase ih
    subst e1
    unfold stGrower_grow_46
    dsimp only
    rcases hcase with ⟨e2, G⟩ | ⟨e2, z0, G, y1, y2⟩ | ⟨e2, z0, z1, G, y1, y2, y3, y4⟩
    · subst e2
      refine ⟨fun q => absurd q (by decide), fun _ => z_argType (by omega) (by omega) _ ?_⟩
      rw [if_pos rfl, G.1.1 6 (by decide) (by decide) (by decide) (by decide) (by decide) (by decide)]
      refine z_chArg (f0 := 0) (v0 := 0) hB h9 hl l1 l2 (zOp_typ hB.1 o1).1 G (by omega) (by omega) (fun k hk => by omega) (fun z => absurd z (by decide)) _ (fun h' hc => ⟨fun z => ?_, fun z => ?_⟩)
      · have z : (zR0 h n s).1 = 0 := z
        obtain ⟨c1, c2, c3⟩ := hc
        obtain ⟨d1, d2, d3, d4, d5⟩ := c3 z
        exact ih _ ⟨rfl, Or.inr (Or.inl ⟨rfl, z, ⟨c1, c2, d1, d2⟩, d3, d4⟩)⟩ (by dsimp only; decide)
      · have z : (zR0 h n s).1 ≠ 0 := z
        unfold zGcd zGsd at hp1
        rw [if_neg z, if_neg z] at hp1
        exact hp1 z h' hc.1 hc.2.1
    · subst e2
      obtain ⟨-, p2, p3, -, -, p6, -⟩ := zR0_ok hB hno z0
      refine ⟨fun q => absurd q (by decide), fun _ => z_argType (by omega) (by omega) _ ?_⟩
      rw [if_neg (by decide), G.1.1 7 (by decide) (by decide) (by decide) (by decide) (by decide) (by decide)]
      refine z_chArg (f0 := (zR0 h n s).2.2.2.2.1) (v0 := (zR0 h n s).2.2.2.2.2) hB h9 hl l1 l2 (zOp_typ hB.1 o1).2 G p2 (by omega) p3 (fun _ => ⟨y1, y2, p6⟩) _ (fun h' hc => ⟨fun z => ?_, fun z => ?_⟩)
      · have z : (zR1 h n s).1 = 0 := z
        obtain ⟨c1, c2, c3⟩ := hc
        obtain ⟨d1, d2, d3, d4, d5⟩ := c3 z
        exact ih _ ⟨rfl, Or.inr (Or.inr ⟨rfl, z0, z, ⟨c1, c2, d1, d2⟩, (d5 0 (by decide)).1.trans y1, (d5 0 (by decide)).2.trans y2, d3, d4⟩)⟩ (by dsimp only; decide)
      · have z : (zR1 h n s).1 ≠ 0 := z
        unfold zGcd zGsd at hp1
        rw [if_pos z0, if_pos z0] at hp1
        exact hp1 z h' hc.1 hc.2.1
    · subst e2
      have hc : zGcd h n s = 0 := by
        unfold zGcd
        rw [if_pos z0]; exact z1
      refine ⟨fun _ => ?_, fun q => absurd (by decide) q⟩
      refine z_pushC G (zR1_ok hB hno z0 z1).2.1 y1 y2 y3 y4 _ (fun h' G' => hp2 hc h' ?_)
      unfold zGsd
      rw [if_pos z0]
      exact G'
  · rw [hB.1.2.2.2.2.1] at q
    exact absurd q (nI_ne0 hno (by omega))
theorem m_step1 {n : Nat} {ln : Nat → Nat} {h g : zM} {nc no nl : Nat} {s : Int32} (hB : zBk n ln h g nc no) (hn : n < 40) (hno : 1 ≤ no) (hl : h 19 5 = nI nl) (l1 : 3 ≤ nl) (l2 : nl ≤ 8) (gl : g 0 9 = nI nl) (hlit : ∀ i, i < nl → h 22 i = g 7 i) (hs : g 0 0 = s) (post : Int32 → zM → Prop) (hp1 : zGcd h n s ≠ 0 → ∀ g', mGf g g' → g' 0 0 = zGsd h n s → post (zGcd h n s) g') (hp2 : zGcd h n s = 0 → ∀ g', mG g g' (zGsd h n s) (zGsz h n s) (zGcl h n s) → wpMod_known g' (fun r80 h80 => ((r80 = 0 → wpMod_entered h80 (fun r92 h92 => post r92 h92)) ∧ (¬ r80 = 0 → post (-4) h80)))) : wpMod_step g post := by
  have h10 := hB.1.2.1
  unfold wpMod_step
  rw [hB.2.2.1, hB.1.2.2.2.2.2.1]
  refine ⟨fun _ => ⟨fun _ => ?_, fun q => absurd q (nI_ne0 hno (by omega))⟩, fun q => ?_⟩
  · refine m_random (by omega) (by omega) _ ?_
    rw [hs]
    obtain ⟨o1, o2⟩ := zgo0_lt (s := s) hB hno
    rw [o2]
    intro h32 e32
    obtain ⟨kd, hkd, e5, f4, t0, tar, t1, t2⟩ := zOp_ar hB.1.1 (hB.1.2.2.2.2.2.2.2 _ o1)
    have G0 : mG g h32 (zrs s) 0 (fun _ => 0) := by
      refine ⟨fun r x hr => ?_, ?_, ?_, fun k hk => by omega⟩
      · rw [e32, zun (by omega), zun (by omega)]
      · rw [e32, zun (by decide), zux]
      · rw [e32, zux]; rfl
    refine zL_rule (fun t => t.1 = nI (zgo0 h s) ∧ ((t.2.1 = nI 0 ∧ mG g t.2.2 (zrs s) 0 (fun _ => 0)) ∨ (t.2.1 = nI 1 ∧ (zR0 h n s).1 = 0 ∧ mG g t.2.2 (zR0 h n s).2.1 (zR0 h n s).2.2.1 (zR0 h n s).2.2.2.1 ∧ t.2.2 11 0 = (zR0 h n s).2.2.2.2.1 ∧ t.2.2 12 0 = (zR0 h n s).2.2.2.2.2) ∨ (t.2.1 = nI 2 ∧ zar kd = 2 ∧ (zR0 h n s).1 = 0 ∧ (zR1 h n s).1 = 0 ∧ mG g t.2.2 (zR1 h n s).2.1 (zR1 h n s).2.2.1 (zR1 h n s).2.2.2.1 ∧ t.2.2 11 0 = (zR0 h n s).2.2.2.2.1 ∧ t.2.2 12 0 = (zR0 h n s).2.2.2.2.2 ∧ t.2.2 11 1 = (zR1 h n s).2.2.2.2.1 ∧ t.2.2 12 1 = (zR1 h n s).2.2.2.2.2))) (fun t => 2 - t.2.1.toNatClampNeg) ?_ (nI (zgo0 h s), 0, h32) ⟨rfl, Or.inl ⟨rfl, G0⟩⟩
    rintro ⟨v1, v2, gg⟩ L ⟨e1, hcase⟩ ih
    dsimp only at e1 hcase ih
    subst e1
    unfold stMod_step_37
    dsimp only
    have io : vp_in (nI (zgo0 h s)) 10 := zin_nI (by omega) (by omega)
    have put : ∀ gg, (zR0 h n s).1 = 0 → (zR1 h n s).1 = 0 → mG g gg (zR1 h n s).2.1 (zR1 h n s).2.2.1 (zR1 h n s).2.2.2.1 → gg 11 0 = (zR0 h n s).2.2.2.2.1 → gg 12 0 = (zR0 h n s).2.2.2.2.2 → (zar kd = 2 → gg 11 1 = (zR1 h n s).2.2.2.2.1 ∧ gg 12 1 = (zR1 h n s).2.2.2.2.2) → (zar kd = 1 → (zR1 h n s).2.2.2.2.1 = -1 ∧ (zR1 h n s).2.2.2.2.2 = 0) → wpMod_put (nI (zgo0 h s)) gg (fun h76 => wpMod_known h76 (fun r80 h80 => ((r80 = 0 → wpMod_entered h80 (fun r92 h92 => post r92 h92)) ∧ (¬ r80 = 0 → post (-4) h80)))) := by
      intro gg z0 z1 G y1 y2 y3 y4
      have hc : zGcd h n s = 0 := by
        unfold zGcd
        rw [if_pos z0]; exact z1
      refine m_put G (zR1_ok hB hno z0 z1).2.1 (by omega) (by rw [G.1 4 _ (by omega)]; exact f4) hkd tar y1 y2 ((zR0_ok hB hno z0).2.2.2.2.1 t0) (fun w => ⟨(y3 w).1, (y3 w).2, (zR1_ok hB hno z0 z1).2.2.2.2.1 (t2 w)⟩) y4 _ (fun g' G' => hp2 hc g' ?_)
      unfold zGsd
      rw [if_pos z0]
      exact G'
    rcases hcase with ⟨e2, G⟩ | ⟨e2, z0, G, y1, y2⟩ | ⟨e2, ar, z0, z1, G, y1, y2, y3, y4⟩
    · subst e2
      rw [znc (by omega), G.1 4 _ (by omega), f4]
      refine ⟨io, m_arity hkd _ (pk_le (zar kd) 0 (fun q => by omega) (fun q => ?_))⟩
      refine m_wants (h := h) (nc := nc) (by omega) (zOpOk_g (hB.1.2.2.2.2.2.2.2 _ o1) (G.1 4 _ (by omega)) (G.1 5 _ (by omega)) (G.1 6 _ (by omega))) hB.1.1 (by omega) (fun w => absurd w (by decide)) _ ?_
      rw [if_pos rfl]
      refine m_chArg (f0 := 0) (v0 := 0) hB hl l1 l2 gl hlit (zOp_typ hB.1 o1).1 t0 G (by omega) (by omega) (fun k hk => by omega) (fun z => absurd z (by decide)) _ (fun h' hc => ⟨fun z => ?_, fun z => ?_⟩)
      · have z : (zR0 h n s).1 = 0 := z
        obtain ⟨c1, c2, c3⟩ := hc
        obtain ⟨d1, d2, d3, d4, d5⟩ := c3 z
        exact ih _ ⟨rfl, Or.inr (Or.inl ⟨rfl, z, ⟨c1, c2, d1, d2⟩, d3, d4⟩)⟩ (by dsimp only; decide)
      · have z : (zR0 h n s).1 ≠ 0 := z
        unfold zGcd zGsd at hp1
        rw [if_neg z, if_neg z] at hp1
        exact hp1 z h' hc.1 hc.2.1
    · subst e2
      obtain ⟨-, p2, p3, -, -, p6, -⟩ := zR0_ok hB hno z0
      rw [znc (by omega), G.1 4 _ (by omega), f4]
      refine ⟨io, m_arity hkd _ (pk_le (zar kd) 1 (fun q => ?_) (fun q => ?_))⟩
      · have e1 : zar kd = 1 := by omega
        have eR : zR1 h n s = (0, (zR0 h n s).2.1, (zR0 h n s).2.2.1, (zR0 h n s).2.2.2.1, -1, 0) := by
          unfold zR1 zCh
          rw [if_pos (t1 e1)]
        refine put gg z0 (by rw [eR]) (by rw [eR]; exact G) y1 y2 (fun w => by omega) (fun _ => by rw [eR]; exact ⟨rfl, rfl⟩)
      · have e1 : zar kd = 2 := by omega
        refine m_wants (h := h) (nc := nc) (by omega) (zOpOk_g (hB.1.2.2.2.2.2.2.2 _ o1) (G.1 4 _ (by omega)) (G.1 5 _ (by omega)) (G.1 6 _ (by omega))) hB.1.1 (by omega) (fun w => ⟨kd, e5, hkd, e1⟩) _ ?_
        rw [if_neg (by decide)]
        refine m_chArg (f0 := (zR0 h n s).2.2.2.2.1) (v0 := (zR0 h n s).2.2.2.2.2) hB hl l1 l2 gl hlit (zOp_typ hB.1 o1).2 (t2 e1) G p2 (by omega) p3 (fun _ => ⟨y1, y2, p6⟩) _ (fun h' hc => ⟨fun z => ?_, fun z => ?_⟩)
        · have z : (zR1 h n s).1 = 0 := z
          obtain ⟨c1, c2, c3⟩ := hc
          obtain ⟨d1, d2, d3, d4, d5⟩ := c3 z
          exact ih _ ⟨rfl, Or.inr (Or.inr ⟨rfl, e1, z0, z, ⟨c1, c2, d1, d2⟩, (d5 0 (by decide)).1.trans y1, (d5 0 (by decide)).2.trans y2, d3, d4⟩)⟩ (by dsimp only; decide)
        · have z : (zR1 h n s).1 ≠ 0 := z
          unfold zGcd zGsd at hp1
          rw [if_pos z0, if_pos z0] at hp1
          exact hp1 z h' hc.1 hc.2.1
    · subst e2
      rw [znc (by omega), G.1 4 _ (by omega), f4]
      refine ⟨io, m_arity hkd _ (pk_le (zar kd) 2 (fun q => ?_) (fun q => by omega))⟩
      exact put gg z0 z1 G y1 y2 (fun _ => ⟨y3, y4⟩) (fun w => by omega)
  · have : n = 40 := (nI_eq (b := 40) (by omega) (by omega)).mp q
    omega
