noncomputable def zNum (h : zM) (n : Nat) (s : Int32) (sz : Nat) (c : Nat → Int32) : zCR := if zrv (zrs s) 3 = 0 ∧ 0 < zoc h 0 n then zTake h n 0 (zrs s) sz c else (0, zrs (zrs s), sz, c, 1, h 22 (Int32.toNatClampNeg (zrv (zrs (zrs s)) (h 19 5))))
noncomputable def zObj (h : zM) (n a t : Nat) (s : Int32) (sz : Nat) (c : Nat → Int32) (f0 v0 : Int32) : zCR := if zrv (zrs s) 6 = 0 then (0, zrs s, sz, c, 2, 0) else if zdec (zrv (zrs (zrs s)) 3 = 0 ∧ a = 1 ∧ f0 = 0 ∧ zIs (h 2) (Int32.toNatClampNeg (h 8 (Int32.toNatClampNeg (c (5 * Int32.toNatClampNeg v0))))) t) = true then (0, zrs (zrs s), sz, c, 0, v0) else zTake h n t (zrs (zrs s)) sz c
theorem zOp_ty {h g : zM} {nc no o : Nat} (hC : zCat h g nc no) (ho : o < no) : ∃ ty : Nat, ty ≤ nc ∧ h 8 o = nI ty := by
  obtain ⟨kd, cc, d, hkd, c1, c2, hd, e5, f4, f5, f6, e6, e7, e8⟩ := hC.2.2.2.2.2.2.2 o ho
  rw [e8]
  unfold zrt
  split
  · exact ⟨cc, c2, rfl⟩
  · split
    · obtain ⟨e', e1, e2, rfl⟩ := hd (by unfold zhasD; omega)
      exact ⟨e', e2, rfl⟩
    · exact ⟨0, by omega, rfl⟩
theorem zG_seed {h hh : zM} {s s' : Int32} {sz : Nat} {c : Nat → Int32} (hG : zG h hh s sz c) : zG h (zu hh 19 6 s') s' sz c := by
  obtain ⟨⟨F, L⟩, G1, G2, G3⟩ := hG
  refine ⟨⟨fun r r1 r2 r3 r4 r5 r6 => by rw [zuo r2]; exact F r r1 r2 r3 r4 r5 r6, by rw [zun (by decide)]; exact L⟩, zux, by rw [zuo (by decide)]; exact G2, fun i hi => by rw [zuo (by decide)]; exact G3 i hi⟩
theorem mG_seed {g gg : zM} {s s' : Int32} {sz : Nat} {c : Nat → Int32} (hG : mG g gg s sz c) : mG g (zu gg 0 0 s') s' sz c := by
  obtain ⟨F, G1, G2, G3⟩ := hG
  refine ⟨fun r x hr => by rw [zun (by omega)]; exact F r x hr, zux, by rw [zun (by decide)]; exact G2, fun k hk => by rw [zuo (by decide), zuo (by decide), zuo (by decide)]; exact G3 k hk⟩
theorem zCo_fr {h hh h2 h' : zM} {R : zCR} {a : Nat} (e1 : h2 23 = hh 23) (e2 : h2 24 = hh 24) (hc : zCo h R a h2 h') : zCo h R a hh h' := by
  unfold zCo at *
  rw [e1, e2] at hc
  exact hc
theorem mCo_fr {g gg g2 g' : zM} {R : zCR} {a : Nat} (e1 : g2 11 = gg 11) (e2 : g2 12 = gg 12) (hc : mCo g R a g2 g') : mCo g R a gg g' := by
  unfold mCo at *
  rw [e1, e2] at hc
  exact hc
theorem zG_pick {n : Nat} {ln : Nat → Nat} {h hh : zM} {s : Int32} {sz a : Nat} {c : Nat → Int32} {f v : Int32} (hG : zG h hh s sz c) (ha : a < 2) (post : Int32 → zM → Prop) (hp : ∀ h', zCo h (0, s, sz, c, f, v) a hh h' → post 0 h') : wpGrower_choose n ln (nI a) f v hh post := by
  obtain ⟨⟨F, L⟩, G1, G2, G3⟩ := hG
  refine z_choose ha _ (fun h' k1 k2 k3 k4 => hp h' ⟨⟨fun r r1 r2 r3 r4 r5 r6 => ?_, ?_⟩, ?_, fun _ => ⟨?_, fun i hi => ?_, k2, k3, k4⟩⟩)
  · rw [k1 r r5 r6]; exact F r r1 r2 r3 r4 r5 r6
  · rw [k1 19 (by decide) (by decide)]; exact L
  · rw [k1 19 (by decide) (by decide)]; exact G1
  · rw [k1 20 (by decide) (by decide)]; exact G2
  · rw [k1 21 (by decide) (by decide)]; exact G3 i hi
theorem mG_pick {g gg : zM} {s : Int32} {sz a : Nat} {c : Nat → Int32} {f v : Int32} (hG : mG g gg s sz c) (ha : a < 2) (post : zM → Prop) (hp : ∀ g', mCo g (0, s, sz, c, f, v) a gg g' → g' 0 11 = nI sz → post g') : wpMod_choose (nI a) f v gg post := by
  obtain ⟨F, G1, G2, G3⟩ := hG
  refine m_choose ha _ (fun g' k1 k2 k3 k4 => hp g' ⟨fun r x hr => ?_, ?_, fun _ => ⟨?_, fun k hk => ?_, k2, k3, k4⟩⟩ ?_)
  · rw [k1 r (by omega) (by omega)]; exact F r x hr
  · rw [k1 0 (by decide) (by decide)]; exact G1
  · rw [k1 0 (by decide) (by decide)]; exact G2
  · rw [k1 8 (by decide) (by decide), k1 9 (by decide) (by decide), k1 10 (by decide) (by decide)]; exact G3 k hk
  · rw [k1 0 (by decide) (by decide)]; exact G2
theorem z_num {n : Nat} {ln : Nat → Nat} {h g hh : zM} {nc no sz a nl : Nat} {s : Int32} {c : Nat → Int32} (hB : zBk n ln h g nc no) (h9 : h 9 1 = nI n) (hl : h 19 5 = nI nl) (l1 : 3 ≤ nl) (l2 : nl ≤ 8) (hG : zG h hh s sz c) (hsz : sz ≤ 9) (ha : a < 2) (post : Int32 → zM → Prop) (hp : ∀ hh', zCo h (zNum h n s sz c) a hh hh' → post (zNum h n s sz c).1 hh') : wpGrower_chooseNumber n ln (nI a) hh post := by
  have n40 := hB.2.1
  have hle := zoc_le (h := h) (t := 0) n
  unfold wpGrower_chooseNumber
  refine z_random (M := 3) (by omega) (by omega) _ ?_
  rw [hG.2.1]
  have G1 := zG_seed (s' := zrs s) hG
  have lit : ¬ (zrv (zrs s) 3 = 0 ∧ 0 < zoc h 0 n) → ∀ h2, zG h h2 (zrs s) sz c → h2 23 = hh 23 → h2 24 = hh 24 → wbGrower_chooseNumber_26 n ln post (nI a) h2 := by
    intro q h2 G2 e1 e2
    have eN : zNum h n s sz c = (0, zrs (zrs s), sz, c, 1, h 22 (Int32.toNatClampNeg (zrv (zrs (zrs s)) (h 19 5)))) := by
      unfold zNum
      rw [if_neg q]
    rw [eN, hl] at hp
    unfold wbGrower_chooseNumber_26
    rw [show h2 19 5 = nI nl by rw [G2.1.2, hl]]
    refine z_random (M := nl) (by omega) (by omega) _ ?_
    rw [G2.2.1]
    obtain ⟨j, hj, ej⟩ := zrv_lt (s := zrs (zrs s)) (M := nl) (by omega) (by omega)
    rw [ej, znc (by omega)] at hp ⊢
    refine ⟨zin_nI (by omega) (by omega), ?_⟩
    have G3 := zG_seed (s' := zrs (zrs s)) G2
    rw [zuo (by decide), G2.1.1 22 (by decide) (by decide) (by decide) (by decide) (by decide) (by decide)]
    refine zG_pick G3 ha _ (fun h' z => hp h' (zCo_fr ?_ ?_ z))
    · rw [zuo (by decide), e1]
    · rw [zuo (by decide), e2]
  refine ⟨fun q => lit (fun w => q w.1) _ G1 (zuo (by decide)) (zuo (by decide)), fun q => ?_⟩
  refine zG_list (t := 0) hB h9 G1 (by omega) _ (fun h13 G13 f13 hl13 => ?_)
  have x1 : h13 23 = hh 23 := by rw [f13 23 (by decide), zuo (by decide)]
  have x2 : h13 24 = hh 24 := by rw [f13 24 (by decide), zuo (by decide)]
  refine pk_le (zoc h 0 n) 0 (fun z => lit (fun w => by omega) _ G13 x1 x2) (fun z => ?_)
  have eN : zNum h n s sz c = zTake h n 0 (zrs s) sz c := by
    unfold zNum
    rw [if_pos ⟨q, z⟩]
  rw [eN] at hp
  exact z_take (t := 0) hB h9 G13 hsz (by omega) ha _ (fun h' y => hp h' (zCo_fr x1 x2 y))
theorem z_obj {n : Nat} {ln : Nat → Nat} {h g hh : zM} {nc no sz a t : Nat} {s f0 v0 : Int32} {c : Nat → Int32} (hB : zBk n ln h g nc no) (h9 : h 9 1 = nI n) (hG : zG h hh s sz c) (hsz : sz ≤ 9) (ha : a < 2) (ht : t ≤ nc) (hst : ∀ k, k < sz → zStOk h c no k) (h0 : a = 1 → hh 23 0 = f0 ∧ hh 24 0 = v0 ∧ (f0 = 0 → ∃ v : Nat, v < sz ∧ v0 = nI v)) (post : Int32 → zM → Prop) (hp : ∀ hh', zCo h (zObj h n a t s sz c f0 v0) a hh hh' → post (zObj h n a t s sz c f0 v0).1 hh') : wpGrower_chooseObject n ln (nI a) (nI t) hh post := by
  have hno := hB.1.2.1
  have hnc := hB.1.1
  unfold wpGrower_chooseObject
  refine z_random (M := 6) (by omega) (by omega) _ ?_
  rw [hG.2.1]
  have G1 := zG_seed (s' := zrs s) hG
  refine ⟨fun (q : ¬ zrv (zrs s) 6 = 0) => ?_, fun (q : zrv (zrs s) 6 = 0) => ?_⟩
  · refine z_random (M := 3) (by omega) (by omega) _ ?_
    rw [G1.2.1]
    have G2 := zG_seed (s' := zrs (zrs s)) G1
    generalize hx : zu (zu hh 19 6 (zrs s)) 19 6 (zrs (zrs s)) = h2 at G2 ⊢
    have x1 : h2 23 = hh 23 := by rw [← hx, zuo (by decide), zuo (by decide)]
    have x2 : h2 24 = hh 24 := by rw [← hx, zuo (by decide), zuo (by decide)]
    have tk : ¬ (zrv (zrs (zrs s)) 3 = 0 ∧ a = 1 ∧ f0 = 0 ∧ zIs (h 2) (Int32.toNatClampNeg (h 8 (Int32.toNatClampNeg (c (5 * Int32.toNatClampNeg v0))))) t) → wbGrower_chooseObject_50 n ln post (nI a) (nI t) h2 := by
      intro z
      have eN : zObj h n a t s sz c f0 v0 = zTake h n t (zrs (zrs s)) sz c := by
        unfold zObj
        rw [if_neg q, zdec_f z, if_neg (by decide)]
      rw [eN] at hp
      unfold wbGrower_chooseObject_50
      exact z_take hB h9 G2 hsz ht ha _ (fun h' y => hp h' (zCo_fr x1 x2 y))
    refine ⟨fun z => tk (fun w => z w.1), fun z => pk_le a 0 (fun w => tk (fun y => by omega)) (fun w => ?_)⟩
    have a1 : a = 1 := by omega
    subst a1
    obtain ⟨y1, y2, y3⟩ := h0 rfl
    unfold wpGrower_firstFits
    rw [znc0, x1, x2, y1, y2]
    refine ⟨zin_nI (k := 0) (by omega) (by omega), fun y => ⟨fun _ => tk (fun u => y u.2.2.1), fun u => absurd rfl u⟩, fun y => ⟨zin_nI (k := 0) (by omega) (by omega), ?_⟩⟩
    obtain ⟨v, hv, ev⟩ := y3 y
    subst ev
    obtain ⟨o, ho, eo, -⟩ := hst v hv
    refine z_op (by omega) _ ?_
    rw [show h2 (20 + 1) (5 * v) = nI o by rw [show 20 + 1 = 21 from rfl, G2.2.2.2 (5 * v) (by omega)]; exact eo, znc (by omega)]
    refine ⟨zin_nI (by omega) (by omega), ?_⟩
    have fr : ∀ r, r ≤ 10 → h2 r = h r := fun r hr => G2.1.1 r (by omega) (by omega) (by omega) (by omega) (by omega) (by omega)
    obtain ⟨ty, ty1, ety⟩ := zOp_ty hB.1 ho
    have hpar : zPar h2 nc := fun i a b => by rw [fr 2 (by omega)]; exact (hB.1.2.2.2.2.2.2.1 i a b).2.2.2.1
    have cond : (zrv (zrs (zrs s)) 3 = 0 ∧ 1 = 1 ∧ f0 = 0 ∧ zIs (h 2) (Int32.toNatClampNeg (h 8 (Int32.toNatClampNeg (c (5 * Int32.toNatClampNeg (nI v)))))) t) ↔ zIs (h 2) ty t := by
      rw [znc (show v < 2147483648 by omega), eo, znc (by omega), ety, znc (by omega)]
      exact ⟨fun u => u.2.2.2, fun u => ⟨z, rfl, y, u⟩⟩
    rw [fr 8 (by omega), ety]
    refine z_is hpar hnc ty t ty1 ht _ (fun u => ⟨fun _ => ⟨fun _ => tk ?_, fun p => absurd rfl p⟩, fun p => absurd rfl p⟩) (fun u => ⟨fun p => absurd p (by decide), fun _ => ⟨fun p => absurd p (by decide), fun _ => ⟨zin_nI (k := 0) (by omega) (by omega), ?_⟩⟩⟩)
    · rw [fr 2 (by omega)] at u
      rw [cond]
      exact u
    · rw [fr 2 (by omega)] at u
      have eN : zObj h n 1 t s sz c f0 (nI v) = (0, zrs (zrs s), sz, c, 0, nI v) := by
        unfold zObj
        rw [if_neg q, zdec_t (cond.mpr u), if_pos rfl]
      rw [eN] at hp
      rw [show h2 24 0 = nI v by rw [x2, y2]]
      exact zG_pick G2 ha _ (fun h' p => hp h' (zCo_fr x1 x2 p))
  · have eN : zObj h n a t s sz c f0 v0 = (0, zrs s, sz, c, 2, 0) := by
      unfold zObj
      rw [if_pos q]
    rw [eN] at hp
    exact zG_pick G1 ha _ (fun h' z => hp h' (zCo_fr (zuo (by decide)) (zuo (by decide)) z))
theorem m_num {n : Nat} {ln : Nat → Nat} {h g gg : zM} {nc no sz a nl : Nat} {s : Int32} {c : Nat → Int32} (hB : zBk n ln h g nc no) (hl : h 19 5 = nI nl) (l1 : 3 ≤ nl) (l2 : nl ≤ 8) (gl : g 0 9 = nI nl) (hlit : ∀ i, i < nl → h 22 i = g 7 i) (hG : mG g gg s sz c) (hsz : sz ≤ 9) (ha : a < 2) (post : Int32 → zM → Prop) (hp : ∀ gg', mCo g (zNum h n s sz c) a gg gg' → post (zNum h n s sz c).1 gg') : wpMod_chosen 0 (nI a) gg post := by
  have n40 := hB.2.1
  have hle := zoc_le (h := h) (t := 0) n
  unfold wpMod_chosen
  refine m_offered (t := 0) (zBk_g hB hG.1) (by omega) _ ⟨fun q => absurd rfl q, fun _ => m_random (M := 3) (by omega) (by omega) _ ?_⟩
  rw [hG.2.1]
  have G1 := mG_seed (s' := zrs s) hG
  generalize hx : zu gg 0 0 (zrs s) = g2 at G1 ⊢
  have x1 : g2 11 = gg 11 := by rw [← hx, zuo (by decide)]
  have x2 : g2 12 = gg 12 := by rw [← hx, zuo (by decide)]
  have lit : ¬ (zrv (zrs s) 3 = 0 ∧ 0 < zoc h 0 n) → wbMod_chosen_26 post (nI a) (nI (zoc h 0 n)) g2 := by
    intro q
    have eN : zNum h n s sz c = (0, zrs (zrs s), sz, c, 1, h 22 (Int32.toNatClampNeg (zrv (zrs (zrs s)) (h 19 5)))) := by
      unfold zNum
      rw [if_neg q]
    rw [eN, hl] at hp
    unfold wbMod_chosen_26 wbMod_chosen_27
    refine ⟨fun _ => ?_, fun w => absurd rfl w⟩
    rw [show g2 0 9 = nI nl by rw [G1.1 0 9 (by omega), gl]]
    refine m_random (M := nl) (by omega) (by omega) _ ?_
    rw [G1.2.1]
    obtain ⟨j, hj, ej⟩ := zrv_lt (s := zrs (zrs s)) (M := nl) (by omega) (by omega)
    rw [ej, znc (by omega)] at hp ⊢
    refine ⟨zin_nI (by omega) (by omega), ?_⟩
    have G3 := mG_seed (s' := zrs (zrs s)) G1
    rw [zuo (by decide), G1.1 7 j (by omega), ← hlit j hj]
    refine mG_pick G3 ha _ (fun g' z w11 => ?_)
    unfold wbMod_chosen_67
    rw [w11]
    refine pk_le sz 9 (fun _ => hp g' (mCo_fr ?_ ?_ z)) (fun w => by omega)
    · rw [zuo (by decide), x1]
    · rw [zuo (by decide), x2]
  refine ⟨fun q => lit (fun w => q w.1), fun q => pk_le (zoc h 0 n) 0 (fun z => lit (fun w => by omega)) (fun z => ?_)⟩
  have eN : zNum h n s sz c = zTake h n 0 (zrs s) sz c := by
    unfold zNum
    rw [if_pos ⟨q, z⟩]
  rw [eN] at hp
  unfold wbMod_chosen_27
  refine ⟨fun w => absurd w (by decide), fun _ => ?_⟩
  exact m_takeC (t := 0) hB G1 hsz (by omega) ha (by omega) post (fun g' y => hp g' (mCo_fr x1 x2 y))
theorem m_obj {n : Nat} {ln : Nat → Nat} {h g gg : zM} {nc no sz a t : Nat} {s f0 v0 : Int32} {c : Nat → Int32} (hB : zBk n ln h g nc no) (hG : mG g gg s sz c) (hsz : sz ≤ 9) (ha : a < 2) (ht1 : 1 ≤ t) (ht : t ≤ nc) (hst : ∀ k, k < sz → zStOk h c no k) (h0 : a = 1 → gg 11 0 = f0 ∧ gg 12 0 = v0 ∧ (f0 = 0 → ∃ v : Nat, v < sz ∧ v0 = nI v)) (post : Int32 → zM → Prop) (hp : ∀ gg', mCo g (zObj h n a t s sz c f0 v0) a gg gg' → post (zObj h n a t s sz c f0 v0).1 gg') : wpMod_chosen (nI t) (nI a) gg post := by
  have hno := hB.1.2.1
  have hnc := hB.1.1
  have n40 := hB.2.1
  have hle := zoc_le (h := h) (t := t) n
  unfold wpMod_chosen
  refine m_offered (zBk_g hB hG.1) ht _ ⟨fun _ => m_random (M := 6) (by omega) (by omega) _ ?_, fun q => absurd q (nI_ne0 ht1 (by omega))⟩
  rw [hG.2.1]
  have G1 := mG_seed (s' := zrs s) hG
  refine ⟨fun (q : ¬ zrv (zrs s) 6 = 0) => ?_, fun (q : zrv (zrs s) 6 = 0) => ?_⟩
  · refine m_random (M := 3) (by omega) (by omega) _ ?_
    rw [G1.2.1]
    have G2 := mG_seed (s' := zrs (zrs s)) G1
    generalize hx : zu (zu gg 0 0 (zrs s)) 0 0 (zrs (zrs s)) = g2 at G2 ⊢
    have x1 : g2 11 = gg 11 := by rw [← hx, zuo (by decide), zuo (by decide)]
    have x2 : g2 12 = gg 12 := by rw [← hx, zuo (by decide), zuo (by decide)]
    have tk : ¬ (zrv (zrs (zrs s)) 3 = 0 ∧ a = 1 ∧ f0 = 0 ∧ zIs (h 2) (Int32.toNatClampNeg (h 8 (Int32.toNatClampNeg (c (5 * Int32.toNatClampNeg v0))))) t) → wbMod_chosen_172 post (nI t) (nI a) (nI (zoc h t n)) g2 := by
      intro z
      have eN : zObj h n a t s sz c f0 v0 = zTake h n t (zrs (zrs s)) sz c := by
        unfold zObj
        rw [if_neg q, zdec_f z, if_neg (by decide)]
      rw [eN] at hp
      unfold wbMod_chosen_172
      refine ⟨fun w => m_takeC hB G2 hsz ht ha (fun y => w (by rw [y]; rfl)) post (fun g' y => hp g' (mCo_fr x1 x2 y)), fun w => ?_⟩
      have w : zoc h t n = 0 := (nI_eq (b := 0) (by omega) (by omega)).mp w
      have eT : zTake h n t (zrs (zrs s)) sz c = (-2, zrs (zrs s), sz, c, 0, 0) := by
        unfold zTake
        rw [if_pos w]
      rw [eT] at hp
      exact hp g2 ⟨G2.1, G2.2.1, fun y => absurd y (show (-2 : Int32) ≠ 0 by decide)⟩
    have tk0 : ¬ (zrv (zrs (zrs s)) 3 = 0 ∧ a = 1 ∧ f0 = 0 ∧ zIs (h 2) (Int32.toNatClampNeg (h 8 (Int32.toNatClampNeg (c (5 * Int32.toNatClampNeg v0))))) t) → wbMod_chosen_127 post (nI t) (nI a) (nI (zoc h t n)) g2 := by
      intro z
      unfold wbMod_chosen_127 wbMod_chosen_128
      exact ⟨fun _ => tk z, fun w => absurd rfl w⟩
    refine ⟨fun z => tk0 (fun w => z w.1), fun z => ⟨fun w => tk0 (fun y => w (by rw [y.2.1]; rfl)), fun w => ?_⟩⟩
    have a1 : a = 1 := (nI_eq (b := 1) (by omega) (by omega)).mp w
    subst a1
    obtain ⟨y1, y2, y3⟩ := h0 rfl
    rw [znc0, x1, y1]
    refine ⟨zin_nI (k := 0) (by omega) (by omega), fun y => tk0 (fun u => y u.2.2.1), fun y => ?_⟩
    unfold wbMod_chosen_128
    rw [znc0, x2, y2]
    refine ⟨fun u => absurd u (by decide), fun _ => ⟨zin_nI (k := 0) (by omega) (by omega), ?_⟩⟩
    obtain ⟨v, hv, ev⟩ := y3 y
    subst ev
    obtain ⟨o, ho, eo, -⟩ := hst v hv
    rw [znc (show v < 2147483648 by omega), (G2.2.2.2 v hv).1, eo]
    obtain ⟨ty, ty1, ety⟩ := zOp_ty hB.1 ho
    have hC2 := (zBk_g hB G2.1).1
    have hpar : zPar h nc := fun i a b => (hB.1.2.2.2.2.2.2.1 i a b).2.2.2.1
    have cond : (zrv (zrs (zrs s)) 3 = 0 ∧ 1 = 1 ∧ f0 = 0 ∧ zIs (h 2) (Int32.toNatClampNeg (h 8 (Int32.toNatClampNeg (c (5 * Int32.toNatClampNeg (nI v)))))) t) ↔ zIs (h 2) ty t := by
      rw [znc (show v < 2147483648 by omega), eo, znc (by omega), ety, znc (by omega)]
      exact ⟨fun u => u.2.2.2, fun u => ⟨z, rfl, y, u⟩⟩
    refine ⟨zin_nI (by omega) (by omega), m_gives (by omega) (hC2.2.2.2.2.2.2.2 o ho) hnc _ ?_⟩
    rw [ety]
    refine m_is hpar hnc (fun i a b => (hC2.2.2.2.2.2.2.1 i a b).1) ty t ty1 ht ht1 _ (fun u => ⟨fun _ => tk (by rw [cond]; exact u), fun p => absurd rfl p⟩) (fun u => ⟨fun p => absurd p (by decide), fun _ => ⟨zin_nI (k := 0) (by omega) (by omega), ?_⟩⟩)
    have eN : zObj h n 1 t s sz c f0 (nI v) = (0, zrs (zrs s), sz, c, 0, nI v) := by
      unfold zObj
      rw [if_neg q, zdec_t (cond.mpr u), if_pos rfl]
    rw [eN] at hp
    rw [show g2 12 0 = nI v by rw [x2, y2]]
    exact mG_pick (a := 1) G2 ha _ (fun g' p _ => hp g' (mCo_fr x1 x2 p))
  · have eN : zObj h n a t s sz c f0 v0 = (0, zrs s, sz, c, 2, 0) := by
      unfold zObj
      rw [if_pos q]
    rw [eN] at hp
    exact mG_pick G1 ha _ (fun g' z _ => hp g' (mCo_fr (zuo (by decide)) (zuo (by decide)) z))
