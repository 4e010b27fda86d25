/-! replay: whole texts, both sides -/
def zTl (P : Nat → Nat) (d k : Nat) (c : Nat → Int32) (p : Nat) : Option (Nat × (Nat → Int32) × Nat × Nat × Int32 × Int32) := if k = 0 then none else match zRdE P p with
  | none => none
  | some (out, det, gv, nm, q) => if q = d then some (k, c, out, det, gv, nm) else none
noncomputable def zPl (K : zM) (P : Nat → Nat) (no d : Nat) : Nat → Nat → (Nat → Int32) → Nat → Option (Nat × (Nat → Int32) × Nat × Nat × Int32 × Int32)
  | 0, k, c, p => zTl P d k c p
  | f + 1, k, c, p => if P p = 61 ∨ P p = 33 ∨ P p = 63 then zTl P d k c p else match zRdC K P no c k p with
    | none => none
    | some (c', q) => zPl K P no d f (k + 1) c' q
theorem zPl_end {K : zM} {P : Nat → Nat} {no d f k p : Nat} {c : Nat → Int32} (h : P p = 61 ∨ P p = 33 ∨ P p = 63) : zPl K P no d f k c p = zTl P d k c p := by
  cases f with
  | zero => rfl
  | succ f => simp only [zPl, if_pos h]
theorem zPl_none {K : zM} {P : Nat → Nat} {no d f k p : Nat} {c : Nat → Int32} (h : ¬ (P p = 61 ∨ P p = 33 ∨ P p = 63)) (hz : zRdC K P no c k p = none) : zPl K P no d (f + 1) k c p = none := by
  simp only [zPl, if_neg h, hz]
theorem zPl_some {K : zM} {P : Nat → Nat} {no d f k p q : Nat} {c c' : Nat → Int32} (h : ¬ (P p = 61 ∨ P p = 33 ∨ P p = 63)) (hz : zRdC K P no c k p = some (c', q)) : zPl K P no d (f + 1) k c p = zPl K P no d f (k + 1) c' q := by
  simp only [zPl, if_neg h, hz]
theorem zTl_none {P : Nat → Nat} {d k p : Nat} {c : Nat → Int32} (h : ¬ (P p = 61 ∨ P p = 33 ∨ P p = 63)) : zTl P d k c p = none := by
  have : zRdE P p = none := by
    unfold zRdE
    rw [if_neg (by omega), if_neg (by omega), if_neg (by omega)]
  unfold zTl
  rw [this]
  split <;> rfl
theorem z_atEnd {n : Nat} {ln : Nat → Nat} {h : zM} {d p : Nat} {P : Nat → Nat} (hD : zDrH h d P) (hp : h 30 4 = nI p) (hq : p < 100000) (post : Int32 → zM → Prop) (k1 : P p = 61 ∨ P p = 33 ∨ P p = 63 → post 1 h) (k0 : ¬ (P p = 61 ∨ P p = 33 ∨ P p = 63) → post 0 h) : wpReader_isAtEnd n ln h post := by
  unfold wpReader_isAtEnd
  have hP := (zDrH_P hD p).1
  refine z_peek hD hp hq _ (pk_eq (P p) 61 (fun q => k1 (Or.inl q)) (fun q => pk_eq (P p) 33 (fun q2 => k1 (Or.inr (Or.inl q2))) (fun q2 => ?_)))
  have := pk_eq (x := nI (P p)) (y := 63) (P p) 63 (fun q3 => k1 (Or.inr (Or.inr q3))) (fun q3 => k0 (by omega))
  exact ⟨this.2, this.1⟩
theorem z_rtl {n : Nat} {ln : Nat → Nat} {h0 h : zM} {d p k : Nat} {P : Nat → Nat} {C : Nat → Int32} (hD : zDrH h0 d P) (hQ : zQ h0 h p k C) (hp : p ≤ d) (h10 : k ≤ 10) (post : Int32 → zM → Prop) (kf : zTl P d k C p = none → ∀ h', zQf h0 h' → post 0 h') (ks : ∀ out det gv nm, zTl P d k C p = some (k, C, out, det, gv, nm) → 1 ≤ k → ∀ h', zQ h0 h' d k C → h' 30 6 = nI out → h' 30 7 = nI det → h' 30 8 = gv → h' 30 9 = nm → post 1 h') : wbReader_read_42 n ln post h := by
  have hd1 := hD.1
  unfold wbReader_read_42
  unfold zTl at kf ks
  rw [hQ.2.2.1]
  refine pk_le k 0 (fun q => kf (by rw [if_pos (by omega)]) h hQ.1) (fun q => ?_)
  rw [if_neg (by omega)] at kf ks
  refine z_rdE hD hQ hp _ (fun z h' hF => ⟨fun _ => kf (by rw [z]) h' hF, fun w => absurd rfl w⟩) (fun out det gv nm q' z h' hQ' x6 x7 x8 x9 => ⟨fun w => absurd w (by decide), fun _ => ?_⟩)
  rw [hQ'.2.1, hQ'.1.2, hD.2.1]
  have hq' : q' ≤ d := by
    unfold zRdE at z
    have hP : ∀ i, P i ≠ 0 → i < d := fun i => (zDrH_P hD i).2
    have hE : ∀ {X : Option (Nat × Nat × Int32 × Int32 × Nat)} {Y}, X = some Y → X = none → False := fun a b => by rw [a] at b; cases b
    by_cases q1 : P p = 33
    · rw [if_pos q1] at z
      by_cases q2 : 49 ≤ P (p + 1) ∧ P (p + 1) ≤ 53
      · rw [if_pos q2] at z
        have e : p + 2 = q' := congrArg (fun w => w.2.2.2.2) (Option.some.inj z)
        have := hP (p + 1) (by omega)
        omega
      · rw [if_neg q2] at z
        cases z
    · rw [if_neg q1] at z
      by_cases q2 : P p = 63
      · rw [if_pos q2] at z
        by_cases q3 : 49 ≤ P (p + 1) ∧ P (p + 1) ≤ 52
        · rw [if_pos q3] at z
          have e : p + 2 = q' := congrArg (fun w => w.2.2.2.2) (Option.some.inj z)
          have := hP (p + 1) (by omega)
          omega
        · rw [if_neg q3] at z
          cases z
      · rw [if_neg q2] at z
        by_cases q3 : P p = 61
        · rw [if_pos q3] at z
          by_cases q4 : P (p + 1) = 110
          · rw [if_pos q4] at z
            have e : p + 2 = q' := congrArg (fun w => w.2.2.2.2) (Option.some.inj z)
            have := hP (p + 1) (by omega)
            omega
          · rw [if_neg q4] at z
            by_cases q5 : P (p + 1) = 111
            · rw [if_pos q5] at z
              have e : p + 2 = q' := congrArg (fun w => w.2.2.2.2) (Option.some.inj z)
              have := hP (p + 1) (by omega)
              omega
            · rw [if_neg q5] at z
              cases hr : zRdN P (p + 1) with
              | none =>
                rw [hr] at z
                cases z
              | some w =>
                obtain ⟨x, q6⟩ := w
                rw [hr] at z
                have e : q6 = q' := congrArg (fun w => w.2.2.2.2) (Option.some.inj z)
                have := zRdN_q hP (hP p (by omega)) hr
                omega
        · rw [if_neg q3] at z
          cases z
  have eT : (match zRdE P p with
      | none => (none : Option (Nat × (Nat → Int32) × Nat × Nat × Int32 × Int32))
      | some (out, det, gv, nm, q) => if q = d then some (k, C, out, det, gv, nm) else none) = if q' = d then some (k, C, out, det, gv, nm) else none := by rw [z]
  have := pk_eq (x := nI q') (y := nI d) (A := post 1 h') (B := post 0 h') q' d (fun w => ?_) (fun w => kf (eT.trans (if_neg w)) h' hQ'.1)
  · exact ⟨this.2, this.1⟩
  · subst w
    exact ks out det gv nm (eT.trans (if_pos rfl)) (by omega) h' hQ' x6 x7 x8 x9
theorem z_read {n : Nat} {ln : Nat → Nat} {h0 g : zM} {d nc no : Nat} {P : Nat → Nat} (hC : zCat h0 g nc no) (hD : zDrH h0 d P) (post : Int32 → zM → Prop) (kf : zPl h0 P no d 10 0 (fun _ => 0) 0 = none → ∀ h', zQf h0 h' → post 0 h') (ks : ∀ k C out det gv nm, zPl h0 P no d 10 0 (fun _ => 0) 0 = some (k, C, out, det, gv, nm) → 1 ≤ k → k ≤ 10 → (∀ j, j < k → zStOk h0 C no j) → ∀ h', zQ h0 h' d k C → h' 30 6 = nI out → h' 30 7 = nI det → h' 30 8 = gv → h' 30 9 = nm → post 1 h') : wpReader_read n ln h0 post := by
  have hd1 := hD.1
  unfold wpReader_read wpSequence_clear
  intro h2 e2 h3 e3
  refine zL_rule (fun s : Int32 × zM => ∃ (k p : Nat) (C : Nat → Int32), k ≤ 10 ∧ p ≤ d ∧ s.1 = nI k ∧ zQ h0 s.2 p k C ∧ (∀ j, j < k → zStOk h0 C no j) ∧ zPl h0 P no d (10 - k) k C p = zPl h0 P no d 10 0 (fun _ => 0) 0) (fun s => 10 - Int32.toNatClampNeg s.1) ?_ _ ⟨0, 0, fun _ => 0, by omega, by omega, rfl, ⟨⟨fun r a b c => ?_, ?_⟩, ?_, ?_, fun i hi => absurd hi (by omega)⟩, fun j hj => absurd hj (by omega), rfl⟩
  · rintro ⟨v1, h⟩ L ⟨k, p, C, h10, hp, e1, hQ, hst, hR⟩ hL
    dsimp only at e1 hQ
    subst e1
    unfold stReader_read_14
    dsimp only
    have hDh := zQf_D hQ.1 hD
    have tail : zPl h0 P no d 10 0 (fun _ => 0) 0 = zTl P d k C p → wbReader_read_42 n ln post h := fun e => z_rtl hD hQ hp h10 post (fun z => kf (e.trans z)) (fun out det gv nm z h1 h' hQ' => ks k C out det gv nm (e.trans z) h1 h10 hst h' hQ')
    refine pk_le 10 k (fun q => tail ?_) (fun q => ?_)
    · obtain rfl : k = 10 := by omega
      exact hR.symm
    · refine z_atEnd hDh hQ.2.1 (by omega) _ (fun w => ⟨fun _ => tail ?_, fun z => absurd z (by decide)⟩) (fun w => ⟨fun z => absurd rfl z, fun _ => ?_⟩)
      · rw [← hR]
        exact zPl_end w
      · rw [show 10 - k = (9 - k) + 1 by omega] at hR
        refine z_rdC hC hD hQ hp (by omega) (zst_ops hst) _ (fun z h' hF => ⟨fun z => absurd rfl z, fun _ => kf (hR.symm.trans (zPl_none w z)) h' hF⟩) (fun C' q' z hq' h' hQ' => ⟨fun _ => hL _ ⟨k + 1, q', C', by omega, hq', nI_1 k, hQ', zRdC_ok hC hst z, ?_⟩ ?_, fun z => absurd z (by decide)⟩)
        · rw [← hR, zPl_some w z, show 10 - (k + 1) = 9 - k by omega]
        · dsimp only
          rw [nI_1, znc (by omega), znc (by omega)]
          omega
  · dsimp only
    rw [e3, zuo b, e2, zuo a]
  · dsimp only
    rw [e3, zun (Or.inl (by decide)), e2, zun (Or.inr (by decide))]
  · dsimp only
    rw [e3, zun (Or.inl (by decide)), e2, zux]
    rfl
  · dsimp only
    rw [e3, zux]
    rfl
noncomputable def zAw (K : zM) (k : Nat) (C : Nat → Int32) (out det : Nat) (gv nm : Int32) : Int32 := zAn (zcame K C (zfin K C k)).1 (zcame K C (zfin K C k)).2 (zgave K C k (zfin K C k)) (znum K C k (zfin K C k)) out det gv nm
theorem z_replay {n : Nat} {ln : Nat → Nat} {h0 g : zM} {d nc no : Nat} {P : Nat → Nat} (hC : zCat h0 g nc no) (hD : zDrH h0 d P) (post : Int32 → zM → Prop) (kf : zPl h0 P no d 10 0 (fun _ => 0) 0 = none → ∀ h', zSm h0 h' → post (-1) h') (ks : ∀ k C out det gv nm, zPl h0 P no d 10 0 (fun _ => 0) 0 = some (k, C, out, det, gv, nm) → ∀ h', zSm h0 h' → post (zAw h0 k C out det gv nm) h') : wpTop_replay n ln h0 post := by
  have sm : ∀ h', zQf h0 h' → zSm h0 h' := fun h' a => ⟨fun r hr => a.1 r (by omega) (by omega) (by omega), by rw [a.1 19 (by decide) (by decide) (by decide)], by rw [a.1 19 (by decide) (by decide) (by decide)], a.2⟩
  unfold wpTop_replay
  refine z_read hC hD _ (fun z h' hF => ⟨fun w => absurd rfl w, fun _ => kf z h' (sm h' hF)⟩) (fun k C out det gv nm z h1 h10 hst h4 hQ x6 x7 x8 x9 => ⟨fun _ => ?_, fun w => absurd w (by decide)⟩)
  have f8 : ∀ r, r ≤ 8 → h4 r = h0 r := fun r hr => hQ.1.1 r (by omega) (by omega) (by omega)
  have hK : zKq h0 h4 no := zKq_of no f8
  have hSq : zSq C (h4 33) no k := zSq_of hQ.2.2.2 hst
  refine z_run (o := 32) (zCat_fr hC f8) (by decide) hQ.2.2.1 h1 h10 (zStOk_K hC.2.1 hK (Nat.le_refl _) hQ.2.2.2 hst) _ (fun h5 fr y3 y4 y5 y6 _ _ => ?_)
  obtain ⟨ge, ne, -⟩ := zgnr_K hC.2.1 hK hSq h1
  rw [show (32 + 1 : Nat) = 33 from rfl] at y3 y4 y5 y6
  rw [zcame_K hC.2.1 hK hSq] at y3 y4
  rw [ge] at y5
  rw [ne] at y6
  have hS : zSm h0 h5 := ⟨fun r hr => by rw [fr r (by omega)]; exact hQ.1.1 r (by omega) (by omega) (by omega), by rw [fr 19 (by omega), hQ.1.1 19 (by decide) (by decide) (by decide)], by rw [fr 19 (by omega), hQ.1.1 19 (by decide) (by decide) (by decide)], by rw [fr 30 (by omega)]; exact hQ.1.2⟩
  have S := ks k C out det gv nm z h5 hS
  unfold zAw zAn at S
  unfold wpReader_foretold
  rw [fr 30 (by omega), x6, x7, x8, x9, y3, y4, y5, y6]
  have p0 : ∀ (hn : ¬ (nI out = (zcame h0 C (zfin h0 C k)).1 ∧ nI det = (zcame h0 C (zfin h0 C k)).2 ∧ (nI out = 0 → gv = zgave h0 C k (zfin h0 C k) ∧ nm = znum h0 C k (zfin h0 C k)))), ((0 : Int32) = 0 → post 0 h5) ∧ (¬ (0 : Int32) = 0 → post 1 h5) := by
    intro hn
    rw [if_neg hn] at S
    exact ⟨fun _ => S, fun w => absurd rfl w⟩
  have p1 : ∀ (hn : nI out = (zcame h0 C (zfin h0 C k)).1 ∧ nI det = (zcame h0 C (zfin h0 C k)).2 ∧ (nI out = 0 → gv = zgave h0 C k (zfin h0 C k) ∧ nm = znum h0 C k (zfin h0 C k))), ((1 : Int32) = 0 → post 0 h5) ∧ (¬ (1 : Int32) = 0 → post 1 h5) := by
    intro hn
    rw [if_pos hn] at S
    exact ⟨fun w => absurd w (by decide), fun _ => S⟩
  refine ⟨fun w => p0 (fun w2 => w w2.1), fun w => ⟨fun w2 => ⟨fun w3 => p1 ⟨w, w2, fun w4 => absurd w4 w3⟩, fun w3 => ⟨fun w4 => p0 (fun w5 => w4 (w5.2.2 w3).1), fun w4 => ⟨fun w5 => p0 (fun w6 => w5 (w6.2.2 w3).2), fun w5 => p1 ⟨w, w2, fun _ => ⟨w4, w5⟩⟩⟩⟩⟩, fun w2 => p0 (fun w3 => w2 w3.2.1)⟩⟩
theorem m_tail {h g0 g : zM} {d p k nc no : Nat} {P : Nat → Nat} {c : Nat → Int32} (hC : zCat h g0 nc no) (hD : mDrG g0 d P) (hQ : mQ g0 g p k c) (hp : p ≤ d) (h10 : k ≤ 10) (hst : ∀ j, j < k → zStOk h c no j) (post : Int32 → zM → Prop) (kf : zTl P d k c p = none → ∀ g', mSm g0 g' → post (-1) g') (ks : ∀ out det gv nm, zTl P d k c p = some (k, c, out, det, gv, nm) → ∀ g', mSm g0 g' → post (zAw h k c out det gv nm) g') : wbMod_replay_47 post g := by
  have hno := hC.2.1
  have hnc := hC.1
  have hd1 := hD.1
  obtain ⟨hF, h41, h42, h11, hm⟩ := hQ
  have sm : mSm g0 g := fun r s hr => hF r s (by omega)
  unfold wbMod_replay_47
  rw [h42, h11]
  refine ⟨fun z => absurd rfl z, fun _ => ?_⟩
  unfold zTl at kf ks
  have := pk_eq (x := nI k) (y := 0) (A := post (-1) g) (B := wpMod_run g (fun h64 => wpMod_rightEnd h64 (fun r68 h68 => ((¬ (h68 0 42) = 0 → post (-1) h68) ∧ ((h68 0 42) = 0 → (((h68 0 41) = (h68 0 37) → ((r68 = 0 → post 0 h68) ∧ (¬ r68 = 0 → post 1 h68))) ∧ (¬ (h68 0 41) = (h68 0 37) → post (-1) h68))))))) k 0 (fun q => kf (by rw [if_pos q]) g sm) (fun q => ?_)
  · exact ⟨this.2, this.1⟩
  rw [if_neg q] at kf ks
  have h1 : 1 ≤ k := by omega
  have hCg := mQf_C hF hC
  refine m_run hCg h11 h1 h10 hst hm _ (fun g1 fr x30 x31 x32 xr => ?_)
  obtain ⟨O, D, ec, O4, O1, D5, Of⟩ := zcame_rg (K := h) (c := c) (sz := k)
  rw [ec] at x31 x32
  obtain ⟨o, ho, eo, -⟩ := hst (k - 1) (by omega)
  have hC1 : zCat h g1 nc no := zCat_g hCg (fun r s hr => fr r s (by omega))
  have hD1 : mDrG g1 d P := ⟨hd1, by rw [fr 0 37 (by omega)]; exact (mQf_D hF hD).2.1, fun i hi => by rw [fr 26 i (by omega)]; exact (mQf_D hF hD).2.2.1 i hi, hD.2.2.2⟩
  have z8 : zlt8 h c k = h 8 o := by
    unfold zlt8
    rw [eo, znc (by omega)]
  have smN : ∀ g', mN4 g1 g' → mSm g0 g' := fun g' hN r s hr => by rw [hN r s (by omega), fr r s (by omega)]; exact sm r s hr
  refine m_rdE (O := O) (D := D) (GV := zgave h c k (zfin h c k)) (NM := znum h c k (zfin h c k)) (res := (zfin h c k).2.2.2 3 (k - 1)) hnc hD1 (by rw [fr 0 41 (by omega)]; exact h41) (by omega) (by rw [fr 0 42 (by omega)]; exact h42) (by rw [fr 0 11 (by omega)]; exact h11) h1 h10 (by omega) (by rw [fr 8 _ (by omega), (hm (k - 1) (by omega)).1]; exact eo) (hC1.2.2.2.2.2.2.2 o ho) (zOp_ty hC ho) x31 x32 O4 D5 (fun q0 => ?_) _ (fun z r g2 hN b42 => ?_) (fun out det gv nm q' z g2 hN b42 b41 hq' => ?_)
  · have f0 := Of q0
    refine ⟨?_, (xr f0).1, ?_, ?_, fun w => zfin_rf hC h1 h10 hst f0 (by rw [z8]; exact w)⟩
    · unfold zcame at ec
      rw [if_pos f0] at ec
      have e1 := congrArg Prod.fst ec
      have e2 := congrArg Prod.snd ec
      dsimp only at e1 e2
      rw [q0] at e1
      by_cases w : zfault h (zfin h c k).2.2.2 (zfin h c k).2.2.1 = 0
      · rw [w] at e2
        exact ((nI_eq (by omega) (by decide)).mp e2.symm)
      · rw [if_neg w] at e1
        exact absurd e1 (by decide)
    · unfold zgave
      rw [if_pos f0, z8]
    · unfold znum
      rw [if_pos f0, z8]
  · rw [b42]
    exact ⟨fun _ => kf (by rw [z]) g2 (smN g2 hN), fun w => absurd w (by decide)⟩
  · rw [b42, b41, hN 0 37 (by omega), fr 0 37 (by omega), (mQf_D hF hD).2.1]
    have eT : (match zRdE P p with
      | none => (none : Option (Nat × (Nat → Int32) × Nat × Nat × Int32 × Int32))
      | some (out, det, gv, nm, q) => if q = d then some (k, c, out, det, gv, nm) else none) = if q' = d then some (k, c, out, det, gv, nm) else none := by rw [z]
    refine ⟨fun w => absurd rfl w, fun _ => pk_eq q' d (fun w => ?_) (fun w => kf (eT.trans (if_neg w)) g2 (smN g2 hN))⟩
    have S := ks out det gv nm (eT.trans (if_pos w)) g2 (smN g2 hN)
    unfold zAw at S
    rw [ec] at S
    dsimp only at S
    refine ⟨fun w2 => ?_, fun w2 => ?_⟩
    · rw [w2] at S
      exact S
    · have : zAn (nI O) (nI D) (zgave h c k (zfin h c k)) (znum h c k (zfin h c k)) out det gv nm = 1 := by
        unfold zAn at w2 ⊢
        split at w2
        · rename_i w3
          rw [if_pos w3]
        · exact absurd rfl w2
      rw [this] at S
      exact S
theorem zRdC_q {K : zM} {P : Nat → Nat} {no k p q d : Nat} {c c' : Nat → Int32} (hd : ∀ i, P i ≠ 0 → i < d) (hz : zRdC K P no c k p = some (c', q)) : q ≤ d := by
  unfold zRdC at hz
  by_cases q0 : 97 ≤ P p ∧ P p < 97 + no
  · rw [if_pos q0] at hz
    by_cases q1 : P (p + 1) = 40
    · rw [if_pos q1] at hz
      cases hr : zRdA K P c k (K 6 (P p - 97)) (p + 2) with
      | none =>
        rw [hr] at hz
        cases hz
      | some w =>
        obtain ⟨f0, v0, q2⟩ := w
        rw [hr] at hz
        simp only [zRd2] at hz
        by_cases q7 : K 7 (P p - 97) = -1
        · rw [if_pos q7] at hz
          by_cases q3 : P q2 = 41
          · rw [if_pos q3] at hz
            have e : q2 + 1 = q := congrArg Prod.snd (Option.some.inj hz)
            have := hd q2 (by omega)
            omega
          · rw [if_neg q3] at hz
            cases hz
        · rw [if_neg q7] at hz
          by_cases q3 : P q2 = 44
          · rw [if_pos q3] at hz
            cases hr2 : zRdA K P c k (K 7 (P p - 97)) (q2 + 1) with
            | none =>
              rw [hr2] at hz
              cases hz
            | some w =>
              obtain ⟨f1, v1, q4⟩ := w
              rw [hr2] at hz
              simp only [zRd3] at hz
              by_cases q5 : P q4 = 41
              · rw [if_pos q5] at hz
                have e : q4 + 1 = q := congrArg Prod.snd (Option.some.inj hz)
                have := hd q4 (by omega)
                omega
              · rw [if_neg q5] at hz
                cases hz
          · rw [if_neg q3] at hz
            cases hz
    · rw [if_neg q1] at hz
      cases hz
  · rw [if_neg q0] at hz
    cases hz
theorem m_replay {h g0 : zM} {d nc no : Nat} {P : Nat → Nat} (hC : zCat h g0 nc no) (hD : mDrG g0 d P) (post : Int32 → zM → Prop) (kf : zPl h P no d 10 0 (fun _ => 0) 0 = none → ∀ g', mSm g0 g' → post (-1) g') (ks : ∀ k C out det gv nm, zPl h P no d 10 0 (fun _ => 0) 0 = some (k, C, out, det, gv, nm) → ∀ g', mSm g0 g' → post (zAw h k C out det gv nm) g') : wpMod_replay g0 post := by
  have hno := hC.2.1
  have hd1 := hD.1
  unfold wpMod_replay
  intro h2 e2 h7 e7 h12 e12
  refine zL_rule (fun s : zM => (mQf g0 s ∧ s 0 42 = 1 ∧ zPl h P no d 10 0 (fun _ => 0) 0 = none) ∨ ∃ (k p : Nat) (C : Nat → Int32), k ≤ 10 ∧ p ≤ d ∧ mQ g0 s p k C ∧ (∀ j, j < k → zStOk h C no j) ∧ zPl h P no d (10 - k) k C p = zPl h P no d 10 0 (fun _ => 0) 0) (fun s => if s 0 42 = 0 then 12 - Int32.toNatClampNeg (s 0 11) else 0) ?_ _ (Or.inr ⟨0, 0, fun _ => 0, by omega, by omega, ⟨fun r s hr => ?_, ?_, ?_, ?_, fun j hj => absurd hj (by omega)⟩, fun j hj => absurd hj (by omega), rfl⟩)
  · intro g L hI hL
    unfold stMod_replay_15
    dsimp only
    rcases hI with ⟨hF, h42, hz⟩ | ⟨k, p, C, h10, hp, hQ, hst, hR⟩
    · rw [h42]
      refine ⟨fun _ => ?_, fun w => absurd w (by decide)⟩
      unfold wbMod_replay_47
      rw [h42]
      exact ⟨fun _ => kf hz g (fun r s hr => hF r s (by omega)), fun w => absurd w (by decide)⟩
    · have hDg := mQf_D hQ.1 hD
      have hPp := (mDrG_P hD p).1
      have tail : zPl h P no d 10 0 (fun _ => 0) 0 = zTl P d k C p → wbMod_replay_47 post g := fun e => m_tail hC hD hQ hp h10 hst post (fun z => kf (e.trans z)) (fun out det gv nm z => ks k C out det gv nm (e.trans z))
      have away : (P p < 97 ∨ 122 < P p) → zPl h P no d 10 0 (fun _ => 0) 0 = zTl P d k C p := by
        intro w
        rw [← hR]
        by_cases w2 : P p = 61 ∨ P p = 33 ∨ P p = 63
        · exact zPl_end w2
        · rw [zTl_none w2]
          rcases Nat.lt_or_ge k 10 with w3 | w3
          · rw [show 10 - k = (9 - k) + 1 by omega]
            refine zPl_none w2 ?_
            unfold zRdC
            rw [if_neg (by omega)]
          · obtain rfl : k = 10 := by omega
            exact zTl_none w2
      rw [hQ.2.2.1]
      refine ⟨fun w => absurd rfl w, fun _ => m_peek hDg hQ.2.1 (by omega) _ (pk_lt (P p) 97 (fun w => tail (away (Or.inl w))) (fun w => m_peek hDg hQ.2.1 (by omega) _ (pk_lt 122 (P p) (fun w2 => tail (away (Or.inr w2))) (fun w2 => ?_))))⟩
      have w3 : ¬ (P p = 61 ∨ P p = 33 ∨ P p = 63) := by omega
      refine m_rdC hC hD hQ hp h10 w hst _ (fun z g' hF' b42 => hL g' (Or.inl ⟨hF', b42, ?_⟩) ?_) (fun k9 c' q' z g' hQ' => hL g' (Or.inr ⟨k + 1, q', c', by omega, ?_, hQ', zRdC_ok hC hst z, ?_⟩) ?_)
      · rw [← hR]
        rcases Nat.lt_or_ge k 10 with w4 | w4
        · rw [show 10 - k = (9 - k) + 1 by omega]
          rcases z with z | z
          · omega
          · exact zPl_none w3 z
        · obtain rfl : k = 10 := by omega
          exact zTl_none w3
      · rw [b42, hQ.2.2.1, if_pos rfl, if_neg (by decide), hQ.2.2.2.1, znc (by omega)]
        omega
      · exact zRdC_q (fun i => (mDrG_P hD i).2) z
      · rw [← hR, show 10 - k = (9 - k) + 1 by omega, zPl_some w3 z, show 10 - (k + 1) = 9 - k by omega]
      · rw [hQ'.2.2.1, hQ.2.2.1, if_pos rfl, if_pos rfl, hQ'.2.2.2.1, hQ.2.2.2.1, znc (by omega), znc (by omega)]
        omega
  · rw [e12, zun (by omega), e7, zun (by omega), e2, zun (by omega)]
  · rw [e12, zun (Or.inr (by decide)), e7, zun (Or.inr (by decide)), e2, zux]
    rfl
  · rw [e12, zun (Or.inr (by decide)), e7, zux]
  · rw [e12, zux]
    rfl
theorem zH_replay (n : Nat) (ln : Nat → Nat) (h g : zM) (hR : zR n ln h g) : wpTop_replay n ln h (fun r h1 => wpMod_replay g (fun r1 g1 => r = r1 ∧ zR n ln h1 g1)) := by
  have hR0 := hR
  obtain ⟨nc, no, hC, h0, hl, hs, ⟨d, d1, d2, d3, d4⟩, n40, hn, gn, he⟩ := hR
  have hP : ∀ i, i < d → ∃ ch : Nat, 32 ≤ ch ∧ ch ≤ 126 ∧ g 26 i = nI ch := fun i hi => (d4 i hi).2
  have eP : ∀ i, i < d → g 26 i = nI (g 26 i).toNatClampNeg ∧ 32 ≤ (g 26 i).toNatClampNeg ∧ (g 26 i).toNatClampNeg ≤ 126 := by
    intro i hi
    obtain ⟨ch, c1, c2, c3⟩ := hP i hi
    rw [c3, znc (by omega)]
    exact ⟨rfl, c1, c2⟩
  have hDh : zDrH h d (fun i => if i < d then (g 26 i).toNatClampNeg else 0) := by
    refine ⟨d1, d2, fun i hi => ?_, fun i hi => if_neg (by omega)⟩
    dsimp only
    rw [if_pos hi]
    exact ⟨(d4 i hi).1.trans (eP i hi).1, (eP i hi).2⟩
  have hDg : mDrG g d (fun i => if i < d then (g 26 i).toNatClampNeg else 0) := by
    refine ⟨d1, d3, fun i hi => ?_, fun i hi => if_neg (by omega)⟩
    dsimp only
    rw [if_pos hi]
    exact eP i hi
  exact z_replay hC hDh _ (fun z h' hz => m_replay hC hDg _ (fun _ g' hm => ⟨rfl, zR_fr hz hm hR0⟩) (fun k C out det gv nm z2 => absurd (z.symm.trans z2) (by simp))) (fun k C out det gv nm z h' hz => m_replay hC hDg _ (fun z2 => absurd (z2.symm.trans z) (by simp)) (fun k' C' out' det' gv' nm' z2 g' hm => by
    have e := Option.some.inj (z.symm.trans z2)
    simp only [Prod.mk.injEq] at e
    obtain ⟨rfl, rfl, rfl, rfl, rfl, rfl⟩ := e
    exact ⟨rfl, zR_fr hz hm hR0⟩))
