/-! replay: calls -/
noncomputable def zRd3 (P : Nat → Nat) (c : Nat → Int32) (k o : Nat) (f0 v0 : Int32) (r : Option (Int32 × Int32 × Nat)) : Option ((Nat → Int32) × Nat) := match r with
  | none => none
  | some (f1, v1, q1) => if P q1 = 41 then some (zpush c k (nI o) f0 v0 f1 v1, q1 + 1) else none
noncomputable def zRd2 (K : zM) (P : Nat → Nat) (c : Nat → Int32) (k o : Nat) (r : Option (Int32 × Int32 × Nat)) : Option ((Nat → Int32) × Nat) := match r with
  | none => none
  | some (f0, v0, q) => if K 7 o = -1 then (if P q = 41 then some (zpush c k (nI o) f0 v0 (-1) 0, q + 1) else none) else if P q = 44 then zRd3 P c k o f0 v0 (zRdA K P c k (K 7 o) (q + 1)) else none
noncomputable def zRdC (K : zM) (P : Nat → Nat) (no : Nat) (c : Nat → Int32) (k p : Nat) : Option ((Nat → Int32) × Nat) := if 97 ≤ P p ∧ P p < 97 + no then (if P (p + 1) = 40 then zRd2 K P c k (P p - 97) (zRdA K P c k (K 6 (P p - 97)) (p + 2)) else none) else none
theorem z97 : ∀ k, k < 97 → nI k - 97 < 0 := by decide +kernel
theorem zQ_cg {h0 h : zM} {p sz : Nat} {C C' : Nat → Int32} (hQ : zQ h0 h p sz C) (hc : ∀ i, i < 5 * sz → C i = C' i) : zQ h0 h p sz C' := ⟨hQ.1, hQ.2.1, hQ.2.2.1, fun i hi => (hQ.2.2.2 i hi).trans (hc i hi)⟩
theorem zSa_0 {c : Nat → Int32} {k i : Nat} {o f0 v0 f1 v1 f v : Int32} (hi : i < 5 * (k + 1)) : zSa (zpush c k o f0 v0 f1 v1) k 0 f v i = zpush c k o f v f1 v1 i := by
  unfold zSa zpush
  repeat' split
  all_goals first | rfl | omega
theorem zSa_1 {c : Nat → Int32} {k i : Nat} {o f0 v0 f1 v1 f v : Int32} (hi : i < 5 * (k + 1)) : zSa (zpush c k o f0 v0 f1 v1) k 1 f v i = zpush c k o f0 v0 f v i := by
  unfold zSa zpush
  repeat' split
  all_goals first | rfl | omega
theorem z_rdC {n : Nat} {ln : Nat → Nat} {h0 h g : zM} {d p k nc no : Nat} {P : Nat → Nat} {C : Nat → Int32} (hC : zCat h0 g nc no) (hD : zDrH h0 d P) (hQ : zQ h0 h p k C) (hp : p ≤ d) (hk : k ≤ 9) (hst : ∀ v, v < k → ∃ o' : Nat, o' < no ∧ C (5 * v) = nI o') (post : Int32 → zM → Prop) (kf : zRdC h0 P no C k p = none → ∀ h', zQf h0 h' → post 0 h') (ks : ∀ C' q, zRdC h0 P no C k p = some (C', q) → q ≤ d → ∀ h', zQ h0 h' q (k + 1) C' → post 1 h') : wpReader_readCall n ln h post := by
  have hno := hC.2.1
  have hnc := hC.1
  have hd1 := hD.1
  have hDh := zQf_D hQ.1 hD
  have hPp := (zDrH_P hDh p).1
  unfold wpReader_readCall
  refine z_peek hDh hQ.2.1 (by omega) _ (fun y ey => ?_)
  subst ey
  unfold zRdC at kf ks
  rcases Nat.lt_or_ge (P p) 97 with q97 | q97
  · rw [if_neg (by omega)] at kf
    exact ⟨fun _ => kf rfl h hQ.1, fun z => absurd (z97 _ q97) z⟩
  · rw [show (97 : Int32) = nI 97 from rfl, pk_sub q97, hQ.1.1 1 (by decide) (by decide) (by decide), hC.2.2.2.2.1]
    refine pk_lt (P p - 97) 0 (fun q => by omega) (fun _ => pk_lt (P p - 97) no (fun q h32 e32 => ?_) (fun q => ?_))
    · rw [if_pos (by omega)] at kf ks
      generalize ho : P p - 97 = o at q kf ks
      have hpd : p + 1 ≤ d := (zDrH_P hDh p).2 (by omega)
      have hQ1 : zQ h0 h32 (p + 1) k C := by
        rw [e32, hQ.2.1, nI_1]
        exact zQ_4 hQ
      refine z_pushS hQ1.2.2.1 (by omega) _ (fun h2 fr s2 lo op ar => ?_)
      have hQ2 : zQ h0 h2 (p + 1) (k + 1) (zpush C k (nI o) (-1) 0 (-1) 0) := by
        refine ⟨⟨fun r a b c => by rw [fr r b c]; exact hQ1.1.1 r a b c, by rw [fr 30 (by decide) (by decide)]; exact hQ1.1.2⟩, by rw [fr 30 (by decide) (by decide)]; exact hQ1.2.1, s2, fun i hi => ?_⟩
        rcases Nat.lt_or_ge i (5 * k) with w | w
        · rw [zpush_lo w, lo i w]
          exact hQ1.2.2.2 i w
        · obtain ⟨a1, a2⟩ := ar 0 (by decide)
          obtain ⟨a3, a4⟩ := ar 1 (by decide)
          rcases (by omega : i = 5 * k ∨ i = 5 * k + 1 + 2 * 0 ∨ i = 5 * k + 2 + 2 * 0 ∨ i = 5 * k + 1 + 2 * 1 ∨ i = 5 * k + 2 + 2 * 1) with w | w | w | w | w
          · rw [w, zpush_op]
            exact op
          · rw [w, zpush_f (by decide)]
            exact a1
          · rw [w, zpush_v (by decide)]
            exact a2
          · rw [w, zpush_f (by decide)]
            exact a3
          · rw [w, zpush_v (by decide)]
            exact a4
      refine z_accept (c := 40) (zQf_D hQ2.1 hD) hQ2.2.1 (by omega) (by decide) _ (fun w => ⟨fun z => absurd z (by decide), fun _ => ?_⟩) (fun w => ⟨fun _ => kf (by rw [if_neg w]) h2 hQ2.1, fun z => absurd rfl z⟩)
      rw [if_pos w] at kf ks
      have hpd2 : p + 2 ≤ d := (zDrH_P hDh (p + 1)).2 (by omega)
      have hQ3 := zQ_4 (p' := p + 2) hQ2
      have hst' : ∀ f0 v0 f1 v1 v, v < k → ∃ o' : Nat, o' < no ∧ zpush C k (nI o) f0 v0 f1 v1 (5 * v) = nI o' := by
        intro f0 v0 f1 v1 v hv
        rw [zpush_lo (by omega)]
        exact hst v hv
      have hA : ∀ f0 v0 f1 v1 t p, zRdA h0 P (zpush C k (nI o) f0 v0 f1 v1) k t p = zRdA h0 P C k t p := fun f0 v0 f1 v1 t p => zRdA_c (fun i hi => zpush_lo hi)
      obtain ⟨kd, -, -, -, n6, ar', ar1, ar2⟩ := zOp_ar hnc (hC.2.2.2.2.2.2.2 o q)
      refine z_rdA (a := 0) hC hD hQ3 hpd2 (by omega) (by decide) q zpush_op (hst' _ _ _ _) rfl n6 _ (fun z h' hF => ?_) (fun f0 v0 q1 z hq1 h' hQ4 => ?_)
      · rw [hA] at z
        exact ⟨fun _ => kf (by rw [if_pos rfl] at z; rw [z]; rfl) h' hF, fun z => absurd rfl z⟩
      · rw [hA, if_pos rfl] at z
        rw [z] at kf ks
        have hQ5 := zQ_cg hQ4 (fun i hi => zSa_0 hi)
        have hD5 := zQf_D hQ5.1 hD
        refine ⟨fun z => absurd z (by decide), fun _ => ?_⟩
        refine z_argType (a := 1) (by omega) (by decide) _ ?_
        rw [if_neg (by decide), hQ5.1.1 7 (by decide) (by decide) (by decide)]
        refine ⟨fun w7 => ?_, fun w7 => ?_⟩
        · have e2 : zRd2 h0 P C k o (some (f0, v0, q1)) = if P q1 = 41 then some (zpush C k (nI o) f0 v0 (-1) 0, q1 + 1) else none := by
            simp only [zRd2]
            rw [if_pos w7]
          rw [e2] at kf ks
          unfold wbReader_readCall_93
          exact z_accept (c := 41) hD5 hQ5.2.1 (by omega) (by decide) _ (fun w => ⟨fun z => absurd z (by decide), fun _ => ks _ _ (by rw [if_pos w]) ((zDrH_P hDh q1).2 (by omega)) _ (zQ_4 hQ5)⟩) (fun w => ⟨fun _ => kf (by rw [if_neg w]) _ hQ5.1, fun z => absurd rfl z⟩)
        · have e2 : zRd2 h0 P C k o (some (f0, v0, q1)) = if P q1 = 44 then zRd3 P C k o f0 v0 (zRdA h0 P C k (h0 7 o) (q1 + 1)) else none := by
            simp only [zRd2]
            rw [if_neg w7]
          rw [e2] at kf ks
          refine z_accept (c := 44) hD5 hQ5.2.1 (by omega) (by decide) _ (fun w => ⟨fun z => absurd z (by decide), fun _ => ?_⟩) (fun w => ⟨fun _ => kf (by rw [if_neg w]) _ hQ5.1, fun z => absurd rfl z⟩)
          rw [if_pos w] at kf ks
          have hQ6 := zQ_4 (p' := q1 + 1) hQ5
          refine z_rdA (a := 1) hC hD hQ6 ((zDrH_P hDh q1).2 (by omega)) (by omega) (by decide) q zpush_op (hst' _ _ _ _) rfl w7 _ (fun z2 h' hF => ?_) (fun f1 v1 q2 z2 hq2 h' hQ7 => ?_)
          · rw [hA, if_neg (by decide)] at z2
            exact ⟨fun _ => kf (by rw [z2]; rfl) h' hF, fun z => absurd rfl z⟩
          · rw [hA, if_neg (by decide)] at z2
            rw [z2] at kf ks
            have hQ8 := zQ_cg hQ7 (fun i hi => zSa_1 hi)
            have e3 : zRd3 P C k o f0 v0 (some (f1, v1, q2)) = if P q2 = 41 then some (zpush C k (nI o) f0 v0 f1 v1, q2 + 1) else none := rfl
            rw [e3] at kf ks
            refine ⟨fun z => absurd z (by decide), fun _ => ?_⟩
            unfold wbReader_readCall_93
            exact z_accept (c := 41) (zQf_D hQ8.1 hD) hQ8.2.1 (by omega) (by decide) _ (fun w => ⟨fun z => absurd z (by decide), fun _ => ks _ _ (by rw [if_pos w]) ((zDrH_P hDh q2).2 (by omega)) _ (zQ_4 hQ8)⟩) (fun w => ⟨fun _ => kf (by rw [if_neg w]) _ hQ8.1, fun z => absurd rfl z⟩)
    · rw [if_neg (by omega)] at kf
      exact kf rfl h hQ.1
