/-! replay: the end of a text -/
def zRdR (p : Nat) (r : Option (Int32 × Nat)) : Option (Nat × Nat × Int32 × Int32 × Nat) := match r with
  | none => none
  | some (x, q) => some (0, 0, 1, x, q)
def zRdE (P : Nat → Nat) (p : Nat) : Option (Nat × Nat × Int32 × Int32 × Nat) := if P p = 33 then (if 49 ≤ P (p + 1) ∧ P (p + 1) ≤ 53 then some (2, P (p + 1) - 48, 0, 0, p + 2) else none) else if P p = 63 then (if 49 ≤ P (p + 1) ∧ P (p + 1) ≤ 52 then some (3, P (p + 1) - 48, 0, 0, p + 2) else none) else if P p = 61 then (if P (p + 1) = 110 then some (0, 0, 2, 0, p + 2) else if P (p + 1) = 111 then some (0, 0, 3, 0, p + 2) else zRdR p (zRdN P (p + 1))) else none
theorem z48a : ∀ c, c < 127 → (nI c - 48 < 1 ↔ c < 49) := by decide +kernel
theorem z48b : ∀ c, c < 127 → (5 < nI c - 48 ↔ 53 < c) := by decide +kernel
theorem z48c : ∀ c, c < 127 → (4 < nI c - 48 ↔ 52 < c) := by decide +kernel
theorem zQ_s {h0 h : zM} {p k s : Nat} {C : Nat → Int32} {v : Int32} (h2 : s ≠ 2) (h4 : s ≠ 4) (hQ : zQ h0 h p k C) : zQ h0 (zu h 30 s v) p k C := ⟨⟨fun r a b c => (zuo a).trans (hQ.1.1 r a b c), (zun (Or.inr (by omega))).trans hQ.1.2⟩, (zun (Or.inr (by omega))).trans hQ.2.1, by rw [zun (Or.inl (by decide))]; exact hQ.2.2.1, fun i hi => by rw [zun (Or.inl (by decide))]; exact hQ.2.2.2 i hi⟩
theorem z_rdD {n : Nat} {ln : Nat → Nat} {h0 h : zM} {d p k B : Nat} {P : Nat → Nat} {C : Nat → Int32} {x1 : Int32} (hx : ∀ c, c < 127 → (x1 < nI c - 48 ↔ B < c)) (hD : zDrH h0 d P) (hQ : zQ h0 h p k C) (hp : p ≤ d) (hB : 0 < B) (post : Int32 → zM → Prop) (kf : ¬ (49 ≤ P p ∧ P p ≤ B) → ∀ h', zQf h0 h' → post 0 h') (ks : 49 ≤ P p ∧ P p ≤ B → ∀ h', zQ h0 h' (p + 1) k C → h' 30 6 = h 30 6 → h' 30 7 = nI (P p - 48) → h' 30 8 = h 30 8 → h' 30 9 = h 30 9 → post 1 h') : wpReader_readDetail n ln x1 h post := by
  have hDh := zQf_D hQ.1 hD
  have hd1 := hD.1
  have hP := (zDrH_P hD p).1
  unfold wpReader_readDetail
  refine z_peek hDh hQ.2.1 (by omega) _ (fun h8 e8 h18 e18 => ?_)
  have Q8 : zQ h0 h8 p k C := by rw [e8]; exact zQ_s (by decide) (by decide) hQ
  have Q18 : zQ h0 h18 (p + 1) k C := by
    rw [e18, Q8.2.1, nI_1]
    exact zQ_4 Q8
  have e7 : h18 30 7 = nI (P p) - 48 := by rw [e18, zun (Or.inr (by decide)), e8, zux]
  rw [e7, z48a _ (by omega), hx _ (by omega)]
  refine ⟨fun q => kf (by omega) h18 Q18.1, fun q => ⟨fun q2 => kf (by omega) h18 Q18.1, fun q2 => ks (by omega) h18 Q18 ?_ ?_ ?_ ?_⟩⟩
  · rw [e18, zun (Or.inr (by decide)), e8, zun (Or.inr (by decide))]
  · rw [e7, show (48 : Int32) = nI 48 from rfl, pk_sub (by omega)]
  · rw [e18, zun (Or.inr (by decide)), e8, zun (Or.inr (by decide))]
  · rw [e18, zun (Or.inr (by decide)), e8, zun (Or.inr (by decide))]
theorem z_rdE {n : Nat} {ln : Nat → Nat} {h0 h : zM} {d p k : Nat} {P : Nat → Nat} {C : Nat → Int32} (hD : zDrH h0 d P) (hQ : zQ h0 h p k C) (hp : p ≤ d) (post : Int32 → zM → Prop) (kf : zRdE P p = none → ∀ h', zQf h0 h' → post 0 h') (ks : ∀ out det gv nm q, zRdE P p = some (out, det, gv, nm, q) → ∀ h', zQ h0 h' q k C → h' 30 6 = nI out → h' 30 7 = nI det → h' 30 8 = gv → h' 30 9 = nm → post 1 h') : wpReader_readEnd n ln h post := by
  have hd1 := hD.1
  have hpd : P p ≠ 0 → p + 1 ≤ d := fun q => (zDrH_P hD p).2 q
  unfold wpReader_readEnd
  intro h2 e2 h7 e7 h12 e12
  have Q12 : zQ h0 h12 p k C := by
    rw [e12, e7, e2]
    exact zQ_s (by decide) (by decide) (zQ_s (by decide) (by decide) (zQ_s (by decide) (by decide) hQ))
  have x7 : h12 30 7 = 0 := by rw [e12, zun (Or.inr (by decide)), e7, zun (Or.inr (by decide)), e2, zux]
  have x8 : h12 30 8 = 0 := by rw [e12, zun (Or.inr (by decide)), e7, zux]
  have x9 : h12 30 9 = 0 := by rw [e12, zux]
  clear e12 e7 e2 hQ
  unfold zRdE at kf ks
  refine z_accept (c := 33) (zQf_D Q12.1 hD) Q12.2.1 (by omega) (by decide) _ (fun q => ⟨fun z => absurd z (by decide), fun _ h26 e26 => ?_⟩) (fun q => ⟨fun _ => ?_, fun z => absurd rfl z⟩)
  · rw [if_pos q] at kf ks
    have Q26 : zQ h0 h26 (p + 1) k C := by rw [e26]; exact zQ_s (by decide) (by decide) (zQ_4 Q12)
    refine z_rdD z48b hD Q26 (hpd (by omega)) (by decide) _ (fun w h' hF => ⟨Or.inl rfl, kf (if_neg w) h' hF⟩) (fun w h' hQ' y6 y7 y8 y9 => ⟨Or.inr rfl, ks _ _ _ _ _ (if_pos w) h' hQ' ?_ y7 ?_ ?_⟩)
    · rw [y6, e26, zux]; rfl
    · rw [y8, e26, zun (Or.inr (by decide)), zun (Or.inr (by decide))]; exact x8
    · rw [y9, e26, zun (Or.inr (by decide)), zun (Or.inr (by decide))]; exact x9
  · rw [if_neg q] at kf ks
    refine z_accept (c := 63) (zQf_D Q12.1 hD) Q12.2.1 (by omega) (by decide) _ (fun q => ⟨fun z => absurd z (by decide), fun _ h26 e26 => ?_⟩) (fun q => ⟨fun _ h57 e57 => ?_, fun z => absurd rfl z⟩)
    · rw [if_pos q] at kf ks
      have Q26 : zQ h0 h26 (p + 1) k C := by rw [e26]; exact zQ_s (by decide) (by decide) (zQ_4 Q12)
      refine z_rdD z48c hD Q26 (hpd (by omega)) (by decide) _ (fun w h' hF => ⟨Or.inl rfl, kf (if_neg w) h' hF⟩) (fun w h' hQ' y6 y7 y8 y9 => ⟨Or.inr rfl, ks _ _ _ _ _ (if_pos w) h' hQ' ?_ y7 ?_ ?_⟩)
      · rw [y6, e26, zux]; rfl
      · rw [y8, e26, zun (Or.inr (by decide)), zun (Or.inr (by decide))]; exact x8
      · rw [y9, e26, zun (Or.inr (by decide)), zun (Or.inr (by decide))]; exact x9
    · rw [if_neg q] at kf ks
      have Q57 : zQ h0 h57 p k C := by rw [e57]; exact zQ_s (by decide) (by decide) Q12
      have y6 : h57 30 6 = 0 := by rw [e57, zux]
      have y7 : h57 30 7 = 0 := by rw [e57, zun (Or.inr (by decide))]; exact x7
      have y8 : h57 30 8 = 0 := by rw [e57, zun (Or.inr (by decide))]; exact x8
      have y9 : h57 30 9 = 0 := by rw [e57, zun (Or.inr (by decide))]; exact x9
      refine z_accept (c := 61) (zQf_D Q57.1 hD) Q57.2.1 (by omega) (by decide) _ (fun q => ⟨fun z => absurd z (by decide), fun _ => ?_⟩) (fun q => ⟨fun _ => kf (if_neg q) _ Q57.1, fun z => absurd rfl z⟩)
      rw [if_pos q] at kf ks
      have Q1 := zQ_4 (p' := p + 1) Q57
      have w6 : zu h57 30 4 (nI (p + 1)) 30 6 = 0 := by rw [zun (Or.inr (by decide))]; exact y6
      have w7 : zu h57 30 4 (nI (p + 1)) 30 7 = 0 := by rw [zun (Or.inr (by decide))]; exact y7
      have w9 : zu h57 30 4 (nI (p + 1)) 30 9 = 0 := by rw [zun (Or.inr (by decide))]; exact y9
      generalize zu h57 30 4 (nI (p + 1)) = h1 at Q1 w6 w7 w9
      unfold wpReader_readResult
      refine z_accept (c := 110) (zQf_D Q1.1 hD) Q1.2.1 (by omega) (by decide) _ (fun q => ⟨fun z => absurd z (by decide), fun _ h11 e11 => ?_⟩) (fun q => ⟨fun _ => ?_, fun z => absurd rfl z⟩)
      · rw [if_pos q] at ks
        refine ⟨fun z => absurd z (by decide), fun _ => ks _ _ _ _ _ rfl h11 (by rw [e11]; exact zQ_s (by decide) (by decide) (zQ_4 Q1)) ?_ ?_ ?_ ?_⟩
        · rw [e11, zun (Or.inr (by decide)), zun (Or.inr (by decide))]; exact w6
        · rw [e11, zun (Or.inr (by decide)), zun (Or.inr (by decide))]; exact w7
        · rw [e11, zux]
        · rw [e11, zun (Or.inr (by decide)), zun (Or.inr (by decide))]; exact w9
      · rw [if_neg q] at kf ks
        refine z_accept (c := 111) (zQf_D Q1.1 hD) Q1.2.1 (by omega) (by decide) _ (fun q => ⟨fun z => absurd z (by decide), fun _ h11 e11 => ?_⟩) (fun q => ⟨fun _ h34 e34 => ?_, fun z => absurd rfl z⟩)
        · rw [if_pos q] at ks
          refine ⟨fun z => absurd z (by decide), fun _ => ks _ _ _ _ _ rfl h11 (by rw [e11]; exact zQ_s (by decide) (by decide) (zQ_4 Q1)) ?_ ?_ ?_ ?_⟩
          · rw [e11, zun (Or.inr (by decide)), zun (Or.inr (by decide))]; exact w6
          · rw [e11, zun (Or.inr (by decide)), zun (Or.inr (by decide))]; exact w7
          · rw [e11, zux]
          · rw [e11, zun (Or.inr (by decide)), zun (Or.inr (by decide))]; exact w9
        · rw [if_neg q] at kf ks
          have Q34 : zQ h0 h34 (p + 1) k C := by rw [e34]; exact zQ_s (by decide) (by decide) Q1
          refine z_rdN (zQf_D Q34.1 hD) Q34.2.1 (hpd (by omega)) _ (fun z h' hN h47 e47 => ⟨Or.inl rfl, fun _ => kf (by rw [z]; rfl) h47 ?_, fun z => absurd rfl z⟩) (fun x q' z hq' h' hN h4 h5 h47 e47 => ⟨Or.inr rfl, fun z => absurd z (by decide), fun _ => ks 0 0 1 x q' (by rw [z]; rfl) h47 ?_ ?_ ?_ ?_ ?_⟩)
          · rw [e47]
            refine ⟨fun r a b c => ?_, ?_⟩
            · rw [zuo a]
              exact (zQf_N Q34.1 hN).1 r a b c
            · rw [zun (Or.inr (by decide))]
              exact (zQf_N Q34.1 hN).2
          · rw [e47]
            exact zQ_s (by decide) (by decide) (zQ_N Q34 hN h4)
          · rw [e47, zun (Or.inr (by decide)), hN.2 6 (by decide) (by decide), e34, zun (Or.inr (by decide))]; exact w6
          · rw [e47, zun (Or.inr (by decide)), hN.2 7 (by decide) (by decide), e34, zun (Or.inr (by decide))]; exact w7
          · rw [e47, zun (Or.inr (by decide)), hN.2 8 (by decide) (by decide), e34, zux]
          · rw [e47, zux]; exact h5
def zAn (O D GV NM : Int32) (out det : Nat) (gv nm : Int32) : Int32 := if nI out = O ∧ nI det = D ∧ (nI out = 0 → gv = GV ∧ nm = NM) then 1 else 0
theorem m_rdE {h g : zM} {d p k o nc O D : Nat} {P : Nat → Nat} {GV NM res : Int32} (hnc : nc ≤ 4) (hD : mDrG g d P) (hp : g 0 41 = nI p) (hq : p < 5000) (h42 : g 0 42 = 0) (h11 : g 0 11 = nI k) (h1 : 1 ≤ k) (h10 : k ≤ 10) (ho : o < 10) (e8 : g 8 (k - 1) = nI o) (hok : zOpOk h g nc o) (hty : ∃ ty : Nat, ty ≤ nc ∧ h 8 o = nI ty) (e31 : g 0 31 = nI O) (e32 : g 0 32 = nI D) (hO : O ≤ 4) (hDl : D ≤ 5) (h0 : O = 0 → D = 0 ∧ g 23 (k - 1) = res ∧ GV = (if h 8 o = 0 then 1 else if res = -1 then 2 else 3) ∧ NM = (if h 8 o = 0 then res else 0) ∧ (h 8 o ≠ 0 → zRf 10 res)) (post : Int32 → zM → Prop) (kf : zRdE P p = none → ∀ r g', mN4 g g' → g' 0 42 = 1 → post r g') (ks : ∀ out det gv nm q, zRdE P p = some (out, det, gv, nm, q) → ∀ g', mN4 g g' → g' 0 42 = 0 → g' 0 41 = nI q → q < 10000 → post (zAn (nI O) (nI D) GV NM out det gv nm) g') : wpMod_rightEnd g post := by
  have hPp := (mDrG_P hD p).1
  have hPq := (mDrG_P hD (p + 1)).1
  have sm : (nI k : Int32) - 1 = nI (k - 1) := pk_sub (b := 1) h1
  obtain ⟨ty, ty1, ty2⟩ := hty
  unfold wpMod_rightEnd
  refine m_peek hD hp (by omega) _ (fun g1 e1 => ?_)
  have N1 : mN4 g g1 := by rw [e1]; exact mN4_u (Or.inl rfl)
  have a41 : g1 0 41 = nI (p + 1) := by rw [e1, zux, hp, nI_1]
  have a42 : g1 0 42 = 0 := by rw [e1, zun (Or.inr (by decide))]; exact h42
  have hD1 := mN4_D N1 hD
  refine m_peek hD1 a41 (by omega) _ ?_
  have hne : ∀ {A B : Prop} (x c : Nat), x < 127 → c < 127 → (x = c → A) → (x ≠ c → B) → (¬ nI x = nI c → B) ∧ (nI x = nI c → A) := by
    intro A B x c hx hc f1 f2
    have := pk_eq (x := nI x) (y := nI c) x c f1 f2
    exact ⟨this.2, this.1⟩
  have An0 : ∀ out det gv nm, ¬ (nI out = nI O ∧ nI det = nI D ∧ (nI out = 0 → gv = GV ∧ nm = NM)) → zAn (nI O) (nI D) GV NM out det gv nm = 0 := fun out det gv nm z => if_neg z
  have An1 : ∀ out det gv nm, (nI out = nI O ∧ nI det = nI D ∧ (nI out = 0 → gv = GV ∧ nm = NM)) → zAn (nI O) (nI D) GV NM out det gv nm = 1 := fun out det gv nm z => if_pos z
  -- an answer for a result
  have fin0 : ∀ gg q gv nm, zRdE P p = some (0, 0, gv, nm, q) → mN4 g gg → gg 0 42 = 0 → gg 0 41 = nI q → q < 10000 → ¬ (O = 0 ∧ gv = GV ∧ nm = NM) → post 0 gg := by
    intro gg q gv nm z hN b42 b41 hq' hnot
    have := ks 0 0 gv nm q z gg hN b42 b41 hq'
    rw [An0 0 0 gv nm (fun w => hnot ⟨((nI_eq (by omega) (by omega)).mp w.1).symm, w.2.2 rfl⟩)] at this
    exact this
  have fin1 : ∀ gg q gv nm, zRdE P p = some (0, 0, gv, nm, q) → mN4 g gg → gg 0 42 = 0 → gg 0 41 = nI q → q < 10000 → (O = 0 ∧ gv = GV ∧ nm = NM) → post 1 gg := by
    intro gg q gv nm z hN b42 b41 hq' hyes
    have := ks 0 0 gv nm q z gg hN b42 b41 hq'
    rw [An1 0 0 gv nm ⟨by rw [hyes.1], by rw [(h0 hyes.1).1], fun _ => hyes.2⟩] at this
    exact this
  -- = with n or o
  have go38 : ∀ v gv : Nat, (v = 110 ∧ gv = 2) ∨ (v = 111 ∧ gv = 3) → zRdE P p = some (0, 0, nI gv, 0, p + 2) → wbMod_rightEnd_38 post (nI v) g1 := by
    intro v gv hv z
    unfold wbMod_rightEnd_38
    intro g2 e2
    have N2 : mN4 g g2 := mN4_tr N1 (by rw [e2]; exact mN4_u (Or.inl rfl))
    have b41 : g2 0 41 = nI (p + 2) := by rw [e2, zux, a41, nI_1]
    have b42 : g2 0 42 = 0 := by rw [e2, zun (Or.inr (by decide))]; exact a42
    rw [N2 0 31 (by omega), e31, N2 0 11 (by omega), h11, sm, znc (by omega), N2 8 _ (by omega), e8]
    have := pk_eq (A := vp_in (nI (k - 1)) 20 ∧ wpMod_gives (nI o) g2 (fun r67 h67 => (((r67 ≤ 0) → post 0 h67) ∧ (¬ (r67 ≤ 0) → (vp_in ((h67 0 11) - 1) 10 ∧ (((0 ≤ (h67 23 (Int32.toNatClampNeg ((h67 0 11) - 1)))) → wbMod_rightEnd_92 post (nI v) 0 h67) ∧ (¬ (0 ≤ (h67 23 (Int32.toNatClampNeg ((h67 0 11) - 1)))) → wbMod_rightEnd_92 post (nI v) 1 h67))))))) (B := post 0 g2) (x := nI O) (y := 0) O 0 (fun q => ⟨zin_nI (by omega) (by decide), ?_⟩) (fun q => fin0 g2 (p + 2) (nI gv) 0 z N2 b42 b41 (by omega) (fun w => q w.1))
    · exact ⟨this.2, this.1⟩
    · obtain ⟨d0, r0, gv0, nm0, rf0⟩ := h0 q
      refine m_gives ho ((zOpOk_g hok (N2 4 o (by omega)) (N2 5 o (by omega)) (N2 6 o (by omega)))) hnc _ ?_
      rw [ty2] at gv0 nm0 rf0 ⊢
      refine pk_le ty 0 (fun w => fin0 g2 (p + 2) (nI gv) 0 z N2 b42 b41 (by omega) (fun w2 => ?_)) (fun w => ?_)
      · obtain rfl : ty = 0 := by omega
        rw [if_pos (show nI 0 = (0 : Int32) from rfl)] at gv0
        have := w2.2.1.trans gv0
        rcases hv with ⟨-, rfl⟩ | ⟨-, rfl⟩
        · exact absurd this (by decide)
        · exact absurd this (by decide)
      · have tn : ¬ nI ty = 0 := nI_ne0 w (by omega)
        rw [if_neg tn] at gv0 nm0
        rw [N2 0 11 (by omega), h11, sm, znc (by omega), N2 23 _ (by omega), r0]
        refine ⟨zin_nI (by omega) (by decide), fun w2 => ?_, fun w2 => ?_⟩
        · have rn : ¬ res = -1 := by
            intro w3
            rw [w3] at w2
            exact absurd w2 (by decide)
          rw [if_neg rn] at gv0
          unfold wbMod_rightEnd_92 wbMod_rightEnd_103
          rcases hv with ⟨rfl, rfl⟩ | ⟨rfl, rfl⟩
          · exact ⟨fun w3 => absurd rfl w3, fun _ => ⟨fun _ => fin0 g2 (p + 2) _ 0 z N2 b42 b41 (by omega) (fun w3 => absurd (w3.2.1.trans gv0) (by decide)), fun w3 => absurd w3 (by decide)⟩⟩
          · exact ⟨fun _ => ⟨fun w3 => absurd rfl w3, fun _ => fin1 g2 (p + 2) _ 0 z N2 b42 b41 (by omega) ⟨q, gv0.symm, nm0.symm⟩⟩, fun w3 => absurd w3 (by decide)⟩
        · have rn : res = -1 := by
            rcases rf0 tn with w3 | ⟨i, hi, w3⟩
            · exact w3
            · exfalso
              rw [w3] at w2
              exact w2 (by rw [zle, zti_0, znI (by omega)]; omega)
          rw [if_pos rn] at gv0
          unfold wbMod_rightEnd_92 wbMod_rightEnd_103
          rcases hv with ⟨rfl, rfl⟩ | ⟨rfl, rfl⟩
          · exact ⟨fun w3 => absurd rfl w3, fun _ => ⟨fun w3 => absurd rfl w3, fun _ => fin1 g2 (p + 2) _ 0 z N2 b42 b41 (by omega) ⟨q, gv0.symm, nm0.symm⟩⟩⟩
          · exact ⟨fun _ => ⟨fun _ => fin0 g2 (p + 2) _ 0 z N2 b42 b41 (by omega) (fun w3 => absurd (w3.2.1.trans gv0) (by decide)), fun w3 => absurd w3 (by decide)⟩, fun w3 => absurd w3 (by decide)⟩
  refine hne (P p) 61 (by omega) (by decide) (fun q => ?_) (fun q => ?_)
  · have eE : zRdE P p = if P (p + 1) = 110 then some (0, 0, 2, 0, p + 2) else if P (p + 1) = 111 then some (0, 0, 3, 0, p + 2) else zRdR p (zRdN P (p + 1)) := by
      unfold zRdE
      rw [if_neg (by omega), if_neg (by omega), if_pos q]
    refine pk_eq (P (p + 1)) 110 (fun w => ?_) (fun w => ?_)
    · rw [if_pos w] at eE
      rw [w]
      exact go38 110 2 (Or.inl ⟨rfl, rfl⟩) eE
    · rw [if_neg w] at eE
      refine hne (P (p + 1)) 111 (by omega) (by decide) (fun w2 => ?_) (fun w2 => ?_)
      · rw [if_pos w2] at eE
        rw [w2]
        exact go38 111 3 (Or.inr ⟨rfl, rfl⟩) eE
      · rw [if_neg w2] at eE
        unfold wbMod_rightEnd_112
        rw [q]
        refine ⟨fun z => absurd rfl z, fun _ => ?_⟩
        refine m_rdN hD1 a41 (by omega) (Or.inl a42) _ (fun z x g2 q2 N2 b42 b41 hq2 => ?_) (fun _ x q2 z2 g2 N2 b42 b41 => ?_)
        · have zn : zRdE P p = none := by
            rcases z with z | z
            · exact absurd (a42.symm.trans z) (by decide)
            · rw [eE, z]
              rfl
          have K0 : ∀ r, post r g2 := fun r => kf zn r g2 (mN4_tr N1 N2) b42
          have N := mN4_tr N1 N2
          refine ⟨fun _ => K0 0, fun z31 => ?_⟩
          rw [N 0 11 (by omega), h11, sm, znc (by omega), N 8 _ (by omega), e8]
          refine ⟨zin_nI (by omega) (by decide), m_gives ho ((zOpOk_g hok (N 4 o (by omega)) (N 5 o (by omega)) (N 6 o (by omega)))) hnc _ ⟨fun _ => K0 0, fun _ => ⟨?_, fun _ => K0 0, fun _ => K0 1⟩⟩⟩
          rw [N 0 11 (by omega), h11, sm]
          exact zin_nI (by omega) (by decide)
        · have hz : zRdE P p = some (0, 0, 1, x, q2) := by rw [eE, z2]; rfl
          have N := mN4_tr N1 N2
          have hq2 : q2 < 10000 := by
            have hP0 := (mDrG_P hD p).2 (by omega)
            have := zRdN_q (fun i => (mDrG_P hD i).2) hP0 z2
            have := hD.1
            omega
          rw [N 0 31 (by omega), e31, N 0 11 (by omega), h11, sm, znc (by omega), N 8 _ (by omega), e8]
          refine ⟨fun w3 => fin0 g2 q2 1 x hz N b42 b41 hq2 (fun w4 => w3 (by rw [w4.1]; rfl)), fun w3 => ?_⟩
          have O0 : O = 0 := (nI_eq (by omega) (by decide)).mp w3
          obtain ⟨d0, r0, gv0, nm0, rf0⟩ := h0 O0
          refine ⟨zin_nI (by omega) (by decide), m_gives ho ((zOpOk_g hok (N 4 o (by omega)) (N 5 o (by omega)) (N 6 o (by omega)))) hnc _ ⟨fun w4 => fin0 g2 q2 1 x hz N b42 b41 hq2 (fun w5 => ?_), fun w4 => ?_⟩⟩
          · rw [if_neg w4] at gv0
            have := w5.2.1.trans gv0
            split at this
            · exact absurd this (by decide)
            · exact absurd this (by decide)
          · rw [if_pos w4] at gv0 nm0
            rw [N 0 11 (by omega), h11, sm, znc (by omega), N 23 _ (by omega), r0]
            exact ⟨zin_nI (by omega) (by decide), fun w5 => fin0 g2 q2 1 x hz N b42 b41 hq2 (fun w6 => w5 (nm0.symm.trans w6.2.2.symm)), fun w5 => fin1 g2 q2 1 x hz N b42 b41 hq2 ⟨O0, gv0.symm, w5.symm.trans nm0.symm⟩⟩
  · unfold wbMod_rightEnd_112
    refine ⟨fun _ g2 e2 => ?_, fun z => absurd ((nI_eq (by omega) (by decide)).mp z) q⟩
    have N2 : mN4 g g2 := mN4_tr N1 (by rw [e2]; exact mN4_u (Or.inl rfl))
    have b41 : g2 0 41 = nI (p + 2) := by rw [e2, zux, a41, nI_1]
    have b42 : g2 0 42 = 0 := by rw [e2, zun (Or.inr (by decide))]; exact a42
    have go201 : ∀ K0 X : Nat, X ≤ 3 → K0 ≤ 5 → zRdE P p = (if 49 ≤ P (p + 1) ∧ P (p + 1) ≤ 48 + K0 then some (X, P (p + 1) - 48, 0, 0, p + 2) else none) → (X = 2 ∧ P p = 33) ∨ (X = 3 ∧ P p ≠ 33) → wbMod_rightEnd_201 post (nI (P p)) (nI (P (p + 1))) (nI K0) g2 := by
      intro K0 X hX hK eE hXP
      have bad : zRdE P p = none → wbMod_rightEnd_224 post (nI (P p)) (nI (P (p + 1))) g2 := by
        intro z
        unfold wbMod_rightEnd_224 wbMod_rightEnd_229
        refine ⟨Or.inr rfl, fun g3 e3 => ?_⟩
        have N3 : mN4 g g3 := mN4_tr N2 (by rw [e3]; exact mN4_u (Or.inr rfl))
        have c42 : g3 0 42 = 1 := by rw [e3]; exact zux
        have K : ∀ r, post r g3 := fun r => kf z r g3 N3 c42
        unfold wbMod_rightEnd_247
        exact ⟨fun _ => ⟨fun _ => K 0, fun _ => ⟨fun _ => K 0, fun _ => K 1⟩⟩, fun _ => ⟨fun _ => K 0, fun _ => ⟨fun _ => K 0, fun _ => K 1⟩⟩⟩
      unfold wbMod_rightEnd_201
      rw [b42, show (48 : Int32) = nI 48 from rfl, nI_add]
      refine ⟨fun z => absurd rfl z, fun _ => pk_lt (P (p + 1)) 49 (fun w => bad (by rw [eE, if_neg (by omega)])) (fun w => pk_le (P (p + 1)) (48 + K0) (fun w2 => ?_) (fun w2 => bad (by rw [eE, if_neg (by omega)])))⟩
      rw [if_pos ⟨w, w2⟩] at eE
      unfold wbMod_rightEnd_229
      refine ⟨Or.inl rfl, fun g3 e3 => ?_⟩
      have N3 : mN4 g g3 := mN4_tr N2 (by rw [e3]; exact mN4_u (Or.inr rfl))
      have c42 : g3 0 42 = 0 := by rw [e3]; exact zux
      have c41 : g3 0 41 = nI (p + 2) := by rw [e3, zun (Or.inr (by decide))]; exact b41
      have S := ks X (P (p + 1) - 48) 0 0 (p + 2) eE g3 N3 c42 c41 (by omega)
      have tail : wbMod_rightEnd_247 post (nI (P (p + 1))) (nI O) (nI X) g3 := by
        unfold wbMod_rightEnd_247
        rw [N3 0 32 (by omega), e32, show (48 : Int32) = nI 48 from rfl, pk_sub (by omega)]
        refine ⟨fun w3 => ?_, fun w3 => ⟨fun w4 => ?_, fun w4 => ?_⟩⟩
        · rw [An0 _ _ _ _ (fun w5 => w3 w5.1.symm)] at S
          exact S
        · rw [An0 _ _ _ _ (fun w5 => w4 w5.2.1.symm)] at S
          exact S
        · rw [An1 _ _ _ _ ⟨w3.symm, w4.symm, fun w5 => absurd w5 (nI_ne0 (by omega) (by omega))⟩] at S
          exact S
      rw [N3 0 31 (by omega), e31]
      rcases hXP with ⟨rfl, hXP⟩ | ⟨rfl, hXP⟩
      · rw [hXP]
        exact ⟨fun z => absurd rfl z, fun _ => tail⟩
      · exact ⟨fun _ => tail, fun z => absurd ((nI_eq (by omega) (by decide)).mp z) hXP⟩
    refine hne (P p) 33 (by omega) (by decide) (fun w => ?_) (fun w => ?_)
    · exact go201 5 2 (by decide) (by decide) (by unfold zRdE; rw [if_pos w]) (Or.inl ⟨rfl, w⟩)
    · refine hne (P p) 63 (by omega) (by decide) (fun w2 => ?_) (fun w2 => ?_)
      · exact go201 4 3 (by decide) (by decide) (by unfold zRdE; rw [if_neg w, if_pos w2]) (Or.inr ⟨rfl, w⟩)
      · exact go201 0 3 (by decide) (by decide) (by unfold zRdE; rw [if_neg w, if_neg w2, if_neg q, if_neg (by omega)]) (Or.inr ⟨rfl, w⟩)
