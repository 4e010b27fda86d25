/-! step and seek -/
theorem zH_step (n : Nat) (ln : Nat → Nat) (h g : zM) (hR : zR n ln h g) : wpTop_step n ln h (fun r n1 ln1 h1 => wpMod_step g (fun r1 g1 => r = r1 ∧ zR n1 ln1 h1 g1)) := z_stepT hR _ (fun r n1 ln1 h1 hT => m_stepT hR hT _ (fun g1 hR1 => ⟨rfl, hR1⟩))
theorem zT_r {n : Nat} {ln : Nat → Nat} {h : zM} {r : Int32} {n1 : Nat} {ln1 : Nat → Nat} {h1 : zM} (hT : zT n ln h r n1 ln1 h1) : r < 0 ∨ (r = nI n ∧ n1 = n + 1 ∧ n < 40) := by
  rcases hT with ⟨-, rfl, -⟩ | ⟨-, -, rfl, -⟩ | ⟨-, -, -, -, -, ⟨y, rfl⟩ | ⟨-, -, rfl⟩ | ⟨-, -, -, rfl⟩⟩ | ⟨nf, -, -, -, -, e, e1, -⟩
  · exact Or.inl (by decide)
  · exact Or.inl (by decide)
  · left
    rcases zGcd_cd (h := h) (n := n) (s := h 19 6) with w | w | w
    · exact absurd w y
    · rw [w]; decide
    · rw [w]; decide
  · exact Or.inl (by decide)
  · exact Or.inl (by decide)
  · exact Or.inr ⟨e, e1, nf⟩
noncomputable def zWg (h g : zM) (n : Nat) : zM := fun r s =>
  if r = 0 then (if s = 0 then zGsd h n (h 19 6) else if s = 17 then nI (n + 1) else g 0 s)
  else if r = 13 then (if s = n then nI (zqz h n) else g 13 s)
  else if r = 14 then (if s < 10 * n then g 14 s else zqC h n (5 * (s - 10 * n)))
  else if r = 15 then (if s < 20 * n then g 15 s else if zqC h n (5 * ((s - 20 * n) / 2) + 1 + 2 * ((s - 20 * n) % 2)) = -1 then 2 else zqC h n (5 * ((s - 20 * n) / 2) + 1 + 2 * ((s - 20 * n) % 2)))
  else if r = 16 then (if s < 20 * n then g 16 s else zqC h n (5 * ((s - 20 * n) / 2) + 2 + 2 * ((s - 20 * n) % 2)))
  else if r = 17 then (if s = n then zqo h n else g 17 s)
  else if r = 18 then (if s = n then (zqc h n).2 else g 18 s)
  else if r = 19 then (if s = n then znum h (zqC h n) (zqz h n) (zqf h n) else g 19 s)
  else g r s
theorem zArg_m1 {h : zM} {c : Nat → Int32} {k a : Nat} {t : Int32} (hok : zArgOk h c k a t) (hf : c (5 * k + 1 + 2 * a) = -1) : c (5 * k + 2 + 2 * a) = 0 := by
  rcases hok with ⟨-, -, z⟩ | ⟨-, z | ⟨z, -⟩⟩ | ⟨tt, -, -, -, ⟨z, -⟩ | ⟨z, -⟩⟩
  · exact z
  · rw [hf] at z; exact absurd z (by decide)
  · rw [hf] at z; exact absurd z (by decide)
  · rw [hf] at z; exact absurd z (by decide)
  · rw [hf] at z; exact absurd z (by decide)
theorem zT_ex {n : Nat} {ln : Nat → Nat} {h g h1 : zM} {r : Int32} {n1 : Nat} {ln1 : Nat → Nat} (hR : zR n ln h g) (hT : zT n ln h r n1 ln1 h1) : ∃ g1, zR n1 ln1 h1 g1 := by
  have hR0 := hR
  obtain ⟨nc, no, hC, h0, ⟨nl, l1, l2, l3, l4, l5⟩, hs, hd, n40, hn, gn, he⟩ := hR
  have hB : zBk n ln h g nc no := ⟨hC, n40, gn, he⟩
  rcases hT with ⟨nf, rfl, rfl, rfl, rfl⟩ | ⟨nf, e11, rfl, rfl, rfl, rfl⟩ | ⟨nf, e11, hz, rfl, rfl, -⟩ | ⟨nf, e11, hc, nh, hc4, rfl, rfl, k, rfl, hz⟩
  · exact ⟨g, hR0⟩
  · exact ⟨g, hR0⟩
  · exact ⟨zu g 0 0 (zGsd h n1 (h 19 6)), zR_sd hR0 hz (mSk_of (fun r s hr => zun (by omega))) zux (by rw [zun (by decide)]; exact gn)⟩
  · have no1 : 1 ≤ no := by
      rcases Nat.eq_zero_or_pos no with w | w
      · subst w; exact absurd hC.2.2.2.2.1 e11
      · exact w
    obtain ⟨-, -, z10, zst⟩ := zGr_ok hB no1 hc
    have z10 : zqz h n ≤ 10 := z10
    have zst : ∀ k, k < zqz h n → zStOk h (zqC h n) no k := zst
    have R0 : ∀ s, zWg h g n 0 s = (if s = 0 then zGsd h n (h 19 6) else if s = 17 then nI (n + 1) else g 0 s) := fun s => rfl
    have R13 : ∀ s, zWg h g n 13 s = (if s = n then nI (zqz h n) else g 13 s) := fun s => rfl
    have R14 : ∀ s, zWg h g n 14 s = (if s < 10 * n then g 14 s else zqC h n (5 * (s - 10 * n))) := fun s => rfl
    have R15 : ∀ s, zWg h g n 15 s = (if s < 20 * n then g 15 s else if zqC h n (5 * ((s - 20 * n) / 2) + 1 + 2 * ((s - 20 * n) % 2)) = -1 then 2 else zqC h n (5 * ((s - 20 * n) / 2) + 1 + 2 * ((s - 20 * n) % 2))) := fun s => rfl
    have R16 : ∀ s, zWg h g n 16 s = (if s < 20 * n then g 16 s else zqC h n (5 * ((s - 20 * n) / 2) + 2 + 2 * ((s - 20 * n) % 2))) := fun s => rfl
    have R17 : ∀ s, zWg h g n 17 s = (if s = n then zqo h n else g 17 s) := fun s => rfl
    have R18 : ∀ s, zWg h g n 18 s = (if s = n then (zqc h n).2 else g 18 s) := fun s => rfl
    have R19 : ∀ s, zWg h g n 19 s = (if s = n then znum h (zqC h n) (zqz h n) (zqf h n) else g 19 s) := fun s => rfl
    have RR : ∀ r s, (1 ≤ r ∧ r ≤ 7) ∨ r = 26 → zWg h g n r s = g r s := by
      intro r s hr
      unfold zWg
      rw [if_neg (by omega), if_neg (by omega), if_neg (by omega), if_neg (by omega), if_neg (by omega), if_neg (by omega), if_neg (by omega), if_neg (by omega)]
    refine ⟨zWg h g n, zR_new hR0 nf e11 hc hc4 hz ⟨fun r s hr => ?_, fun s hs => ⟨?_, ?_, ?_, ?_⟩, fun b hb => ⟨?_, fun a ha => ⟨?_, ?_⟩⟩⟩ ?_ ?_ ⟨?_, fun k' hk' => ⟨?_, fun a ha => ?_⟩, ?_, ?_, ?_⟩⟩
    · rcases hr with ⟨rfl, hr⟩ | hr | hr
      · rw [R0, if_neg (by omega), if_neg (by omega)]
      · exact RR r s (Or.inl hr)
      · exact RR r s (Or.inr hr)
    · rw [R13, if_neg (by omega)]
    · rw [R17, if_neg (by omega)]
    · rw [R18, if_neg (by omega)]
    · rw [R19, if_neg (by omega)]
    · rw [R14, if_pos (by omega)]
    · rw [R15, if_pos (by omega)]
    · rw [R16, if_pos (by omega)]
    · rw [R0, if_pos rfl]
    · rw [R0, if_neg (by decide), if_pos rfl]
    · rw [R13, if_pos rfl]
    · rw [R14, if_neg (by omega), show 10 * n + k' - 10 * n = k' by omega]
    · rw [R15, R16, if_neg (show ¬ 2 * (10 * n + k') + a < 20 * n by omega), if_neg (show ¬ 2 * (10 * n + k') + a < 20 * n by omega), show (2 * (10 * n + k') + a - 20 * n) / 2 = k' by omega, show (2 * (10 * n + k') + a - 20 * n) % 2 = a by omega]
      obtain ⟨o, ho, eo, ok0, ok1⟩ := zst k' hk'
      by_cases q : zqC h n (5 * k' + 1 + 2 * a) = -1
      · rw [if_pos q]
        have : zqC h n (5 * k' + 2 + 2 * a) = 0 := by
          rcases (show a = 0 ∨ a = 1 by omega) with rfl | rfl
          · exact zArg_m1 ok0 q
          · exact zArg_m1 ok1 q
        exact Or.inl ⟨q, this, rfl, this⟩
      · rw [if_neg q]
        exact Or.inr ⟨q, rfl, rfl⟩
    · rw [R17, if_pos rfl]
    · rw [R18, if_pos rfl]
    · rw [R19, if_pos rfl]
theorem zl_mk {σ : Type} {S : (σ → Prop) → σ → Prop} {n : Nat} {x : σ} (h : S (zl S n) x) : zl S (n + 1) x := h
theorem zH_seek (n : Nat) (ln : Nat → Nat) (h g : zM) (x : Int32) (hR : zR n ln h g) : wpTop_seek n ln x h (fun r n1 ln1 h1 => wpMod_seek x g (fun r1 g1 => r = r1 ∧ zR n1 ln1 h1 g1)) := by
  unfold wpTop_seek wpMod_seek
  refine ⟨fun q => ⟨fun _ => ⟨rfl, hR⟩, fun w => absurd q w⟩, fun q => ⟨fun q2 => ?_, fun q2 => ⟨fun w => absurd w q, fun _ => ⟨fun w => absurd w q2, fun _ => ⟨rfl, hR⟩⟩⟩⟩⟩
  obtain ⟨X, x1, x2, rfl⟩ : ∃ X : Nat, 1 ≤ X ∧ X ≤ 20 ∧ x = nI X := by
    rcases z1ix x (n := 20) (by omega) with z | z | z
    · exact absurd z q
    · rw [zlt, znI (by omega)] at z
      rw [zle, zti_20] at q2
      omega
    · exact z
  refine zL_rule (fun s => ∃ i : Nat, i ≤ X ∧ s.1 = nI i ∧ (∃ g', zR s.2.1 s.2.2.1 s.2.2.2 g') ∧ ∀ r n2 ln2 h2, (∀ g', zR s.2.1 s.2.2.1 s.2.2.2 g' → zl (stMod_seek_15 (fun r1 g1 => r = r1 ∧ zR n2 ln2 h2 g1)) (X + 1 - i) (nI X, nI i, g')) → ((nI X < 1 → r = -1 ∧ zR n2 ln2 h2 g) ∧ (¬ nI X < 1 → ((nI X ≤ 20 → zL (stMod_seek_15 (fun r1 g1 => r = r1 ∧ zR n2 ln2 h2 g1)) (nI X, 0, g)) ∧ (¬ nI X ≤ 20 → r = -1 ∧ zR n2 ln2 h2 g))))) (fun s => X - s.1.toNatClampNeg) ?_ (0, n, ln, h) ⟨0, by omega, rfl, ⟨g, hR⟩, fun r n2 ln2 h2 hm => ⟨fun w => absurd w q, fun _ => ⟨fun _ => ⟨X + 1, hm g hR⟩, fun w => absurd q2 w⟩⟩⟩
  rintro ⟨v2, n', ln', hh⟩ L ⟨i, hi, e2, ⟨g', hR'⟩, hcont⟩ ih
  dsimp only at e2 hR' hcont ih
  subst e2
  unfold stTop_seek_15
  dsimp only
  refine pk_le X i (fun w => hcont _ _ _ _ (fun g2 hR2 => ?_)) (fun w => z_stepT hR' _ (fun r n1 ln1 h1 hT => ?_))
  · have : i = X := by omega
    subst this
    rw [show i + 1 - i = 0 + 1 by omega]
    refine zl_mk ?_
    unfold stMod_seek_15
    dsimp only
    exact pk_le i i (fun _ => ⟨rfl, hR2⟩) (fun y => by omega)
  · have miss : (∀ e, e < n1 → r = nI e → h1 (34 + 4 * e) 1 ≠ 3) → L (nI i + 1, n1, ln1, h1) := by
      intro nm
      rw [zp1]
      refine ih _ ⟨i + 1, by omega, rfl, zT_ex hR' hT, fun r' n2 ln2 h2 hm => hcont r' n2 ln2 h2 (fun g2 hR2 => ?_)⟩ ?_
      · rw [show X + 1 - i = (X + 1 - (i + 1)) + 1 by omega]
        refine zl_mk ?_
        unfold stMod_seek_15
        dsimp only
        refine pk_le X i (fun y => by omega) (fun _ => m_stepT hR2 hT _ (fun g3 hR3 => ?_))
        unfold wbMod_seek_41
        rw [zp1]
        have go := hm g3 hR3
        refine ⟨fun _ => go, fun y => ?_⟩
        rcases zT_r hT with y2 | ⟨rfl, rfl, y3⟩
        · exact absurd y2 y
        · rw [znc (by omega)]
          refine ⟨zin_nI (by omega) (by omega), fun _ => go, fun y4 => ?_⟩
          obtain ⟨nc, no, -, -, -, -, -, -, -, -, hE⟩ := hR3
          obtain ⟨sz, out, det, a1, a2, a3, a4, a5, a6, a7, a8, a9, -⟩ := hE n' (by omega)
          exact absurd (a8.trans (a9.symm.trans y4)) (nm n' (by omega) rfl)
      · dsimp only
        rw [znc (by omega), znc (by omega)]
        omega
    obtain ⟨g1, hR1⟩ := zT_ex hR' hT
    obtain ⟨nc, no, hC, -, -, -, -, n40, hn, gn, hE⟩ := hR1
    refine z_get hn n40 r _ (fun y => ⟨fun _ => miss (fun e he ee => absurd ee (y e he)), fun j ej => absurd ej (by simp)⟩) (fun e hel ee => ⟨fun z => absurd z (by simp), fun j ej => ?_⟩)
    obtain rfl : e = j := Option.some.inj ej
    refine ⟨hel, fun y => miss (fun e' he' ee' => ?_), fun y => ?_⟩
    · have : e = e' := (nI_eq (by omega) (by omega)).mp (ee.symm.trans ee')
      subst this
      exact y
    · rcases zT_r hT with y2 | ⟨rfl, rfl, y3⟩
      · rw [ee] at y2
        exact absurd y2 (zn0 (by omega))
      · obtain rfl : n' = e := (nI_eq (by omega) (by omega)).mp ee
        rw [hn, nI_pred]
        refine hcont _ _ _ _ (fun g2 hR2 => ?_)
        rw [show X + 1 - i = (X + 1 - (i + 1)) + 1 by omega]
        refine zl_mk ?_
        unfold stMod_seek_15
        dsimp only
        refine pk_le X i (fun y => by omega) (fun _ => m_stepT hR2 hT _ (fun g3 hR3 => ?_))
        rw [znc (by omega)]
        refine ⟨fun u => absurd u (zn0 (by omega)), fun _ => ⟨zin_nI (by omega) (by omega), fun u => ?_, fun _ => ⟨rfl, hR3⟩⟩⟩
        obtain ⟨nc', no', -, -, -, -, -, -, -, -, hE3⟩ := hR3
        obtain ⟨sz, out, det, a1, a2, a3, a4, a5, a6, a7, a8, a9, -⟩ := hE3 n' (by omega)
        exact absurd (a9.trans (a8.symm.trans y)) u
