/-! a step as a transition -/
theorem zcame_rg {K : zM} {c : Nat → Int32} {sz : Nat} : ∃ out det : Nat, zcame K c (zfin K c sz) = (nI out, nI det) ∧ out ≤ 4 ∧ out ≠ 1 ∧ det ≤ 5 ∧ (out = 0 → (zfin K c sz).1 = 0) := by
  obtain ⟨t, ht, et⟩ := zgo_tr (K := K) (c := c) sz 0 0 zx0
  have et : (zfin K c sz).1 = nI t := et
  unfold zcame
  rw [et]
  rcases Nat.eq_zero_or_pos t with rfl | t1
  · rw [if_pos (show nI 0 = (0 : Int32) from rfl)]
    obtain ⟨f, hf, ef⟩ := zfault_rg (K := K) (x := (zfin K c sz).2.2.2) (cnt := (zfin K c sz).2.2.1)
    rw [ef]
    rcases Nat.eq_zero_or_pos f with rfl | f1
    · exact ⟨0, 0, rfl, by omega, by omega, by omega, fun _ => rfl⟩
    · exact ⟨3, f, by rw [if_neg (nI_ne0 f1 (by omega))]; rfl, by omega, by omega, by omega, fun z => by omega⟩
  · rw [if_neg (nI_ne0 t1 (by omega))]
    by_cases q : nI t = 5
    · rw [if_pos q]
      split
      · exact ⟨4, 4, rfl, by omega, by omega, by omega, fun z => by omega⟩
      · exact ⟨3, 4, rfl, by omega, by omega, by omega, fun z => by omega⟩
    · rw [if_neg q]
      exact ⟨2, t, rfl, by omega, by omega, by omega, fun z => by omega⟩
noncomputable def zqC (h : zM) (n : Nat) : Nat → Int32 := zGcl h n (h 19 6)
noncomputable def zqz (h : zM) (n : Nat) : Nat := zGsz h n (h 19 6)
noncomputable def zqf (h : zM) (n : Nat) : Int32 × Nat × Nat × zM := zfin h (zqC h n) (zqz h n)
noncomputable def zqc (h : zM) (n : Nat) : Int32 × Int32 := zcame h (zqC h n) (zqf h n)
def zqh (h : zM) (n : Nat) : Prop := ∃ e, e < n ∧ zsm h (zqz h n) (zqC h n) e
def zqs (h : zM) (n : Nat) : Prop := ∃ e, e < n ∧ h (34 + 4 * e) 1 = 0 ∧ zesh h e = zshp h (zqC h n) (zqz h n) (zqf h n)
noncomputable def zqo (h : zM) (n : Nat) : Int32 := if zdec ((zqc h n).1 = 0 ∧ zqs h n) = true then 1 else (zqc h n).1
def zSd (h h1 : zM) (s' : Int32) : Prop := (∀ r, r ≤ 9 ∨ r = 22 ∨ 24 < r → h1 r = h r) ∧ h1 19 5 = h 19 5 ∧ h1 19 6 = s'
def zNw (h h1 : zM) (n k : Nat) : Prop := (∀ r, r ≤ 8 ∨ r = 22 ∨ (24 < r ∧ r < 34 + 4 * n) → h1 r = h r) ∧ h1 9 1 = nI (n + 1) ∧ h1 19 5 = h 19 5 ∧ h1 19 6 = zGsd h n (h 19 6) ∧ h1 (34 + 4 * n) 1 = zqo h n ∧ h1 (34 + 4 * n) 2 = (zqc h n).2 ∧ h1 (34 + 4 * n) 3 = zlt8 h (zqC h n) (zqz h n) ∧ h1 (34 + 4 * n) 4 = zgave h (zqC h n) (zqz h n) (zqf h n) ∧ h1 (34 + 4 * n) 5 = znum h (zqC h n) (zqz h n) (zqf h n) ∧ h1 (34 + 4 * n + 1) 0 = nI (zqz h n) ∧ (∀ i, i < 5 * zqz h n → h1 (34 + 4 * n + 1 + 1) i = zqC h n i) ∧ k = (zrws h (zqC h n) (zqz h n) (zqf h n)).length ∧ ∀ i, i < k → (zrws h (zqC h n) (zqz h n) (zqf h n))[i]? = some (h1 (34 + 4 * n + 3) i)
def zT (n : Nat) (ln : Nat → Nat) (h : zM) (r : Int32) (n1 : Nat) (ln1 : Nat → Nat) (h1 : zM) : Prop :=
  (n = 40 ∧ r = -6 ∧ n1 = n ∧ ln1 = ln ∧ h1 = h) ∨ (n < 40 ∧ h 1 1 = 0 ∧ r = -1 ∧ n1 = n ∧ ln1 = ln ∧ h1 = h) ∨
  (n < 40 ∧ h 1 1 ≠ 0 ∧ zSd h h1 (zGsd h n (h 19 6)) ∧ n1 = n ∧ ln1 = ln ∧ ((zGcd h n (h 19 6) ≠ 0 ∧ r = zGcd h n (h 19 6)) ∨ (zGcd h n (h 19 6) = 0 ∧ zqh h n ∧ r = -4) ∨ (zGcd h n (h 19 6) = 0 ∧ ¬ zqh h n ∧ (zqc h n).1 = 4 ∧ r = -5))) ∨
  (n < 40 ∧ h 1 1 ≠ 0 ∧ zGcd h n (h 19 6) = 0 ∧ ¬ zqh h n ∧ (zqc h n).1 ≠ 4 ∧ r = nI n ∧ n1 = n + 1 ∧ ∃ k, ln1 = va_up ln n k ∧ zNw h h1 n k)
theorem zGf_Sd {h h1 : zM} {s' : Int32} (hf : zGf h h1) (hs : h1 19 6 = s') : zSd h h1 s' := ⟨fun r hr => hf.1 r (by omega) (by omega) (by omega) (by omega) (by omega) (by omega), hf.2, hs⟩
theorem z_stepT {n : Nat} {ln : Nat → Nat} {h g : zM} (hR : zR n ln h g) (post : Int32 → Nat → (Nat → Nat) → zM → Prop) (hp : ∀ r n1 ln1 h1, zT n ln h r n1 ln1 h1 → post r n1 ln1 h1) : wpGrower_grow n ln h post := by
  obtain ⟨nc, no, hC, h0, ⟨nl, l1, l2, l3, l4, l5⟩, hs, hd, n40, hn, gn, he⟩ := hR
  have hno := hC.2.1
  have hB : zBk n ln h g nc no := ⟨hC, n40, gn, he⟩
  by_cases nf : n = 40
  · unfold wpGrower_grow wpBook_isFull
    rw [hn]
    exact pk_lt n 40 (fun q => by omega) (fun q => ⟨fun w => absurd w (by decide), fun _ => hp _ _ _ _ (Or.inl ⟨nf, rfl, rfl, rfl, rfl⟩)⟩)
  by_cases n0 : no = 0
  · subst n0
    unfold wpGrower_grow wpBook_isFull
    rw [hn]
    have e11 : h 1 1 = 0 := hC.2.2.2.2.1
    exact pk_lt n 40 (fun q => ⟨fun _ => ⟨fun w => absurd e11 w, fun w => hp _ _ _ _ (Or.inr (Or.inl ⟨q, w, rfl, rfl, rfl, rfl⟩))⟩, fun w => absurd rfl w⟩) (fun q => by omega)
  have h11 : h 1 1 ≠ 0 := by rw [hC.2.2.2.2.1]; exact nI_ne0 (by omega) (by omega)
  refine z_grow1 hB hn (by omega) (by omega) l3 l1 l2 rfl post (fun z h' f1 f2 => hp _ _ _ _ (Or.inr (Or.inr (Or.inl ⟨by omega, h11, zGf_Sd f1 f2, rfl, rfl, Or.inl ⟨z, rfl⟩⟩)))) (fun z hh hG => ?_)
  obtain ⟨-, -, z10, zst⟩ := zGr_ok hB (by omega) z
  have z1 : 1 ≤ zqz h n := by unfold zqz zGsz; omega
  have z10 : zqz h n ≤ 10 := z10
  have zst : ∀ k, k < zqz h n → zStOk h (zqC h n) no k := zst
  obtain ⟨hF, G1, G2, G3⟩ := hG
  have G2 : hh 20 0 = nI (zqz h n) := G2
  have G3 : ∀ i, i < 5 * zqz h n → hh 21 i = zqC h n i := G3
  have fr : ∀ r, r ≤ 10 ∨ r = 22 ∨ 24 < r → hh r = h r := fun r hr => hF.1 r (by omega) (by omega) (by omega) (by omega) (by omega) (by omega)
  have zsm_fr : ∀ e, zsm hh (zqz h n) (zqC h n) e ↔ zsm h (zqz h n) (zqC h n) e := by
    intro e
    unfold zsm
    rw [fr (34 + 4 * e + 1) (by omega), fr (34 + 4 * e + 1 + 1) (by omega)]
  refine z_holds (C := zqC h n) (by rw [fr 9 (by omega)]; exact hn) n40 G2 z10 G3 _ (fun w => ⟨fun _ => ?_, fun y => absurd rfl y⟩) (fun w => ⟨fun y => absurd y (by decide), fun _ => hp _ _ _ _ (Or.inr (Or.inr (Or.inl ⟨by omega, h11, zGf_Sd hF G1, rfl, rfl, Or.inr (Or.inl ⟨z, ?_, rfl⟩)⟩)))⟩)
  · have nh : ¬ zqh h n := by
      rintro ⟨e, he, y⟩
      exact w ⟨e, he, (zsm_fr e).mpr y⟩
    have hK : zKq h hh no := zKq_of no (fun r hr => fr r (by omega))
    have hsq : zSq (zqC h n) (hh (20 + 1)) no (zqz h n) := zSq_of G3 zst
    refine z_run (zCat_fr hC (fun r hr => fr r (by omega))) (by omega) G2 z1 z10 (zStOk_K hno hK (Nat.le_refl _) G3 zst) _ (fun h108 r0 r1 r2 r3 r4 r5 r6 => ?_)
    obtain ⟨g1, g2, g3, g4⟩ := zgnr_K hno hK hsq z1
    rw [zcame_K hno hK hsq] at r1 r2
    rw [g1] at r3
    rw [g2] at r4
    rw [g3] at r5 r6
    have r1 : h108 12 3 = (zqc h n).1 := r1
    have r2 : h108 12 4 = (zqc h n).2 := r2
    have r3 : h108 12 5 = zgave h (zqC h n) (zqz h n) (zqf h n) := r3
    have r4 : h108 12 6 = znum h (zqC h n) (zqz h n) (zqf h n) := r4
    have r5 : h108 12 7 = nI (zrws h (zqC h n) (zqz h n) (zqf h n)).length := r5
    have r6 : ∀ i, i < (zrws h (zqC h n) (zqz h n) (zqf h n)).length → (zrws h (zqC h n) (zqz h n) (zqf h n))[i]? = some (h108 14 i) := r6
    have fr2 : ∀ r, r ≤ 10 ∨ r = 22 ∨ 24 < r → h108 r = h r := fun r hr => (r0 r (by omega)).trans (fr r hr)
    rw [r1]
    refine ⟨fun y => ?_, fun y => hp _ _ _ _ (Or.inr (Or.inr (Or.inl ⟨by omega, h11, ⟨fun r hr => fr2 r (by omega), ?_, ?_⟩, rfl, rfl, Or.inr (Or.inr ⟨z, nh, y, rfl⟩)⟩)))⟩
    · have add : ∀ v4 : Int32, v4 = zqo h n → wbBook_add_44 n ln 20 post (zlt8 h (zqC h n) (zqz h n)) v4 h108 := by
        intro v4 e4
        unfold wbBook_add_44
        have w20 : h108 20 0 = nI (zqz h n) := by rw [r0 20 (by omega)]; exact G2
        rw [fr2 9 (by omega), hn, w20, zn5, znc (by omega), znc (by omega)]
        refine ⟨zin_nI (by omega) (by omega), rfl, zn0 (by omega), by omega, _, zrws_len, r5, fun h' hz => ?_⟩
        obtain ⟨a1, a2, ⟨a3, a4, a5, a6, a7⟩, a8, a9, a10⟩ := hz
        rw [w20, zn5, znc (by omega)] at a9
        have b9 : h' 9 1 = nI (n + 1) := by
          rw [a2, pk_us, fr2 9 (by omega), hn, zp1]
        rw [b9, nI_pred]
        refine hp _ _ _ _ (Or.inr (Or.inr (Or.inr ⟨by omega, h11, z, nh, y, rfl, rfl, _, rfl, fun r hr => ?_, b9, ?_, ?_, ?_, ?_, a5, ?_, ?_, ?_, fun i hi => ?_, rfl, fun i hi => ?_⟩)))
        · rw [a1 r (by omega) (by omega)]; exact fr2 r (by omega)
        · rw [a1 19 (by omega) (by decide), r0 19 (by omega)]; exact hF.2
        · rw [a1 19 (by omega) (by decide), r0 19 (by omega)]; exact G1
        · rw [a3, e4]
        · rw [a4, r2]
        · rw [a6, r3]
        · rw [a7, r4]
        · rw [a8, w20]
        · rw [show 34 + 4 * n + 1 + 1 = 34 + 4 * n + 2 from rfl, a9 i hi, r0 21 (by omega)]; exact G3 i hi
        · rw [a10 i hi]; exact r6 i hi
      obtain ⟨o, ho, eo, -⟩ := zst (zqz h n - 1) (by omega)
      obtain ⟨m, em⟩ : ∃ m, zqz h n = m + 1 := ⟨zqz h n - 1, by omega⟩
      have w20 : h108 20 0 = nI (m + 1) := by rw [r0 20 (by omega), ← em]; exact G2
      unfold wpBook_add
      rw [w20, nI_pred]
      refine z_op (by omega) _ ?_
      have w21 : h108 (20 + 1) (5 * m) = nI o := by
        rw [r0 21 (by omega), G3 _ (by omega), ← eo, em]; rfl
      rw [w21, znc (by omega), fr2 8 (by omega)]
      refine ⟨zin_nI (by omega) (by omega), fun y18 e18 => ?_⟩
      have e8 : zlt8 h (zqC h n) (zqz h n) = h 8 o := by
        unfold zlt8
        rw [eo, znc (by omega)]
      rw [← e8] at e18
      subst e18
      rw [r1]
      unfold wbBook_add_38 wbBook_add_42
      refine ⟨fun u => add _ ?_, fun u => ?_⟩
      · rw [r1]
        unfold zqo
        rw [zdec_f (fun v => u v.1), if_neg (by decide)]
      · obtain ⟨out, det, c1, c2, c3, c4, c5⟩ := zcame_rg (K := h) (c := zqC h n) (sz := zqz h n)
        have c1 : zqc h n = (nI out, nI det) := c1
        have o0 : out = 0 := by
          rw [c1] at u
          exact (nI_eq (b := 0) (by omega) (by omega)).mp u
        refine z_knows (C := zqC h n) (sz := zqz h n) hB hn (fun r hr => fr2 r (by omega)) (c5 o0) r3 r4 r5 r6 _ (fun v => ⟨fun _ => add _ ?_, fun p => absurd rfl p⟩) (fun v => ⟨fun p => absurd p (by decide), fun _ => add _ ?_⟩)
        · rw [r1]
          unfold zqo
          rw [zdec_f (fun p => v p.2), if_neg (by decide)]
        · unfold zqo
          rw [zdec_t ⟨u, v⟩, if_pos rfl]
    · rw [r0 19 (by omega)]; exact hF.2
    · rw [r0 19 (by omega)]; exact G1
  · obtain ⟨e, he, y⟩ := w
    exact ⟨e, he, (zsm_fr e).mp y⟩
