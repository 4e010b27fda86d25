def mSk (n : Nat) (g g' : zM) : Prop := (∀ r s, (r = 0 ∧ (s = 1 ∨ s = 5 ∨ s = 9 ∨ s = 37)) ∨ (1 ≤ r ∧ r ≤ 7) ∨ r = 26 → g' r s = g r s) ∧ (∀ s, s < n → g' 13 s = g 13 s ∧ g' 17 s = g 17 s ∧ g' 18 s = g 18 s ∧ g' 19 s = g 19 s) ∧ ∀ b, b < 10 * n → mCp (g 14) (g 15) (g 16) (g' 14) (g' 15) (g' 16) b b
theorem mSk_tr {n : Nat} {g g' g'' : zM} (a : mSk n g g') (b : mSk n g' g'') : mSk n g g'' := ⟨fun r s hr => (b.1 r s hr).trans (a.1 r s hr), fun s hs => ⟨(b.2.1 s hs).1.trans (a.2.1 s hs).1, (b.2.1 s hs).2.1.trans (a.2.1 s hs).2.1, (b.2.1 s hs).2.2.1.trans (a.2.1 s hs).2.2.1, (b.2.1 s hs).2.2.2.trans (a.2.1 s hs).2.2.2⟩, fun b' hb => mCp_tr (a.2.2 b' hb) (b.2.2 b' hb)⟩
theorem mSk_of {n : Nat} {g g' : zM} (hf : ∀ r s, (r = 0 ∧ (s = 1 ∨ s = 5 ∨ s = 9 ∨ s = 37)) ∨ (1 ≤ r ∧ r ≤ 7) ∨ r = 26 ∨ (13 ≤ r ∧ r ≤ 19) → g' r s = g r s) : mSk n g g' := ⟨fun r s hr => hf r s (by omega), fun s _ => ⟨hf 13 s (by omega), hf 17 s (by omega), hf 18 s (by omega), hf 19 s (by omega)⟩, fun b _ => ⟨hf 14 b (by omega), fun a _ => ⟨hf 15 _ (by omega), hf 16 _ (by omega)⟩⟩⟩
theorem zEnt_k {h g g' : zM} {ln ln' : Nat → Nat} {no e n : Nat} (hl : ln' e = ln e) (he : e < n) (hk : mSk n g g') (hE : zEnt h g ln no e) : zEnt h g' ln' no e := by
  obtain ⟨sz, out, det, a1, a2, a3, a4, a5, a6, a7, a8, a9, b1, b2, b3, b4, b5, b6⟩ := hE
  obtain ⟨c1, c2, c3, c4⟩ := hk.2.1 e he
  refine ⟨sz, out, det, a1, a2, a3, c1.trans a4, a5, fun k hk' => mCp_sq (hk.2.2 _ (by omega)) (a6 k hk'), a7, a8, c2.trans a9, b1, b2, c3.trans b3, b4, b5.trans c4.symm, fun q => by rw [hl]; exact b6 q⟩
theorem zEnt_r {h h' g : zM} {ln : Nat → Nat} {no e : Nat} (h10 : no ≤ 10) (hK : zKq h h' no) (hf : ∀ r, 34 + 4 * e ≤ r → r ≤ 34 + 4 * e + 3 → h' r = h r) (he : zEnt h g ln no e) : zEnt h' g ln no e := by
  obtain ⟨sz, out, det, a1, a2, a3, a4, a5, a6, a7, a8, a9, b1, b2, b3, b4, b5, b6⟩ := he
  have f0 := hf (34 + 4 * e) (by omega) (by omega)
  have f1 := hf (34 + 4 * e + 1) (by omega) (by omega)
  have f2 := hf (34 + 4 * e + 1 + 1) (by omega) (by omega)
  have f3 := hf (34 + 4 * e + 3) (by omega) (by omega)
  refine ⟨sz, out, det, a1, a2, ?_, a4, ?_, ?_, a7, ?_, a9, b1, ?_, b3, ?_, ?_, fun q => ?_⟩
  · rw [f1]; exact a3
  · exact zStOk_K h10 hK (Nat.le_refl _) (fun i _ => by rw [f2]) a5
  · rw [f2]; exact a6
  · rw [f0]; exact a8
  · rw [f0]; exact b2
  · rw [f0, f2, zlt8_K h10 hK (zSq_rf a5) a1]; exact b4
  · rw [f0]; exact b5
  · rw [f0, f2, f3]; exact zGot_K h10 hK a1 (zSq_rf a5) (b6 q)
theorem zR_sd {n : Nat} {ln : Nat → Nat} {h h1 g g' : zM} {s' : Int32} (hR : zR n ln h g) (hz : zSd h h1 s') (hk : mSk n g g') (h0 : g' 0 0 = s') (h17 : g' 0 17 = nI n) : zR n ln h1 g' := by
  obtain ⟨nc, no, hC, hn0, ⟨nl, l1, l2, l3, l4, l5⟩, hs, ⟨d, d1, d2, d3, d4⟩, n40, hn, gn, he⟩ := hR
  have hK : zKq h h1 no := zKq_of no (fun r hr => hz.1 r (by omega))
  refine ⟨nc, no, zCat_g (zCat_fr hC (fun r hr => hz.1 r (by omega))) (fun r s hr => hk.1 r s (by omega)), hn0, ⟨nl, l1, l2, ?_, ?_, fun i hi => ?_⟩, ?_, ⟨d, d1, ?_, ?_, fun i hi => ?_⟩, n40, ?_, h17, fun e hl => zEnt_k rfl hl hk (zEnt_r hC.2.1 hK (fun r r1 r2 => hz.1 r (by omega)) (he e hl))⟩
  · rw [hz.2.1]; exact l3
  · rw [hk.1 0 9 (by omega)]; exact l4
  · rw [hz.1 22 (by omega), hk.1 7 i (by omega)]; exact l5 i hi
  · rw [hz.2.2, h0]
  · rw [hz.1 30 (by omega)]; exact d2
  · rw [hk.1 0 37 (by omega)]; exact d3
  · rw [hz.1 31 (by omega), hk.1 26 i (by omega)]; exact d4 i hi
  · rw [hz.1 9 (by omega)]; exact hn
def mNe (h g' : zM) (n : Nat) : Prop := g' 13 n = nI (zqz h n) ∧ (∀ k, k < zqz h n → mSq (zqC h n) (g' 14) (g' 15) (g' 16) k (10 * n + k)) ∧ g' 17 n = zqo h n ∧ g' 18 n = (zqc h n).2 ∧ g' 19 n = znum h (zqC h n) (zqz h n) (zqf h n)
theorem zR_new {n : Nat} {ln : Nat → Nat} {h h1 g g' : zM} {k : Nat} (hR : zR n ln h g) (n40' : n < 40) (h11 : h 1 1 ≠ 0) (hc : zGcd h n (h 19 6) = 0) (hc4 : (zqc h n).1 ≠ 4) (hz : zNw h h1 n k) (hk : mSk n g g') (h0 : g' 0 0 = zGsd h n (h 19 6)) (h17 : g' 0 17 = nI (n + 1)) (hne : mNe h g' n) : zR (n + 1) (va_up ln n k) h1 g' := by
  obtain ⟨nc, no, hC, hn0, ⟨nl, l1, l2, l3, l4, l5⟩, hs, ⟨d, d1, d2, d3, d4⟩, n40, hn, gn, he⟩ := hR
  have hno := hC.2.1
  have no1 : 1 ≤ no := by
    rcases Nat.eq_zero_or_pos no with w | w
    · subst w; exact absurd hC.2.2.2.2.1 h11
    · exact w
  have hB : zBk n ln h g nc no := ⟨hC, n40, gn, he⟩
  obtain ⟨z1, z2, z3, z4, z5, z6, z7, z8, z9, z10, z11, z12, z13⟩ := hz
  have hK : zKq h h1 no := zKq_of no (fun r hr => z1 r (by omega))
  refine ⟨nc, no, zCat_g (zCat_fr hC (fun r hr => z1 r (by omega))) (fun r s hr => hk.1 r s (by omega)), fun w => by omega, ⟨nl, l1, l2, ?_, ?_, fun i hi => ?_⟩, ?_, ⟨d, d1, ?_, ?_, fun i hi => ?_⟩, by omega, z2, h17, fun e hl => ?_⟩
  · rw [z3]; exact l3
  · rw [hk.1 0 9 (by omega)]; exact l4
  · rw [z1 22 (by omega), hk.1 7 i (by omega)]; exact l5 i hi
  · rw [z4, h0]
  · rw [z1 30 (by omega)]; exact d2
  · rw [hk.1 0 37 (by omega)]; exact d3
  · rw [z1 31 (by omega), hk.1 26 i (by omega)]; exact d4 i hi
  · by_cases w : e = n
    · subst w
      obtain ⟨-, -, y10, yst⟩ := zGr_ok hB no1 hc
      have y1 : 1 ≤ zqz h e := by unfold zqz zGsz; omega
      have y10 : zqz h e ≤ 10 := y10
      have yst : ∀ k, k < zqz h e → zStOk h (zqC h e) no k := yst
      have hsq : zSq (zqC h e) (h1 (34 + 4 * e + 1 + 1)) no (zqz h e) := zSq_of z11 yst
      obtain ⟨out, det, c1, c2, c3, c4, c5⟩ := zcame_rg (K := h) (c := zqC h e) (sz := zqz h e)
      have c1 : zqc h e = (nI out, nI det) := c1
      obtain ⟨m1, m2, m3, m4, m5⟩ := hne
      have eo : ∃ o2 : Nat, o2 ≤ 3 ∧ zqo h e = nI o2 ∧ (o2 < 2 → (zfin h (zqC h e) (zqz h e)).1 = 0) := by
        unfold zqo
        by_cases q : (zqc h e).1 = 0 ∧ zqs h e
        · rw [zdec_t q, if_pos rfl]
          refine ⟨1, by omega, rfl, fun _ => c5 ?_⟩
          have := q.1
          rw [c1] at this
          exact (nI_eq (b := 0) (by omega) (by omega)).mp this
        · rw [zdec_f q, if_neg (by decide), c1]
          rw [c1] at hc4
          refine ⟨out, ?_, rfl, fun w => c5 (by omega)⟩
          rcases Nat.lt_or_ge out 4 with w | w
          · omega
          · have : out = 4 := by omega
            subst this
            exact absurd rfl hc4
      obtain ⟨o2, o3, eo2, ofn⟩ := eo
      refine ⟨zqz h e, o2, det, y1, y10, z10, m1, zStOk_K hno hK (Nat.le_refl _) z11 yst, fun k' hk' => mSq_c hk' z11 (m2 k' hk'), o3, by rw [z5, eo2], by rw [m3, eo2], c4, by rw [z6, c1], by rw [m4, c1], by rw [z7, zlt8_K hno hK hsq y1], by rw [z9, m5], fun q => ?_⟩
      refine zGot_K hno hK y1 hsq ⟨ofn q, z8, z9, ?_, fun i hi => z13 i ?_⟩
      · rw [va_up_self]; exact z12
      · rw [va_up_self] at hi; exact hi
    · exact zEnt_k (va_up_ne ln k w) (by omega) hk (zEnt_r hno hK (fun r r1 r2 => z1 r (by omega)) (he e (by omega)))
theorem m_stepT {n : Nat} {ln : Nat → Nat} {h h1 g : zM} {r : Int32} {n1 : Nat} {ln1 : Nat → Nat} (hR : zR n ln h g) (hT : zT n ln h r n1 ln1 h1) (post : Int32 → zM → Prop) (hp : ∀ g1, zR n1 ln1 h1 g1 → post r g1) : wpMod_step g post := by
  have hR0 := hR
  obtain ⟨nc, no, hC, h0, ⟨nl, l1, l2, l3, l4, l5⟩, hs, hd, n40, hn, gn, he⟩ := hR
  have hno := hC.2.1
  have hB : zBk n ln h g nc no := ⟨hC, n40, gn, he⟩
  rcases hT with ⟨nf, rfl, rfl, rfl, rfl⟩ | ⟨nf, e11, rfl, rfl, rfl, rfl⟩ | ⟨nf, e11, hz, rfl, rfl, hcase⟩ | ⟨nf, e11, hc, nh, hc4, rfl, rfl, k, rfl, hz⟩
  · unfold wpMod_step
    rw [gn, nf]
    exact ⟨fun q => absurd rfl q, fun _ => hp g hR0⟩
  · unfold wpMod_step
    have g5 : g 0 5 = 0 := by rw [hC.2.2.2.2.2.1, ← hC.2.2.2.2.1]; exact e11
    rw [gn]
    refine ⟨fun _ => ⟨fun q => absurd g5 q, fun _ => hp g hR0⟩, fun q => ?_⟩
    have : n1 = 40 := (nI_eq (b := 40) (by omega) (by omega)).mp q
    omega
  · have no1 : 1 ≤ no := by
      rcases Nat.eq_zero_or_pos no with w | w
      · subst w; exact absurd hC.2.2.2.2.1 e11
      · exact w
    refine m_step1 hB nf no1 l3 l1 l2 l4 l5 hs.symm post (fun z g' f1 f2 => ?_) (fun z g' G => ?_)
    · rcases hcase with ⟨y, rfl⟩ | ⟨y, -⟩ | ⟨y, -⟩
      · exact hp g' (zR_sd hR0 hz (mSk_of (fun r s hr => f1 r s (by omega))) f2 (by rw [f1 0 17 (by omega)]; exact gn))
      · exact absurd y z
      · exact absurd y z
    · obtain ⟨-, -, z10, zst⟩ := zGr_ok hB no1 z
      have z1 : 1 ≤ zqz h n1 := by unfold zqz zGsz; omega
      have z10 : zqz h n1 ≤ 10 := z10
      have zst : ∀ k, k < zqz h n1 → zStOk h (zqC h n1) no k := zst
      have G4 : ∀ k, k < zqz h n1 → mSq (zqC h n1) (g' 8) (g' 9) (g' 10) k k := G.2.2.2
      refine m_known (zBk_g hB G.1) G.2.2.1 z1 z10 zst G4 _ (fun w => ⟨fun _ => ?_, fun y => absurd rfl y⟩) (fun w => ⟨fun y => absurd y (by decide), fun _ => ?_⟩)
      · rcases hcase with ⟨y, -⟩ | ⟨-, y, -⟩ | ⟨-, y, y4, rfl⟩
        · exact absurd z y
        · exact absurd y w
        · unfold wpMod_entered
          intro y4' e4
          rw [G.1 0 17 (by omega), gn] at e4
          subst e4
          refine m_store (by omega) G.2.2.1 z10 _ (fun g2 s1 s2 s3 s4 s5 => ?_)
          refine m_run (c := zqC h n1) (nc := nc) (no := no) (zCat_g (zBk_g hB G.1).1 (fun r s hr => s1 r s (by omega))) (by rw [s1 0 11 (by omega)]; exact G.2.2.1) z1 z10 zst (fun k hk => ?_) _ (fun g3 r1 r2 r3 r4 r5 => ?_)
          · rw [show g2 8 = g' 8 from funext fun s => s1 8 s (by omega), show g2 9 = g' 9 from funext fun s => s1 9 s (by omega), show g2 10 = g' 10 from funext fun s => s1 10 s (by omega)]
            exact G4 k hk
          · have r3 : g3 0 31 = 4 := r3.trans y4
            refine ⟨fun u => absurd r3 u, fun _ => hp g3 (zR_sd hR0 hz ?_ ?_ ?_)⟩
            · refine mSk_tr (mSk_of (fun r s hr => G.1 r s (by omega))) (mSk_tr ?_ (mSk_of (fun r s hr => r1 r s (by omega))))
              exact ⟨fun r s hr => s1 r s (by omega), fun s hs' => ⟨s2 s (by omega), s1 17 s (by omega), s1 18 s (by omega), s1 19 s (by omega)⟩, fun b hb => s3 b (by omega)⟩
            · rw [r1 0 0 (by omega), s1 0 0 (by omega)]; exact G.2.1
            · rw [r1 0 17 (by omega), s1 0 17 (by omega), G.1 0 17 (by omega)]; exact gn
      · rcases hcase with ⟨y, -⟩ | ⟨-, y, rfl⟩ | ⟨-, y, -⟩
        · exact absurd z y
        · exact hp g' (zR_sd hR0 hz (mSk_of (fun r s hr => G.1 r s (by omega))) G.2.1 (by rw [G.1 0 17 (by omega)]; exact gn))
        · exact absurd w y
  · have no1 : 1 ≤ no := by
      rcases Nat.eq_zero_or_pos no with w | w
      · subst w; exact absurd hC.2.2.2.2.1 e11
      · exact w
    refine m_step1 hB nf no1 l3 l1 l2 l4 l5 hs.symm post (fun z => absurd hc z) (fun z g' G => ?_)
    obtain ⟨-, -, z10, zst⟩ := zGr_ok hB no1 z
    have z1 : 1 ≤ zqz h n := by unfold zqz zGsz; omega
    have z10 : zqz h n ≤ 10 := z10
    have zst : ∀ k, k < zqz h n → zStOk h (zqC h n) no k := zst
    have G4 : ∀ k, k < zqz h n → mSq (zqC h n) (g' 8) (g' 9) (g' 10) k k := G.2.2.2
    have G3 : g' 0 11 = nI (zqz h n) := G.2.2.1
    refine m_known (zBk_g hB G.1) G.2.2.1 z1 z10 zst G4 _ (fun w => ⟨fun _ => ?_, fun y => absurd rfl y⟩) (fun w => absurd w nh)
    unfold wpMod_entered
    intro y4' e4
    rw [G.1 0 17 (by omega), gn] at e4
    subst e4
    refine m_store (by omega) G.2.2.1 z10 _ (fun g2 s1 s2 s3 s4 s5 => ?_)
    have hC2 : zCat h g2 nc no := zCat_g (zBk_g hB G.1).1 (fun r s hr => s1 r s (by omega))
    have s5 : ∀ k, k < zqz h n → mCp (g' 8) (g' 9) (g' 10) (g2 14) (g2 15) (g2 16) k (10 * n + k) := s5
    have s4 : g2 13 n = nI (zqz h n) := s4
    refine m_run (c := zqC h n) (nc := nc) (no := no) hC2 (by rw [s1 0 11 (by omega)]; exact G.2.2.1) z1 z10 zst (fun k hk => ?_) _ (fun g3 r1 r2 r3 r4 r5 => ?_)
    · rw [show g2 8 = g' 8 from funext fun s => s1 8 s (by omega), show g2 9 = g' 9 from funext fun s => s1 9 s (by omega), show g2 10 = g' 10 from funext fun s => s1 10 s (by omega)]
      exact G4 k hk
    have r3 : g3 0 31 = (zqc h n).1 := r3
    have r4 : g3 0 32 = (zqc h n).2 := r4
    have r2 : g3 0 30 = (zqf h n).1 := r2
    have r5 : (zqf h n).1 = 0 → g3 23 (zqz h n - 1) = (zqf h n).2.2.2 3 (zqz h n - 1) ∧ g3 0 33 = nI (zshp h (zqC h n) (zqz h n) (zqf h n)).length ∧ ∀ i, i < (zshp h (zqC h n) (zqz h n) (zqf h n)).length → (zshp h (zqC h n) (zqz h n) (zqf h n))[i]? = some (g3 24 i) := r5
    refine ⟨fun _ => ⟨zin_nI (by omega) (by omega), fun h34 e34 => ?_⟩, fun u => absurd (r3.symm.trans u) hc4⟩
    rw [znc (by omega), r4] at e34
    -- the entry's memory, from here on
    have K3 : mSk n g g3 := by
      refine mSk_tr (mSk_of (fun r s hr => G.1 r s (by omega))) (mSk_tr ?_ (mSk_of (fun r s hr => r1 r s (by omega))))
      exact ⟨fun r s hr => s1 r s (by omega), fun s hs' => ⟨s2 s (by omega), s1 17 s (by omega), s1 18 s (by omega), s1 19 s (by omega)⟩, fun b hb => s3 b (by omega)⟩
    have up : ∀ (r' : Nat) (v : Int32) (ga : zM), (r' = 17 ∨ r' = 18 ∨ r' = 19) → mSk n ga (zu ga r' n v) := by
      intro r' v ga hr'
      refine ⟨fun r s hr => zun (by omega), fun s hs' => ⟨zun (by omega), zun (by omega), zun (by omega), zun (by omega)⟩, fun b hb => ?_⟩
      rw [zuo (by omega), zuo (by omega), zuo (by omega)]
      exact mCp_rf
    have T : ∀ ga : zM, mSk n g ga → ga 0 0 = zGsd h n (h 19 6) → ga 0 17 = nI n → ga 13 n = nI (zqz h n) → (∀ k, k < zqz h n → mSq (zqC h n) (ga 14) (ga 15) (ga 16) k (10 * n + k)) → ga 17 n = zqo h n → ga 18 n = (zqc h n).2 → ga 19 n = znum h (zqC h n) (zqz h n) (zqf h n) → wbMod_entered_102 post (nI n) ga := by
      intro ga k1 k2 k3 k4 k5 k6 k7 k8
      unfold wbMod_entered_102
      intro h109 e109
      rw [k3, zp1] at e109
      refine hp h109 (zR_new hR0 nf e11 hc hc4 hz (mSk_tr k1 (mSk_of (fun r s hr => ?_))) ?_ ?_ ⟨?_, fun k' hk' => ?_, ?_, ?_, ?_⟩)
      · rw [e109, zun (by omega)]
      · rw [e109, zun (by decide)]; exact k2
      · rw [e109, zux]
      · rw [e109, zuo (by decide)]; exact k4
      · rw [e109, zuo (by decide), zuo (by decide), zuo (by decide)]; exact k5 k' hk'
      · rw [e109, zuo (by decide)]; exact k6
      · rw [e109, zuo (by decide)]; exact k7
      · rw [e109, zuo (by decide)]; exact k8
    have E70 : ∀ v : Int32, v = znum h (zqC h n) (zqz h n) (zqf h n) → wbMod_entered_70 post (nI n) (nI n) v h34 := by
      intro v ev
      unfold wbMod_entered_70
      rw [znc (by omega)]
      have i41 : vp_in (nI n) 41 := zin_nI (by omega) (by omega)
      refine ⟨i41, fun h70 e70 => ⟨i41, fun h80 e80 => ?_⟩⟩
      have x31 : h70 0 31 = (zqc h n).1 := by rw [e70, zuo (by decide), e34, zuo (by decide)]; exact r3
      rw [x31] at e80
      have K80 : mSk n g h80 := by
        rw [e80, e70, e34]
        exact mSk_tr K3 (mSk_tr (up 18 _ _ (by omega)) (mSk_tr (up 19 _ _ (by omega)) (up 17 _ _ (by omega))))
      have fr80 : ∀ r s, r ≠ 17 → r ≠ 18 → r ≠ 19 → h80 r s = g3 r s := by
        intro r s q1 q2 q3
        rw [e80, zuo q1, e70, zuo q3, e34, zuo q2]
      have y0 : h80 0 0 = zGsd h n (h 19 6) := by rw [fr80 0 0 (by decide) (by decide) (by decide), r1 0 0 (by omega), s1 0 0 (by omega)]; exact G.2.1
      have y17 : h80 0 17 = nI n := by rw [fr80 0 17 (by decide) (by decide) (by decide), r1 0 17 (by omega), s1 0 17 (by omega), G.1 0 17 (by omega)]; exact gn
      have y13 : h80 13 n = nI (zqz h n) := by rw [fr80 13 n (by decide) (by decide) (by decide), r1 13 n (by omega)]; exact s4
      have ysq : ∀ k, k < zqz h n → mSq (zqC h n) (h80 14) (h80 15) (h80 16) k (10 * n + k) := by
        intro k' hk'
        rw [show h80 14 = g2 14 from funext fun s => by rw [fr80 14 s (by decide) (by decide) (by decide), r1 14 s (by omega)], show h80 15 = g2 15 from funext fun s => by rw [fr80 15 s (by decide) (by decide) (by decide), r1 15 s (by omega)], show h80 16 = g2 16 from funext fun s => by rw [fr80 16 s (by decide) (by decide) (by decide), r1 16 s (by omega)]]
        exact mCp_sq (s5 k' hk') (G4 k' hk')
      have y18 : h80 18 n = (zqc h n).2 := by rw [e80, zuo (by decide), e70, zuo (by decide), e34, zux]
      have y19 : h80 19 n = znum h (zqC h n) (zqz h n) (zqf h n) := by rw [e80, zuo (by decide), e70, zux, ev]
      have z17 : h80 17 n = (zqc h n).1 := by rw [e80, zux]
      rw [fr80 0 31 (by decide) (by decide) (by decide), r3]
      refine ⟨fun u => T h80 K80 y0 y17 y13 ysq ?_ y18 y19, fun u => ?_⟩
      · rw [z17]
        unfold zqo
        rw [zdec_f (fun p => u p.1), if_neg (by decide)]
      · obtain ⟨out, det, c1, c2, c3, c4, c5⟩ := zcame_rg (K := h) (c := zqC h n) (sz := zqz h n)
        have c1 : zqc h n = (nI out, nI det) := c1
        have o0 : out = 0 := by
          rw [c1] at u
          exact (nI_eq (b := 0) (by omega) (by omega)).mp u
        obtain ⟨-, t1, t2⟩ := r5 (c5 o0)
        have hB80 : zBk n ln h h80 nc no := ⟨zCat_g hC (fun r s hr => K80.1 r s (by omega)), n40, y17, fun e' he' => zEnt_k rfl he' K80 (he e' he')⟩
        have fin : ∀ g', mSn h80 g' → mSk n g g' ∧ g' 0 0 = zGsd h n (h 19 6) ∧ g' 0 17 = nI n ∧ g' 13 n = nI (zqz h n) ∧ (∀ k, k < zqz h n → mSq (zqC h n) (g' 14) (g' 15) (g' 16) k (10 * n + k)) ∧ g' 17 n = (zqc h n).1 ∧ g' 18 n = (zqc h n).2 ∧ g' 19 n = znum h (zqC h n) (zqz h n) (zqf h n) := by
          intro g' hS
          refine ⟨mSk_tr K80 (mSk_of (fun r s hr => hS r s (by omega))), by rw [hS 0 0 (by omega)]; exact y0, by rw [hS 0 17 (by omega)]; exact y17, by rw [hS 13 n (by omega)]; exact y13, fun k' hk' => ?_, by rw [hS 17 n (by omega)]; exact z17, by rw [hS 18 n (by omega)]; exact y18, by rw [hS 19 n (by omega)]; exact y19⟩
          rw [show g' 14 = h80 14 from funext fun s => hS 14 s (by omega), show g' 15 = h80 15 from funext fun s => hS 15 s (by omega), show g' 16 = h80 16 from funext fun s => hS 16 s (by omega)]
          exact ysq k' hk'
        refine m_seen (W := zshp h (zqC h n) (zqz h n) (zqf h n)) hB80 (by rw [fr80 0 33 (by decide) (by decide) (by decide)]; exact t1) zshp_len (fun i hi => by rw [fr80 24 i (by decide) (by decide) (by decide)]; exact t2 i hi) _ (fun p g5 hS => ⟨fun _ => ?_, fun y => absurd rfl y⟩) (fun p g5 hS => ⟨fun y => absurd y (by decide), fun _ => ⟨i41, fun h101 e101 => ?_⟩⟩)
        · obtain ⟨k1, k2, k3, k4, k5, k6, k7, k8⟩ := fin g5 hS
          refine T g5 k1 k2 k3 k4 k5 ?_ k7 k8
          rw [k6]
          unfold zqo
          rw [zdec_f (fun v => p v.2), if_neg (by decide)]
        · obtain ⟨k1, k2, k3, k4, k5, k6, k7, k8⟩ := fin g5 hS
          refine T h101 ?_ ?_ ?_ ?_ (fun k' hk' => ?_) ?_ ?_ ?_
          · rw [e101]; exact mSk_tr k1 (up 17 _ _ (by omega))
          · rw [e101, zuo (by decide)]; exact k2
          · rw [e101, zuo (by decide)]; exact k3
          · rw [e101, zuo (by decide)]; exact k4
          · rw [e101, zuo (by decide), zuo (by decide), zuo (by decide)]; exact k5 k' hk'
          · rw [e101, zux]
            unfold zqo
            rw [zdec_t ⟨u, p⟩, if_pos rfl]
          · rw [e101, zuo (by decide)]; exact k7
          · rw [e101, zuo (by decide)]; exact k8
    have x30 : h34 0 30 = (zqf h n).1 := by rw [e34, zuo (by decide)]; exact r2
    rw [x30]
    unfold wbMod_entered_69
    refine ⟨fun u => E70 0 ?_, fun u => ?_⟩
    · unfold znum
      rw [if_neg u]
    · obtain ⟨o, ho, eo, -⟩ := zst (zqz h n - 1) (by omega)
      have e8 : zlt8 h (zqC h n) (zqz h n) = h 8 o := by
        unfold zlt8
        rw [eo, znc (by omega)]
      have q34 : ∀ r s, r ≠ 18 → h34 r s = g3 r s := fun r s hr => by rw [e34, zuo hr]
      have hC34 : zCat h h34 nc no := zCat_g hC2 (fun r s hr => by rw [q34 r s (by omega), r1 r s (by omega)])
      refine m_typeOf hC34 (by omega) (by rw [q34 13 n (by decide), r1 13 n (by omega)]; exact s4) z1 z10 ho ?_ _ ⟨fun v => E70 0 ?_, fun v => ⟨?_, ?_⟩⟩
      · rw [q34 14 _ (by decide), r1 14 _ (by omega), (mCp_sq (s5 (zqz h n - 1) (by omega)) (G4 (zqz h n - 1) (by omega))).1]; exact eo
      · unfold znum
        rw [if_pos u, e8, if_neg v]
      · rw [q34 0 11 (by decide), r1 0 11 (by omega), s1 0 11 (by omega), G3]
        obtain ⟨m, em⟩ : ∃ m, zqz h n = m + 1 := ⟨zqz h n - 1, by omega⟩
        rw [em, nI_pred]
        exact zin_nI (by omega) (by omega)
      · refine E70 _ ?_
        rw [q34 0 11 (by decide), r1 0 11 (by omega), s1 0 11 (by omega), G3]
        obtain ⟨m, em⟩ : ∃ m, zqz h n = m + 1 := ⟨zqz h n - 1, by omega⟩
        have := (r5 u).1
        unfold znum
        rw [if_pos u, e8, if_pos v, ← this, em, nI_pred, znc (by omega), q34 23 _ (by decide)]
        rfl
