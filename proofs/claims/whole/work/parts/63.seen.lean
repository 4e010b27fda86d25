/-! has the shape been seen -/
theorem zshp_eq {K : zM} {c c' : Nat → Int32} {sz sz' : Nat} {r r' : Int32 × Nat × Nat × zM} (h0 : r.1 = 0) (h0' : r'.1 = 0) : (zgave K c sz r = zgave K c' sz' r' ∧ znum K c sz r = znum K c' sz' r' ∧ zrws K c sz r = zrws K c' sz' r') ↔ zshp K c sz r = zshp K c' sz' r' := by
  unfold zgave znum zrws zshp
  rw [if_pos h0, if_pos h0', if_pos h0, if_pos h0', if_pos h0, if_pos h0']
  by_cases a : zlt8 K c sz = 0
  · rw [if_pos a, if_pos a, if_pos a, if_pos a]
    by_cases b : zlt8 K c' sz' = 0
    · rw [if_pos b, if_pos b, if_pos b, if_pos b]
      constructor
      · rintro ⟨-, z, -⟩; rw [z]
      · intro z
        have z := (List.cons.inj (List.cons.inj z).2).1
        exact ⟨rfl, z, rfl⟩
    · rw [if_neg b, if_neg b, if_neg b, if_neg b]
      constructor
      · rintro ⟨z, -⟩
        split at z <;> exact absurd z (by decide)
      · intro z
        have z := (List.cons.inj z).1
        split at z <;> exact absurd z (by decide)
  · rw [if_neg a, if_neg a, if_neg a, if_neg a]
    by_cases b : zlt8 K c' sz' = 0
    · rw [if_pos b, if_pos b, if_pos b, if_pos b]
      constructor
      · rintro ⟨z, -⟩
        split at z <;> exact absurd z (by decide)
      · intro z
        have z := (List.cons.inj z).1
        split at z <;> exact absurd z (by decide)
    · rw [if_neg b, if_neg b, if_neg b, if_neg b]
      by_cases x : r.2.2.2 3 (sz - 1) = -1
      · by_cases y : r'.2.2.2 3 (sz' - 1) = -1
        · rw [if_pos x, if_pos y, if_pos x, if_pos y]
          exact ⟨fun z => by rw [z.2.2], fun z => ⟨rfl, rfl, (List.cons.inj z).2⟩⟩
        · rw [if_pos x, if_neg y, if_pos x, if_neg y]
          exact ⟨fun z => absurd z.1 (by decide), fun z => absurd (List.cons.inj z).1 (by decide)⟩
      · by_cases y : r'.2.2.2 3 (sz' - 1) = -1
        · rw [if_neg x, if_pos y, if_neg x, if_pos y]
          exact ⟨fun z => absurd z.1 (by decide), fun z => absurd (List.cons.inj z).1 (by decide)⟩
        · rw [if_neg x, if_neg y, if_neg x, if_neg y]
          exact ⟨fun z => by rw [z.2.2], fun z => ⟨rfl, rfl, (List.cons.inj z).2⟩⟩
theorem zrws_len {K : zM} {c : Nat → Int32} {sz : Nat} {r : Int32 × Nat × Nat × zM} : (zrws K c sz r).length ≤ 20 := by
  unfold zrws
  split
  · split
    · exact Nat.zero_le _
    · exact zrow_len 10 _
  · exact Nat.zero_le _
theorem zshp_len {K : zM} {c : Nat → Int32} {sz : Nat} {r : Int32 × Nat × Nat × zM} : (zshp K c sz r).length ≤ 21 := by
  unfold zshp
  split
  · simp only [List.length_cons, List.length_nil]; omega
  · have := zrow_len (x := r.2.2.2) 10 (r.2.2.2 3 (sz - 1))
    simp only [List.length_cons]
    omega
theorem zlist_eq {L L' : List Int32} {a b : Nat → Int32} (hL : ∀ i, i < L.length → L[i]? = some (a i)) (hL' : ∀ i, i < L'.length → L'[i]? = some (b i)) : L = L' ↔ (L.length = L'.length ∧ ∀ i, i < L.length → a i = b i) := by
  constructor
  · rintro rfl
    refine ⟨rfl, fun i hi => ?_⟩
    have := (hL i hi).symm.trans (hL' i hi)
    exact Option.some.inj this
  · rintro ⟨h1, h2⟩
    apply List.ext_getElem?
    intro i
    by_cases q : i < L.length
    · rw [hL i q, hL' i (by omega), h2 i q]
    · rw [List.getElem?_eq_none (by omega), List.getElem?_eq_none (by omega)]
theorem z_hasShape {n : Nat} {ln : Nat → Nat} {h : zM} {e : Nat} {L L' : List Int32} (hl : ln e = L'.length) (l20 : L'.length ≤ 20) (h20 : L.length ≤ 20) (hL' : ∀ i, i < ln e → L'[i]? = some (h (34 + 4 * e + 3) i)) (h7 : h 12 7 = nI L.length) (hL : ∀ i, i < L.length → L[i]? = some (h 14 i)) (post : Int32 → zM → Prop) (h1 : ¬ (h (34 + 4 * e) 4 = h 12 5 ∧ h (34 + 4 * e) 5 = h 12 6 ∧ L' = L) → post 0 h) (h2 : (h (34 + 4 * e) 4 = h 12 5 ∧ h (34 + 4 * e) 5 = h 12 6 ∧ L' = L) → post 1 h) : wpEntry_hasShapeOf n ln e h post := by
  rw [zlist_eq (by rw [← hl]; exact hL') hL] at h1 h2
  unfold wpEntry_hasShapeOf
  refine ⟨fun q => h1 (fun z => q z.1), fun q => ⟨fun q2 => h1 (fun z => q2 z.2.1), fun q2 => ?_⟩⟩
  rw [h7, hl]
  refine ⟨fun q3 => ?_, fun q3 => h1 (fun z => q3 (by rw [z.2.2.1]))⟩
  have q3 : L'.length = L.length := (nI_eq (by omega) (by omega)).mp q3
  refine zL_rule (fun s => s.2 = h ∧ ∃ i : Nat, i ≤ L'.length ∧ s.1 = nI i ∧ ∀ j, j < i → h (34 + 4 * e + 3) j = h 14 j) (fun s => L'.length - s.1.toNatClampNeg) ?_ (0, h) ⟨rfl, 0, by omega, rfl, fun j hj => by omega⟩
  rintro ⟨v2, hh⟩ K ⟨eh, i, hi, e2, hz⟩ ih
  dsimp only at eh e2 ih
  subst eh e2
  unfold stEntry_hasShapeOf_38
  dsimp only
  rw [znc (by omega), hl]
  refine pk_le L'.length i (fun q4 => h2 ⟨q, q2, q3, fun j hj => hz j (by omega)⟩) (fun q4 => ⟨zin_nI q4 (by omega), zin_nI (by omega) (by omega), fun z => ?_, fun z => h1 (fun y => z (y.2.2.2 i q4))⟩)
  rw [zp1]
  refine ih _ ⟨rfl, i + 1, by omega, rfl, fun j hj => ?_⟩ ?_
  · by_cases w : j = i
    · rw [w]; exact z
    · exact hz j (by omega)
  · dsimp only
    rw [znc (by omega), znc (by omega)]
    omega
/-- what an entry's run leaves -/
noncomputable def zesh (h : zM) (e : Nat) : List Int32 := zshp h (h (34 + 4 * e + 1 + 1)) (Int32.toNatClampNeg (h (34 + 4 * e + 1) 0)) (zfin h (h (34 + 4 * e + 1 + 1)) (Int32.toNatClampNeg (h (34 + 4 * e + 1) 0)))
theorem zEnt_esh {h g : zM} {ln : Nat → Nat} {no e : Nat} (hE : zEnt h g ln no e) : ∃ m, h (34 + 4 * e + 1) 0 = nI m ∧ 1 ≤ m ∧ m ≤ 10 ∧ zesh h e = zshp h (h (34 + 4 * e + 1 + 1)) m (zfin h (h (34 + 4 * e + 1 + 1)) m) := by
  obtain ⟨m, out, det, a1, a2, a3, -⟩ := hE
  refine ⟨m, a3, a1, a2, ?_⟩
  unfold zesh
  rw [a3, znc (by omega)]
theorem z_knows {n : Nat} {ln : Nat → Nat} {h g hh : zM} {nc no sz : Nat} {C : Nat → Int32} (hB : zBk n ln h g nc no) (h9 : h 9 1 = nI n) (hF : ∀ r, r < 11 ∨ 33 < r → hh r = h r) (h0 : (zfin h C sz).1 = 0) (h5 : hh 12 5 = zgave h C sz (zfin h C sz)) (h6 : hh 12 6 = znum h C sz (zfin h C sz)) (h7 : hh 12 7 = nI (zrws h C sz (zfin h C sz)).length) (h14 : ∀ i, i < (zrws h C sz (zfin h C sz)).length → (zrws h C sz (zfin h C sz))[i]? = some (hh 14 i)) (post : Int32 → zM → Prop) (h1 : ¬ (∃ e, e < n ∧ h (34 + 4 * e) 1 = 0 ∧ zesh h e = zshp h C sz (zfin h C sz)) → post 0 hh) (h2 : (∃ e, e < n ∧ h (34 + 4 * e) 1 = 0 ∧ zesh h e = zshp h C sz (zfin h C sz)) → post 1 hh) : wpBook_knowsShape n ln hh post := by
  have n40 := hB.2.1
  unfold wpBook_knowsShape
  refine zL_rule (fun s => s.2 = hh ∧ ∃ e : Nat, e ≤ n ∧ s.1 = nI e ∧ ∀ e', e' < e → ¬ (h (34 + 4 * e') 1 = 0 ∧ zesh h e' = zshp h C sz (zfin h C sz))) (fun s => n - s.1.toNatClampNeg) ?_ (0, hh) ⟨rfl, 0, by omega, rfl, fun e he => by omega⟩
  rintro ⟨v2, h'⟩ L ⟨eh, e, he, e2, hz⟩ ih
  dsimp only at eh e2 ih
  subst eh e2
  unfold stBook_knowsShape_2
  dsimp only
  rw [hF 9 (by omega), h9, znc (by omega), hF (34 + 4 * e) (by omega)]
  refine pk_le n e (fun q => h1 ?_) (fun q => ?_)
  · rintro ⟨e', he', z⟩
    exact hz e' (by omega) z
  · have nxt : ¬ (h (34 + 4 * e) 1 = 0 ∧ zesh h e = zshp h C sz (zfin h C sz)) → wbBook_knowsShape_37 n ln post L (nI e) h' := by
      intro z
      unfold wbBook_knowsShape_37
      rw [zp1]
      refine ih _ ⟨rfl, e + 1, by omega, rfl, fun e' he' => ?_⟩ ?_
      · by_cases w : e' = e
        · rw [w]; exact z
        · exact hz e' (by omega)
      · dsimp only
        rw [znc (by omega), znc (by omega)]
        omega
    have ie : vp_in (nI e) 40 := zin_nI (by omega) (by omega)
    refine ⟨ie, q, fun z => nxt (fun w => z w.1), fun z => ⟨ie, q, ?_⟩⟩
    obtain ⟨m, m1, m2, m3, m4⟩ := zEnt_esh (hB.2.2.2 e q)
    obtain ⟨m', out, det, a1, a2, a3, a4, a5, a6, a7, a8, a9, b1, b2, b3, b4, b5, b6⟩ := hB.2.2.2 e q
    obtain rfl : m' = m := (nI_eq (by omega) (by omega)).mp (a3.symm.trans m1)
    have o0 : out = 0 := (nI_eq (b := 0) (by omega) (by omega)).mp (a8.symm.trans z)
    subst o0
    obtain ⟨y1, y2, y3, y4, y5⟩ := b6 (by decide)
    have key : (h' (34 + 4 * e) 4 = h' 12 5 ∧ h' (34 + 4 * e) 5 = h' 12 6 ∧ zrws h (h (34 + 4 * e + 1 + 1)) m' (zfin h (h (34 + 4 * e + 1 + 1)) m') = zrws h C sz (zfin h C sz)) ↔ zesh h e = zshp h C sz (zfin h C sz) := by
      rw [m4, ← zshp_eq y1 h0, hF (34 + 4 * e) (by omega), h5, h6, y2, y3]
    refine z_hasShape y4 zrws_len zrws_len (fun i hi => by rw [hF (34 + 4 * e + 3) (by omega)]; exact y5 i hi) h7 h14 _ (fun w => ⟨fun _ => nxt (fun y => w (key.mpr y.2)), fun y => absurd rfl y⟩) (fun w => ⟨fun y => absurd y (by decide), fun _ => h2 ⟨e, q, z, key.mp w⟩⟩)
def mSn (g g' : zM) : Prop := ∀ r s, (r = 0 ∧ s ≠ 11 ∧ s ≠ 25 ∧ (s < 30 ∨ 35 < s)) ∨ (r ≠ 0 ∧ (r < 8 ∨ (10 < r ∧ r < 20) ∨ 25 < r)) → g' r s = g r s
theorem mSn_tr {g g' g'' : zM} (a : mSn g g') (b : mSn g' g'') : mSn g g'' := fun r s hr => (b r s hr).trans (a r s hr)
theorem zBk_n {n : Nat} {ln : Nat → Nat} {h g g' : zM} {nc no : Nat} (hB : zBk n ln h g nc no) (hf : mSn g g') : zBk n ln h g' nc no := ⟨zCat_g hB.1 (fun r s hr => hf r s (by omega)), hB.2.1, by rw [hf 0 17 (by omega)]; exact hB.2.2.1, fun e he => zEnt_g (fun r s r1 r2 => hf r s (by omega)) (hB.2.2.2 e he)⟩
theorem m_seen {n : Nat} {ln : Nat → Nat} {h g : zM} {nc no : Nat} {W : List Int32} (hB : zBk n ln h g nc no) (h33 : g 0 33 = nI W.length) (w21 : W.length ≤ 21) (h24 : ∀ i, i < W.length → W[i]? = some (g 24 i)) (post : Int32 → zM → Prop) (h1 : ¬ (∃ e, e < n ∧ h (34 + 4 * e) 1 = 0 ∧ zesh h e = W) → ∀ g', mSn g g' → post 0 g') (h2 : (∃ e, e < n ∧ h (34 + 4 * e) 1 = 0 ∧ zesh h e = W) → ∀ g', mSn g g' → post 1 g') : wpMod_seen g post := by
  have n40 := hB.2.1
  unfold wpMod_seen
  intro g5 e5
  rw [h33] at e5
  refine zL_rule (fun s => ∃ i : Nat, i ≤ W.length ∧ s.1 = nI i ∧ (∀ r t, r ≠ 25 → s.2 r t = g5 r t) ∧ ∀ j, j < i → W[j]? = some (s.2 25 j)) (fun s => W.length - s.1.toNatClampNeg) ?_ (0, g5) ⟨0, by omega, rfl, fun _ _ _ => rfl, fun j hj => by omega⟩
  rintro ⟨v1, gg⟩ L ⟨i, hi, e1, f1, f2⟩ ih
  dsimp only at e1 f1 f2 ih
  subst e1
  have w33 : gg 0 33 = nI W.length := by rw [f1 0 33 (by decide), e5, zun (by decide), h33]
  unfold stMod_seen_10
  dsimp only
  rw [w33, znc (by omega)]
  refine pk_le W.length i (fun q => ?_) (fun q => ⟨zin_nI (by omega) (by omega), zin_nI (by omega) (by omega), fun h29 e29 => ?_⟩)
  · have : i = W.length := by omega
    subst this
    have S0 : mSn g gg := by
      intro r s hr
      rw [f1 r s (by omega), e5, zun (by omega)]
    have w35 : gg 0 35 = nI W.length := by rw [f1 0 35 (by decide), e5, zux]
    clear ih L f1
    refine zL_rule (fun s => mSn g s.2.2 ∧ s.2.2 0 35 = nI W.length ∧ (∀ j, j < W.length → W[j]? = some (s.2.2 25 j)) ∧ ∃ e : Nat, e ≤ n ∧ s.2.1 = nI e ∧ s.1 = (if zdec (∃ e', e' < e ∧ h (34 + 4 * e') 1 = 0 ∧ zesh h e' = W) = true then 1 else 0)) (fun s => n - s.2.1.toNatClampNeg) ?_ (0, 0, gg) ⟨S0, w35, f2, 0, by omega, rfl, ?_⟩
    · rintro ⟨v1, v2, g2⟩ L ⟨hS, k35, k25, e, he, e2, e1⟩ ih
      dsimp only at hS k35 k25 e1 e2 ih
      subst e2
      have hB2 := zBk_n hB hS
      unfold stMod_seen_40
      dsimp only
      rw [hB2.2.2.1]
      by_cases P : ∃ e', e' < e ∧ h (34 + 4 * e') 1 = 0 ∧ zesh h e' = W
      · rw [zdec_t P, if_pos rfl] at e1
        subst e1
        obtain ⟨e', x1, x2⟩ := P
        have y := h2 ⟨e', by omega, x2⟩ g2 hS
        exact ⟨fun _ => ⟨Or.inr rfl, y⟩, fun _ => ⟨fun _ => ⟨Or.inr rfl, y⟩, fun w => absurd w (by decide)⟩⟩
      · rw [zdec_f P, if_neg (by decide)] at e1
        subst e1
        refine pk_le n e (fun q => ⟨Or.inl rfl, h1 (fun y => P ?_) g2 hS⟩) (fun q => ⟨fun w => absurd rfl w, fun _ => ⟨zin_nI (by omega) (by omega), ?_⟩⟩)
        · have : e = n := by omega
          rw [this]; exact y
        · obtain ⟨m, m1, m2, m3, m4⟩ := zEnt_esh (hB2.2.2.2 e q)
          obtain ⟨m', out, det, a1, a2, a3, a4, a5, a6, a7, a8, a9, b1, b2, b3, b4, b5, b6⟩ := hB2.2.2.2 e q
          obtain rfl : m' = m := (nI_eq (by omega) (by omega)).mp (a3.symm.trans m1)
          have nxt : ∀ (w : Int32) (g' : zM), mSn g g' → g' 0 35 = nI W.length → (∀ j, j < W.length → W[j]? = some (g' 25 j)) → w = (if zdec (∃ e', e' < e + 1 ∧ h (34 + 4 * e') 1 = 0 ∧ zesh h e' = W) = true then 1 else 0) → wbMod_seen_128 post L w (nI e) g' := by
            intro w g' c1 c2 c3 ew
            unfold wbMod_seen_128
            rw [zp1]
            refine ih _ ⟨c1, c2, c3, e + 1, by omega, rfl, ew⟩ ?_
            dsimp only
            rw [znc (by omega), znc (by omega)]
            omega
          have no' : ∀ (g' : zM), mSn g g' → g' 0 35 = nI W.length → (∀ j, j < W.length → W[j]? = some (g' 25 j)) → ¬ (h (34 + 4 * e) 1 = 0 ∧ zesh h e = W) → wbMod_seen_128 post L 0 (nI e) g' := by
            intro g' c1 c2 c3 z
            refine nxt 0 g' c1 c2 c3 ?_
            rw [zdec_f, if_neg (by decide)]
            rintro ⟨e', x1, x2⟩
            by_cases u : e' = e
            · subst u; exact z x2
            · exact P ⟨e', by omega, x2⟩
          rw [znc (by omega), a9]
          refine ⟨fun z => no' g2 hS k35 k25 (fun w => z (by rw [← a8]; exact w.1)), fun z => ?_⟩
          have o0 : out = 0 := (nI_eq (b := 0) (by omega) (by omega)).mp z
          subst o0
          obtain ⟨y1, -⟩ := b6 (by decide)
          refine m_load (by omega) a4 a2 _ (fun g3 l1 l2 l3 => ?_)
          have S3 : mSn g2 g3 := fun r s hr => l1 r s (by omega) (by omega) (by omega) (by omega)
          have hB3 := zBk_n hB2 S3
          refine m_run (c := h (34 + 4 * e + 1 + 1)) hB3.1 l2 a1 a2 a5 (fun k hk => mCp_sq (l3 k hk) (a6 k hk)) _ (fun g4 r1 r2 r3 r4 r5 => ?_)
          obtain ⟨-, s1, s2⟩ := r5 y1
          rw [← m4] at s1 s2
          have sl : (zesh h e).length ≤ 21 := by rw [m4]; exact zshp_len
          have S4 : mSn g g4 := mSn_tr hS (mSn_tr S3 (fun r s hr => r1 r s (by omega)))
          have c35 : g4 0 35 = nI W.length := by rw [r1 0 35 (by omega), l1 0 35 (by omega) (by omega) (by omega) (by omega)]; exact k35
          have c25 : ∀ j, j < W.length → W[j]? = some (g4 25 j) := fun j hj => by rw [r1 25 j (by omega), l1 25 j (by omega) (by omega) (by omega) (by omega)]; exact k25 j hj
          have le := zlist_eq s2 c25
          have lp : ∀ v : Int32, v = (if zdec ((zesh h e).length = W.length) = true then 1 else 0) → wbMod_seen_86 post L (nI e) v g4 := by
            intro v ev
            unfold wbMod_seen_86
            refine zL_rule (fun s => s.2.1 = nI e ∧ s.2.2.2 = g4 ∧ ∃ i : Nat, i ≤ W.length ∧ s.2.2.1 = nI i ∧ s.1 = (if zdec ((zesh h e).length = W.length ∧ ∀ j, j < i → g4 24 j = g4 25 j) = true then 1 else 0)) (fun s => W.length - s.2.2.1.toNatClampNeg) ?_ (v, nI e, 0, g4) ⟨rfl, rfl, 0, by omega, rfl, ?_⟩
            · rintro ⟨w1, w2, w3, g6⟩ L6 ⟨x2, xg, i, hi, x3, x1⟩ ih6
              dsimp only at x1 x2 x3 xg ih6
              subst x2 x3 xg
              unfold stMod_seen_89
              dsimp only
              rw [c35, znc (by omega)]
              by_cases Q : (zesh h e).length = W.length ∧ ∀ j, j < i → g6 24 j = g6 25 j
              · rw [zdec_t Q, if_pos rfl] at x1
                subst x1
                refine pk_le W.length i (fun q2 => nxt 1 g6 S4 c35 c25 ?_) (fun q2 => ⟨fun w => absurd w (by decide), fun _ => ⟨zin_nI (by omega) (by omega), zin_nI (by omega) (by omega), ?_⟩⟩)
                · have : i = W.length := by omega
                  subst this
                  rw [zdec_t ⟨e, by omega, a8, le.mpr ⟨Q.1, fun j hj => Q.2 j (by omega)⟩⟩, if_pos rfl]
                · have nx : ∀ r : Int32, r = (if zdec ((zesh h e).length = W.length ∧ ∀ j, j < i + 1 → g6 24 j = g6 25 j) = true then 1 else 0) → wbMod_seen_121 post L L6 (nI e) (nI i) r g6 := by
                    intro r er
                    unfold wbMod_seen_121
                    rw [zp1]
                    refine ih6 _ ⟨rfl, rfl, i + 1, by omega, rfl, er⟩ ?_
                    dsimp only
                    rw [znc (by omega), znc (by omega)]
                    omega
                  refine ⟨fun w => nx 0 ?_, fun w => nx 1 ?_⟩
                  · rw [zdec_f, if_neg (by decide)]
                    exact fun y => w (y.2 i (by omega))
                  · rw [zdec_t, if_pos rfl]
                    refine ⟨Q.1, fun j hj => ?_⟩
                    by_cases u : j = i
                    · rw [u]; exact w
                    · exact Q.2 j (by omega)
              · rw [zdec_f Q, if_neg (by decide)] at x1
                subst x1
                have f0 := no' g6 S4 c35 c25 (fun y => Q ⟨(le.mp y.2).1, fun j hj => (le.mp y.2).2 j (by have := (le.mp y.2).1; omega)⟩)
                exact pk_le W.length i (fun _ => f0) (fun _ => ⟨fun _ => f0, fun w => absurd rfl w⟩)
            · show v = _
              rw [ev]
              by_cases Q : (zesh h e).length = W.length
              · rw [zdec_t Q, zdec_t ⟨Q, fun j hj => by omega⟩]
              · rw [zdec_f Q, zdec_f (fun y => Q y.1)]
          rw [s1, c35]
          refine ⟨fun w => lp 0 ?_, fun w => lp 1 ?_⟩
          · rw [zdec_f (fun y => w (by rw [y])), if_neg (by decide)]
          · rw [zdec_t ((nI_eq (by omega) (by omega)).mp w), if_pos rfl]
    · show (0 : Int32) = _
      rw [zdec_f, if_neg (by decide)]
      rintro ⟨e', x, -⟩
      omega
  · rw [zp1]
    refine ih _ ⟨i + 1, by omega, rfl, fun r t hr => ?_, fun j hj => ?_⟩ ?_
    · show h29 r t = _
      rw [e29, zuo hr]; exact f1 r t hr
    · show _ = some (h29 25 j)
      rw [e29]
      by_cases u : j = i
      · subst u
        rw [zux, f1 24 j (by decide), e5, zuo (by decide)]
        exact h24 j q
      · rw [zun (Or.inr u)]
        exact f2 j (by omega)
    · dsimp only
      rw [znc (by omega), znc (by omega)]
      omega
