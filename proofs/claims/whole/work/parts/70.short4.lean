/-! shortening, the second part: leaving statements out -/
def zusd (c : Nat → Int32) (sz k : Nat) : Prop := ∃ j a, k < j ∧ j < sz ∧ a < 2 ∧ c (5 * j + 1 + 2 * a) = 0 ∧ c (5 * j + 2 + 2 * a) = nI k
def zrem (c : Nat → Int32) (k i : Nat) : Int32 := if i < 5 * k then c i else if (i % 5 = 2 ∨ i % 5 = 4) ∧ c (i + 5 - 1) = 0 ∧ ¬ c (i + 5) < nI k then c (i + 5) + (-1) else c (i + 5)
theorem zrem_lo {c : Nat → Int32} {k i : Nat} (h : i < 5 * k) : zrem c k i = c i := if_pos h
theorem zrem_op {c : Nat → Int32} {k j : Nat} (h : k ≤ j) : zrem c k (5 * j) = c (5 * (j + 1)) := by
  unfold zrem
  rw [if_neg (by omega), if_neg (by omega), show 5 * j + 5 = 5 * (j + 1) by omega]
theorem zrem_f {c : Nat → Int32} {k j a : Nat} (h : k ≤ j) (ha : a < 2) : zrem c k (5 * j + 1 + 2 * a) = c (5 * (j + 1) + 1 + 2 * a) := by
  unfold zrem
  rw [if_neg (by omega), if_neg (by omega), show 5 * j + 1 + 2 * a + 5 = 5 * (j + 1) + 1 + 2 * a by omega]
theorem zrem_v {c : Nat → Int32} {k j a : Nat} (h : k ≤ j) (ha : a < 2) : zrem c k (5 * j + 2 + 2 * a) = if c (5 * (j + 1) + 1 + 2 * a) = 0 ∧ ¬ c (5 * (j + 1) + 2 + 2 * a) < nI k then c (5 * (j + 1) + 2 + 2 * a) + (-1) else c (5 * (j + 1) + 2 + 2 * a) := by
  unfold zrem
  rw [if_neg (by omega), show 5 * j + 2 + 2 * a + 5 = 5 * (j + 1) + 2 + 2 * a by omega, show 5 * (j + 1) + 2 + 2 * a - 1 = 5 * (j + 1) + 1 + 2 * a by omega]
  by_cases q : c (5 * (j + 1) + 1 + 2 * a) = 0 ∧ ¬ c (5 * (j + 1) + 2 + 2 * a) < nI k
  · rw [if_pos q, if_pos ⟨by rcases (show a = 0 ∨ a = 1 by omega) with rfl | rfl <;> omega, q⟩]
  · rw [if_neg q, if_neg (fun y => q y.2)]
/-- the new place of a variable -/
theorem zrem_nv {v k : Nat} (hv : v < 100) (hk : k < 100) (hn : v ≠ k) : (if ¬ nI v < nI k then nI v + (-1) else nI v) = nI (if v < k then v else v - 1) := by
  by_cases q : v < k
  · rw [if_neg (by rw [Classical.not_not, zlt, znI (by omega), znI (by omega)]; omega), if_pos q]
  · rw [if_pos (by rw [zlt, znI (by omega), znI (by omega)]; omega), if_neg q]
    obtain ⟨m, rfl⟩ : ∃ m, v = m + 1 := ⟨v - 1, by omega⟩
    rw [pk_m1]; rfl
noncomputable def zL2 (h : zM) (out det : Int32) (k : Nat) (S : zSS) : zSS := if zdec (zusd S.2 S.1 k) = true then S else zKeep h out det S (S.1 - 1, zrem S.2 k)
noncomputable def zP2 (h : zM) (out det : Int32) : Nat → zSS → zSS
  | 0, S => S
  | k + 1, S => zP2 h out det k (zL2 h out det k S)
theorem zrem_ok {h : zM} {no : Nat} {ty : Int32} {S : zSS} {k : Nat} (hno : no ≤ 10) (hV : zVs h no ty S) (hk : k + 2 ≤ S.1) (hu : ¬ zusd S.2 S.1 k) : zVs h no ty (S.1 - 1, zrem S.2 k) := by
  obtain ⟨v1, v2, v3, v4⟩ := hV
  have key : ∀ j a t, a < 2 → k ≤ j → j + 1 < S.1 → zArgOk h S.2 (j + 1) a t → zArgOk h (zrem S.2 k) j a t := by
    intro j a t ha hj hj2 hz
    have nk : ∀ v : Nat, S.2 (5 * (j + 1) + 1 + 2 * a) = 0 → S.2 (5 * (j + 1) + 2 + 2 * a) = nI v → v ≠ k := by
      intro v e1 e2 e3
      exact hu ⟨j + 1, a, by omega, hj2, ha, e1, by rw [e2, e3]⟩
    have pv : ∀ v : Nat, v < j + 1 → S.2 (5 * (j + 1) + 1 + 2 * a) = 0 → S.2 (5 * (j + 1) + 2 + 2 * a) = nI v → zrem S.2 k (5 * j + 2 + 2 * a) = nI (if v < k then v else v - 1) ∧ (if v < k then v else v - 1) < j ∧ zrem S.2 k (5 * (if v < k then v else v - 1)) = S.2 (5 * v) := by
      intro v hv e1 e2
      have n := nk v e1 e2
      refine ⟨?_, ?_, ?_⟩
      · rw [zrem_v hj ha, e1, e2]
        simp only [true_and]
        exact zrem_nv (by omega) (by omega) n
      · split <;> omega
      · split
        · rw [zrem_lo (by omega)]
        · rw [zrem_op (by omega), show v - 1 + 1 = v by omega]
    unfold zArgOk at *
    rcases hz with ⟨z1, z2, z3⟩ | ⟨z1, z2 | ⟨z2, v, o', z3, z4, z5, z6, z7⟩⟩ | ⟨tt, z1, z2, z3, ⟨z4, z5⟩ | ⟨z4, v, o', tg, z5, z6, z7, z8, z9, z10, z11⟩⟩
    · refine Or.inl ⟨z1, by rw [zrem_f hj ha]; exact z2, ?_⟩
      rw [zrem_v hj ha, if_neg (by rw [z2]; exact fun y => absurd y.1 (by decide))]; exact z3
    · exact Or.inr (Or.inl ⟨z1, Or.inl (by rw [zrem_f hj ha]; exact z2)⟩)
    · obtain ⟨p1, p2, p3⟩ := pv v z3 z2 z4
      exact Or.inr (Or.inl ⟨z1, Or.inr ⟨by rw [zrem_f hj ha]; exact z2, _, o', p2, p1, z5, by rw [p3]; exact z6, z7⟩⟩)
    · refine Or.inr (Or.inr ⟨tt, z1, z2, z3, Or.inl ⟨by rw [zrem_f hj ha]; exact z4, ?_⟩⟩)
      rw [zrem_v hj ha, if_neg (by rw [z4]; exact fun y => absurd y.1 (by decide))]; exact z5
    · obtain ⟨p1, p2, p3⟩ := pv v z5 z4 z6
      exact Or.inr (Or.inr ⟨tt, z1, z2, z3, Or.inr ⟨by rw [zrem_f hj ha]; exact z4, _, o', tg, p2, p1, z7, by rw [p3]; exact z8, z9, z10, z11⟩⟩)
  refine ⟨by show 1 ≤ S.1 - 1; omega, by show S.1 - 1 ≤ 10; omega, fun j hj => ?_, ?_⟩
  · have hj : j < S.1 - 1 := hj
    by_cases q : j < k
    · exact zStOk_K (sz := k) hno (zKq_of no (fun r _ => rfl)) (Nat.le_refl _) (fun i hi => zrem_lo hi) (fun k' hk' => v3 k' (by omega)) j q
    · obtain ⟨o, ho, e, x0, x1⟩ := v3 (j + 1) (by omega)
      exact ⟨o, ho, by show zrem S.2 k (5 * j) = _; rw [zrem_op (by omega)]; exact e, key j 0 _ (by omega) (by omega) (by omega) x0, key j 1 _ (by omega) (by omega) (by omega) x1⟩
  · unfold zlt8 at *
    show h 8 (Int32.toNatClampNeg (zrem S.2 k (5 * (S.1 - 1 - 1)))) = ty
    rw [zrem_op (by omega), show S.1 - 1 - 1 + 1 = S.1 - 1 by omega]; exact v4
theorem zL2_ok {h : zM} {no : Nat} {ty out det : Int32} {S : zSS} {k : Nat} (hno : no ≤ 10) (hV : zVs h no ty S) (hk : k + 2 ≤ S.1) : zVs h no ty (zL2 h out det k S) ∧ S.1 ≤ (zL2 h out det k S).1 + 1 := by
  unfold zL2
  by_cases q : zusd S.2 S.1 k
  · rw [zdec_t q, if_pos rfl]; exact ⟨hV, by omega⟩
  · rw [zdec_f q, if_neg (by decide)]
    refine ⟨zKeep_ok hV (zrem_ok hno hV hk q), ?_⟩
    unfold zKeep
    split
    · show S.1 ≤ S.1 - 1 + 1; omega
    · omega
theorem zP2_ok {h : zM} {no : Nat} {ty out det : Int32} (hno : no ≤ 10) : ∀ (k : Nat) (S : zSS), zVs h no ty S → k + 1 ≤ S.1 → zVs h no ty (zP2 h out det k S)
  | 0, S, hV, _ => hV
  | k + 1, S, hV, hk => by
    obtain ⟨a, b⟩ := zL2_ok (out := out) (det := det) hno hV (show k + 2 ≤ S.1 by omega)
    exact zP2_ok hno k _ a (by omega)
theorem z_used {o : Nat} {h : zM} {c : Nat → Int32} {sz k : Nat} (hsz : h o 0 = nI sz) (s10 : sz ≤ 10) (hk : k < sz) (hc : ∀ i, i < 5 * sz → h (o + 1) i = c i) (post : Int32 → zM → Prop) (h1 : ¬ zusd c sz k → post 0 h) (h2 : zusd c sz k → post 1 h) : wpSequence_usesLater o (nI k) h post := by
  unfold wpSequence_usesLater
  intro y3 e3
  rw [zp1] at e3
  subst e3
  refine zL_rule (fun s => s.1 = nI k ∧ s.2.2 = h ∧ ∃ j : Nat, k < j ∧ j ≤ sz ∧ s.2.1 = nI j ∧ ∀ j' a, k < j' → j' < j → a < 2 → ¬ (c (5 * j' + 1 + 2 * a) = 0 ∧ c (5 * j' + 2 + 2 * a) = nI k)) (fun s => sz - s.2.1.toNatClampNeg) ?_ (nI k, nI (k + 1), h) ⟨rfl, rfl, k + 1, by omega, by omega, rfl, fun j' a q1 q2 => by omega⟩
  rintro ⟨v1, v2, hh⟩ L ⟨x1, xh, j, j1, j2, x2, hz⟩ ih
  dsimp only at x1 xh x2 ih
  subst x1 xh x2
  unfold stSequence_usesLater_4
  dsimp only
  rw [hsz]
  refine pk_le sz j (fun q => h1 ?_) (fun q => ?_)
  · rintro ⟨j', a, q1, q2, q3, q4⟩
    exact hz j' a q1 (by omega) q3 q4
  · refine zL_rule (fun s => s.1 = nI k ∧ s.2.1 = nI j ∧ s.2.2.2 = hh ∧ ∃ a : Nat, a ≤ 2 ∧ s.2.2.1 = nI a ∧ ∀ a', a' < a → ¬ (c (5 * j + 1 + 2 * a') = 0 ∧ c (5 * j + 2 + 2 * a') = nI k)) (fun s => 2 - s.2.2.1.toNatClampNeg) ?_ (nI k, nI j, 0, hh) ⟨rfl, rfl, rfl, 0, by omega, rfl, fun a' ha' => by omega⟩
    rintro ⟨w1, w2, w3, h4⟩ L4 ⟨y1, y2, yh, a, ha, y3, hz4⟩ ih4
    dsimp only at y1 y2 yh y3 ih4
    subst y1 y2 yh y3
    unfold stSequence_usesLater_14
    dsimp only
    refine pk_le 2 a (fun q2 => ?_) (fun q2 => ?_)
    · rw [zp1]
      refine ih _ ⟨rfl, rfl, j + 1, by omega, by omega, rfl, fun j' a' p1 p2 p3 => ?_⟩ ?_
      · by_cases w : j' = j
        · subst w; exact hz4 a' (by omega)
        · exact hz j' a' p1 (by omega) p3
      · dsimp only
        rw [znc (by omega), znc (by omega)]
        omega
    · have nxt : ¬ (c (5 * j + 1 + 2 * a) = 0 ∧ c (5 * j + 2 + 2 * a) = nI k) → wbSequence_usesLater_40 o post L L4 (nI k) (nI j) (nI a) h4 := by
        intro z
        unfold wbSequence_usesLater_40
        rw [zp1]
        refine ih4 _ ⟨rfl, rfl, rfl, a + 1, by omega, rfl, fun a' ha' => ?_⟩ ?_
        · by_cases w : a' = a
          · subst w; exact z
          · exact hz4 a' (by omega)
        · dsimp only
          rw [znc (by omega), znc (by omega)]
          omega
      refine z_isVar (by omega) q2 _ (fun z => ⟨fun _ => nxt (fun w => z ?_), fun w => absurd rfl w⟩) (fun z => ⟨fun w => absurd w (by decide), fun _ => z_content (by omega) q2 _ ⟨fun w => nxt (fun y => w ?_), fun w => h2 ⟨j, a, j1, q, q2, ?_, ?_⟩⟩⟩)
      · rw [hc _ (by omega)]; exact w.1
      · rw [hc _ (by omega)]; exact y.2
      · rw [← hc _ (by omega)]; exact z
      · rw [← hc _ (by omega)]; exact w
theorem z_remove {h : zM} {c : Nat → Int32} {sz k : Nat} (hsz : h 26 0 = nI sz) (s10 : sz ≤ 10) (hk : k + 2 ≤ sz) (hc : ∀ i, i < 5 * sz → h 27 i = c i) (post : zM → Prop) (hp : ∀ h', (∀ r, r ≠ 26 → r ≠ 27 → h' r = h r) → h' 26 0 = nI (sz - 1) → (∀ i, i < 5 * (sz - 1) → h' 27 i = zrem c k i) → post h') : wpSequence_remove 26 (nI k) h post := by
  unfold wpSequence_remove
  intro y5 e5
  rw [zp1, zn5] at e5
  subst e5
  rw [hsz, zn5, zn5, pk_sub (by omega), znc (by omega), znc (by omega), znc (by omega)]
  refine ⟨zn0 (by omega), zn0 (by omega), zn0 (by omega), by omega, by omega, fun h26' e26 h36 e36 => ?_⟩
  have f0 : h26' 26 = h 26 := by rw [e26, va_up_ne _ _ (by decide)]
  obtain ⟨m, em⟩ : ∃ m, sz = m + 1 := ⟨sz - 1, by omega⟩
  rw [f0, hsz, em, nI_pred] at e36
  have g0 : h36 26 0 = nI m := by rw [e36, zux]
  have g27 : h36 (26 + 1) = va_cpy (h 27) (h 27) (5 * (k + 1)) (5 * k) (5 * sz - 5 * (k + 1)) := by rw [e36, zuo (by decide), e26, va_up_self]
  refine z_move (sz := m) (f := k) g0 (by omega) (by omega) _ (fun h' k1 k2 => hp h' (fun r r1 r2 => ?_) ?_ (fun i hi => ?_))
  · rw [k1 r (by omega), e36, zuo r1, e26, va_up_ne _ _ (by omega)]
  · rw [k1 26 (by omega), g0, em]; rfl
  · rw [show (27 : Nat) = 26 + 1 from rfl, k2 i, g27]
    unfold zmv zrem
    by_cases i1 : i < 5 * k
    · rw [if_neg (by omega), if_pos i1, pk_cpy_out (by omega)]; exact hc i (by omega)
    · rw [if_neg i1]
      have ci : va_cpy (h 27) (h 27) (5 * (k + 1)) (5 * k) (5 * sz - 5 * (k + 1)) i = c (i + 5) := by
        rw [pk_cpy_in (by omega) (by omega), show 5 * (k + 1) + (i - 5 * k) = i + 5 by omega]; exact hc _ (by omega)
      rw [ci]
      by_cases i2 : i % 5 = 2 ∨ i % 5 = 4
      · have ci1 : va_cpy (h 27) (h 27) (5 * (k + 1)) (5 * k) (5 * sz - 5 * (k + 1)) (i - 1) = c (i + 5 - 1) := by
          rw [pk_cpy_in (by omega) (by omega), show 5 * (k + 1) + (i - 1 - 5 * k) = i + 5 - 1 by omega]; exact hc _ (by omega)
        rw [ci1]
        by_cases q : c (i + 5 - 1) = 0 ∧ ¬ c (i + 5) < nI k
        · rw [if_pos ⟨by omega, by omega, i2, q.1, q.2⟩, if_pos ⟨i2, q⟩]
        · rw [if_neg (fun y => q y.2.2.2), if_neg (fun y => q y.2)]
      · rw [if_neg (fun y => i2 y.2.2.1), if_neg (fun y => i2 y.1)]
def zdn : Nat → Int32
  | 0 => -1
  | k + 1 => nI k
theorem zdn_2 {sz : Nat} (h1 : 1 ≤ sz) (h10 : sz ≤ 10) : nI sz - 2 = zdn (sz - 1) := by
  rcases Nat.lt_or_ge 1 sz with q | q
  · obtain ⟨m, rfl⟩ : ∃ m, sz = m + 2 := ⟨sz - 2, by omega⟩
    rw [show (2 : Int32) = nI 2 from rfl, pk_sub (by omega)]
    rfl
  · have : sz = 1 := by omega
    subst this
    decide
theorem zdn_m {k : Nat} : nI k + (-1) = zdn k := by
  cases k with
  | zero => decide
  | succ k => exact pk_m1 k
theorem z_ph2 {n : Nat} {ln : Nat → Nat} {h g hh : zM} {nc no e : Nat} {ty : Int32} {S : zSS} (hC : zCat h g nc no) (hH : zHs h hh e S) (hV : zVs h no ty S) (post : zM → Prop) (hp : ∀ h', zHs h h' e (zP2 h (h (34 + 4 * e) 1) (h (34 + 4 * e) 2) (S.1 - 1) S) → post h') : wpShortener_dropStatements n ln e hh post := by
  have hno := hC.2.1
  unfold wpShortener_dropStatements
  intro y9 e9
  rw [hH.2.1, zdn_2 hV.1 hV.2.1] at e9
  subst e9
  have s1 := hV.1
  have s10 := hV.2.1
  refine zL_rule (fun s => ∃ (k : Nat) (S' : zSS), k < 10 ∧ s.1 = zdn k ∧ zHs h s.2 e S' ∧ zVs h no ty S' ∧ k + 1 ≤ S'.1 ∧ zP2 h (h (34 + 4 * e) 1) (h (34 + 4 * e) 2) k S' = zP2 h (h (34 + 4 * e) 1) (h (34 + 4 * e) 2) (S.1 - 1) S) (fun s => if s.1 < 0 then 0 else s.1.toNatClampNeg + 1) ?_ (zdn (S.1 - 1), hh) ⟨S.1 - 1, S, by omega, rfl, hH, hV, by omega, rfl⟩
  rintro ⟨v2, h2⟩ L ⟨k, S', hk, e2, H', V', ks, ez⟩ ih
  dsimp only at e2 H' ih
  subst e2
  unfold stShortener_dropStatements_10
  dsimp only
  cases k with
  | zero =>
    refine ⟨fun _ => hp h2 ?_, fun q => absurd (by decide) q⟩
    have ez : S' = _ := ez
    rw [← ez]; exact H'
  | succ k =>
    have ev : zdn (k + 1) = nI k := rfl
    rw [ev] at ih ⊢
    obtain ⟨V3, s3⟩ := zL2_ok (out := h (34 + 4 * e) 1) (det := h (34 + 4 * e) 2) hno V' (show k + 2 ≤ S'.1 by omega)
    have ez : zP2 h (h (34 + 4 * e) 1) (h (34 + 4 * e) 2) k (zL2 h (h (34 + 4 * e) 1) (h (34 + 4 * e) 2) k S') = _ := ez
    have nxt : ∀ h', zHs h h' e (zL2 h (h (34 + 4 * e) 1) (h (34 + 4 * e) 2) k S') → wbShortener_dropStatements_49 n ln e post L (nI k) h' := by
      intro h' H3
      unfold wbShortener_dropStatements_49
      rw [zdn_m]
      refine ih _ ⟨k, _, by omega, rfl, H3, V3, by omega, ez⟩ ?_
      dsimp only
      rw [if_neg (zn0 (by omega)), znc (by omega)]
      cases k with
      | zero => rw [if_pos (by decide)]; omega
      | succ k =>
        rw [show zdn (k + 1) = nI k from rfl, if_neg (zn0 (by omega)), znc (by omega)]; omega
    refine ⟨fun q => absurd q (zn0 (by omega)), fun _ => ?_⟩
    obtain ⟨f1, f2, f3⟩ := id H'
    have v10 := V'.2.1
    refine z_used f2 v10 (by omega) f3 _ (fun z => ⟨fun w => absurd rfl w, fun _ => ?_⟩) (fun z => ⟨fun _ => nxt h2 ?_, fun w => absurd w (by decide)⟩)
    · refine z_copy (o := 26) (o1 := 34 + 4 * e + 1) (m := S'.1) (by omega) f2 v10 _ (fun h20 k1 k2 k3 => ?_)
      refine z_remove (c := S'.2) k2 v10 (by omega) (fun i hi => (k3 i hi).trans (f3 i hi)) _ (fun h30 l1 l2 l3 => ?_)
      have eL : zL2 h (h (34 + 4 * e) 1) (h (34 + 4 * e) 2) k S' = zKeep h (h (34 + 4 * e) 1) (h (34 + 4 * e) 2) S' (S'.1 - 1, zrem S'.2 k) := by
        unfold zL2
        rw [zdec_f z, if_neg (by decide)]
      refine z_keep (S := S') (S' := (S'.1 - 1, zrem S'.2 k)) hC ⟨fun r hr => ?_, ?_, fun i hi => ?_⟩ l2 l3 (zrem_ok hno V' (by omega) z) _ (fun h'' y6 => nxt h'' (by rw [eL]; exact y6))
      · rw [l1 r (by omega) (by omega), k1 r (by omega) (by omega)]; exact f1 r hr
      · rw [l1 _ (by omega) (by omega), k1 _ (by omega) (by omega)]; exact f2
      · rw [l1 _ (by omega) (by omega), k1 _ (by omega) (by omega)]; exact f3 i hi
    · unfold zL2
      rw [zdec_t z, if_pos rfl]; exact H'
