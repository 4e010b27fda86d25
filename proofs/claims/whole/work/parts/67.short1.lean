/-! shortening: trying a sequence and keeping it -/
theorem z_copy {o o1 : Nat} {h : zM} {m : Nat} (h1 : o1 ≠ o + 1) (hm : h o1 0 = nI m) (m10 : m ≤ 10) (post : zM → Prop) (hp : ∀ h', (∀ r, r ≠ o → r ≠ o + 1 → h' r = h r) → h' o 0 = nI m → (∀ i, i < 5 * m → h' (o + 1) i = h (o1 + 1) i) → post h') : wpSequence_copy o o1 h post := by
  unfold wpSequence_copy
  rw [hm, zn5, znc0, znc (by omega)]
  refine ⟨by decide, by decide, zn0 (by omega), by omega, by omega, fun h16 e16 h24 e24 => ?_⟩
  rw [show h16 o1 = h o1 by rw [e16, va_up_ne _ _ h1], hm] at e24
  refine hp h24 (fun r r1 r2 => ?_) ?_ (fun i hi => ?_)
  · rw [e24, zuo r1, e16, va_up_ne _ _ r2]
  · rw [e24, zux]
  · rw [e24, zuo (by omega), e16, va_up_self, pk_cpy_in (by omega) (by omega), Nat.zero_add, Nat.sub_zero]
abbrev zSS := Nat × (Nat → Int32)
noncomputable def zKeep (h : zM) (out det : Int32) (S S' : zSS) : zSS := if (zcame h S'.2 (zfin h S'.2 S'.1)).1 = out ∧ (zcame h S'.2 (zfin h S'.2 S'.1)).2 = det then S' else S
def zVs (h : zM) (no : Nat) (ty : Int32) (S : zSS) : Prop := 1 ≤ S.1 ∧ S.1 ≤ 10 ∧ (∀ k, k < S.1 → zStOk h S.2 no k) ∧ zlt8 h S.2 S.1 = ty
theorem zKeep_ok {h : zM} {no : Nat} {ty out det : Int32} {S S' : zSS} (hS : zVs h no ty S) (hS' : zVs h no ty S') : zVs h no ty (zKeep h out det S S') := by
  unfold zKeep
  split
  · exact hS'
  · exact hS
def zHs (h hh : zM) (e : Nat) (S : zSS) : Prop := (∀ r, r < 12 ∨ (18 < r ∧ r ≠ 26 ∧ r ≠ 27 ∧ r ≠ 34 + 4 * e + 1 ∧ r ≠ 34 + 4 * e + 1 + 1) → hh r = h r) ∧ hh (34 + 4 * e + 1) 0 = nI S.1 ∧ ∀ i, i < 5 * S.1 → hh (34 + 4 * e + 1 + 1) i = S.2 i
theorem z_keep {n : Nat} {ln : Nat → Nat} {h g hh : zM} {nc no e : Nat} {ty : Int32} {S S' : zSS} (hC : zCat h g nc no) (hH : zHs h hh e S) (h26 : hh 26 0 = nI S'.1) (h27 : ∀ i, i < 5 * S'.1 → hh 27 i = S'.2 i) (hV : zVs h no ty S') (post : zM → Prop) (hp : ∀ h', zHs h h' e (zKeep h (h (34 + 4 * e) 1) (h (34 + 4 * e) 2) S S') → post h') : wpShortener_keepIfSame n ln e hh post := by
  have hno := hC.2.1
  obtain ⟨v1, v2, v3, v4⟩ := hV
  obtain ⟨hF, H1, H2⟩ := hH
  have fr : ∀ r, r ≤ 8 → hh r = h r := fun r hr => hF r (by omega)
  have hK : zKq h hh no := zKq_of no fr
  have hsq : zSq S'.2 (hh (26 + 1)) no S'.1 := zSq_of h27 v3
  unfold wpShortener_keepIfSame
  refine z_run (zCat_fr hC fr) (by omega) h26 v1 v2 (zStOk_K hno hK (Nat.le_refl _) h27 v3) _ (fun h8 r0 r1 r2 r3 r4 r5 r6 => ?_)
  rw [zcame_K hno hK hsq] at r1 r2
  have e0 : h8 (34 + 4 * e) = h (34 + 4 * e) := (r0 _ (by omega)).trans (hF _ (by omega))
  rw [e0, r1, r2]
  have stay : ¬ ((zcame h S'.2 (zfin h S'.2 S'.1)).1 = h (34 + 4 * e) 1 ∧ (zcame h S'.2 (zfin h S'.2 S'.1)).2 = h (34 + 4 * e) 2) → post h8 := by
    intro q
    refine hp h8 ?_
    unfold zKeep
    rw [if_neg q]
    exact ⟨fun r hr => (r0 r (by omega)).trans (hF r hr), by rw [r0 _ (by omega)]; exact H1, fun i hi => by rw [r0 _ (by omega)]; exact H2 i hi⟩
  refine ⟨fun q => stay (fun z => q z.1), fun q => ⟨fun q2 => stay (fun z => q2 z.2), fun q2 => ?_⟩⟩
  refine z_copy (o := 34 + 4 * e + 1) (o1 := 26) (m := S'.1) (by omega) (by rw [r0 26 (by omega)]; exact h26) v2 _ (fun h' k1 k2 k3 => hp h' ?_)
  unfold zKeep
  rw [if_pos ⟨q, q2⟩]
  refine ⟨fun r hr => ?_, k2, fun i hi => ?_⟩
  · rw [k1 r (by omega) (by omega), r0 r (by omega)]; exact hF r hr
  · rw [k3 i hi, r0 (26 + 1) (by omega)]; exact h27 i hi
def mHf (e : Nat) (g gg : zM) : Prop := (∀ r s, (r = 0 ∧ s ≠ 11 ∧ s ≠ 25 ∧ (s < 30 ∨ 33 < s)) ∨ (r ≠ 0 ∧ (r < 8 ∨ r = 11 ∨ r = 12 ∨ (16 < r ∧ r < 20) ∨ 24 < r)) → gg r s = g r s) ∧ (∀ s, s ≠ e → gg 13 s = g 13 s) ∧ ∀ b, b < 10 * e ∨ 10 * e + 10 ≤ b → mCp (g 14) (g 15) (g 16) (gg 14) (gg 15) (gg 16) b b
theorem mHf_tr {e : Nat} {g g' g'' : zM} (a : mHf e g g') (b : mHf e g' g'') : mHf e g g'' := ⟨fun r s hr => (b.1 r s hr).trans (a.1 r s hr), fun s hs => (b.2.1 s hs).trans (a.2.1 s hs), fun b' hb => mCp_tr (a.2.2 b' hb) (b.2.2 b' hb)⟩
theorem mHf_of {e : Nat} {g gg : zM} (hf : ∀ r s, (r = 0 ∧ s ≠ 11 ∧ s ≠ 25 ∧ (s < 30 ∨ 33 < s)) ∨ (r ≠ 0 ∧ (r < 8 ∨ (10 < r ∧ r < 20) ∨ 24 < r)) → gg r s = g r s) : mHf e g gg := ⟨fun r s hr => hf r s (by omega), fun s _ => hf 13 s (by omega), fun b _ => ⟨hf 14 b (by omega), fun a _ => ⟨hf 15 _ (by omega), hf 16 _ (by omega)⟩⟩⟩
def mWk (gg : zM) (S : zSS) : Prop := gg 0 11 = nI S.1 ∧ ∀ k, k < S.1 → mSq S.2 (gg 8) (gg 9) (gg 10) k k
def mSd (g gg : zM) (e : Nat) (S : zSS) : Prop := mHf e g gg ∧ gg 13 e = nI S.1 ∧ ∀ k, k < S.1 → mSq S.2 (gg 14) (gg 15) (gg 16) k (10 * e + k)
theorem m_settle {h g gg : zM} {nc no e : Nat} {ty : Int32} {S S' : zSS} (hC : zCat h g nc no) (he : e ≤ 40) (e17 : g 17 e = h (34 + 4 * e) 1) (e18 : g 18 e = h (34 + 4 * e) 2) (hD : mSd g gg e S) (s10 : S.1 ≤ 10) (hW : mWk gg S') (hV : zVs h no ty S') (post : zM → Prop) (hp : ∀ g', mSd g g' e (zKeep h (h (34 + 4 * e) 1) (h (34 + 4 * e) 2) S S') → mWk g' (zKeep h (h (34 + 4 * e) 1) (h (34 + 4 * e) 2) S S') → post g') : wpMod_settle (nI e) gg post := by
  obtain ⟨v1, v2, v3, v4⟩ := hV
  obtain ⟨hF, D1, D2⟩ := hD
  unfold wpMod_settle
  refine m_run (c := S'.2) (zCat_g hC (fun r s hr => hF.1 r s (by omega))) hW.1 v1 v2 v3 hW.2 _ (fun g1 r1 r2 r3 r4 r5 => ?_)
  have F1 : mHf e gg g1 := mHf_of (fun r s hr => r1 r s (by omega))
  have ie : vp_in (nI e) 41 := zin_nI (by omega) (by omega)
  rw [znc (by omega), r3, r4, r1 17 e (by omega), r1 18 e (by omega), hF.1 17 e (by omega), hF.1 18 e (by omega), e17, e18]
  have D1' : g1 13 e = nI S.1 := by rw [r1 13 e (by omega)]; exact D1
  have D2' : ∀ k, k < S.1 → mSq S.2 (g1 14) (g1 15) (g1 16) k (10 * e + k) := by
    intro k hk
    rw [show g1 14 = gg 14 from funext fun s => r1 14 s (by omega), show g1 15 = gg 15 from funext fun s => r1 15 s (by omega), show g1 16 = gg 16 from funext fun s => r1 16 s (by omega)]
    exact D2 k hk
  have stay : ¬ ((zcame h S'.2 (zfin h S'.2 S'.1)).1 = h (34 + 4 * e) 1 ∧ (zcame h S'.2 (zfin h S'.2 S'.1)).2 = h (34 + 4 * e) 2) → wbMod_settle_38 post (nI e) g1 := by
    intro q
    unfold wbMod_settle_38
    unfold zKeep at hp
    rw [if_neg q] at hp
    refine m_load he D1' s10 _ (fun g2 l1 l2 l3 => hp g2 ⟨mHf_tr hF (mHf_tr F1 (mHf_of (fun r s hr => l1 r s (by omega) (by omega) (by omega) (by omega)))), ?_, fun k hk => ?_⟩ ⟨l2, fun k hk => mCp_sq (l3 k hk) (D2' k hk)⟩)
    · rw [l1 13 e (by omega) (by omega) (by omega) (by omega)]; exact D1'
    · rw [show g2 14 = g1 14 from funext fun s => l1 14 s (by omega) (by omega) (by omega) (by omega), show g2 15 = g1 15 from funext fun s => l1 15 s (by omega) (by omega) (by omega) (by omega), show g2 16 = g1 16 from funext fun s => l1 16 s (by omega) (by omega) (by omega) (by omega)]
      exact D2' k hk
  refine ⟨ie, fun q => stay (fun z => q z.1), fun q => ⟨ie, fun q2 => stay (fun z => q2 z.2), fun q2 => ?_⟩⟩
  unfold zKeep at hp
  rw [if_pos ⟨q, q2⟩] at hp
  have W1 : ∀ k, k < S'.1 → mSq S'.2 (g1 8) (g1 9) (g1 10) k k := by
    intro k hk
    rw [show g1 8 = gg 8 from funext fun s => r1 8 s (by omega), show g1 9 = gg 9 from funext fun s => r1 9 s (by omega), show g1 10 = gg 10 from funext fun s => r1 10 s (by omega)]
    exact hW.2 k hk
  refine m_store he (by rw [r1 0 11 (by omega)]; exact hW.1) v2 _ (fun g2 s1 s2 s3 s4 s5 => hp g2 ⟨mHf_tr hF (mHf_tr F1 ⟨fun r s hr => s1 r s (by omega), s2, s3⟩), s4, fun k hk => mCp_sq (s5 k hk) (W1 k hk)⟩ ⟨?_, fun k hk => ?_⟩)
  · rw [s1 0 11 (by omega), r1 0 11 (by omega)]; exact hW.1
  · rw [show g2 8 = g1 8 from funext fun s => s1 8 s (by omega), show g2 9 = g1 9 from funext fun s => s1 9 s (by omega), show g2 10 = g1 10 from funext fun s => s1 10 s (by omega)]
    exact W1 k hk
/-! one argument set anew -/
def zset (c : Nat → Int32) (k a : Nat) (f v : Int32) (i : Nat) : Int32 := if i = 5 * k + 2 + 2 * a then v else if i = 5 * k + 1 + 2 * a then f else c i
theorem zset_o {c : Nat → Int32} {k a k' : Nat} {f v : Int32} (ha : a < 2) : zset c k a f v (5 * k') = c (5 * k') := by
  unfold zset
  rcases (show a = 0 ∨ a = 1 by omega) with rfl | rfl
  · rw [if_neg (by omega), if_neg (by omega)]
  · rw [if_neg (by omega), if_neg (by omega)]
theorem zset_f {c : Nat → Int32} {k a : Nat} {f v : Int32} : zset c k a f v (5 * k + 1 + 2 * a) = f := by
  unfold zset
  rw [if_neg (by omega), if_pos rfl]
theorem zset_v {c : Nat → Int32} {k a : Nat} {f v : Int32} : zset c k a f v (5 * k + 2 + 2 * a) = v := by
  unfold zset
  rw [if_pos rfl]
theorem zset_n {c : Nat → Int32} {k a k' a' : Nat} {f v : Int32} (ha : a < 2) (ha' : a' < 2) (hn : k' ≠ k ∨ a' ≠ a) : zset c k a f v (5 * k' + 1 + 2 * a') = c (5 * k' + 1 + 2 * a') ∧ zset c k a f v (5 * k' + 2 + 2 * a') = c (5 * k' + 2 + 2 * a') := by
  unfold zset
  rcases (show a = 0 ∨ a = 1 by omega) with rfl | rfl
  · rcases (show a' = 0 ∨ a' = 1 by omega) with rfl | rfl
    · rw [if_neg (by omega), if_neg (by omega), if_neg (by omega), if_neg (by omega)]; exact ⟨rfl, rfl⟩
    · rw [if_neg (by omega), if_neg (by omega), if_neg (by omega), if_neg (by omega)]; exact ⟨rfl, rfl⟩
  · rcases (show a' = 0 ∨ a' = 1 by omega) with rfl | rfl
    · rw [if_neg (by omega), if_neg (by omega), if_neg (by omega), if_neg (by omega)]; exact ⟨rfl, rfl⟩
    · rw [if_neg (by omega), if_neg (by omega), if_neg (by omega), if_neg (by omega)]; exact ⟨rfl, rfl⟩
theorem zArgOk_c {h : zM} {c c' : Nat → Int32} {k a : Nat} {t : Int32} (ho : ∀ v, c' (5 * v) = c (5 * v)) (e1 : c' (5 * k + 1 + 2 * a) = c (5 * k + 1 + 2 * a)) (e2 : c' (5 * k + 2 + 2 * a) = c (5 * k + 2 + 2 * a)) (hok : zArgOk h c k a t) : zArgOk h c' k a t := by
  unfold zArgOk at *
  rw [e1, e2]
  simp only [ho]
  exact hok
theorem zset_ok {h : zM} {no : Nat} {ty : Int32} {S : zSS} {k a o : Nat} {f v : Int32} (hV : zVs h no ty S) (hk : k < S.1) (ha : a < 2) (eo : S.2 (5 * k) = nI o) (ho : o < no) (hno : no ≤ 10) (hok : ∀ C : Nat → Int32, (∀ v, C (5 * v) = S.2 (5 * v)) → C (5 * k + 1 + 2 * a) = f → C (5 * k + 2 + 2 * a) = v → zArgOk h C k a (if a = 0 then h 6 o else h 7 o)) : zVs h no ty (S.1, zset S.2 k a f v) := by
  obtain ⟨v1, v2, v3, v4⟩ := hV
  refine ⟨v1, v2, fun k' hk' => ?_, ?_⟩
  · obtain ⟨o', ho', e', x0, x1⟩ := v3 k' hk'
    refine ⟨o', ho', (zset_o ha).trans e', ?_, ?_⟩
    · by_cases q : k' = k ∧ 0 = a
      · obtain ⟨rfl, rfl⟩ := q
        have : o = o' := (nI_eq (by omega) (by omega)).mp (eo.symm.trans e')
        subst this
        exact hok _ (fun v => zset_o ha) zset_f zset_v
      · obtain ⟨y1, y2⟩ := zset_n (c := S.2) (f := f) (v := v) ha (show 0 < 2 by omega) (show k' ≠ k ∨ 0 ≠ a by omega)
        exact zArgOk_c (fun v => zset_o ha) y1 y2 x0
    · by_cases q : k' = k ∧ 1 = a
      · obtain ⟨rfl, rfl⟩ := q
        have : o = o' := (nI_eq (by omega) (by omega)).mp (eo.symm.trans e')
        subst this
        exact hok _ (fun v => zset_o ha) zset_f zset_v
      · obtain ⟨y1, y2⟩ := zset_n (c := S.2) (f := f) (v := v) ha (show 1 < 2 by omega) (show k' ≠ k ∨ 1 ≠ a by omega)
        exact zArgOk_c (fun v => zset_o ha) y1 y2 x1
  · unfold zlt8 at *
    show h 8 (Int32.toNatClampNeg (zset S.2 k a f v (5 * (S.1 - 1)))) = ty
    rw [zset_o ha]; exact v4
theorem mWk_set {gg : zM} {S : zSS} {k a : Nat} {f v : Int32} (hW : mWk gg S) (hk : k < S.1) (ha : a < 2) (hf : f ≠ -1) : mWk (zu (zu gg 9 (2 * k + a) f) 10 (2 * k + a) v) (S.1, zset S.2 k a f v) := by
  refine ⟨by rw [zuo (by decide), zuo (by decide)]; exact hW.1, fun k' hk' => ⟨?_, fun a' ha' => ?_⟩⟩
  · rw [zuo (by decide), zuo (by decide)]
    show gg 8 k' = zset S.2 k a f v (5 * k')
    rw [zset_o ha]; exact (hW.2 k' hk').1
  · rw [zuo (show 9 ≠ 10 by decide)]
    show zAq (zset S.2 k a f v _) (zset S.2 k a f v _) _ _
    by_cases q : k' = k ∧ a' = a
    · obtain ⟨rfl, rfl⟩ := q
      rw [zset_f, zset_v, zux, zux]
      exact Or.inr ⟨hf, rfl, rfl⟩
    · obtain ⟨y1, y2⟩ := zset_n (c := S.2) (f := f) (v := v) ha ha' (show k' ≠ k ∨ a' ≠ a by omega)
      rw [y1, y2, zun (by omega), zun (by omega), zuo (by decide)]
      exact (hW.2 k' hk').2 a' ha'
