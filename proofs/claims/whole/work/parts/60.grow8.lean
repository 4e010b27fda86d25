theorem m_put {g gg : zM} {s : Int32} {sz o kd : Nat} {c : Nat → Int32} {f0 v0 f1 v1 : Int32} (hG : mG g gg s sz c) (h9 : sz ≤ 9) (ho : o < 10) (f4 : gg 4 o = nI kd) (hkd : kd ≤ 9) (har : zar kd = 1 ∨ zar kd = 2) (e1 : gg 11 0 = f0) (e2 : gg 12 0 = v0) (n0 : f0 ≠ -1) (h2 : zar kd = 2 → gg 11 1 = f1 ∧ gg 12 1 = v1 ∧ f1 ≠ -1) (h1 : zar kd = 1 → f1 = -1 ∧ v1 = 0) (post : zM → Prop) (hp : ∀ g', mG g g' s (sz + 1) (zpush c sz (nI o) f0 v0 f1 v1) → post g') : wpMod_put (nI o) gg post := by
  obtain ⟨F, G1, G2, G3⟩ := hG
  unfold wpMod_put
  rw [G2, znc (by omega)]
  refine ⟨zin_nI (by omega) (by omega), fun h9' e9 => ?_⟩
  refine zL_rule (fun t => t.1 = nI o ∧ (∀ r x, r ≠ 8 → r ≠ 9 → r ≠ 10 → t.2.2 r x = gg r x) ∧ (∀ k, k < sz → mCp (gg 8) (gg 9) (gg 10) (t.2.2 8) (t.2.2 9) (t.2.2 10) k k) ∧ t.2.2 8 sz = nI o ∧ ∃ a : Nat, a ≤ 2 ∧ t.2.1 = nI a ∧ ∀ a', a' < a → zAq (if a' = 0 then f0 else f1) (if a' = 0 then v0 else v1) (t.2.2 9 (2 * sz + a')) (t.2.2 10 (2 * sz + a'))) (fun t => 2 - t.2.1.toNatClampNeg) ?_ (nI o, 0, h9') ⟨rfl, fun r x r1 r2 r3 => ?_, fun k hk => ⟨?_, fun a ha => ?_⟩, ?_, 0, by omega, rfl, fun a ha => by omega⟩
  · rintro ⟨w1, w2, hh⟩ L ⟨x1, k1, k2, k3, a, ha, x2, k4⟩ ih
    dsimp only at x1 x2 k1 k2 k3 k4 ih
    subst x1 x2
    unfold stMod_put_12
    dsimp only
    rw [k1 0 11 (by decide) (by decide) (by decide), G2, znc (by omega), k1 4 o (by decide) (by decide) (by decide), f4]
    refine pk_le 2 a (fun q h103 e103 => ?_) (fun q => ⟨zin_nI (by omega) (by omega), m_arity hkd _ ?_⟩)
    · have : a = 2 := by omega
      subst this
      rw [zp1] at e103
      refine hp h103 ⟨fun r x hr => ?_, ?_, ?_, fun k hk => ?_⟩
      · rw [e103, zun (by omega), k1 r x (by omega) (by omega) (by omega)]; exact F r x hr
      · rw [e103, zun (by decide), k1 0 0 (by decide) (by decide) (by decide)]; exact G1
      · rw [e103, zux]
      · rw [e103, zuo (by decide), zuo (by decide), zuo (by decide)]
        by_cases w : k = sz
        · subst w
          refine ⟨by rw [zpush_op]; exact k3, fun a ha => ?_⟩
          rw [zpush_f ha, zpush_v ha]
          exact k4 a ha
        · exact mCp_sq (k2 k (by omega)) (mSq_c (sz := sz) (by omega) (fun i hi => zpush_lo hi) (G3 k (by omega)))
    · have iv : vp_in (nI (2 * sz + a)) 40 := zin_nI (by omega) (by omega)
      have nxt : ∀ x y h', h' = zu (zu hh 9 (2 * sz + a) x) 10 (2 * sz + a) y → zAq (if a = 0 then f0 else f1) (if a = 0 then v0 else v1) x y → L (nI o, nI a + 1, h') := by
        intro x y h' eh hz
        rw [zp1]
        refine ih _ ⟨rfl, fun r t r1 r2 r3 => ?_, fun k hk => ⟨?_, fun a' ha' => ⟨?_, ?_⟩⟩, ?_, a + 1, by omega, rfl, fun a' ha' => ?_⟩ ?_
        · show h' r t = _
          rw [eh, zuo r3, zuo r2]; exact k1 r t r1 r2 r3
        · show h' 8 k = _
          rw [eh, zuo (by decide), zuo (by decide)]; exact (k2 k hk).1
        · show h' 9 _ = _
          rw [eh, zuo (by decide), zun (by omega)]; exact ((k2 k hk).2 a' ha').1
        · show h' 10 _ = _
          rw [eh, zun (by omega), zuo (by decide)]; exact ((k2 k hk).2 a' ha').2
        · show h' 8 sz = _
          rw [eh, zuo (by decide), zuo (by decide)]; exact k3
        · show zAq _ _ (h' 9 _) (h' 10 _)
          by_cases w : a' = a
          · subst w
            rw [eh, zuo (by decide), zux, zux]; exact hz
          · rw [eh, zuo (by decide), zun (by omega), zun (by omega), zuo (by decide)]; exact k4 a' (by omega)
        · dsimp only
          rw [znc (by omega), znc (by omega)]
          omega
      unfold wbMod_put_35 wbMod_put_62 wbMod_put_89
      rw [k1 0 11 (by decide) (by decide) (by decide), G2, zn2, nI_add, znc (show 2 * sz + a < 2147483648 by omega), znc (show a < 2147483648 by omega)]
      have w11 : ∀ x, zu hh 9 (2 * sz + a) x 0 11 = nI sz := fun x => by rw [zuo (by decide), k1 0 11 (by decide) (by decide) (by decide), G2]
      have e2' : (2 : Int32) * nI sz + nI a = nI (2 * sz + a) := by rw [zn2, nI_add]
      refine pk_le (zar kd) a (fun z => ⟨fun _ => ⟨iv, fun h62 e62 => ⟨fun _ => ?_, fun w => absurd rfl w⟩⟩, fun w => absurd rfl w⟩) (fun z => ⟨fun w => absurd w (by decide), fun _ => ⟨zin_nI (by omega) (by omega), iv, fun h62 e62 => ⟨fun w => absurd w (by decide), fun _ => ⟨zin_nI (by omega) (by omega), ?_⟩⟩⟩⟩)
      · rw [e62, w11, e2', znc (show 2 * sz + a < 2147483648 by omega)]
        refine ⟨iv, fun h89 e89 => nxt 2 0 h89 e89 ?_⟩
        have a1 : a = 1 := by omega
        subst a1
        obtain ⟨y1, y2⟩ := h1 (by omega)
        exact Or.inl ⟨by rw [if_neg (by decide)]; exact y1, by rw [if_neg (by decide)]; exact y2, rfl, rfl⟩
      · rw [e62, w11, e2', znc (show 2 * sz + a < 2147483648 by omega)]
        refine ⟨iv, fun h89 e89 => nxt _ _ h89 e89 ?_⟩
        rw [zuo (by decide), k1 11 a (by decide) (by decide) (by decide), k1 12 a (by decide) (by decide) (by decide)]
        rcases (show a = 0 ∨ a = 1 by omega) with rfl | rfl
        · rw [if_pos rfl, if_pos rfl]
          exact Or.inr ⟨n0, e1, e2⟩
        · rw [if_neg (by decide), if_neg (by decide)]
          obtain ⟨y1, y2, y3⟩ := h2 (by omega)
          exact Or.inr ⟨y3, y1, y2⟩
  · show h9' r x = _
    rw [e9, zuo r1]
  · show h9' 8 k = _
    rw [e9, zun (by omega)]
  · show h9' 9 _ = _ ∧ h9' 10 _ = _
    rw [e9, zuo (by decide), zuo (by decide)]
    exact ⟨rfl, rfl⟩
  · show h9' 8 sz = _
    rw [e9, zux]
/-! the first half of a step -/
noncomputable def zgo0 (h : zM) (s : Int32) : Nat := Int32.toNatClampNeg (zrv (zrs s) (h 1 1))
noncomputable def zR0 (h : zM) (n : Nat) (s : Int32) : zCR := zCh h n 0 (h 6 (zgo0 h s)) (zrs s) 0 (fun _ => 0) 0 0
noncomputable def zR1 (h : zM) (n : Nat) (s : Int32) : zCR := zCh h n 1 (h 7 (zgo0 h s)) (zR0 h n s).2.1 (zR0 h n s).2.2.1 (zR0 h n s).2.2.2.1 (zR0 h n s).2.2.2.2.1 (zR0 h n s).2.2.2.2.2
noncomputable def zGcd (h : zM) (n : Nat) (s : Int32) : Int32 := if (zR0 h n s).1 = 0 then (zR1 h n s).1 else (zR0 h n s).1
noncomputable def zGsd (h : zM) (n : Nat) (s : Int32) : Int32 := if (zR0 h n s).1 = 0 then (zR1 h n s).2.1 else (zR0 h n s).2.1
noncomputable def zGsz (h : zM) (n : Nat) (s : Int32) : Nat := (zR1 h n s).2.2.1 + 1
noncomputable def zGcl (h : zM) (n : Nat) (s : Int32) : Nat → Int32 := zpush (zR1 h n s).2.2.2.1 (zR1 h n s).2.2.1 (nI (zgo0 h s)) (zR0 h n s).2.2.2.2.1 (zR0 h n s).2.2.2.2.2 (zR1 h n s).2.2.2.2.1 (zR1 h n s).2.2.2.2.2
theorem zTake_cd {h : zM} {n t sz : Nat} {s : Int32} {c : Nat → Int32} : (zTake h n t s sz c).1 = 0 ∨ (zTake h n t s sz c).1 = -2 ∨ (zTake h n t s sz c).1 = -3 := by
  unfold zTake
  split
  · exact Or.inr (Or.inl rfl)
  · split
    · exact Or.inl rfl
    · exact Or.inr (Or.inr rfl)
theorem zCh_cd {h : zM} {n a : Nat} {ty s : Int32} {sz : Nat} {c : Nat → Int32} {f0 v0 : Int32} : (zCh h n a ty s sz c f0 v0).1 = 0 ∨ (zCh h n a ty s sz c f0 v0).1 = -2 ∨ (zCh h n a ty s sz c f0 v0).1 = -3 := by
  unfold zCh zNum zObj
  split
  · exact Or.inl rfl
  · split
    · split
      · exact zTake_cd
      · exact Or.inl rfl
    · split
      · exact Or.inl rfl
      · split
        · exact Or.inl rfl
        · exact zTake_cd
theorem zGcd_cd {h : zM} {n : Nat} {s : Int32} : zGcd h n s = 0 ∨ zGcd h n s = -2 ∨ zGcd h n s = -3 := by
  unfold zGcd
  split
  · exact zCh_cd
  · exact zCh_cd
theorem zgo0_lt {n : Nat} {ln : Nat → Nat} {h g : zM} {nc no : Nat} {s : Int32} (hB : zBk n ln h g nc no) (hno : 1 ≤ no) : zgo0 h s < no ∧ zrv (zrs s) (nI no) = nI (zgo0 h s) := by
  have h10 := hB.1.2.1
  obtain ⟨j, hj, ej⟩ := zrv_lt (s := zrs s) (M := no) (by omega) (by omega)
  unfold zgo0
  rw [hB.1.2.2.2.2.1, ej, znc (by omega)]
  exact ⟨hj, rfl⟩
theorem zR0_ok {n : Nat} {ln : Nat → Nat} {h g : zM} {nc no : Nat} {s : Int32} (hB : zBk n ln h g nc no) (hno : 1 ≤ no) (h0 : (zR0 h n s).1 = 0) : zPk h no (h 6 (zgo0 h s)) 0 (fun _ => 0) (zR0 h n s) := zCh_ok hB (zOp_typ hB.1 (zgo0_lt hB hno).1).1 (by omega) (fun k hk => by omega) (fun z => by omega) h0
theorem zR1_ok {n : Nat} {ln : Nat → Nat} {h g : zM} {nc no : Nat} {s : Int32} (hB : zBk n ln h g nc no) (hno : 1 ≤ no) (h0 : (zR0 h n s).1 = 0) (h1 : (zR1 h n s).1 = 0) : zPk h no (h 7 (zgo0 h s)) (zR0 h n s).2.2.1 (zR0 h n s).2.2.2.1 (zR1 h n s) := by
  obtain ⟨-, p2, p3, -, -, p6, -⟩ := zR0_ok hB hno h0
  exact zCh_ok hB (zOp_typ hB.1 (zgo0_lt hB hno).1).2 p2 p3 (fun _ => p6) h1
theorem zGr_ok {n : Nat} {ln : Nat → Nat} {h g : zM} {nc no : Nat} {s : Int32} (hB : zBk n ln h g nc no) (hno : 1 ≤ no) (hc : zGcd h n s = 0) : (zR0 h n s).1 = 0 ∧ (zR1 h n s).1 = 0 ∧ zGsz h n s ≤ 10 ∧ ∀ k, k < zGsz h n s → zStOk h (zGcl h n s) no k := by
  have hno10 := hB.1.2.1
  have h0 : (zR0 h n s).1 = 0 := by
    unfold zGcd at hc
    by_cases q : (zR0 h n s).1 = 0
    · exact q
    · rw [if_neg q] at hc; exact hc
  have h1 : (zR1 h n s).1 = 0 := by
    unfold zGcd at hc
    rw [if_pos h0] at hc; exact hc
  obtain ⟨p1, p2, p3, p4, p5, p6, p7⟩ := zR0_ok hB hno h0
  obtain ⟨q1, q2, q3, q4, q5, q6, q7⟩ := zR1_ok hB hno h0 h1
  obtain ⟨o1, o2⟩ := zgo0_lt (s := s) hB hno
  refine ⟨h0, h1, by unfold zGsz; omega, fun k hk => ?_⟩
  unfold zGsz at hk
  by_cases w : k < (zR1 h n s).2.2.1
  · exact zStOk_K (sz := (zR1 h n s).2.2.1) hno10 (zKq_of no (fun r _ => rfl)) (Nat.le_refl _) (fun i hi => zpush_lo hi) q3 k w
  · have ek : k = (zR1 h n s).2.2.1 := by omega
    subst ek
    refine ⟨zgo0 h s, o1, zpush_op, ?_, ?_⟩
    · refine p7 (zGcl h n s) _ 0 (by omega) q1 (fun i hi => ?_) ?_ ?_
      · unfold zGcl
        rw [zpush_lo (by omega)]; exact q4 i hi
      · unfold zGcl
        rw [zpush_f (by omega), if_pos rfl]
      · unfold zGcl
        rw [zpush_v (by omega), if_pos rfl]
    · refine q7 (zGcl h n s) _ 1 (by omega) (Nat.le_refl _) (fun i hi => zpush_lo hi) ?_ ?_
      · unfold zGcl
        rw [zpush_f (by omega), if_neg (by decide)]
      · unfold zGcl
        rw [zpush_v (by omega), if_neg (by decide)]
