/-! text: arguments and calls, both sides -/
def zAT (f c : Int32) : List Nat := if f = 0 then 118 :: zNT c else if f = 1 then zNT c else if f = 2 then [110] else []
theorem z_warg {n : Nat} {ln : Nat → Nat} {f c : Int32} {h0 h : zM} {T : List Nat} {post : zM → Prop} (hW : zWr h0 h T) (hl : T.length + (zAT f c).length ≤ 200) (k : ∀ h', zWr h0 h' (T ++ zAT f c) → post h') : wpWriter_writeArgument n ln f c h post := by
  unfold wpWriter_writeArgument
  unfold zAT at hl k
  by_cases f0 : f = 0
  · rw [if_pos f0] at hl k
    rw [List.length_cons] at hl
    refine ⟨fun _ => z_put hW (z_char1 118 (by decide)) (by omega) (fun h1 h1W => z_wnum h1W (by simp; omega) (fun h2 h2W => k h2 ?_)), fun z => absurd f0 z⟩
    rw [List.append_assoc] at h2W
    exact h2W
  · rw [if_neg f0] at hl k
    refine ⟨fun z => absurd z f0, fun _ => ?_⟩
    by_cases f1 : f = 1
    · rw [if_pos f1] at hl k
      exact ⟨fun _ => z_wnum hW hl k, fun z => absurd f1 z⟩
    · rw [if_neg f1] at hl k
      refine ⟨fun z => absurd z f1, fun _ => ?_⟩
      by_cases f2 : f = 2
      · rw [if_pos f2] at hl k
        exact ⟨fun _ => z_put hW (z_char1 110 (by decide)) (by simp at hl; omega) k, fun z => absurd f2 z⟩
      · rw [if_neg f2, List.append_nil] at k
        exact ⟨fun z => absurd z f2, fun _ => k h hW⟩
def zCm (f : Int32) : List Nat := if f = -1 then [] else [44]
def zCl (c : Nat → Int32) (k : Nat) : List Nat := [97 + (c (5 * k)).toNatClampNeg, 40] ++ zAT (c (5 * k + 1)) (c (5 * k + 2)) ++ zCm (c (5 * k + 3)) ++ zAT (c (5 * k + 3)) (c (5 * k + 4)) ++ [41]
theorem z_wst0 {n : Nat} {ln : Nat → Nat} {o1 k : Nat} {h0 h : zM} {T : List Nat} {post : zM → Prop} {L : Int32 × Int32 × zM → Prop} (ho : 29 < o1) (hk : k < 10) (hW : zWr h0 h T) (hl : T.length + (zAT (h0 (o1 + 1) (5 * k + 1)) (h0 (o1 + 1) (5 * k + 2))).length ≤ 200) (hL : ∀ h', zWr h0 h' (T ++ zAT (h0 (o1 + 1) (5 * k + 1)) (h0 (o1 + 1) (5 * k + 2))) → L (nI k, nI 1, h')) : stWriter_writeCall_21 n ln o1 post L (nI k, 0, h) := by
  unfold stWriter_writeCall_21
  dsimp only
  refine ⟨fun z => absurd z (by decide), fun _ => ⟨fun _ => ?_, fun z => absurd (by decide) z⟩⟩
  unfold wbWriter_writeCall_46
  refine z_form (a := 0) hk (by decide) _ ?_
  refine z_content (a := 0) hk (by decide) _ ?_
  rw [hW.1 (o1 + 1) (by omega) (by omega)]
  exact z_warg hW hl hL
theorem z_wst1 {n : Nat} {ln : Nat → Nat} {o1 k : Nat} {h0 h : zM} {T : List Nat} {post : zM → Prop} {L : Int32 × Int32 × zM → Prop} (ho : 29 < o1) (hk : k < 10) (hW : zWr h0 h T) (hl : T.length + (zCm (h0 (o1 + 1) (5 * k + 3))).length + (zAT (h0 (o1 + 1) (5 * k + 3)) (h0 (o1 + 1) (5 * k + 4))).length ≤ 200) (hL : ∀ h', zWr h0 h' (T ++ zCm (h0 (o1 + 1) (5 * k + 3)) ++ zAT (h0 (o1 + 1) (5 * k + 3)) (h0 (o1 + 1) (5 * k + 4))) → L (nI k, nI 2, h')) : stWriter_writeCall_21 n ln o1 post L (nI k, nI 1, h) := by
  have go : ∀ h T', zWr h0 h T' → T'.length + (zAT (h0 (o1 + 1) (5 * k + 3)) (h0 (o1 + 1) (5 * k + 4))).length ≤ 200 → (∀ h', zWr h0 h' (T' ++ zAT (h0 (o1 + 1) (5 * k + 3)) (h0 (o1 + 1) (5 * k + 4))) → L (nI k, nI 2, h')) → wbWriter_writeCall_46 n ln o1 post L (nI k) (nI 1) h := by
    intro h T' hW hl hL
    unfold wbWriter_writeCall_46
    refine z_form (a := 1) hk (by decide) _ ?_
    refine z_content (a := 1) hk (by decide) _ ?_
    rw [hW.1 (o1 + 1) (by omega) (by omega)]
    exact z_warg hW hl hL
  unfold stWriter_writeCall_21
  dsimp only
  refine ⟨fun z => absurd z (by decide), fun _ => ⟨fun z => absurd z (by decide), fun _ => ?_⟩⟩
  refine z_form (a := 1) hk (by decide) _ ?_
  rw [hW.1 (o1 + 1) (by omega) (by omega), show 5 * k + 1 + 2 * 1 = 5 * k + 3 from rfl]
  by_cases q : h0 (o1 + 1) (5 * k + 3) = -1
  · unfold zCm at hl hL
    rw [if_pos q] at hl hL
    rw [List.append_nil] at hL
    simp only [List.length_nil] at hl
    exact ⟨fun _ => go h T hW (by omega) hL, fun z => absurd q z⟩
  · unfold zCm at hl hL
    rw [if_neg q] at hl hL
    simp only [List.length_cons, List.length_nil] at hl
    exact ⟨fun z => absurd z q, fun _ => z_put hW (z_char1 44 (by decide)) (by omega) (fun h1 w1 => go h1 _ w1 (by rw [List.length_append]; simp; omega) hL)⟩
theorem z_wcall {n : Nat} {ln : Nat → Nat} {o1 k o : Nat} {h0 h : zM} {T : List Nat} {post : zM → Prop} (ho : 29 < o1) (hk : k < 10) (hop : o < 10) (eo : h0 (o1 + 1) (5 * k) = nI o) (hW : zWr h0 h T) (hl : T.length + (zCl (h0 (o1 + 1)) k).length ≤ 200) (hL : ∀ h', zWr h0 h' (T ++ zCl (h0 (o1 + 1)) k) → post h') : wpWriter_writeCall n ln o1 (nI k) h post := by
  unfold wpWriter_writeCall
  unfold zCl at hl hL
  rw [eo, znc (by omega)] at hl hL
  simp only [List.length_append, List.length_cons, List.length_nil] at hl
  refine z_op hk _ ?_
  rw [hW.1 (o1 + 1) (by omega) (by omega), eo, show (97 : Int32) = nI 97 from rfl, nI_add]
  refine z_put hW (z_char (97 + o) (by omega)) (by omega) (fun h1 w1 => z_put w1 (z_char1 40 (by decide)) (by rw [List.length_append]; simp; omega) (fun h2 w2 => ⟨3, zl_mk ?_⟩))
  refine z_wst0 ho hk w2 (by simp only [List.length_append, List.length_cons, List.length_nil]; omega) (fun h3 w3 => zl_mk ?_)
  refine z_wst1 ho hk w3 (by simp only [List.length_append, List.length_cons, List.length_nil]; omega) (fun h4 w4 => zl_mk ?_)
  unfold stWriter_writeCall_21
  dsimp only
  refine ⟨fun _ => z_put w4 (z_char1 41 (by decide)) (by simp only [List.length_append, List.length_cons, List.length_nil]; omega) (fun h5 w5 => hL h5 ?_), fun z => absurd (by decide) z⟩
  simpa only [List.append_assoc, List.cons_append, List.nil_append] using w5
theorem m_warg {f v : Int32} {g0 g : zM} {T : List Nat} {post : zM → Prop} {L12 : Int32 × Int32 × zM → Prop} {L41 : Int32 × Int32 × Int32 × zM → Prop} {v1 : Int32} {k a : Nat} (hk : k < 10) (ha : a < 2) (hW : mWr g0 g T) (e1 : g0 9 (2 * k + a) = f) (e2 : g0 10 (2 * k + a) = v) (hf : f = 0 ∨ f = 1 ∨ f = 2) (hl : T.length + (zAT f v).length ≤ 300) (hL : ∀ g', mWr g0 g' (T ++ zAT f v) → L41 (v1, nI k, nI (a + 1), g')) : wbMod_writeAll_69 post L12 L41 v1 (nI k) (nI a) g := by
  have ei : (2 * nI k : Int32) + nI a = nI (2 * k + a) := by rw [show (2 : Int32) = nI 2 from rfl, pk_mul, nI_add]
  unfold wbMod_writeAll_69
  rw [ei, znc (by omega), hW.1 9 _ (by omega) (by omega), e1]
  unfold zAT at hl hL
  refine ⟨zin_nI (by omega) (by decide), fun y ey => ?_⟩
  subst ey
  have go : ∀ g1 T1 y, mWr g0 g1 T1 → ¬ (2 : Int32) ≤ y → T1.length + (zNT v).length ≤ 300 → (∀ g', mWr g0 g' (T1 ++ zNT v) → L41 (v1, nI k, nI (a + 1), g')) → wbMod_writeAll_103 post L12 L41 v1 (nI k) (nI a) y g1 := by
    intro g1 T1 y w1 y2 l1 k1
    unfold wbMod_writeAll_103
    rw [ei, znc (by omega), w1.1 10 _ (by omega) (by omega), e2]
    refine ⟨fun z => absurd z y2, fun _ => ⟨zin_nI (by omega) (by decide), m_wnum w1 l1 (fun g' w' => ?_)⟩⟩
    unfold wbMod_writeAll_123
    rw [nI_1]
    exact k1 g' w'
  rcases hf with rfl | rfl | rfl
  · rw [if_pos rfl] at hl hL
    rw [List.length_cons] at hl
    refine ⟨fun z => absurd z (by decide), fun _ => ⟨fun z => absurd rfl z, fun _ => ?_⟩⟩
    unfold wbMod_writeAll_100
    refine m_write hW (c := 118) rfl (by omega) (fun g1 w1 => go g1 _ 0 w1 (by decide) (by simp; omega) (fun g2 w2 => hL g2 ?_))
    rw [List.append_assoc] at w2
    exact w2
  · rw [if_neg (by decide), if_pos rfl] at hl hL
    exact ⟨fun _ => go g T 1 hW (by decide) hl hL, fun z => absurd rfl z⟩
  · rw [if_neg (by decide), if_neg (by decide), if_pos rfl] at hl hL
    simp only [List.length_cons, List.length_nil] at hl
    refine ⟨fun z => absurd z (by decide), fun _ => ⟨fun _ => ?_, fun z => absurd z (by decide)⟩⟩
    unfold wbMod_writeAll_100
    refine m_write hW (c := 110) rfl (by omega) (fun g1 w1 => ?_)
    unfold wbMod_writeAll_103
    refine ⟨fun _ => ?_, fun z => absurd (by decide) z⟩
    unfold wbMod_writeAll_123
    rw [nI_1]
    exact hL g1 w1
/-- what a statement of an entry is, for its text -/
def zTs (g : zM) (c : Nat → Int32) (k : Nat) : Prop := ∃ o kd : Nat, o < 10 ∧ kd ≤ 9 ∧ c (5 * k) = nI o ∧ g 4 o = nI kd ∧ (c (5 * k + 1) = 0 ∨ c (5 * k + 1) = 1 ∨ c (5 * k + 1) = 2) ∧ ((zar kd = 1 ∧ c (5 * k + 3) = -1) ∨ (zar kd = 2 ∧ (c (5 * k + 3) = 0 ∨ c (5 * k + 3) = 1 ∨ c (5 * k + 3) = 2))) ∧ (zCl c k).length ≤ 17
theorem zAT_len {h : zM} {c : Nat → Int32} {k a : Nat} {t : Int32} (hk : k < 10) (hok : zArgOk h c k a t) : (zAT (c (5 * k + 1 + 2 * a)) (c (5 * k + 2 + 2 * a))).length ≤ 11 ∧ (t ≠ 0 → (zAT (c (5 * k + 1 + 2 * a)) (c (5 * k + 2 + 2 * a))).length ≤ 2) ∧ (t = -1 → (zAT (c (5 * k + 1 + 2 * a)) (c (5 * k + 2 + 2 * a))).length = 0) := by
  have V : ∀ v : Nat, v < k → (zAT 0 (nI v)).length = 2 := by
    intro v hv
    unfold zAT
    rw [if_pos rfl, zNT_small (by omega)]
    rfl
  rcases hok with ⟨rfl, z1, z2⟩ | ⟨rfl, z1 | ⟨z1, v, o', hv, e, -⟩⟩ | ⟨tt, t1, t4, rfl, ⟨z1, z2⟩ | ⟨z1, v, o', tg, hv, e, -⟩⟩
  · rw [z1]
    exact ⟨by simp [zAT], fun _ => by simp [zAT], fun _ => by simp [zAT]⟩
  · rw [z1]
    have := zNT_len (c (5 * k + 2 + 2 * a))
    exact ⟨by simpa [zAT] using this, fun z => absurd rfl z, fun z => absurd z (by decide)⟩
  · rw [z1, e, V v hv]
    exact ⟨by decide, fun _ => by decide, fun z => absurd z (by decide)⟩
  · rw [z1]
    exact ⟨by simp [zAT], fun _ => by simp [zAT], fun z => absurd z (znm1 (by omega))⟩
  · rw [z1, e, V v hv]
    exact ⟨by decide, fun _ => by decide, fun z => absurd z (znm1 (by omega))⟩
theorem zTs_of {h g : zM} {c : Nat → Int32} {nc no k : Nat} (hC : zCat h g nc no) (hk : k < 10) (hst : zStOk h c no k) : zTs g c k := by
  obtain ⟨o, ho, eo, a0, a1⟩ := hst
  have h10 := hC.2.1
  have hok := hC.2.2.2.2.2.2.2 o ho
  obtain ⟨kd, k9, -, e4, n6, ar, ar1, ar2⟩ := zOp_ar hC.1 hok
  have f0 := (zArg_has a0 n6).2
  have l0 := zAT_len hk a0
  have l1 := zAT_len hk a1
  have h67 : h 6 o = 0 → h 7 o = -1 := by
    intro z
    obtain ⟨kd', cc, d, q1, q2, q3, q4, q5, -, -, -, q6, q7, -⟩ := hok
    have hnc := hC.1
    rw [q6] at z
    rw [q7]
    unfold zft at z
    by_cases b0 : kd' = 0
    · subst b0
      rfl
    · rw [if_neg b0] at z
      by_cases b1 : kd' = 1
      · rw [if_pos b1] at z
        obtain ⟨e', e1, e2, rfl⟩ := q4 (Or.inl b1)
        exact absurd z (nI_ne0 (by omega) (by omega))
      · rw [if_neg b1] at z
        exact absurd z (nI_ne0 (by omega) (by omega))
  refine ⟨o, kd, by omega, k9, eo, e4, ?_, ?_, ?_⟩
  · rcases f0 with q | q | ⟨q, -⟩
    · exact Or.inl q
    · exact Or.inr (Or.inl q)
    · exact Or.inr (Or.inr q)
  · rcases ar with q | q
    · rw [ar1 q] at a1
      exact Or.inl ⟨q, (zArg_not a1).1⟩
    · refine Or.inr ⟨q, ?_⟩
      rcases (zArg_has a1 (ar2 q)).2 with q | q | ⟨q, -⟩
      · exact Or.inl q
      · exact Or.inr (Or.inl q)
      · exact Or.inr (Or.inr q)
  · unfold zCl
    simp only [List.length_append, List.length_cons, List.length_nil]
    have hc : (zCm (c (5 * k + 3))).length ≤ 1 ∧ (c (5 * k + 3) = -1 → (zCm (c (5 * k + 3))).length = 0) := by
      unfold zCm
      constructor
      · split <;> simp
      · intro z
        rw [if_pos z]
        rfl
    rw [show 5 * k + 1 + 2 * 0 = 5 * k + 1 from rfl, show 5 * k + 2 + 2 * 0 = 5 * k + 2 from rfl] at l0
    rw [show 5 * k + 1 + 2 * 1 = 5 * k + 3 from rfl, show 5 * k + 2 + 2 * 1 = 5 * k + 4 from rfl] at l1
    by_cases q : h 6 o = 0
    · have := l1.2.2 (h67 q)
      rw [h67 q] at a1
      have := hc.2 (zArg_not a1).1
      omega
    · have := l0.2.1 q
      omega
