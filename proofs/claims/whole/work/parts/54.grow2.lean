/-! putting a sequence behind another -/
def zmv (c : Nat → Int32) (f : Nat) (least by' : Int32) (sz : Nat) (i : Nat) : Int32 := if 5 * f ≤ i ∧ i < 5 * sz ∧ (i % 5 = 2 ∨ i % 5 = 4) ∧ c (i - 1) = 0 ∧ ¬ c i < least then c i + by' else c i
theorem z_move {o : Nat} {h : zM} {sz f : Nat} {least by' : Int32} (hsz : h o 0 = nI sz) (h10 : sz ≤ 10) (hf : f ≤ sz) (post : zM → Prop) (hp : ∀ h', (∀ r, r ≠ o + 1 → h' r = h r) → (∀ i, h' (o + 1) i = zmv (h (o + 1)) f least by' sz i) → post h') : wpSequence_moveVariables o (nI f) least by' h post := by
  unfold wpSequence_moveVariables
  refine zL_rule (fun s => s.1 = least ∧ s.2.1 = by' ∧ (∀ r, r ≠ o + 1 → s.2.2.2 r = h r) ∧ ∃ k : Nat, f ≤ k ∧ k ≤ sz ∧ s.2.2.1 = nI k ∧ ∀ i, s.2.2.2 (o + 1) i = if i < 5 * k then zmv (h (o + 1)) f least by' sz i else h (o + 1) i) (fun s => sz - s.2.2.1.toNatClampNeg) ?_ (least, by', nI f, h) ⟨rfl, rfl, fun _ _ => rfl, f, Nat.le_refl _, hf, rfl, fun i => ?_⟩
  · rintro ⟨v2, v3, v4, hh⟩ L ⟨e2, e3, fr, k, k1, k2, e4, hz⟩ ih
    dsimp only at e2 e3 e4 fr hz ih
    subst e2 e3 e4
    unfold stSequence_moveVariables_3
    dsimp only
    rw [fr o (by omega), hsz]
    refine pk_le sz k (fun q => hp hh fr (fun i => ?_)) (fun q => ?_)
    · rw [hz i]
      split
      · rfl
      · unfold zmv
        rw [if_neg (by omega)]
    · refine zL_rule (fun s => s.1 = v2 ∧ s.2.1 = v3 ∧ s.2.2.1 = nI k ∧ (∀ r, r ≠ o + 1 → s.2.2.2.2 r = h r) ∧ ∃ a : Nat, a ≤ 2 ∧ s.2.2.2.1 = nI a ∧ ∀ i, s.2.2.2.2 (o + 1) i = if i < 5 * k + 1 + 2 * a then zmv (h (o + 1)) f v2 v3 sz i else h (o + 1) i) (fun s => 2 - s.2.2.2.1.toNatClampNeg) ?_ (v2, v3, nI k, 0, hh) ⟨rfl, rfl, rfl, fr, 0, by omega, rfl, fun i => ?_⟩
      · rintro ⟨w2, w3, w4, w5, h5⟩ L5 ⟨e2, e3, e4, fr5, a, ha, e5, hz5⟩ ih5
        dsimp only at e2 e3 e4 e5 fr5 hz5 ih5
        subst e2 e3 e4 e5
        unfold stSequence_moveVariables_15
        dsimp only
        refine pk_le 2 a (fun q2 => ?_) (fun q2 => ?_)
        · have : a = 2 := by omega
          subst this
          rw [zp1]
          refine ih _ ⟨rfl, rfl, fr5, k + 1, by omega, by omega, rfl, fun i => ?_⟩ ?_
          · show h5 (o + 1) i = _
            rw [hz5 i]
            rfl
          · dsimp only
            rw [znc (by omega), znc (by omega)]
            omega
        · have c1 : h5 (o + 1) (5 * k + 1 + 2 * a) = h (o + 1) (5 * k + 1 + 2 * a) := by rw [hz5, if_neg (by omega)]
          have c2 : h5 (o + 1) (5 * k + 2 + 2 * a) = h (o + 1) (5 * k + 2 + 2 * a) := by rw [hz5, if_neg (by omega)]
          have nxt : ∀ h', (∀ r, r ≠ o + 1 → h' r = h r) → (∀ i, h' (o + 1) i = if i < 5 * k + 1 + 2 * (a + 1) then zmv (h (o + 1)) f w2 w3 sz i else h (o + 1) i) → wbSequence_moveVariables_63 o post L L5 w2 w3 (nI k) (nI a) h' := by
            intro h' k1 k2
            unfold wbSequence_moveVariables_63
            rw [zp1]
            refine ih5 _ ⟨rfl, rfl, rfl, k1, a + 1, by omega, rfl, k2⟩ ?_
            dsimp only
            rw [znc (by omega), znc (by omega)]
            omega
          have z1 : zmv (h (o + 1)) f w2 w3 sz (5 * k + 1 + 2 * a) = h (o + 1) (5 * k + 1 + 2 * a) := by
            unfold zmv
            rw [if_neg (by omega)]
          have skip : zmv (h (o + 1)) f w2 w3 sz (5 * k + 2 + 2 * a) = h (o + 1) (5 * k + 2 + 2 * a) → wbSequence_moveVariables_63 o post L L5 w2 w3 (nI k) (nI a) h5 := by
            intro z
            refine nxt h5 fr5 (fun i => ?_)
            rw [hz5 i]
            by_cases i1 : i < 5 * k + 1 + 2 * a
            · rw [if_pos i1, if_pos (by omega)]
            · rw [if_neg i1]
              by_cases i2 : i < 5 * k + 1 + 2 * (a + 1)
              · rw [if_pos i2]
                rcases (show i = 5 * k + 1 + 2 * a ∨ i = 5 * k + 2 + 2 * a by omega) with rfl | rfl
                · exact z1.symm
                · exact z.symm
              · rw [if_neg i2]
          refine z_isVar (by omega) (by omega) _ (fun z => ⟨fun _ => skip ?_, fun w => absurd rfl w⟩) (fun z => ⟨fun w => absurd w (by decide), fun _ => z_content (by omega) (by omega) _ ⟨fun w => skip ?_, fun w => z_content (by omega) (by omega) _ (z_setArg (by omega) (by omega) _ _ _ ?_)⟩⟩)
          · unfold zmv
            rw [c1] at z
            rw [if_neg]
            intro y
            exact z (by rw [show 5 * k + 1 + 2 * a = 5 * k + 2 + 2 * a - 1 by omega]; exact y.2.2.2.1)
          · unfold zmv
            rw [c2] at w
            rw [if_neg]
            intro y
            exact y.2.2.2.2 w
          · rw [c2] at w ⊢
            rw [c1] at z
            have zz : zmv (h (o + 1)) f w2 w3 sz (5 * k + 2 + 2 * a) = h (o + 1) (5 * k + 2 + 2 * a) + w3 := by
              unfold zmv
              rw [if_pos]
              refine ⟨by omega, by omega, by rcases (show a = 0 ∨ a = 1 by omega) with rfl | rfl <;> omega, ?_, w⟩
              rw [show 5 * k + 2 + 2 * a - 1 = 5 * k + 1 + 2 * a by omega]
              exact z
            refine nxt _ (fun r hr => by rw [zuo hr, zuo hr]; exact fr5 r hr) (fun i => ?_)
            by_cases i2 : i = 5 * k + 2 + 2 * a
            · subst i2
              rw [zux, if_pos (by omega), zz]
            · rw [zun (Or.inr i2)]
              by_cases i1 : i = 5 * k + 1 + 2 * a
              · subst i1
                rw [zux, if_pos (by omega), z1, z]
              · rw [zun (Or.inr i1), hz5 i]
                by_cases i3 : i < 5 * k + 1 + 2 * a
                · rw [if_pos i3, if_pos (by omega)]
                · rw [if_neg i3, if_neg (by omega)]
      · show hh (o + 1) i = _
        rw [hz i]
        by_cases i1 : i < 5 * k
        · rw [if_pos i1, if_pos (by omega)]
        · rw [if_neg i1]
          by_cases i2 : i < 5 * k + 1 + 2 * 0
          · rw [if_pos i2]
            unfold zmv
            rw [if_neg (by omega)]
          · rw [if_neg i2]
  · show h (o + 1) i = _
    split
    · unfold zmv
      rw [if_neg (by omega)]
    · rfl
def zapp (c : Nat → Int32) (sz : Nat) (ce : Nat → Int32) (i : Nat) : Int32 := if i < 5 * sz then c i else if (i % 5 = 2 ∨ i % 5 = 4) ∧ ce (i - 5 * sz - 1) = 0 then ce (i - 5 * sz) + nI sz else ce (i - 5 * sz)
theorem z_append {h : zM} {o1 sz m : Nat} (ho1 : 33 < o1) (hsz : h 20 0 = nI sz) (hm : h o1 0 = nI m) (h10 : sz + m ≤ 10) (hpos : ∀ k a, k < m → a < 2 → h (o1 + 1) (5 * k + 1 + 2 * a) = 0 → ¬ h (o1 + 1) (5 * k + 2 + 2 * a) < 0) (post : zM → Prop) (hp : ∀ h', (∀ r, r ≠ 20 → r ≠ 21 → h' r = h r) → h' 20 0 = nI (sz + m) → (∀ i, i < 5 * (sz + m) → h' 21 i = zapp (h 21) sz (h (o1 + 1)) i) → post h') : wpSequence_append 20 o1 h post := by
  unfold wpSequence_append
  intro y4 e4
  rw [hsz] at e4
  subst e4
  rw [hm, zn5, zn5, znc (by omega), znc (by omega), znc0]
  refine ⟨by decide, zn0 (by omega), zn0 (by omega), by omega, by omega, fun h23 e23 h36 e36 => ?_⟩
  have f0 : h23 20 = h 20 := by rw [e23, va_up_ne _ _ (by decide)]
  have f1 : h23 o1 = h o1 := by rw [e23, va_up_ne _ _ (by omega)]
  rw [f0, f1, hsz, hm, nI_add] at e36
  have g0 : h36 20 0 = nI (sz + m) := by rw [e36, zux]
  have g21 : h36 (20 + 1) = va_cpy (h (o1 + 1)) (h 21) 0 (5 * sz) (5 * m) := by rw [e36, zuo (by decide), e23, va_up_self]
  refine z_move g0 h10 (by omega) _ (fun h' k1 k2 => hp h' (fun r r1 r2 => ?_) ?_ (fun i hi => ?_))
  · rw [k1 r (by omega), e36, zuo r1, e23, va_up_ne _ _ (by omega)]
  · rw [k1 20 (by omega), g0]
  · rw [show (21 : Nat) = 20 + 1 from rfl, k2 i, g21]
    unfold zmv zapp
    by_cases i1 : i < 5 * sz
    · rw [if_neg (by omega), if_pos i1, pk_cpy_out (by omega)]
    · have ci : va_cpy (h (o1 + 1)) (h 21) 0 (5 * sz) (5 * m) i = h (o1 + 1) (i - 5 * sz) := by rw [pk_cpy_in (by omega) (by omega), Nat.zero_add]
      rw [if_neg i1, ci]
      by_cases i2 : i % 5 = 2 ∨ i % 5 = 4
      · have ci1 : va_cpy (h (o1 + 1)) (h 21) 0 (5 * sz) (5 * m) (i - 1) = h (o1 + 1) (i - 5 * sz - 1) := by rw [pk_cpy_in (by omega) (by omega), Nat.zero_add, show i - 1 - 5 * sz = i - 5 * sz - 1 by omega]
        rw [ci1]
        by_cases i3 : h (o1 + 1) (i - 5 * sz - 1) = 0
        · rw [if_pos (show (i % 5 = 2 ∨ i % 5 = 4) ∧ h (o1 + 1) (i - 5 * sz - 1) = 0 from ⟨i2, i3⟩), if_pos]
          refine ⟨by omega, by omega, i2, i3, ?_⟩
          have := hpos ((i - 5 * sz) / 5) (if i % 5 = 2 then 0 else 1) (by omega) (by split <;> omega)
          by_cases i4 : i % 5 = 2
          · rw [if_pos i4, show 5 * ((i - 5 * sz) / 5) + 1 + 2 * 0 = i - 5 * sz - 1 by omega, show 5 * ((i - 5 * sz) / 5) + 2 + 2 * 0 = i - 5 * sz by omega] at this
            exact this i3
          · rw [if_neg i4, show 5 * ((i - 5 * sz) / 5) + 1 + 2 * 1 = i - 5 * sz - 1 by omega, show 5 * ((i - 5 * sz) / 5) + 2 + 2 * 1 = i - 5 * sz by omega] at this
            exact this i3
        · rw [if_neg (fun y => i3 y.2.2.2.1), if_neg (fun y => i3 y.2)]
      · rw [if_neg (fun y => i2 y.2.2.1), if_neg (fun y => i2 y.1)]
theorem zapp_lo {c ce : Nat → Int32} {sz i : Nat} (h : i < 5 * sz) : zapp c sz ce i = c i := if_pos h
theorem zapp_op {c ce : Nat → Int32} {sz k : Nat} : zapp c sz ce (5 * (sz + k)) = ce (5 * k) := by
  unfold zapp
  rw [if_neg (by omega), if_neg (by omega), show 5 * (sz + k) - 5 * sz = 5 * k by omega]
theorem zapp_f {c ce : Nat → Int32} {sz k a : Nat} (ha : a < 2) : zapp c sz ce (5 * (sz + k) + 1 + 2 * a) = ce (5 * k + 1 + 2 * a) := by
  unfold zapp
  rw [if_neg (by omega), if_neg (by omega), show 5 * (sz + k) + 1 + 2 * a - 5 * sz = 5 * k + 1 + 2 * a by omega]
theorem zapp_v {c ce : Nat → Int32} {sz k a : Nat} (ha : a < 2) : zapp c sz ce (5 * (sz + k) + 2 + 2 * a) = if ce (5 * k + 1 + 2 * a) = 0 then ce (5 * k + 2 + 2 * a) + nI sz else ce (5 * k + 2 + 2 * a) := by
  unfold zapp
  rw [if_neg (by omega), show 5 * (sz + k) + 2 + 2 * a - 5 * sz = 5 * k + 2 + 2 * a by omega, show 5 * k + 2 + 2 * a - 1 = 5 * k + 1 + 2 * a by omega]
  by_cases h : ce (5 * k + 1 + 2 * a) = 0
  · rw [if_pos h, if_pos ⟨by rcases (show a = 0 ∨ a = 1 by omega) with rfl | rfl <;> omega, h⟩]
  · rw [if_neg h, if_neg (fun y => h y.2)]
/-- the appended sequence is in order -/
theorem zApp_ok {h : zM} {c ce : Nat → Int32} {no sz m : Nat} (h10 : sz + m ≤ 10) (hno : no ≤ 10) (hc : ∀ k, k < sz → zStOk h c no k) (he : ∀ k, k < m → zStOk h ce no k) : ∀ k, k < sz + m → zStOk h (zapp c sz ce) no k := by
  intro k hk
  by_cases q : k < sz
  · exact zStOk_K (sz := sz) hno (zKq_of no (fun r _ => rfl)) (Nat.le_refl _) (fun i hi => zapp_lo hi) hc k q
  · obtain ⟨j, rfl⟩ : ∃ j, k = sz + j := ⟨k - sz, by omega⟩
    obtain ⟨o, ho, e, a0, a1⟩ := he j (by omega)
    have key : ∀ a t, a < 2 → zArgOk h ce j a t → zArgOk h (zapp c sz ce) (sz + j) a t := by
      intro a t ha hz
      unfold zArgOk at *
      rw [zapp_f ha, zapp_v ha]
      rcases hz with ⟨z1, z2, z3⟩ | ⟨z1, z2 | ⟨z2, v, o', z3, z4, z5, z6, z7⟩⟩ | ⟨tt, z1, z2, z3, ⟨z4, z5⟩ | ⟨z4, v, o', tg, z5, z6, z7, z8, z9, z10, z11⟩⟩
      · exact Or.inl ⟨z1, z2, by rw [if_neg (by rw [z2]; decide)]; exact z3⟩
      · exact Or.inr (Or.inl ⟨z1, Or.inl z2⟩)
      · exact Or.inr (Or.inl ⟨z1, Or.inr ⟨z2, sz + v, o', by omega, by rw [if_pos z2, z4, nI_add, Nat.add_comm], z5, by rw [zapp_op]; exact z6, z7⟩⟩)
      · exact Or.inr (Or.inr ⟨tt, z1, z2, z3, Or.inl ⟨z4, by rw [if_neg (by rw [z4]; decide)]; exact z5⟩⟩)
      · exact Or.inr (Or.inr ⟨tt, z1, z2, z3, Or.inr ⟨z4, sz + v, o', tg, by omega, by rw [if_pos z4, z6, nI_add, Nat.add_comm], z7, by rw [zapp_op]; exact z8, z9, z10, z11⟩⟩)
    exact ⟨o, ho, by rw [zapp_op]; exact e, key 0 _ (by omega) a0, key 1 _ (by omega) a1⟩
theorem zSt_pos {h : zM} {c : Nat → Int32} {no k a : Nat} (hk : k ≤ 10) (ha : a < 2) (hs : zStOk h c no k) (hf : c (5 * k + 1 + 2 * a) = 0) : ∃ v : Nat, v < k ∧ c (5 * k + 2 + 2 * a) = nI v := by
  obtain ⟨o, ho, e, a0, a1⟩ := hs
  rcases (show a = 0 ∨ a = 1 by omega) with rfl | rfl
  · exact zArg_var a0 hf
  · exact zArg_var a1 hf
