/-! nexts never go round: a chain has no more objects than there are -/
theorem zphp : ∀ (cnt R : Nat) (f : Nat → Nat), (∀ v, v < R → f v < cnt) → (∀ v w, v < R → w < R → f v = f w → v = w) → R ≤ cnt := by
  intro cnt
  induction cnt with
  | zero =>
    intro R f h1 _
    rcases Nat.eq_zero_or_pos R with h | h
    · omega
    · exact absurd (h1 0 h) (Nat.not_lt_zero _)
  | succ cnt ih =>
    intro R f h1 h2
    cases R with
    | zero => omega
    | succ R =>
      have := ih R (fun v => if f v = cnt then f R else f v) (fun v hv => ?_) (fun v w hv hw e => ?_)
      · omega
      · by_cases hc : f v = cnt
        · simp only [hc, if_true]
          have a := h1 R (by omega)
          have b : f R ≠ cnt := fun z => absurd (h2 v R (by omega) (by omega) (hc.trans z.symm)) (by omega)
          omega
        · simp only [hc, if_false]
          have a := h1 v (by omega)
          omega
      · by_cases hc : f v = cnt <;> by_cases hd : f w = cnt
        · exact h2 v w (by omega) (by omega) (hc.trans hd.symm)
        · simp only [hc, hd, if_true, if_false] at e
          exact absurd (h2 R w (by omega) (by omega) e) (by omega)
        · simp only [hc, hd, if_true, if_false] at e
          exact absurd (h2 v R (by omega) (by omega) e) (by omega)
        · simp only [hc, hd, if_false] at e
          exact h2 v w (by omega) (by omega) e
def zit (nx : Nat → Int32) : Nat → Int32 → Int32
  | 0, a => a
  | s + 1, a => zit nx s (nx (Int32.toNatClampNeg a))
theorem zit_s {nx : Nat → Int32} : ∀ (s : Nat) (a : Int32), zit nx (s + 1) a = nx (Int32.toNatClampNeg (zit nx s a))
  | 0, a => rfl
  | s + 1, a => zit_s s (nx (Int32.toNatClampNeg a))
theorem zend_of_it {nx : Nat → Int32} : ∀ (v f : Nat) (a : Int32), zend nx f (zit nx v a) → zend nx (v + f) a
  | 0, f, a, h => by rw [Nat.zero_add]; exact h
  | v + 1, f, a, h => by
    rw [show v + 1 + f = (v + f) + 1 by omega]
    exact Or.inr (zend_of_it v f _ h)
theorem zend_it {nx : Nat → Int32} : ∀ (v f : Nat) (a : Int32), zend nx f a → (∀ s, s < v → zit nx s a ≠ -1) → v ≤ f → zend nx (f - v) (zit nx v a)
  | 0, f, a, h, _, _ => h
  | v + 1, f, a, h, hs, hv => by
    obtain ⟨g, rfl⟩ : ∃ g, f = g + 1 := ⟨f - 1, by omega⟩
    rcases h with h | h
    · exact absurd h (hs 0 (by omega))
    · have := zend_it v g (nx (Int32.toNatClampNeg a)) h (fun s hs' => hs (s + 1) (by omega)) (by omega)
      rw [show g + 1 - (v + 1) = g - v by omega]
      exact this
theorem zend_bound {nx : Nat → Int32} {cnt : Nat} (hc : cnt ≤ 10) (hr : ∀ i, i < cnt → zRf cnt (nx i)) {i : Nat} (hi : i < cnt) (he : ∃ f, zend nx f (nI i)) : zend nx cnt (nI i) := by
  obtain ⟨R, hR, hmin⟩ := pk_least (fun f => zend nx f (nI i)) he
  have hne : ∀ v, v < R → zit nx v (nI i) ≠ -1 := fun v hv z => hmin v hv (by
    have := zend_of_it v 0 (nI i) (show zend nx 0 (zit nx v (nI i)) from z)
    exact this)
  have hnode : ∀ v, v < R → ∃ j, j < cnt ∧ zit nx v (nI i) = nI j := by
    intro v
    induction v with
    | zero => exact fun _ => ⟨i, hi, rfl⟩
    | succ v ih =>
      intro hv
      obtain ⟨j, hj, e⟩ := ih (by omega)
      have h1 := hne (v + 1) hv
      rw [zit_s, e, znc (by omega)] at h1 ⊢
      exact (hr j hj).resolve_left h1
  have hle : R ≤ cnt := by
    refine zphp cnt R (fun v => Int32.toNatClampNeg (zit nx v (nI i))) (fun v hv => ?_) ?_
    · obtain ⟨j, hj, e⟩ := hnode v hv
      rw [e, znc (by omega)]
      exact hj
    · have key : ∀ v w, v < w → w < R → Int32.toNatClampNeg (zit nx v (nI i)) = Int32.toNatClampNeg (zit nx w (nI i)) → False := by
        intro v w hvw hw e
        obtain ⟨j, hj, ej⟩ := hnode v (by omega)
        obtain ⟨k, hk, ek⟩ := hnode w hw
        rw [ej, ek, znc (by omega), znc (by omega)] at e
        subst e
        have h1 := zend_it w R (nI i) hR (fun s hs => hne s (by omega)) (by omega)
        rw [ek, ← ej] at h1
        exact hmin (v + (R - w)) (by omega) (zend_of_it v _ _ h1)
      intro v w hv hw e
      rcases Nat.lt_trichotomy v w with h | h | h
      · exact (key v w h hw e).elim
      · exact h
      · exact (key w v h hv e.symm).elim
  exact zend_mono hle hR
theorem zend_link {nx : Nat → Int32} {cnt : Nat} (hc : cnt ≤ 10) (hr : ∀ i, i < cnt → zRf cnt (nx i) ∧ zend nx cnt (nI i)) {a : Nat} (ha : a < cnt) {b : Int32} (hb : zRf cnt b) (hnr : ¬ zrch nx (nI a) 10 b) : ∀ i, i < cnt → zRf cnt (upd nx a b i) ∧ zend (upd nx a b) cnt (nI i) := by
  have hrf : ∀ i, i < cnt → zRf cnt (upd nx a b i) := by
    intro i hi
    unfold upd
    by_cases h : i = a
    · rw [if_pos h]; exact hb
    · rw [if_neg h]; exact (hr i hi).1
  have s1 : ∀ (f : Nat) (y : Int32), zRf cnt y → zend nx f y → ¬ zrch nx (nI a) f y → zend (upd nx a b) f y := by
    intro f
    induction f with
    | zero => intro y _ h _; exact h
    | succ f ih =>
      intro y hy h hn
      rcases hy with rfl | ⟨j, hj, rfl⟩
      · exact Or.inl rfl
      · have hja : j ≠ a := fun z => hn ⟨znm1 (by omega), Or.inl (by rw [z])⟩
        rcases h with h | h
        · exact Or.inl h
        · refine Or.inr ?_
          rw [znc (by omega)] at h ⊢
          have e : upd nx a b j = nx j := if_neg hja
          rw [e]
          exact ih (nx j) (hr j hj).1 h (fun z => hn ⟨znm1 (by omega), Or.inr (by rw [znc (by omega)]; exact z)⟩)
  have hbe : zend nx 10 b := by
    rcases hb with rfl | ⟨j, hj, rfl⟩
    · exact zend_m1 _
    · exact zend_mono hc (hr j hj).2
  have hb' := s1 10 b hb hbe hnr
  have s2 : ∀ (f i : Nat), i < cnt → zend nx f (nI i) → ∃ f', zend (upd nx a b) f' (nI i) := by
    intro f
    induction f with
    | zero => intro i hi h; exact absurd h (znm1 (by omega))
    | succ f ih =>
      intro i hi h
      by_cases hia : i = a
      · subst hia
        refine ⟨10 + 1, Or.inr ?_⟩
        rw [znc (by omega)]
        have e : upd nx i b i = b := if_pos rfl
        rw [e]
        exact hb'
      · rcases h with h | h
        · exact absurd h (znm1 (by omega))
        · rw [znc (by omega)] at h
          have e : upd nx a b i = nx i := if_neg hia
          rcases (hr i hi).1 with z | ⟨j, hj, ej⟩
          · refine ⟨1, Or.inr ?_⟩
            rw [znc (by omega), e, z]
            rfl
          · rw [ej] at h
            obtain ⟨f', hf'⟩ := ih j hj h
            refine ⟨f' + 1, Or.inr ?_⟩
            rw [znc (by omega), e, ej]
            exact hf'
  exact fun i hi => ⟨hrf i hi, zend_bound hc hrf hi (s2 cnt i hi (hr i hi).2)⟩
theorem zend_make {nx : Nat → Int32} {cnt : Nat} (hc : cnt < 10) (hr : ∀ i, i < cnt → zRf cnt (nx i) ∧ zend nx cnt (nI i)) {b : Int32} (hb : zRf cnt b) : ∀ i, i < cnt + 1 → zRf (cnt + 1) (upd nx cnt b i) ∧ zend (upd nx cnt b) (cnt + 1) (nI i) := by
  have up : ∀ y, zRf cnt y → zRf (cnt + 1) y := by
    rintro y (h | ⟨j, hj, e⟩)
    · exact Or.inl h
    · exact Or.inr ⟨j, by omega, e⟩
  have s1 : ∀ (f : Nat) (y : Int32), zRf cnt y → zend nx f y → zend (upd nx cnt b) f y := by
    intro f
    induction f with
    | zero => intro y _ h; exact h
    | succ f ih =>
      intro y hy h
      rcases hy with rfl | ⟨j, hj, rfl⟩
      · exact Or.inl rfl
      · rcases h with h | h
        · exact Or.inl h
        · refine Or.inr ?_
          rw [znc (by omega)] at h ⊢
          have e : upd nx cnt b j = nx j := if_neg (by omega)
          rw [e]
          exact ih (nx j) (hr j hj).1 h
  have hbe : zend nx cnt b := by
    rcases hb with rfl | ⟨j, hj, rfl⟩
    · exact zend_m1 _
    · exact (hr j hj).2
  intro i hi
  by_cases h : i = cnt
  · subst h
    have e : upd nx i b i = b := if_pos rfl
    rw [e]
    refine ⟨up b hb, Or.inr ?_⟩
    rw [znc (by omega), e]
    exact s1 i b hb hbe
  · have e : upd nx cnt b i = nx i := if_neg h
    rw [e]
    exact ⟨up _ (hr i (by omega)).1, zend_mono (Nat.le_succ cnt) (s1 cnt (nI i) (Or.inr ⟨i, by omega, rfl⟩) (hr i (by omega)).2)⟩
