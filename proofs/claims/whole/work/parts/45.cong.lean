/-! a run looks only at the catalog's rows and the statements -/
def zKq (K K' : zM) (no : Nat) : Prop := K' 2 = K 2 ∧ K' 3 = K 3 ∧ K' 4 = K 4 ∧ ∀ o, o < no → K' 5 o = K 5 o ∧ K' 6 o = K 6 o ∧ K' 7 o = K 7 o ∧ K' 8 o = K 8 o
theorem zKq_of {K K' : zM} (no : Nat) (h : ∀ r, r ≤ 8 → K' r = K r) : zKq K K' no := ⟨h 2 (by decide), h 3 (by decide), h 4 (by decide), fun o _ => ⟨by rw [h 5 (by decide)], by rw [h 6 (by decide)], by rw [h 7 (by decide)], by rw [h 8 (by decide)]⟩⟩
theorem zequ_K {K K' x : zM} (h2 : K' 2 = K 2) (h3 : K' 3 = K 3) : ∀ f a b, zequ K' x f a b ↔ zequ K x f a b := by
  intro f
  induction f with
  | zero => intro a b; exact Iff.rfl
  | succ f ih =>
    intro a b
    unfold zequ
    rw [h2, h3, ih]
theorem zequ_KK {K K' x : zM} (h2 : K' 2 = K 2) (h3 : K' 3 = K 3) (f a b : Nat) : zequ K' x f a b = zequ K x f a b := propext (zequ_K h2 h3 f a b)
theorem zop_K {K K' x : zM} (h2 : K' 2 = K 2) (h3 : K' 3 = K 3) {kd ty a b : Int32} {k cnt : Nat} : zop K' x kd ty a b k cnt = zop K x kd ty a b k cnt := by
  unfold zop
  rw [h2, zequ_KK h2 h3]
def zSq (c c' : Nat → Int32) (no sz : Nat) : Prop := ∀ k, k < sz → (∃ o, o < no ∧ c (5 * k) = nI o) ∧ ∀ i, i < 5 → c' (5 * k + i) = c (5 * k + i)
theorem zav_K {c c' : Nat → Int32} {x : zM} {k a : Nat} (ha : a < 2) (h : ∀ i, i < 5 → c' (5 * k + i) = c (5 * k + i)) : zav c' x k a = zav c x k a := by
  unfold zav
  rw [show 5 * k + 1 + 2 * a = 5 * k + (1 + 2 * a) by omega, show 5 * k + 2 + 2 * a = 5 * k + (2 + 2 * a) by omega, h _ (by omega), h _ (by omega)]
theorem zex_K {K K' x : zM} {c c' : Nat → Int32} {no k cnt : Nat} (hno : no ≤ 10) (hK : zKq K K' no) (ho : ∃ o, o < no ∧ c (5 * k) = nI o) (h : ∀ i, i < 5 → c' (5 * k + i) = c (5 * k + i)) : zex K' c' k cnt x = zex K c k cnt x := by
  obtain ⟨o, ho, e⟩ := ho
  have e' : c' (5 * k) = nI o := by rw [show 5 * k = 5 * k + 0 from rfl, h 0 (by decide)]; exact e
  unfold zex
  rw [zav_K (by decide) h, zav_K (by decide) h, e, e', znc (by omega), (hK.2.2.2 o ho).1, (hK.2.2.2 o ho).2.2.2, zop_K hK.1 hK.2.1]
theorem zgo_K {K K' : zM} {c c' : Nat → Int32} {no sz : Nat} (hno : no ≤ 10) (hK : zKq K K' no) (h : zSq c c' no sz) : ∀ (m k cnt : Nat) (x : zM), k + m ≤ sz → zgo K' c' m k cnt x = zgo K c m k cnt x := by
  intro m
  induction m with
  | zero => intro k cnt x _; rfl
  | succ m ih =>
    intro k cnt x hm
    unfold zgo
    rw [zex_K hno hK (h k (by omega)).1 (h k (by omega)).2, ih _ _ _ (by omega)]
theorem zfin_K {K K' : zM} {c c' : Nat → Int32} {no sz : Nat} (hno : no ≤ 10) (hK : zKq K K' no) (h : zSq c c' no sz) : zfin K' c' sz = zfin K c sz := zgo_K hno hK h sz 0 0 zx0 (by omega)
theorem zgo_at {K : zM} {c : Nat → Int32} : ∀ (m k cnt : Nat) (x : zM), (zgo K c m k cnt x).1 ≠ 0 → (zgo K c m k cnt x).2.1 < k + m := by
  intro m
  induction m with
  | zero => intro k cnt x h; exact absurd rfl h
  | succ m ih =>
    intro k cnt x
    unfold zgo
    by_cases e : (zex K c k cnt x).1 = 0
    · rw [if_pos e]
      intro q
      have := ih _ _ _ q
      omega
    · rw [if_neg e]
      intro _
      show k < k + (m + 1)
      omega
theorem zpr_K {K K' x : zM} (h2 : K' 2 = K 2) (h3 : K' 3 = K 3) (h4 : K' 4 = K 4) (a b : Nat) : zpr K' x a b = zpr K x a b := by
  unfold zpr zcode
  rw [zequ_KK h2 h3, zequ_KK h2 h3, h4]
theorem zinn_K {K K' x : zM} (h2 : K' 2 = K 2) (h3 : K' 3 = K 3) (h4 : K' 4 = K 4) (a : Nat) : ∀ m b, zinn K' x a m b = zinn K x a m b := by
  intro m
  induction m with
  | zero => intro b; rfl
  | succ m ih => intro b; unfold zinn; rw [zpr_K h2 h3 h4, ih]
theorem zout_K {K K' x : zM} (h2 : K' 2 = K 2) (h3 : K' 3 = K 3) (h4 : K' 4 = K 4) (cnt : Nat) : ∀ m a, zout K' x cnt m a = zout K x cnt m a := by
  intro m
  induction m with
  | zero => intro b; rfl
  | succ m ih => intro b; unfold zout; rw [zinn_K h2 h3 h4, ih]
theorem zself_K {K K' x : zM} (h2 : K' 2 = K 2) (h3 : K' 3 = K 3) : ∀ m a, zself K' x m a = zself K x m a := by
  intro m
  induction m with
  | zero => intro b; rfl
  | succ m ih => intro b; unfold zself; rw [zequ_KK h2 h3, ih]
theorem zfault_K {K K' x : zM} {cnt : Nat} (h2 : K' 2 = K 2) (h3 : K' 3 = K 3) (h4 : K' 4 = K 4) : zfault K' x cnt = zfault K x cnt := by
  unfold zfault
  rw [zself_K h2 h3, zout_K h2 h3 h4]
theorem zlt8_K {K K' : zM} {c c' : Nat → Int32} {no sz : Nat} (hno : no ≤ 10) (hK : zKq K K' no) (h : zSq c c' no sz) (h1 : 1 ≤ sz) : zlt8 K' c' sz = zlt8 K c sz := by
  obtain ⟨⟨o, ho, e⟩, h5⟩ := h (sz - 1) (by omega)
  unfold zlt8
  have e' := h5 0 (by decide)
  rw [Nat.add_zero] at e'
  rw [e', e, znc (by omega), (hK.2.2.2 o ho).2.2.2]
theorem zcame_K {K K' : zM} {c c' : Nat → Int32} {no sz : Nat} (hno : no ≤ 10) (hK : zKq K K' no) (h : zSq c c' no sz) : zcame K' c' (zfin K' c' sz) = zcame K c (zfin K c sz) := by
  rw [zfin_K hno hK h]
  unfold zcame
  rw [zfault_K hK.1 hK.2.1 hK.2.2.1]
  by_cases h0 : (zfin K c sz).1 = 0
  · rw [if_pos h0, if_pos h0]
  · have hk := zgo_at sz 0 0 zx0 h0
    rw [Nat.zero_add] at hk
    obtain ⟨⟨o, ho, e⟩, h5⟩ := h (zfin K c sz).2.1 hk
    have e' : c' (5 * (zfin K c sz).2.1) = nI o := (h5 0 (by decide)).trans e
    unfold zbad
    rw [zav_K (by decide) h5, zav_K (by decide) h5, e, e', znc (by omega), (hK.2.2.2 o ho).2.1, (hK.2.2.2 o ho).2.2.1]
theorem zgnr_K {K K' : zM} {c c' : Nat → Int32} {no sz : Nat} (hno : no ≤ 10) (hK : zKq K K' no) (h : zSq c c' no sz) (h1 : 1 ≤ sz) : zgave K' c' sz (zfin K' c' sz) = zgave K c sz (zfin K c sz) ∧ znum K' c' sz (zfin K' c' sz) = znum K c sz (zfin K c sz) ∧ zrws K' c' sz (zfin K' c' sz) = zrws K c sz (zfin K c sz) ∧ zshp K' c' sz (zfin K' c' sz) = zshp K c sz (zfin K c sz) := by
  rw [zfin_K hno hK h]
  unfold zgave znum zrws zshp
  rw [zlt8_K hno hK h h1]
  exact ⟨rfl, rfl, rfl, rfl⟩
