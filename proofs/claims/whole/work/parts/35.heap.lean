/-! the objects of a run: x 0 classes, x 1 values, x 2 nexts, x 3 results; cnt of them -/
def zend (nx : Nat → Int32) : Nat → Int32 → Prop
  | 0, a => a = -1
  | f + 1, a => a = -1 ∨ zend nx f (nx (Int32.toNatClampNeg a))
def zrch (nx : Nat → Int32) (w : Int32) : Nat → Int32 → Prop
  | 0, _ => False
  | f + 1, a => a ≠ -1 ∧ (a = w ∨ zrch nx w f (nx (Int32.toNatClampNeg a)))
def zlen (nx : Nat → Int32) : Nat → Int32 → Nat
  | 0, _ => 0
  | f + 1, a => if a = -1 then 0 else zlen nx f (nx (Int32.toNatClampNeg a)) + 1
def zrow (x : zM) : Nat → Int32 → List Int32
  | 0, _ => []
  | f + 1, a => if a = -1 then [] else x 0 (Int32.toNatClampNeg a) :: x 1 (Int32.toNatClampNeg a) :: zrow x f (x 2 (Int32.toNatClampNeg a))
def zequ (K x : zM) : Nat → Nat → Nat → Prop
  | 0, _, _ => False
  | f + 1, a, b =>
    if K 3 (Int32.toNatClampNeg (x 0 a)) = 0 then a = b else if K 3 (Int32.toNatClampNeg (x 0 a)) = 4 then False else if x 1 a ≠ x 1 b then False
    else if K 3 (Int32.toNatClampNeg (x 0 a)) = 3 then zIs (K 2) (Int32.toNatClampNeg (x 0 b)) (Int32.toNatClampNeg (x 0 a)) else if x 0 a ≠ x 0 b then False else if K 3 (Int32.toNatClampNeg (x 0 a)) = 1 then True
    else if x 2 a = -1 ∨ x 2 b = -1 then x 2 a = x 2 b else zequ K x f (Int32.toNatClampNeg (x 2 a)) (Int32.toNatClampNeg (x 2 b))
theorem zend_m1 {nx : Nat → Int32} : ∀ f, zend nx f (-1)
  | 0 => rfl
  | _ + 1 => Or.inl rfl
theorem zend_mono {nx : Nat → Int32} : ∀ {f f' : Nat} {a : Int32}, f ≤ f' → zend nx f a → zend nx f' a
  | 0, f', a, _, h => by
    have h : a = -1 := h
    subst h
    exact zend_m1 f'
  | f + 1, f', a, hf, h => by
    obtain ⟨g, rfl⟩ : ∃ g, f' = g + 1 := ⟨f' - 1, by omega⟩
    rcases h with h | h
    · exact Or.inl h
    · exact Or.inr (zend_mono (by omega) h)
theorem zrch_fuel {nx : Nat → Int32} {w : Int32} : ∀ {f f' : Nat} {a : Int32}, zend nx f a → f ≤ f' → (zrch nx w f' a ↔ zrch nx w f a)
  | 0, f', a, h, _ => by
    have h : a = -1 := h
    subst h
    cases f' with
    | zero => exact Iff.rfl
    | succ f' => exact ⟨fun z => absurd rfl z.1, fun z => z.elim⟩
  | f + 1, f', a, h, hf => by
    obtain ⟨g, rfl⟩ : ∃ g, f' = g + 1 := ⟨f' - 1, by omega⟩
    rcases h with h | h
    · subst h
      exact ⟨fun z => absurd rfl z.1, fun z => absurd rfl z.1⟩
    · show (a ≠ -1 ∧ (a = w ∨ zrch nx w g _)) ↔ (a ≠ -1 ∧ (a = w ∨ zrch nx w f _))
      rw [zrch_fuel h (by omega)]
theorem zlen_fuel {nx : Nat → Int32} : ∀ {f f' : Nat} {a : Int32}, zend nx f a → f ≤ f' → zlen nx f' a = zlen nx f a
  | 0, f', a, h, _ => by
    have h : a = -1 := h
    subst h
    cases f' with
    | zero => rfl
    | succ f' => exact if_pos rfl
  | f + 1, f', a, h, hf => by
    obtain ⟨g, rfl⟩ : ∃ g, f' = g + 1 := ⟨f' - 1, by omega⟩
    rcases h with h | h
    · subst h
      show (if _ then _ else _) = (if _ then _ else _)
      rw [if_pos rfl, if_pos rfl]
    · show (if _ then _ else _) = (if _ then _ else _)
      rw [zlen_fuel h (by omega)]
theorem zrow_fuel {x : zM} : ∀ {f f' : Nat} {a : Int32}, zend (x 2) f a → f ≤ f' → zrow x f' a = zrow x f a
  | 0, f', a, h, _ => by
    have h : a = -1 := h
    subst h
    cases f' with
    | zero => rfl
    | succ f' => exact if_pos rfl
  | f + 1, f', a, h, hf => by
    obtain ⟨g, rfl⟩ : ∃ g, f' = g + 1 := ⟨f' - 1, by omega⟩
    rcases h with h | h
    · subst h
      show (if _ then _ else _) = (if _ then _ else _)
      rw [if_pos rfl, if_pos rfl]
    · show (if _ then _ else _) = (if _ then _ else _)
      rw [zrow_fuel h (by omega)]
/-- a reference in a run: null, or an object -/
def zRf (cnt : Nat) (a : Int32) : Prop := a = -1 ∨ ∃ j : Nat, j < cnt ∧ a = nI j
def zHv (nc cnt : Nat) (x : zM) : Prop := cnt ≤ 10 ∧ ∀ i, i < cnt → (∃ c : Nat, 1 ≤ c ∧ c ≤ nc ∧ x 0 i = nI c) ∧ zRf cnt (x 2 i) ∧ zend (x 2) cnt (nI i)
theorem znm1 {j : Nat} (h : j < 2147483648) : nI j ≠ -1 := by
  intro q
  rw [zeq, znI h, zti_m1] at q
  omega
theorem zn0 {j : Nat} (h : j < 2147483648) : ¬ nI j < 0 := by
  rw [zlt, znI h, zti_0]
  omega
theorem zp0 {j : Nat} (h : j < 2147483648) : 0 ≤ nI j := by
  rw [zle, znI h, zti_0]
  omega
theorem zend_rf {nc cnt : Nat} {x : zM} (hv : zHv nc cnt x) {a : Int32} (ha : zRf cnt a) : zend (x 2) cnt a := by
  rcases ha with rfl | ⟨j, hj, rfl⟩
  · exact zend_m1 _
  · exact (hv.2 j hj).2.2
theorem zend_next {nx : Nat → Int32} {f j : Nat} (hj : j < 2147483648) (h : zend nx f (nI j)) : ∃ f', f = f' + 1 ∧ zend nx f' (nx j) := by
  cases f with
  | zero => exact absurd h (znm1 hj)
  | succ f =>
    rcases h with h | h
    · exact absurd h (znm1 hj)
    · rw [znc hj] at h
      exact ⟨f, rfl, h⟩
theorem zequ_fuel {K x : zM} {nc cnt : Nat} (hv : zHv nc cnt x) : ∀ {f f' a b : Nat}, a < cnt → b < cnt → zend (x 2) f (nI a) → f ≤ f' → (zequ K x f' a b ↔ zequ K x f a b) := by
  intro f
  induction f with
  | zero =>
    intro f' a b ha hb h _
    have := hv.1
    exact absurd h (znm1 (by omega))
  | succ f ih =>
    intro f' a b ha hb h hf
    have hc := hv.1
    obtain ⟨g, rfl⟩ : ∃ g, f' = g + 1 := ⟨f' - 1, by omega⟩
    obtain ⟨f2, e2, h2⟩ := zend_next (by omega) h
    obtain rfl : f = f2 := by omega
    unfold zequ
    by_cases hn : x 2 a = -1 ∨ x 2 b = -1
    · rw [if_pos hn, if_pos hn]
    · rw [if_neg hn, if_neg hn]
      have ha2 : ∃ j : Nat, j < cnt ∧ x 2 a = nI j := (hv.2 a ha).2.1.resolve_left (fun z => hn (Or.inl z))
      have hb2 : ∃ j : Nat, j < cnt ∧ x 2 b = nI j := (hv.2 b hb).2.1.resolve_left (fun z => hn (Or.inr z))
      obtain ⟨j, hj, ej⟩ := ha2
      obtain ⟨k, hk, ek⟩ := hb2
      rw [ej] at h2
      rw [ej, ek, znc (by omega), znc (by omega), ih hj hk h2 (by omega)]
def zAg (h : zM) (cnt : Nat) (x : zM) : Prop := h 15 1 = nI cnt ∧ ∀ i, i < cnt → h 16 i = x 0 i ∧ h 17 i = x 1 i ∧ h 18 i = x 2 i
def mAg (g : zM) (cnt : Nat) (x : zM) : Prop := g 0 25 = nI cnt ∧ ∀ i, i < cnt → g 20 i = x 0 i ∧ g 21 i = x 1 i ∧ g 22 i = x 2 i
theorem z_reaches {n : Nat} {ln : Nat → Nat} {h x : zM} {nc cnt : Nat} (hA : zAg h cnt x) (hv : zHv nc cnt x) {a : Int32} (ha : zRf cnt a) {w : Nat} (hw : w < cnt) (post : Int32 → zM → Prop) (h1 : ¬ zrch (x 2) (nI w) 10 a → post 0 h) (h2 : zrch (x 2) (nI w) 10 a → post 1 h) : wpHeap_reaches n ln a (nI w) h post := by
  have hc := hv.1
  unfold wpHeap_reaches
  have fin : ∀ b, zRf cnt b → (b = -1 ∨ b = nI w) → (zrch (x 2) (nI w) 10 a ↔ zrch (x 2) (nI w) 10 b) → wbHeap_reaches_37 n ln post (nI w) b h := by
    intro b hb hbw hiff
    unfold wbHeap_reaches_37
    rcases hbw with rfl | rfl
    · refine ⟨fun _ => h1 (fun z => ?_), fun q => absurd q.symm (znm1 (by omega))⟩
      exact absurd rfl (hiff.mp z).1
    · exact ⟨fun q => absurd rfl q, fun _ => h2 (hiff.mpr ⟨znm1 (by omega), Or.inl rfl⟩)⟩
  refine zL_rule (fun s => s.1 = nI w ∧ s.2.2.2 = h ∧ zRf cnt s.2.1 ∧ (zrch (x 2) (nI w) 10 a ↔ zrch (x 2) (nI w) 10 s.2.1) ∧ ∃ i : Nat, s.2.2.1 = nI i ∧ i ≤ cnt ∧ zend (x 2) (cnt - i) s.2.1) (fun s => cnt + 1 - s.2.2.1.toNatClampNeg) ?_ (nI w, a, 0, h) ⟨rfl, rfl, ha, Iff.rfl, 0, rfl, Nat.zero_le _, zend_rf hv ha⟩
  rintro ⟨v2, v3, v4, hh⟩ L ⟨e1, e2, hb, hiff, i, e4, hi, he⟩ ih
  dsimp only at e1 e2 e4 hb hiff he ih
  subst e1 e2 e4
  unfold stHeap_reaches_5
  dsimp only
  rw [hA.1]
  refine ⟨fun q1 => ?_, fun q1 => ⟨fun q2 => fin v3 hb (Or.inl q2) hiff, fun q2 => ⟨fun q3 => fin v3 hb (Or.inr q3) hiff, fun q3 => ?_⟩⟩⟩
  · rw [zle, znI (by omega), znI (by omega)] at q1
    rw [show cnt - i = 0 by omega] at he
    exact fin v3 hb (Or.inl he) hiff
  · rw [zle, znI (by omega), znI (by omega)] at q1
    obtain ⟨j, hj, rfl⟩ := hb.resolve_left q2
    refine ⟨zin_nI (by omega) (by omega), fun y30 e30 => ?_⟩
    rw [znc (by omega), (hA.2 j hj).2.2] at e30
    subst e30
    rw [nI_1]
    obtain ⟨f', ef, hf'⟩ := zend_next (by omega) he
    have hrf := (hv.2 j hj).2.1
    refine ih _ ⟨rfl, rfl, hrf, ?_, i + 1, rfl, by omega, by rw [show cnt - (i + 1) = f' by omega]; exact hf'⟩ ?_
    · rw [hiff, ← zrch_fuel (f' := 10 + 1) (zend_rf hv (Or.inr ⟨j, hj, rfl⟩) |> zend_mono hc) (by omega)]
      show (nI j ≠ -1 ∧ (nI j = nI w ∨ zrch (x 2) (nI w) 10 (x 2 (Int32.toNatClampNeg (nI j))))) ↔ _
      rw [znc (by omega)]
      exact ⟨fun z => z.2.resolve_left q3, fun z => ⟨q2, Or.inr z⟩⟩
    · dsimp only
      rw [znc (by omega), znc (by omega)]
      omega
theorem m_reaches {g x : zM} {nc cnt : Nat} (hA : mAg g cnt x) (hv : zHv nc cnt x) {a : Int32} (ha : zRf cnt a) {w : Nat} (hw : w < cnt) (post : Int32 → zM → Prop) (h1 : ¬ zrch (x 2) (nI w) 10 a → post 0 g) (h2 : zrch (x 2) (nI w) 10 a → post 1 g) : wpMod_reaches a (nI w) g post := by
  have hc := hv.1
  unfold wpMod_reaches
  have fin : ∀ b, zRf cnt b → (b = -1 ∨ b = nI w) → (zrch (x 2) (nI w) 10 a ↔ zrch (x 2) (nI w) 10 b) → wbMod_reaches_34 post (nI w) b g := by
    intro b hb hbw hiff
    unfold wbMod_reaches_34
    rcases hbw with rfl | rfl
    · refine ⟨fun _ => h1 (fun z => ?_), fun q => absurd (by decide) q⟩
      exact absurd rfl (hiff.mp z).1
    · exact ⟨fun q => absurd q (zn0 (by omega)), fun _ => ⟨fun q => absurd rfl q, fun _ => h2 (hiff.mpr ⟨znm1 (by omega), Or.inl rfl⟩)⟩⟩
  refine zL_rule (fun s => s.1 = nI w ∧ s.2.2.2 = g ∧ zRf cnt s.2.1 ∧ (zrch (x 2) (nI w) 10 a ↔ zrch (x 2) (nI w) 10 s.2.1) ∧ ∃ i : Nat, s.2.2.1 = nI i ∧ i ≤ 10 ∧ zend (x 2) (10 - i) s.2.1) (fun s => 11 - s.2.2.1.toNatClampNeg) ?_ (nI w, a, 0, g) ⟨rfl, rfl, ha, Iff.rfl, 0, rfl, Nat.zero_le _, zend_mono hc (zend_rf hv ha)⟩
  rintro ⟨v2, v3, v4, hh⟩ L ⟨e1, e2, hb, hiff, i, e4, hi, he⟩ ih
  dsimp only at e1 e2 e4 hb hiff he ih
  subst e1 e2 e4
  unfold stMod_reaches_5
  dsimp only
  have neg : v3 < 0 → v3 = -1 := fun q => by
    rcases hb with hb | ⟨j, hj, rfl⟩
    · exact hb
    · exact absurd q (zn0 (by omega))
  refine ⟨fun q1 => ?_, fun q1 => ⟨fun q2 => fin v3 hb (Or.inl (neg q2)) hiff, fun q2 => ⟨fun q3 => fin v3 hb (Or.inr q3) hiff, fun q3 => ?_⟩⟩⟩
  · rw [zle, znI (by omega), zti_10] at q1
    rw [show 10 - i = 0 by omega] at he
    exact fin v3 hb (Or.inl he) hiff
  · rw [zle, znI (by omega), zti_10] at q1
    have q2' : v3 ≠ -1 := fun z => q2 (by rw [z]; decide)
    obtain ⟨j, hj, rfl⟩ := hb.resolve_left q2'
    refine ⟨zin_nI (by omega) (by omega), fun y30 e30 => ?_⟩
    rw [znc (by omega), (hA.2 j hj).2.2] at e30
    subst e30
    rw [nI_1]
    obtain ⟨f', ef, hf'⟩ := zend_next (by omega) he
    have hrf := (hv.2 j hj).2.1
    refine ih _ ⟨rfl, rfl, hrf, ?_, i + 1, rfl, by omega, by rw [show 10 - (i + 1) = f' by omega]; exact hf'⟩ ?_
    · rw [hiff, ← zrch_fuel (f' := 10 + 1) (zend_rf hv (Or.inr ⟨j, hj, rfl⟩) |> zend_mono hc) (by omega)]
      show (nI j ≠ -1 ∧ (nI j = nI w ∨ zrch (x 2) (nI w) 10 (x 2 (Int32.toNatClampNeg (nI j))))) ↔ _
      rw [znc (by omega)]
      exact ⟨fun z => z.2.resolve_left q3, fun z => ⟨q2', Or.inr z⟩⟩
    · dsimp only
      rw [znc (by omega), znc (by omega)]
      omega
theorem z_chain {n : Nat} {ln : Nat → Nat} {h x : zM} {nc cnt : Nat} (hA : zAg h cnt x) (hv : zHv nc cnt x) {a : Int32} (ha : zRf cnt a) (post : Int32 → zM → Prop) (hp : post (nI (zlen (x 2) 10 a)) h) : wpHeap_chainLength n ln a h post := by
  have hc := hv.1
  unfold wpHeap_chainLength
  refine zL_rule (fun s => s.2.2.2 = h ∧ zRf cnt s.2.1 ∧ ∃ i : Nat, s.2.2.1 = nI i ∧ s.1 = nI i ∧ i ≤ cnt ∧ zend (x 2) (cnt - i) s.2.1 ∧ zlen (x 2) 10 a = i + zlen (x 2) 10 s.2.1) (fun s => cnt + 1 - s.2.2.1.toNatClampNeg) ?_ (0, a, 0, h) ⟨rfl, ha, 0, rfl, rfl, Nat.zero_le _, zend_rf hv ha, (Nat.zero_add _).symm⟩
  rintro ⟨v2, v3, v4, hh⟩ L ⟨e2, hb, i, e4, e5, hi, he, hlen⟩ ih
  dsimp only at e2 e4 e5 hb he hlen ih
  subst e2 e4 e5
  unfold stHeap_chainLength_7
  dsimp only
  rw [hA.1]
  have fin : v3 = -1 → post (nI i) hh := fun z => by
    subst z
    have : zlen (x 2) 10 (-1) = 0 := rfl
    rw [this] at hlen
    rw [hlen] at hp
    exact hp
  refine ⟨fun q1 => ?_, fun q1 => ⟨fun q2 => fin q2, fun q2 => ?_⟩⟩
  · rw [zle, znI (by omega), znI (by omega)] at q1
    rw [show cnt - i = 0 by omega] at he
    exact fin he
  · rw [zle, znI (by omega), znI (by omega)] at q1
    obtain ⟨j, hj, rfl⟩ := hb.resolve_left q2
    refine ⟨zin_nI (by omega) (by omega), fun y30 e30 => ?_⟩
    rw [znc (by omega), (hA.2 j hj).2.2] at e30
    subst e30
    rw [nI_1]
    obtain ⟨f', ef, hf'⟩ := zend_next (by omega) he
    have hrf := (hv.2 j hj).2.1
    refine ih _ ⟨rfl, hrf, i + 1, rfl, rfl, by omega, by rw [show cnt - (i + 1) = f' by omega]; exact hf', ?_⟩ ?_
    · dsimp only
      rw [hlen, ← zlen_fuel (f' := 10 + 1) (zend_rf hv (Or.inr ⟨j, hj, rfl⟩) |> zend_mono hc) (by omega)]
      show i + (if nI j = -1 then 0 else zlen (x 2) 10 (x 2 (Int32.toNatClampNeg (nI j))) + 1) = _
      rw [if_neg q2, znc (by omega)]
      omega
    · dsimp only
      rw [znc (by omega), znc (by omega)]
      omega
theorem m_count {g x : zM} {nc cnt : Nat} (hA : mAg g cnt x) (hv : zHv nc cnt x) {a : Int32} (ha : zRf cnt a) (post : Int32 → zM → Prop) (hp : post (nI (zlen (x 2) 10 a)) g) : wpMod_count a g post := by
  have hc := hv.1
  unfold wpMod_count
  refine zL_rule (fun s => s.2.2 = g ∧ zRf cnt s.2.1 ∧ ∃ i : Nat, s.1 = nI i ∧ i ≤ 10 ∧ zend (x 2) (10 - i) s.2.1 ∧ zlen (x 2) 10 a = i + zlen (x 2) 10 s.2.1) (fun s => 11 - s.1.toNatClampNeg) ?_ (0, a, g) ⟨rfl, ha, 0, rfl, Nat.zero_le _, zend_mono hc (zend_rf hv ha), (Nat.zero_add _).symm⟩
  rintro ⟨v2, v3, hh⟩ L ⟨e2, hb, i, e5, hi, he, hlen⟩ ih
  dsimp only at e2 e5 hb he hlen ih
  subst e2 e5
  unfold stMod_count_4
  dsimp only
  have fin : v3 = -1 → post (nI i) hh := fun z => by
    subst z
    have : zlen (x 2) 10 (-1) = 0 := rfl
    rw [this] at hlen
    rw [hlen] at hp
    exact hp
  have neg : v3 < 0 → v3 = -1 := fun q => by
    rcases hb with hb | ⟨j, hj, rfl⟩
    · exact hb
    · exact absurd q (zn0 (by omega))
  refine ⟨fun q1 => ?_, fun q1 => ⟨fun q2 => fin (neg q2), fun q2 => ?_⟩⟩
  · rw [zle, znI (by omega), zti_10] at q1
    rw [show 10 - i = 0 by omega] at he
    exact fin he
  · rw [zle, znI (by omega), zti_10] at q1
    have q2' : v3 ≠ -1 := fun z => q2 (by rw [z]; decide)
    obtain ⟨j, hj, rfl⟩ := hb.resolve_left q2'
    refine ⟨zin_nI (by omega) (by omega), fun y30 e30 => ?_⟩
    rw [znc (by omega), (hA.2 j hj).2.2] at e30
    subst e30
    rw [nI_1]
    obtain ⟨f', ef, hf'⟩ := zend_next (by omega) he
    have hrf := (hv.2 j hj).2.1
    refine ih _ ⟨rfl, hrf, i + 1, rfl, by omega, by rw [show 10 - (i + 1) = f' by omega]; exact hf', ?_⟩ ?_
    · dsimp only
      rw [hlen, ← zlen_fuel (f' := 10 + 1) (zend_rf hv (Or.inr ⟨j, hj, rfl⟩) |> zend_mono hc) (by omega)]
      show i + (if nI j = -1 then 0 else zlen (x 2) 10 (x 2 (Int32.toNatClampNeg (nI j))) + 1) = _
      rw [if_neg q2', znc (by omega)]
      omega
    · dsimp only
      rw [znc (by omega), znc (by omega)]
      omega
