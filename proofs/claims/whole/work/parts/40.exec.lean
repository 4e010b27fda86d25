/-! one statement of a run -/
def zArgOk (h : zM) (c : Nat → Int32) (k a : Nat) (t : Int32) : Prop :=
  (t = -1 ∧ c (5 * k + 1 + 2 * a) = -1 ∧ c (5 * k + 2 + 2 * a) = 0) ∨
  (t = 0 ∧ (c (5 * k + 1 + 2 * a) = 1 ∨ (c (5 * k + 1 + 2 * a) = 0 ∧ ∃ v o' : Nat, v < k ∧ c (5 * k + 2 + 2 * a) = nI v ∧ o' < 10 ∧ c (5 * v) = nI o' ∧ h 8 o' = 0))) ∨
  (∃ tt : Nat, 1 ≤ tt ∧ tt ≤ 4 ∧ t = nI tt ∧ ((c (5 * k + 1 + 2 * a) = 2 ∧ c (5 * k + 2 + 2 * a) = 0) ∨ (c (5 * k + 1 + 2 * a) = 0 ∧ ∃ v o' tg : Nat, v < k ∧ c (5 * k + 2 + 2 * a) = nI v ∧ o' < 10 ∧ c (5 * v) = nI o' ∧ tg ≤ 4 ∧ h 8 o' = nI tg ∧ zIs (h 2) tg tt)))
def zStOk (h : zM) (c : Nat → Int32) (no k : Nat) : Prop := ∃ o : Nat, o < no ∧ c (5 * k) = nI o ∧ zArgOk h c k 0 (h 6 o) ∧ zArgOk h c k 1 (h 7 o)
def zRv (h : zM) (c : Nat → Int32) (cnt : Nat) (x : zM) (k : Nat) : Prop := ∀ j, j < k → ∃ o : Nat, o < 10 ∧ c (5 * j) = nI o ∧ (h 8 o ≠ 0 → zRf cnt (x 3 j))
theorem zArg_var {h : zM} {c : Nat → Int32} {k a : Nat} {t : Int32} (hok : zArgOk h c k a t) (h0 : c (5 * k + 1 + 2 * a) = 0) : ∃ v : Nat, v < k ∧ c (5 * k + 2 + 2 * a) = nI v := by
  rcases hok with ⟨-, z, -⟩ | ⟨-, z | ⟨-, v, o', hv, e, -⟩⟩ | ⟨tt, -, -, -, ⟨z, -⟩ | ⟨-, v, o', tg, hv, e, -⟩⟩
  · rw [h0] at z; exact absurd z (by decide)
  · rw [h0] at z; exact absurd z (by decide)
  · exact ⟨v, hv, e⟩
  · rw [h0] at z; exact absurd z (by decide)
  · exact ⟨v, hv, e⟩
theorem zArg_rf {h x : zM} {c : Nat → Int32} {k a cnt tt : Nat} (hk : k ≤ 10) (ht : 1 ≤ tt) (ht4 : tt ≤ 4) (hok : zArgOk h c k a (nI tt)) (hrv : zRv h c cnt x k) : zRf cnt (zav c x k a) := by
  rcases hok with ⟨z, -⟩ | ⟨z, -⟩ | ⟨t2, l1, l2, et, ⟨z, -⟩ | ⟨z, v, o', tg, hv, e, ho', eo, htg, erg, hi⟩⟩
  · exact absurd z (znm1 (by omega))
  · rw [zeq, znI (by omega), zti_0] at z; omega
  · unfold zav
    rw [if_neg (by rw [z]; decide), if_neg (by rw [z]; decide)]
    exact Or.inl rfl
  · have : tt = t2 := (nI_eq (by omega) (by omega)).mp et
    subst this
    unfold zav
    rw [if_pos z, e, znc (by omega)]
    obtain ⟨o2, ho2, eo2, hh⟩ := hrv v hv
    have : o' = o2 := (nI_eq (by omega) (by omega)).mp (eo.symm.trans eo2)
    subst this
    refine hh (fun q => ?_)
    have htg0 : tg = 0 := by
      rw [erg, zeq, znI (by omega), zti_0] at q
      omega
    subst htg0
    rw [zIs_0] at hi
    omega
theorem z_isNull {n : Nat} {ln : Nat → Nat} {o : Nat} {h x : zM} {k a o0 : Nat} (hk : k < 10) (ha : a < 2) (hR : ∀ j, j < k → h 13 j = x 3 j) (ho0 : o0 < 10) (eo : h (o + 1) (5 * k) = nI o0) (hok : zArgOk h (h (o + 1)) k a (if a = 0 then h 6 o0 else h 7 o0)) (post : Int32 → zM → Prop) (h1 : ¬ ((if a = 0 then h 6 o0 else h 7 o0) ≠ -1 ∧ (if a = 0 then h 6 o0 else h 7 o0) ≠ 0 ∧ zav (h (o + 1)) x k a = -1) → post 0 h) (h2 : ((if a = 0 then h 6 o0 else h 7 o0) ≠ -1 ∧ (if a = 0 then h 6 o0 else h 7 o0) ≠ 0 ∧ zav (h (o + 1)) x k a = -1) → post 1 h) : wpRunner_isNull n ln o (nI k) (nI a) h post := by
  unfold wpRunner_isNull
  refine z_op hk _ ?_
  rw [eo]
  refine z_argType ho0 ha _ ⟨fun q => h1 (fun z => z.1 q), fun q => ⟨fun q2 => h1 (fun z => z.2.1 q2), fun q2 => z_av hk ha hR (fun z => zArg_var hok z) _ ⟨fun q3 => h1 (fun z => q3 z.2.2), fun q3 => h2 ⟨q, q2, q3⟩⟩⟩⟩
def zmk (x : zM) (cnt : Nat) (cl v nx : Int32) (k : Nat) : zM := zu (zu (zu (zu x 0 cnt cl) 1 cnt v) 2 cnt nx) 3 k (nI cnt)
noncomputable def zop (K x : zM) (kd ty a b : Int32) (k cnt : Nat) : Int32 × Nat × zM :=
  if kd = 0 then (if zdec (zfit a.toInt) = true then (0, cnt + 1, zmk x cnt ty a (-1) k) else (1, cnt, x))
  else if a = -1 then (5, cnt, x)
  else if kd = 1 then (0, cnt + 1, zmk x cnt ty (x 1 (Int32.toNatClampNeg a)) a k)
  else if kd = 2 then (0, cnt, zu x 3 k (x 1 (Int32.toNatClampNeg a)))
  else if kd = 3 then (if zdec (zfit ((x 1 (Int32.toNatClampNeg a)).toInt + b.toInt)) = true then (0, cnt, zu (zu x 1 (Int32.toNatClampNeg a) (x 1 (Int32.toNatClampNeg a) + b)) 3 k a) else (1, cnt, x))
  else if kd = 4 then (if zdec (zrch (x 2) a 10 b) = true then (2, cnt, x) else (0, cnt, zu (zu x 2 (Int32.toNatClampNeg a) b) 3 k a))
  else if kd = 5 then (if zdec (x 2 (Int32.toNatClampNeg a) = -1 ∨ zIs (K 2) (Int32.toNatClampNeg (x 0 (Int32.toNatClampNeg (x 2 (Int32.toNatClampNeg a))))) (Int32.toNatClampNeg ty)) = true then (0, cnt, zu x 3 k (x 2 (Int32.toNatClampNeg a))) else (3, cnt, x))
  else if kd = 6 then (if b = 0 then (4, cnt, x) else (0, cnt, zu x 3 k (x 1 (Int32.toNatClampNeg a) / b)))
  else if kd = 7 then (if x 2 (Int32.toNatClampNeg a) = -1 then (5, cnt, x) else (0, cnt, zu x 3 k (x 1 (Int32.toNatClampNeg (x 2 (Int32.toNatClampNeg a))))))
  else if kd = 8 then (0, cnt, zu x 3 k (nI (zlen (x 2) 10 a)))
  else (0, cnt, zu x 3 k (if zdec (b ≠ -1 ∧ zequ K x 10 (Int32.toNatClampNeg a) (Int32.toNatClampNeg b)) = true then 1 else 0))
noncomputable def zex (K : zM) (c : Nat → Int32) (k cnt : Nat) (x : zM) : Int32 × Nat × zM := zop K x (K 5 (Int32.toNatClampNeg (c (5 * k)))) (K 8 (Int32.toNatClampNeg (c (5 * k)))) (zav c x k 0) (zav c x k 1) k cnt
/-- memories that agree with a run's state -/
def zAgR (h : zM) (cnt k : Nat) (x : zM) : Prop := zAg h cnt x ∧ ∀ j, j < k → h 13 j = x 3 j
def mAgR (g : zM) (cnt k : Nat) (x : zM) : Prop := mAg g cnt x ∧ ∀ j, j < k → g 23 j = x 3 j
def zFx (h h' : zM) : Prop := ∀ r, r ≤ 12 ∨ r = 14 ∨ 18 < r → h' r = h r
theorem zFx_rf {h : zM} : zFx h h := fun _ _ => rfl
theorem zAg_mk {h x : zM} {cnt k : Nat} (hk : k < 10) (hA : zAgR h cnt k x) (cl v nx : Int32) : zAgR (zu (zu (zu (zu (zu h 16 cnt cl) 17 cnt v) 18 cnt nx) 15 1 (nI (cnt + 1))) 13 k (nI cnt)) (cnt + 1) (k + 1) (zmk x cnt cl v nx k) ∧ zFx h (zu (zu (zu (zu (zu h 16 cnt cl) 17 cnt v) 18 cnt nx) 15 1 (nI (cnt + 1))) 13 k (nI cnt)) := by
  refine ⟨⟨⟨?_, fun i hi => ⟨?_, ?_, ?_⟩⟩, fun j hj => ?_⟩, fun r hr => ?_⟩
  · rw [zuo (by decide), zux]
  · by_cases h : i = cnt
    · subst h; simp [zmk, zu, va_up, upd]
    · simp [zmk, zu, va_up, upd, h]; exact (hA.1.2 i (by omega)).1
  · by_cases h : i = cnt
    · subst h; simp [zmk, zu, va_up, upd]
    · simp [zmk, zu, va_up, upd, h]; exact (hA.1.2 i (by omega)).2.1
  · by_cases h : i = cnt
    · subst h; simp [zmk, zu, va_up, upd]
    · simp [zmk, zu, va_up, upd, h]; exact (hA.1.2 i (by omega)).2.2
  · by_cases h : j = k
    · subst h; simp [zmk, zu, va_up, upd]
    · simp [zmk, zu, va_up, upd, h]; exact hA.2 j (by omega)
  · rw [zuo (by omega), zuo (by omega), zuo (by omega), zuo (by omega), zuo (by omega)]
theorem zAg_res {h x : zM} {cnt k : Nat} (hA : zAgR h cnt k x) (v : Int32) : zAgR (zu h 13 k v) cnt (k + 1) (zu x 3 k v) ∧ zFx h (zu h 13 k v) := by
  refine ⟨⟨⟨by rw [zuo (by decide)]; exact hA.1.1, fun i hi => ?_⟩, fun j hj => ?_⟩, fun r hr => zuo (by omega)⟩
  · rw [zuo (by decide), zuo (by decide), zuo (by decide), zuo (by decide), zuo (by decide), zuo (by decide)]
    exact hA.1.2 i hi
  · by_cases h : j = k
    · subst h; rw [zux, zux]
    · rw [zun (Or.inr h), zun (Or.inr h), hA.2 j (by omega)]
theorem zAg_val {h x : zM} {cnt k : Nat} (hA : zAgR h cnt k x) (i : Nat) (v : Int32) : zAgR (zu h 17 i v) cnt k (zu x 1 i v) ∧ zFx h (zu h 17 i v) := by
  refine ⟨⟨⟨by rw [zuo (by decide)]; exact hA.1.1, fun j hj => ?_⟩, fun j hj => by rw [zuo (by decide), zuo (by decide), hA.2 j hj]⟩, fun r hr => zuo (by omega)⟩
  obtain ⟨a1, a2, a3⟩ := hA.1.2 j hj
  refine ⟨by rw [zuo (by decide), zuo (by decide), a1], ?_, by rw [zuo (by decide), zuo (by decide), a3]⟩
  by_cases h : j = i
  · subst h; rw [zux, zux]
  · rw [zun (Or.inr h), zun (Or.inr h), a2]
theorem zAg_nxt {h x : zM} {cnt k : Nat} (hA : zAgR h cnt k x) (i : Nat) (v : Int32) : zAgR (zu h 18 i v) cnt k (zu x 2 i v) ∧ zFx h (zu h 18 i v) := by
  refine ⟨⟨⟨by rw [zuo (by decide)]; exact hA.1.1, fun j hj => ?_⟩, fun j hj => by rw [zuo (by decide), zuo (by decide), hA.2 j hj]⟩, fun r hr => zuo (by omega)⟩
  obtain ⟨a1, a2, a3⟩ := hA.1.2 j hj
  refine ⟨by rw [zuo (by decide), zuo (by decide), a1], by rw [zuo (by decide), zuo (by decide), a2], ?_⟩
  by_cases h : j = i
  · subst h; rw [zux, zux]
  · rw [zun (Or.inr h), zun (Or.inr h), a3]
theorem zFx_tr {h h' h'' : zM} (a : zFx h h') (b : zFx h' h'') : zFx h h'' := fun r hr => (b r hr).trans (a r hr)
theorem z_give {n : Nat} {ln : Nat → Nat} {h : zM} {k : Nat} (hk : k < 10) (v : Int32) (post : Int32 → zM → Prop) (hp : post 0 (zu h 13 k v)) : wpRunner_give n ln (nI k) v h post := by
  unfold wpRunner_give
  rw [znc (by omega)]
  exact ⟨zin_nI (by omega) (by omega), fun h6 e6 => by rw [e6]; exact hp⟩
theorem z_make {n : Nat} {ln : Nat → Nat} {h : zM} {cnt : Nat} (hc : h 15 1 = nI cnt) (hcn : cnt < 10) (cl v nx : Int32) (post : Int32 → zM → Prop) (hp : post (nI cnt) (zu (zu (zu (zu h 16 cnt cl) 17 cnt v) 18 cnt nx) 15 1 (nI (cnt + 1)))) : wpHeap_make n ln cl v nx h post := by
  unfold wpHeap_make
  intro y4 e4
  rw [hc] at e4
  subst e4
  rw [znc (by omega)]
  have ii : vp_in (nI cnt) 10 := zin_nI (by omega) (by omega)
  refine ⟨ii, fun h13 e13 => ⟨ii, fun h21 e21 => ⟨ii, fun h29 e29 h37 e37 => ?_⟩⟩⟩
  have f : h29 15 1 = nI cnt := by rw [e29, zuo (by decide), e21, zuo (by decide), e13, zuo (by decide), hc]
  rw [f, nI_1, e29, e21, e13] at e37
  rw [e37]
  exact hp
