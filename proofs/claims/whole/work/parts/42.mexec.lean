/-! the model performs a statement as zex says -/
def zAq (f v hw ar : Int32) : Prop := (f = -1 ∧ v = 0 ∧ hw = 2 ∧ ar = 0) ∨ (f ≠ -1 ∧ hw = f ∧ ar = v)
def mSq (c go gh ga : Nat → Int32) (k b : Nat) : Prop := go b = c (5 * k) ∧ ∀ a, a < 2 → zAq (c (5 * k + 1 + 2 * a)) (c (5 * k + 2 + 2 * a)) (gh (2 * b + a)) (ga (2 * b + a))
def mFx (g g' : zM) : Prop := ∀ r s, (r = 0 ∧ s ≠ 25) ∨ (r ≠ 0 ∧ (r < 20 ∨ 23 < r)) → g' r s = g r s
theorem mFx_rf {g : zM} : mFx g g := fun _ _ _ => rfl
theorem mFx_tr {g g' g'' : zM} (a : mFx g g') (b : mFx g' g'') : mFx g g'' := fun r s hr => (b r s hr).trans (a r s hr)
theorem zu_comm {h : zM} {o k o' k' : Nat} {v v' : Int32} (hn : o ≠ o') : zu (zu h o k v) o' k' v' = zu (zu h o' k' v') o k v := by
  funext r s
  by_cases h1 : r = o
  · subst h1
    rw [zuo hn]
    simp [zu, va_up, hn]
  · by_cases h2 : r = o'
    · subst h2
      simp [zu, va_up, h1]
    · rw [zuo h2, zuo h1, zuo h1, zuo h2]
theorem m_av {g x : zM} {c : Nat → Int32} {k a : Nat} (hk : k < 10) (ha : a < 2) (hm : mSq c (g 8) (g 9) (g 10) k k) (hR : ∀ j, j < k → g 23 j = x 3 j) (hvar : c (5 * k + 1 + 2 * a) = 0 → ∃ v : Nat, v < k ∧ c (5 * k + 2 + 2 * a) = nI v) (post : Int32 → zM → Prop) (hp : post (zav c x k a) g) : wpMod_valueOf (nI k) (nI a) g post := by
  unfold wpMod_valueOf
  rw [zn2, nI_add, znc (by omega)]
  have ii : vp_in (nI (2 * k + a)) 40 := zin_nI (by omega) (by omega)
  refine ⟨ii, fun y10 e10 => ?_⟩
  unfold zav at hp
  rcases hm.2 a ha with ⟨f1, f2, f3, f4⟩ | ⟨f1, f2, f3⟩
  · rw [f3] at e10
    subst e10
    rw [f1, if_neg (by decide), if_neg (by decide)] at hp
    exact ⟨fun _ => ⟨fun _ => hp, fun q => absurd q (by decide)⟩, fun q => absurd q (by decide)⟩
  · rw [f2] at e10
    subst e10
    rw [f3]
    refine ⟨fun q => ⟨fun q2 => ?_, fun q2 => ⟨ii, ?_⟩⟩, fun q => ⟨ii, ?_⟩⟩
    · rwa [if_neg q, if_neg q2] at hp
    · rwa [if_neg q, if_pos q2] at hp
    · obtain ⟨v, hv, e⟩ := hvar q
      rw [if_pos q, e, znc (by omega), ← hR v hv] at hp
      rw [e, znc (by omega)]
      exact ⟨zin_nI (by omega) (by omega), hp⟩
theorem m_made {g : zM} {cnt : Nat} (hc : g 0 25 = nI cnt) (hcn : cnt < 10) (cl v nx : Int32) (post : Int32 → zM → Prop) (hp : post (nI cnt) (zu (zu (zu (zu g 20 cnt cl) 21 cnt v) 22 cnt nx) 0 25 (nI (cnt + 1)))) : wpMod_made cl v nx g post := by
  unfold wpMod_made
  have ii : vp_in (nI cnt) 10 := zin_nI (by omega) (by omega)
  rw [hc]
  refine ⟨ii, fun h9 e9 => ?_⟩
  have c9 : h9 0 25 = nI cnt := by rw [e9, zuo (by decide), hc]
  rw [c9]
  refine ⟨ii, fun h19 e19 => ?_⟩
  have c19 : h19 0 25 = nI cnt := by rw [e19, zuo (by decide), c9]
  rw [c19]
  refine ⟨ii, fun h29 e29 h37 e37 => ?_⟩
  have c29 : h29 0 25 = nI cnt := by rw [e29, zuo (by decide), c19]
  rw [c29, nI_1] at e37
  have c37 : h37 0 25 = nI (cnt + 1) := by rw [e37, zux]
  rw [c37, nI_pred, e37, e29, e19, e9, znc (by omega)]
  exact hp
theorem mAg_mk {g x : zM} {cnt k : Nat} (hk : k < 10) (hA : mAgR g cnt k x) (cl v nx : Int32) : mAgR (zu (zu (zu (zu (zu g 20 cnt cl) 21 cnt v) 22 cnt nx) 0 25 (nI (cnt + 1))) 23 k (nI cnt)) (cnt + 1) (k + 1) (zmk x cnt cl v nx k) ∧ mFx g (zu (zu (zu (zu (zu g 20 cnt cl) 21 cnt v) 22 cnt nx) 0 25 (nI (cnt + 1))) 23 k (nI cnt)) := by
  refine ⟨⟨⟨?_, fun i hi => ⟨?_, ?_, ?_⟩⟩, fun j hj => ?_⟩, fun r s hr => ?_⟩
  · rw [zuo (by decide), zux]
  · by_cases h : i = cnt
    · subst h; simp [zmk, zu, va_up, upd]
    · simp [zmk, zu, va_up, upd, h]; exact (hA.1.2 i (by omega)).1
  · by_cases h : i = cnt
    · subst h; simp [zmk, zu, va_up, upd]
    · simp [zmk, zu, va_up, upd, h]; exact (hA.1.2 i (by omega)).2.1
  · by_cases h : i = cnt
    · subst h; simp [zmk, zu, va_up, upd]
    · simp [zmk, zu, va_up, upd, h]; exact (hA.1.2 i (by omega)).2.2
  · by_cases h : j = k
    · subst h; simp [zmk, zu, va_up, upd]
    · simp [zmk, zu, va_up, upd, h]; exact hA.2 j (by omega)
  · rw [zun (by omega), zun (by omega), zun (by omega), zun (by omega), zun (by omega)]
theorem mAg_res {g x : zM} {cnt k : Nat} (hA : mAgR g cnt k x) (v : Int32) : mAgR (zu g 23 k v) cnt (k + 1) (zu x 3 k v) ∧ mAgR (zu g 23 k v) cnt k x ∧ mFx g (zu g 23 k v) := by
  have a1 : mAg (zu g 23 k v) cnt x := ⟨by rw [zuo (by decide)]; exact hA.1.1, fun i hi => by
    rw [zuo (by decide), zuo (by decide), zuo (by decide)]
    exact hA.1.2 i hi⟩
  refine ⟨⟨⟨a1.1, fun i hi => ?_⟩, fun j hj => ?_⟩, ⟨a1, fun j hj => by rw [zun (by omega)]; exact hA.2 j hj⟩, fun r s hr => zun (by omega)⟩
  · rw [zuo (h := x) (by decide), zuo (h := x) (by decide), zuo (h := x) (by decide)]
    exact a1.2 i hi
  · by_cases h : j = k
    · subst h; rw [zux, zux]
    · rw [zun (Or.inr h), zun (Or.inr h), hA.2 j (by omega)]
theorem mAg_val {g x : zM} {cnt k : Nat} (hA : mAgR g cnt k x) (i : Nat) (v : Int32) : mAgR (zu g 21 i v) cnt k (zu x 1 i v) ∧ mFx g (zu g 21 i v) := by
  refine ⟨⟨⟨by rw [zuo (by decide)]; exact hA.1.1, fun j hj => ?_⟩, fun j hj => by rw [zuo (by decide), zuo (by decide), hA.2 j hj]⟩, fun r s hr => zun (by omega)⟩
  obtain ⟨a1, a2, a3⟩ := hA.1.2 j hj
  refine ⟨by rw [zuo (by decide), zuo (by decide), a1], ?_, by rw [zuo (by decide), zuo (by decide), a3]⟩
  by_cases h : j = i
  · subst h; rw [zux, zux]
  · rw [zun (Or.inr h), zun (Or.inr h), a2]
theorem mAg_nxt {g x : zM} {cnt k : Nat} (hA : mAgR g cnt k x) (i : Nat) (v : Int32) : mAgR (zu g 22 i v) cnt k (zu x 2 i v) ∧ mFx g (zu g 22 i v) := by
  refine ⟨⟨⟨by rw [zuo (by decide)]; exact hA.1.1, fun j hj => ?_⟩, fun j hj => by rw [zuo (by decide), zuo (by decide), hA.2 j hj]⟩, fun r s hr => zun (by omega)⟩
  obtain ⟨a1, a2, a3⟩ := hA.1.2 j hj
  refine ⟨by rw [zuo (by decide), zuo (by decide), a1], by rw [zuo (by decide), zuo (by decide), a2], ?_⟩
  by_cases h : j = i
  · subst h; rw [zux, zux]
  · rw [zun (Or.inr h), zun (Or.inr h), a3]
/-- facts about the kinds of the arguments of a statement -/
theorem zSt_rf {h g x : zM} {c : Nat → Int32} {nc o0 cnt k kd cc : Nat} {d : Int32} (hk : k < 10) (hnc : nc ≤ 4) (hkd : kd ≤ 9) (c1 : 1 ≤ cc) (c2 : cc ≤ nc) (hd : zhasD kd → ∃ e : Nat, 1 ≤ e ∧ e ≤ nc ∧ d = nI e) (e6 : h 6 o0 = zft kd (nI cc) d) (e7 : h 7 o0 = zst kd (nI cc) d) (ok0 : zArgOk h c k 0 (h 6 o0)) (ok1 : zArgOk h c k 1 (h 7 o0)) (hrv : zRv h c cnt x k) : (kd ≠ 0 → zRf cnt (zav c x k 0)) ∧ (kd = 4 ∨ kd = 9 → zRf cnt (zav c x k 1)) ∧ (kd ≠ 0 → h 6 o0 ≠ -1 ∧ h 6 o0 ≠ 0) := by
  refine ⟨fun hk0 => ?_, fun h49 => ?_, fun hk0 => ?_⟩
  · by_cases h1 : kd = 1
    · subst h1
      obtain ⟨e', e1, e2, rfl⟩ := hd (Or.inl rfl)
      have ok0 : zArgOk h c k 0 (nI e') := by rw [e6] at ok0; exact ok0
      exact zArg_rf (by omega) e1 (by omega) ok0 hrv
    · have ok0 : zArgOk h c k 0 (nI cc) := by
        rw [e6] at ok0
        unfold zft at ok0
        rw [if_neg hk0, if_neg h1] at ok0
        exact ok0
      exact zArg_rf (by omega) c1 (by omega) ok0 hrv
  · obtain ⟨e', e1, e2, rfl⟩ := hd (by unfold zhasD; omega)
    have ok1 : zArgOk h c k 1 (nI e') := by
      rw [e7] at ok1
      unfold zst at ok1
      rw [if_neg (by omega), if_pos h49] at ok1
      exact ok1
    exact zArg_rf (by omega) e1 (by omega) ok1 hrv
  · rw [e6]
    unfold zft
    rw [if_neg hk0]
    by_cases h1 : kd = 1
    · obtain ⟨e', e1, e2, rfl⟩ := hd (by unfold zhasD; omega)
      rw [if_pos h1]
      exact ⟨znm1 (by omega), fun q => by rw [zeq, znI (by omega), zti_0] at q; omega⟩
    · rw [if_neg h1]
      exact ⟨znm1 (by omega), fun q => by rw [zeq, znI (by omega), zti_0] at q; omega⟩
/-- the kinds of zop, told apart -/
theorem zop_0 {K x : zM} {ty a b : Int32} {k cnt : Nat} : zop K x (nI 0) ty a b k cnt = (if zdec (zfit a.toInt) = true then (0, cnt + 1, zmk x cnt ty a (-1) k) else (1, cnt, x)) := by
  unfold zop
  rw [if_pos (show nI 0 = (0 : Int32) from rfl)]
theorem zop_n {K x : zM} {kd : Nat} {ty b : Int32} {k cnt : Nat} (hkd : kd ≤ 9) (h0 : kd ≠ 0) : zop K x (nI kd) ty (-1) b k cnt = (5, cnt, x) := by
  unfold zop
  rw [if_neg (fun q => h0 (by rw [zeq, znI (by omega), zti_0] at q; omega)), if_pos rfl]
theorem zop_s {K x : zM} {ty b : Int32} {k cnt i : Nat} (hi : i < 10) : zop K x (nI 1) ty (nI i) b k cnt = (0, cnt + 1, zmk x cnt ty (x 1 i) (nI i) k) ∧ zop K x (nI 2) ty (nI i) b k cnt = (0, cnt, zu x 3 k (x 1 i)) ∧ zop K x (nI 3) ty (nI i) b k cnt = (if zdec (zfit ((x 1 i).toInt + b.toInt)) = true then (0, cnt, zu (zu x 1 i (x 1 i + b)) 3 k (nI i)) else (1, cnt, x)) ∧ zop K x (nI 4) ty (nI i) b k cnt = (if zdec (zrch (x 2) (nI i) 10 b) = true then (2, cnt, x) else (0, cnt, zu (zu x 2 i b) 3 k (nI i))) ∧ zop K x (nI 5) ty (nI i) b k cnt = (if zdec (x 2 i = -1 ∨ zIs (K 2) (Int32.toNatClampNeg (x 0 (Int32.toNatClampNeg (x 2 i)))) (Int32.toNatClampNeg ty)) = true then (0, cnt, zu x 3 k (x 2 i)) else (3, cnt, x)) ∧ zop K x (nI 6) ty (nI i) b k cnt = (if b = 0 then (4, cnt, x) else (0, cnt, zu x 3 k (x 1 i / b))) ∧ zop K x (nI 7) ty (nI i) b k cnt = (if x 2 i = -1 then (5, cnt, x) else (0, cnt, zu x 3 k (x 1 (Int32.toNatClampNeg (x 2 i))))) ∧ zop K x (nI 8) ty (nI i) b k cnt = (0, cnt, zu x 3 k (nI (zlen (x 2) 10 (nI i)))) ∧ zop K x (nI 9) ty (nI i) b k cnt = (0, cnt, zu x 3 k (if zdec (b ≠ -1 ∧ zequ K x 10 i (Int32.toNatClampNeg b)) = true then 1 else 0)) := by
  have na : nI i ≠ -1 := znm1 (by omega)
  unfold zop
  rw [znc (show i < 2147483648 by omega)]
  refine ⟨?_, ?_, ?_, ?_, ?_, ?_, ?_, ?_, ?_⟩
  · rw [if_neg (by decide), if_neg na, if_pos (show nI 1 = (1 : Int32) from rfl)]
  · rw [if_neg (by decide), if_neg na, if_neg (by decide), if_pos (show nI 2 = (2 : Int32) from rfl)]
  · rw [if_neg (by decide), if_neg na, if_neg (by decide), if_neg (by decide), if_pos (show nI 3 = (3 : Int32) from rfl)]
  · rw [if_neg (by decide), if_neg na, if_neg (by decide), if_neg (by decide), if_neg (by decide), if_pos (show nI 4 = (4 : Int32) from rfl)]
  · rw [if_neg (by decide), if_neg na, if_neg (by decide), if_neg (by decide), if_neg (by decide), if_neg (by decide), if_pos (show nI 5 = (5 : Int32) from rfl)]
  · rw [if_neg (by decide), if_neg na, if_neg (by decide), if_neg (by decide), if_neg (by decide), if_neg (by decide), if_neg (by decide), if_pos (show nI 6 = (6 : Int32) from rfl)]
  · rw [if_neg (by decide), if_neg na, if_neg (by decide), if_neg (by decide), if_neg (by decide), if_neg (by decide), if_neg (by decide), if_neg (by decide), if_pos (show nI 7 = (7 : Int32) from rfl)]
  · rw [if_neg (by decide), if_neg na, if_neg (by decide), if_neg (by decide), if_neg (by decide), if_neg (by decide), if_neg (by decide), if_neg (by decide), if_neg (by decide), if_pos (show nI 8 = (8 : Int32) from rfl)]
  · rw [if_neg (by decide), if_neg na, if_neg (by decide), if_neg (by decide), if_neg (by decide), if_neg (by decide), if_neg (by decide), if_neg (by decide), if_neg (by decide), if_neg (by decide)]
