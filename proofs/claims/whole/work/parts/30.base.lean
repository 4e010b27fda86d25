/-! the pure part: numbers, memories -/
theorem zti_m6 : (-6 : Int32).toInt = -6 := rfl
theorem zti_m5 : (-5 : Int32).toInt = -5 := rfl
theorem zti_m4 : (-4 : Int32).toInt = -4 := rfl
theorem zti_m3 : (-3 : Int32).toInt = -3 := rfl
theorem zti_m2 : (-2 : Int32).toInt = -2 := rfl
theorem zti_m1 : (-1 : Int32).toInt = -1 := rfl
theorem zti_0 : (0 : Int32).toInt = 0 := rfl
theorem zti_1 : (1 : Int32).toInt = 1 := rfl
theorem zti_2 : (2 : Int32).toInt = 2 := rfl
theorem zti_3 : (3 : Int32).toInt = 3 := rfl
theorem zti_4 : (4 : Int32).toInt = 4 := rfl
theorem zti_5 : (5 : Int32).toInt = 5 := rfl
theorem zti_6 : (6 : Int32).toInt = 6 := rfl
theorem zti_7 : (7 : Int32).toInt = 7 := rfl
theorem zti_8 : (8 : Int32).toInt = 8 := rfl
theorem zti_9 : (9 : Int32).toInt = 9 := rfl
theorem zti_10 : (10 : Int32).toInt = 10 := rfl
theorem zti_20 : (20 : Int32).toInt = 20 := rfl
theorem zti_40 : (40 : Int32).toInt = 40 := rfl
theorem zti_100 : (100 : Int32).toInt = 100 := rfl
theorem zti_200 : (200 : Int32).toInt = 200 := rfl
theorem zlt {a b : Int32} : a < b ↔ a.toInt < b.toInt := Int32.lt_iff_toInt_lt
theorem zle {a b : Int32} : a ≤ b ↔ a.toInt ≤ b.toInt := Int32.le_iff_toInt_le
theorem zeq {a b : Int32} : a = b ↔ a.toInt = b.toInt := Int32.toInt_inj.symm
theorem znI {k : Nat} (h : k < 2147483648) : (nI k).toInt = (k : Int) := nI_toInt h
theorem znc {k : Nat} (h : k < 2147483648) : Int32.toNatClampNeg (nI k) = k := nI_clamp h
theorem znc0 : Int32.toNatClampNeg 0 = 0 := rfl
theorem znc1 : Int32.toNatClampNeg 1 = 1 := rfl
theorem znc2 : Int32.toNatClampNeg 2 = 2 := rfl
theorem zin_nI {k N : Nat} (h : k < N) (hN : N < 2147483648) : vp_in (nI k) N := vp_in_nI h hN
theorem zux {h : zM} {o k : Nat} {v : Int32} : zu h o k v o k = v := by simp [zu, va_up, upd]
theorem zun {h : zM} {o k o' j : Nat} {v : Int32} (hn : o' ≠ o ∨ j ≠ k) : zu h o k v o' j = h o' j := by
  unfold zu va_up upd
  by_cases h1 : o' = o
  · subst h1
    rcases hn with h2 | h2
    · exact absurd rfl h2
    · simp [h2]
  · simp [h1]
theorem zuo {h : zM} {o k o' : Nat} {v : Int32} (hn : o' ≠ o) : zu h o k v o' = h o' := by
  unfold zu va_up
  simp [hn]
theorem zus {h : zM} {o k : Nat} {v : Int32} : zu h o k v o = upd (h o) k v := by simp [zu, va_up]
/-- a user's int against a count -/
theorem zix (x : Int32) {n : Nat} (hn : n < 2147483648) : x < 0 ∨ nI n ≤ x ∨ ∃ j : Nat, j < n ∧ x = nI j := pk_ix x hn
theorem z1ix (x : Int32) {n : Nat} (hn : n < 2147483647) : x < 1 ∨ nI n < x ∨ ∃ j : Nat, 1 ≤ j ∧ j ≤ n ∧ x = nI j := by
  rcases zix x (n := n + 1) (by omega) with h | h | ⟨j, h, rfl⟩
  · exact Or.inl (by rw [zlt, zti_1]; rw [zlt, zti_0] at h; omega)
  · exact Or.inr (Or.inl (by rw [zlt, znI (by omega)]; rw [zle, znI (by omega)] at h; omega))
  · rcases Nat.eq_zero_or_pos j with rfl | hj
    · exact Or.inl (by decide)
    · exact Or.inr (Or.inr ⟨j, hj, by omega, rfl⟩)
theorem H_state0 (n : Nat) (ln : Nat → Nat) (h g : zM) (R : zM → zM → Prop) (hR : R h g) (hs : h 19 6 = g 0 0) : wpTop_state n ln h (fun r h1 => wpMod_state g (fun r1 g1 => r = r1 ∧ R h1 g1)) := ⟨hs, hR⟩
theorem H_entries0 (n : Nat) (ln : Nat → Nat) (h g : zM) (R : zM → zM → Prop) (hR : R h g) (hs : h 9 1 = g 0 17) : wpTop_entries n ln h (fun r h1 => wpMod_entries g (fun r1 g1 => r = r1 ∧ R h1 g1)) := ⟨hs, hR⟩
/-! the catalog -/
def zft (kd : Nat) (c d : Int32) : Int32 := if kd = 0 then 0 else if kd = 1 then d else c
def zst (kd : Nat) (c d : Int32) : Int32 := if kd = 3 ∨ kd = 6 then 0 else if kd = 4 ∨ kd = 9 then d else -1
def zrt (kd : Nat) (c d : Int32) : Int32 := if kd = 0 ∨ kd = 1 ∨ kd = 3 ∨ kd = 4 then c else if kd = 5 then d else 0
def zhasD (kd : Nat) : Prop := kd = 1 ∨ kd = 4 ∨ kd = 5 ∨ kd = 9
def zClsOk (h g : zM) (i : Nat) : Prop := h 2 i = g 1 i ∧ h 3 i = g 2 i ∧ h 4 i = g 3 i ∧ (∃ p, p < i ∧ h 2 i = nI p) ∧ (∃ q, q ≤ 4 ∧ h 3 i = nI q) ∧ ∃ q, q ≤ 3 ∧ h 4 i = nI q
def zOpOk (h g : zM) (nc o : Nat) : Prop := ∃ (kd c : Nat) (d : Int32), kd ≤ 9 ∧ 1 ≤ c ∧ c ≤ nc ∧ (zhasD kd → ∃ e : Nat, 1 ≤ e ∧ e ≤ nc ∧ d = nI e) ∧ h 5 o = nI kd ∧ g 4 o = nI kd ∧ g 5 o = nI c ∧ g 6 o = d ∧ h 6 o = zft kd (nI c) d ∧ h 7 o = zst kd (nI c) d ∧ h 8 o = zrt kd (nI c) d
def zCat (h g : zM) (nc no : Nat) : Prop := nc ≤ 4 ∧ no ≤ 10 ∧ h 1 0 = nI nc ∧ g 0 1 = nI nc ∧ h 1 1 = nI no ∧ g 0 5 = nI no ∧ (∀ i, 1 ≤ i → i ≤ nc → zClsOk h g i) ∧ ∀ o, o < no → zOpOk h g nc o
theorem z_isClass {n : Nat} {ln : Nat → Nat} {h : zM} {nc : Nat} (hc : h 1 0 = nI nc) (hn : nc ≤ 4) (x : Int32) (post : Int32 → zM → Prop) (h1 : (¬ ∃ j : Nat, 1 ≤ j ∧ j ≤ nc ∧ x = nI j) → post 0 h) (h2 : ∀ j : Nat, 1 ≤ j → j ≤ nc → x = nI j → post 1 h) : wpCatalog_isClass n ln x h post := by
  unfold wpCatalog_isClass
  rw [hc]
  refine ⟨fun q => h1 ?_, fun q => ⟨fun q2 => h1 ?_, fun q2 => ?_⟩⟩
  · rintro ⟨j, a, b, rfl⟩
    rw [zlt, znI (by omega), zti_1] at q
    omega
  · rintro ⟨j, a, b, rfl⟩
    rw [zlt, znI (by omega), znI (by omega)] at q2
    omega
  · rcases z1ix x (n := nc) (by omega) with h | h | ⟨j, a, b, e⟩
    · exact absurd h q
    · exact absurd h q2
    · exact h2 j a b e
theorem m_isClass {g : zM} {nc : Nat} (hc : g 0 1 = nI nc) (hn : nc ≤ 4) (x : Int32) (post : Int32 → zM → Prop) (h1 : (¬ ∃ j : Nat, 1 ≤ j ∧ j ≤ nc ∧ x = nI j) → post 0 g) (h2 : ∀ j : Nat, 1 ≤ j → j ≤ nc → x = nI j → post 1 g) : wpMod_isClass x g post := by
  unfold wpMod_isClass
  rw [hc]
  refine ⟨fun q => h1 ?_, fun q => ⟨fun q2 => h1 ?_, fun q2 => ?_⟩⟩
  · rintro ⟨j, a, b, rfl⟩
    rw [zlt, znI (by omega), zti_1] at q
    omega
  · rintro ⟨j, a, b, rfl⟩
    rw [zlt, znI (by omega), znI (by omega)] at q2
    omega
  · rcases z1ix x (n := nc) (by omega) with h | h | ⟨j, a, b, e⟩
    · exact absurd h q
    · exact absurd h q2
    · exact h2 j a b e
