/-! which types are others; what an operation wants and gives -/
def zis (p : Nat → Int32) : Nat → Nat → Nat → Prop
  | 0, x, t => x = t
  | f + 1, x, t => x = t ∨ (x ≠ 0 ∧ t ≠ 0 ∧ zis p f (Int32.toNatClampNeg (p x)) t)
def zIs (p : Nat → Int32) (x t : Nat) : Prop := zis p x x t
/-- the parents of the classes -/
def zPar (h : zM) (nc : Nat) : Prop := ∀ i, 1 ≤ i → i ≤ nc → ∃ p, p < i ∧ h 2 i = nI p
theorem zis_fuel {h : zM} {nc : Nat} (hp : zPar h nc) (hn : nc ≤ 4) (t : Nat) : ∀ (f x : Nat), x ≤ f → x ≤ nc → (zis (h 2) f x t ↔ zis (h 2) x x t) := by
  intro f
  induction f using Nat.strongRecOn with
  | _ f ih =>
    intro x hx hxn
    cases x with
    | zero =>
      cases f with
      | zero => exact Iff.rfl
      | succ f =>
        show (0 = t ∨ (0 ≠ 0 ∧ t ≠ 0 ∧ _)) ↔ 0 = t
        constructor
        · rintro (h | ⟨h, -⟩)
          · exact h
          · exact absurd rfl h
        · exact Or.inl
    | succ x =>
      obtain ⟨f, rfl⟩ : ∃ f', f = f' + 1 := ⟨f - 1, by omega⟩
      obtain ⟨q, hq, e⟩ := hp (x + 1) (by omega) hxn
      show (x + 1 = t ∨ (x + 1 ≠ 0 ∧ t ≠ 0 ∧ zis (h 2) f (Int32.toNatClampNeg (h 2 (x + 1))) t)) ↔ (x + 1 = t ∨ (x + 1 ≠ 0 ∧ t ≠ 0 ∧ zis (h 2) x (Int32.toNatClampNeg (h 2 (x + 1))) t))
      rw [e, znc (by omega), ih f (by omega) q (by omega) (by omega)]
      by_cases hxf : x < f + 1
      · rw [ih x hxf q (by omega) (by omega)]
      · omega
theorem zIs_step {h : zM} {nc : Nat} (hp : zPar h nc) (hn : nc ≤ 4) {x t q : Nat} (h1 : 1 ≤ x) (h2 : x ≤ nc) (hq : h 2 x = nI q) (hqx : q < x) : zIs (h 2) x t ↔ (x = t ∨ (t ≠ 0 ∧ zIs (h 2) q t)) := by
  obtain ⟨y, rfl⟩ : ∃ y, x = y + 1 := ⟨x - 1, by omega⟩
  unfold zIs
  show (y + 1 = t ∨ (y + 1 ≠ 0 ∧ t ≠ 0 ∧ zis (h 2) y (Int32.toNatClampNeg (h 2 (y + 1))) t)) ↔ _
  rw [hq, znc (by omega), zis_fuel hp hn t y q (by omega) (by omega)]
  constructor
  · rintro (a | ⟨-, b, c⟩)
    · exact Or.inl a
    · exact Or.inr ⟨b, c⟩
  · rintro (a | ⟨b, c⟩)
    · exact Or.inl a
    · exact Or.inr ⟨by omega, b, c⟩
theorem zIs_0 {p : Nat → Int32} {t : Nat} : zIs p 0 t ↔ 0 = t := Iff.rfl
theorem zIs_self {p : Nat → Int32} {t : Nat} : zIs p t t := by
  unfold zIs
  cases t with
  | zero => rfl
  | succ t => exact Or.inl rfl
theorem z_is {n : Nat} {ln : Nat → Nat} {h : zM} {nc : Nat} (hp : zPar h nc) (hn : nc ≤ 4) (x t : Nat) (hx : x ≤ nc) (ht : t ≤ nc) (post : Int32 → zM → Prop) (h1 : ¬ zIs (h 2) x t → post 0 h) (h2 : zIs (h 2) x t → post 1 h) : wpCatalog_is n ln (nI x) (nI t) h post := by
  unfold wpCatalog_is
  refine ⟨fun q => ?_, fun q => h2 ?_⟩
  · have hxt : x ≠ t := fun e => q (by rw [e])
    refine zL_rule (fun s => s.1 = nI t ∧ s.2.2.2 = h ∧ ∃ y i : Nat, s.2.1 = nI y ∧ s.2.2.1 = nI i ∧ i ≤ 4 ∧ y + i ≤ 4 ∧ y ≤ nc ∧ (zIs (h 2) x t ↔ (t ≠ 0 ∧ zIs (h 2) y t))) (fun s => 5 - s.2.2.1.toNatClampNeg) ?_ (nI t, nI x, 0, h) ⟨rfl, rfl, x, 0, rfl, rfl, by omega, by omega, hx, ?_⟩
    · rintro ⟨v2, v3, v4, hh⟩ L ⟨e1, e2, y, i, e3, e4, hi, hyi, hyn, hiff⟩ ih
      dsimp only at e1 e2 e3 e4 ih
      subst e1 e2 e3 e4
      unfold stCatalog_is_12
      dsimp only
      refine ⟨fun q1 => h1 ?_, fun q1 => ⟨fun q2 => h1 ?_, fun q2 => ⟨fun q3 => ?_, fun q3 => h2 ?_⟩⟩⟩
      · rw [zle, znI (by omega), zti_4] at q1
        have hy : y = 0 := by omega
        subst hy
        rw [hiff, zIs_0]
        rintro ⟨a, b⟩
        omega
      · rw [zle, znI (by omega), zti_0] at q2
        have hy : y = 0 := by omega
        subst hy
        rw [hiff, zIs_0]
        rintro ⟨a, b⟩
        omega
      · rw [zle, znI (by omega), zti_4] at q1
        rw [zle, znI (by omega), zti_0] at q2
        obtain ⟨q, hq, e⟩ := hp y (by omega) hyn
        refine ⟨zin_nI (by omega) (by omega), fun y35 e35 => ?_⟩
        rw [znc (by omega), e] at e35
        subst e35
        rw [nI_1]
        have hyt : y ≠ t := fun z => q3 (by rw [z])
        refine ih _ ⟨rfl, rfl, q, i + 1, rfl, rfl, by omega, by omega, by omega, ?_⟩ ?_
        · rw [hiff, zIs_step hp hn (by omega) hyn e hq]
          constructor
          · rintro ⟨a, b | b⟩
            · exact absurd b hyt
            · exact b
          · rintro ⟨a, b⟩
            exact ⟨a, Or.inr ⟨a, b⟩⟩
        · dsimp only
          rw [znc (by omega), znc (by omega)]
          omega
      · rw [zle, znI (by omega), zti_0] at q2
        have : y = t := (nI_eq (by omega) (by omega)).mp q3
        subst this
        rw [hiff]
        exact ⟨by omega, zIs_self⟩
    · by_cases h0 : t = 0
      · subst h0
        rcases Nat.eq_zero_or_pos x with hx0 | hx0
        · exact absurd hx0 hxt
        · obtain ⟨q, hq, e⟩ := hp x hx0 hx
          rw [zIs_step hp hn hx0 hx e hq]
          constructor
          · rintro (a | ⟨a, -⟩)
            · exact absurd a hxt
            · exact absurd rfl a
          · rintro ⟨a, -⟩
            exact absurd rfl a
      · exact ⟨fun a => ⟨h0, a⟩, fun a => a.2⟩
  · have : x = t := (nI_eq (by omega) (by omega)).mp q
    subst this
    exact zIs_self
theorem m_is {h g : zM} {nc : Nat} (hp : zPar h nc) (hn : nc ≤ 4) (hg : ∀ i, 1 ≤ i → i ≤ nc → h 2 i = g 1 i) (x t : Nat) (hx : x ≤ nc) (ht : t ≤ nc) (ht0 : 1 ≤ t) (post : Int32 → zM → Prop) (h1 : ¬ zIs (h 2) x t → post 0 g) (h2 : zIs (h 2) x t → post 1 g) : wpMod_is (nI x) (nI t) g post := by
  unfold wpMod_is
  have fin : ∀ y : Nat, y ≤ nc → (y = t ∨ y = 0) → (zIs (h 2) x t ↔ zIs (h 2) y t) → wbMod_is_33 post (nI x) (nI t) (nI y) g := by
    intro y hy hyt hiff
    unfold wbMod_is_33
    rcases hyt with rfl | rfl
    · have hz : zIs (h 2) x y := hiff.mpr zIs_self
      have hx0 : x ≠ 0 := by
        rintro rfl
        rw [zIs_0] at hz
        omega
      refine ⟨fun q => ?_, fun q => ⟨fun q2 => absurd rfl q2, fun _ => h2 hz⟩⟩
      rw [zeq, znI (by omega), zti_0] at q
      omega
    · have hz : ¬ zIs (h 2) x t := by
        rw [hiff, zIs_0]
        omega
      refine ⟨fun q => h1 hz, fun q => ⟨fun q2 => h1 hz, fun q2 => ?_⟩⟩
      have := (nI_eq (by omega) (by omega)).mp q2
      omega
  refine zL_rule (fun s => s.1 = nI x ∧ s.2.1 = nI t ∧ s.2.2.2.2 = g ∧ ∃ y i : Nat, s.2.2.1 = nI y ∧ s.2.2.2.1 = nI i ∧ i ≤ 5 ∧ y + i ≤ 5 ∧ y ≤ nc ∧ (zIs (h 2) x t ↔ zIs (h 2) y t)) (fun s => 6 - s.2.2.2.1.toNatClampNeg) ?_ (nI x, nI t, nI x, 0, g) ⟨rfl, rfl, rfl, x, 0, rfl, rfl, by omega, by omega, hx, Iff.rfl⟩
  rintro ⟨v1, v2, v3, v4, hh⟩ L ⟨e0, e1, e2, y, i, e3, e4, hi, hyi, hyn, hiff⟩ ih
  dsimp only at e0 e1 e2 e3 e4 ih
  subst e0 e1 e2 e3 e4
  unfold stMod_is_5
  dsimp only
  refine ⟨fun q1 => ?_, fun q1 => ⟨fun q2 => ?_, fun q2 => ⟨fun q3 => ?_, fun q3 => ?_⟩⟩⟩
  · rw [zle, znI (by omega), zti_5] at q1
    exact fin y hyn (Or.inr (by omega)) hiff
  · rw [zeq, znI (by omega), zti_0] at q2
    exact fin y hyn (Or.inr (by omega)) hiff
  · exact fin y hyn (Or.inl ((nI_eq (by omega) (by omega)).mp q3)) hiff
  · rw [zle, znI (by omega), zti_5] at q1
    rw [zeq, znI (by omega), zti_0] at q2
    obtain ⟨q, hq, e⟩ := hp y (by omega) hyn
    refine ⟨zin_nI (by omega) (by omega), fun y26 e26 => ?_⟩
    rw [znc (by omega), ← hg y (by omega) hyn, e] at e26
    subst e26
    rw [nI_1]
    have hyt : y ≠ t := fun z => q3 (by rw [z])
    refine ih _ ⟨rfl, rfl, rfl, q, i + 1, rfl, rfl, by omega, by omega, by omega, ?_⟩ ?_
    · rw [hiff, zIs_step hp hn (by omega) hyn e hq]
      constructor
      · rintro (b | b)
        · exact absurd b hyt
        · exact b.2
      · intro b
        exact Or.inr ⟨by omega, b⟩
    · dsimp only
      rw [znc (by omega), znc (by omega)]
      omega
def zar (kd : Nat) : Nat := if kd = 3 ∨ kd = 4 ∨ kd = 6 ∨ kd = 9 then 2 else 1
theorem m_arity {g : zM} {kd : Nat} (hk : kd ≤ 9) (post : Int32 → zM → Prop) (hp : post (nI (zar kd)) g) : wpMod_arity (nI kd) g post := by
  unfold wpMod_arity
  have k2 : (kd = 3 ∨ kd = 4 ∨ kd = 6 ∨ kd = 9) → post 2 g := fun z => by
    unfold zar at hp
    rw [if_pos z] at hp
    exact hp
  refine ⟨fun q => k2 ?_, fun q => ⟨fun q2 => k2 ?_, fun q2 => ⟨fun q3 => k2 ?_, fun q3 => ⟨fun q4 => ?_, fun q4 => k2 ?_⟩⟩⟩⟩
  · rw [zeq, znI (by omega), zti_3] at q; omega
  · rw [zeq, znI (by omega), zti_4] at q2; omega
  · rw [zeq, znI (by omega), zti_6] at q3; omega
  · rw [zeq, znI (by omega), zti_3] at q
    rw [zeq, znI (by omega), zti_4] at q2
    rw [zeq, znI (by omega), zti_6] at q3
    rw [zeq, znI (by omega), zti_9] at q4
    unfold zar at hp
    rw [if_neg (by omega)] at hp
    exact hp
  · rw [zeq, znI (by omega), zti_9] at q4; omega
theorem z_argType {n : Nat} {ln : Nat → Nat} {h : zM} {o a : Nat} (ho : o < 10) (ha : a < 2) (post : Int32 → zM → Prop) (hp : post (if a = 0 then h 6 o else h 7 o) h) : wpCatalog_argumentType n ln (nI o) (nI a) h post := by
  unfold wpCatalog_argumentType
  have hio : vp_in (nI o) 10 := zin_nI (by omega) (by omega)
  rw [znc (by omega)]
  refine ⟨fun q => ⟨hio, ?_⟩, fun q => ⟨hio, ?_⟩⟩
  · rw [zeq, znI (by omega), zti_0] at q
    rwa [if_neg (by omega)] at hp
  · rw [zeq, znI (by omega), zti_0] at q
    rwa [if_pos (by omega)] at hp
theorem m_wants {h g : zM} {nc o a : Nat} (ho : o < 10) (hok : zOpOk h g nc o) (hn : nc ≤ 4) (ha : a < 2) (har : a = 1 → ∃ kd : Nat, h 5 o = nI kd ∧ kd ≤ 9 ∧ zar kd = 2) (post : Int32 → zM → Prop) (hp : post (if a = 0 then h 6 o else h 7 o) g) : wpMod_wants (nI o) (nI a) g post := by
  obtain ⟨kd, c, d, k1, c1, c2, hd, e1, e2, e3, e4, e5, e6, e7⟩ := hok
  unfold wpMod_wants
  have hio : vp_in (nI o) 10 := zin_nI (by omega) (by omega)
  rw [znc (by omega)]
  refine ⟨hio, fun y6 ey => ?_⟩
  rw [e2] at ey
  subst ey
  rw [e3, e4]
  rw [e5, e6] at hp
  refine ⟨fun q => ?_, fun q => ?_⟩
  · rw [zeq, znI (by omega), zti_0] at q
    have ha1 : a = 1 := by omega
    subst ha1
    rw [if_neg (by decide)] at hp
    obtain ⟨kd', z1, z2, z3⟩ := har rfl
    have : kd = kd' := (nI_eq (by omega) (by omega)).mp (e1.symm.trans z1)
    subst this
    unfold zst at hp
    unfold zar at z3
    refine ⟨fun q2 => ?_, fun q2 => ⟨fun q3 => ⟨hio, ?_⟩, fun q3 => ?_⟩⟩
    · rw [zeq, znI (by omega), zti_3] at q2
      rwa [if_pos (by omega)] at hp
    · rw [zeq, znI (by omega), zti_3] at q2
      rw [zeq, znI (by omega), zti_6] at q3
      have hk : kd = 4 ∨ kd = 9 := by
        by_cases hz : kd = 3 ∨ kd = 4 ∨ kd = 6 ∨ kd = 9
        · omega
        · rw [if_neg hz] at z3; omega
      rwa [if_neg (by omega), if_pos hk] at hp
    · rw [zeq, znI (by omega), zti_6] at q3
      rwa [if_pos (by omega)] at hp
  · rw [zeq, znI (by omega), zti_0] at q
    have ha1 : a = 0 := by omega
    subst ha1
    rw [if_pos rfl] at hp
    unfold zft at hp
    refine ⟨fun q2 => ⟨fun q3 => ⟨hio, ?_⟩, fun q3 => ⟨hio, ?_⟩⟩, fun q2 => ?_⟩
    · rw [zeq, znI (by omega), zti_0] at q2
      rw [zeq, znI (by omega), zti_1] at q3
      rwa [if_neg (by omega), if_neg (by omega)] at hp
    · rw [zeq, znI (by omega), zti_0] at q2
      rw [zeq, znI (by omega), zti_1] at q3
      rwa [if_neg (by omega), if_pos (by omega)] at hp
    · rw [zeq, znI (by omega), zti_0] at q2
      rwa [if_pos (by omega)] at hp
theorem m_gives {h g : zM} {nc o : Nat} (ho : o < 10) (hok : zOpOk h g nc o) (hn : nc ≤ 4) (post : Int32 → zM → Prop) (hp : post (h 8 o) g) : wpMod_gives (nI o) g post := by
  obtain ⟨kd, c, d, k1, c1, c2, hd, e1, e2, e3, e4, e5, e6, e7⟩ := hok
  unfold wpMod_gives wbMod_gives_26
  have hio : vp_in (nI o) 10 := zin_nI (by omega) (by omega)
  rw [znc (by omega)]
  refine ⟨hio, fun y6 ey => ?_⟩
  rw [e2] at ey
  subst ey
  rw [e3, e4]
  rw [e7] at hp
  unfold zrt at hp
  have kc : (kd = 0 ∨ kd = 1 ∨ kd = 3 ∨ kd = 4) → vp_in (nI o) 10 ∧ post (nI c) g := fun z => ⟨hio, by rwa [if_pos z] at hp⟩
  refine ⟨fun q => kc ?_, fun q => ⟨fun q2 => kc ?_, fun q2 => ⟨fun q3 => kc ?_, fun q3 => ⟨fun q4 => ⟨fun q5 => ?_, fun q5 => ⟨hio, ?_⟩⟩, fun q4 => kc ?_⟩⟩⟩⟩
  · rw [zeq, znI (by omega), zti_0] at q; omega
  · rw [zeq, znI (by omega), zti_1] at q2; omega
  · rw [zeq, znI (by omega), zti_3] at q3; omega
  · rw [zeq, znI (by omega), zti_0] at q
    rw [zeq, znI (by omega), zti_1] at q2
    rw [zeq, znI (by omega), zti_3] at q3
    rw [zeq, znI (by omega), zti_4] at q4
    rw [zeq, znI (by omega), zti_5] at q5
    rwa [if_neg (by omega), if_neg (by omega)] at hp
  · rw [zeq, znI (by omega), zti_5] at q5
    rwa [if_neg (by omega), if_pos (by omega)] at hp
  · rw [zeq, znI (by omega), zti_4] at q4; omega
