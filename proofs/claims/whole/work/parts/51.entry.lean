/-! entry and statement -/
theorem z_get {n : Nat} {ln : Nat → Nat} {h : zM} (hn : h 9 1 = nI n) (n40 : n ≤ 40) (x : Int32) (post : Option Nat → zM → Prop) (h1 : (∀ e, e < n → x ≠ nI e) → post none h) (h2 : ∀ e, e < n → x = nI e → post (some e) h) : wpBook_get n ln x h post := by
  unfold wpBook_get
  rw [hn]
  rcases zix x (n := n) (by omega) with q | q | ⟨e, he, rfl⟩
  · refine ⟨fun _ => h1 (fun e he z => ?_), fun z => absurd q z⟩
    rw [z] at q
    exact zn0 (by omega) q
  · have : ∀ e, e < n → x ≠ nI e := by
      intro e he z
      rw [z, zle, znI (by omega), znI (by omega)] at q
      omega
    exact ⟨fun _ => h1 this, fun _ => ⟨fun _ => h1 this, fun z => absurd q z⟩⟩
  · refine ⟨fun z => absurd z (zn0 (by omega)), fun _ => pk_le n e (fun z => by omega) (fun z => ⟨zin_nI (by omega) (by omega), ?_, ?_⟩)⟩
    · rw [znc (by omega)]; exact he
    · rw [znc (by omega)]; exact h2 e he rfl
theorem m_get {n : Nat} (n40 : n ≤ 40) (x : Int32) {A B : Prop} (h1 : (∀ e, e < n → x ≠ nI e) → A) (h2 : ∀ e, e < n → x = nI e → B) : ((x < 0 → A) ∧ (¬ x < 0 → ((x < nI n → B) ∧ (¬ x < nI n → A)))) := by
  rcases zix x (n := n) (by omega) with q | q | ⟨e, he, rfl⟩
  · refine ⟨fun _ => h1 (fun e he z => ?_), fun z => absurd q z⟩
    rw [z] at q
    exact zn0 (by omega) q
  · have : ∀ e, e < n → x ≠ nI e := by
      intro e he z
      rw [z, zle, znI (by omega), znI (by omega)] at q
      omega
    refine ⟨fun _ => h1 this, fun _ => ⟨fun z => ?_, fun _ => h1 this⟩⟩
    rw [zlt] at z
    rw [zle] at q
    omega
  · exact ⟨fun z => absurd z (zn0 (by omega)), fun _ => pk_lt e n (fun z => h2 e he rfl) (fun z => by omega)⟩
theorem m_typeOf {h g : zM} {nc no e sz o : Nat} (hC : zCat h g nc no) (he : e ≤ 40) (hsz : g 13 e = nI sz) (h1 : 1 ≤ sz) (h10 : sz ≤ 10) (ho : o < no) (eo : g 14 (10 * e + (sz - 1)) = nI o) (post : Int32 → zM → Prop) (hp : post (h 8 o) g) : wpMod_typeOf (nI e) g post := by
  unfold wpMod_typeOf
  have hno := hC.2.1
  obtain ⟨m, rfl⟩ : ∃ m, sz = m + 1 := ⟨sz - 1, by omega⟩
  rw [znc (by omega), hsz, zn10, nI_add, ← Nat.add_assoc, nI_pred, znc (by omega)]
  rw [Nat.add_sub_cancel] at eo
  rw [eo]
  exact ⟨zin_nI (by omega) (by omega), zin_nI (by omega) (by omega), m_gives (by omega) (hC.2.2.2.2.2.2.2 o ho) hC.1 _ hp⟩
theorem m_entry {h g : zM} {nc no n e sz o : Nat} {b : Int32} (hC : zCat h g nc no) (n40 : n ≤ 40) (gn : g 0 17 = nI n) (he : e < n) (hsz : g 13 e = nI sz) (h1 : 1 ≤ sz) (h10 : sz ≤ 10) (ho : o < no) (eo : g 14 (10 * e + (sz - 1)) = nI o) (post : Int32 → zM → Prop) (hp : post (if b = 0 then g 17 e else if b = 1 then g 18 e else if b = 2 then nI sz else if b = 3 then h 8 o else if b = 4 then g 19 e else -1) g) : wpMod_entry (nI e) b g post := by
  unfold wpMod_entry
  have ie : vp_in (nI e) 41 := zin_nI (by omega) (by omega)
  rw [gn, znc (by omega), hsz]
  refine ⟨fun z => absurd z (zn0 (by omega)), fun _ => pk_lt e n (fun _ => ?_) (fun z => by omega)⟩
  refine ⟨fun q => ⟨ie, by rwa [if_pos q] at hp⟩, fun q0 => ?_⟩
  rw [if_neg q0] at hp
  refine ⟨fun q => ⟨ie, by rwa [if_pos q] at hp⟩, fun q1 => ?_⟩
  rw [if_neg q1] at hp
  refine ⟨fun q => ⟨ie, by rwa [if_pos q] at hp⟩, fun q2 => ?_⟩
  rw [if_neg q2] at hp
  refine ⟨fun q => m_typeOf hC (by omega) hsz h1 h10 ho eo _ (by rwa [if_pos q] at hp), fun q3 => ?_⟩
  rw [if_neg q3] at hp
  refine ⟨fun q => ⟨ie, by rwa [if_pos q] at hp⟩, fun q4 => ?_⟩
  rwa [if_neg q4] at hp
theorem zH_entry (n : Nat) (ln : Nat → Nat) (h g : zM) (a b : Int32) (hR : zR n ln h g) : wpTop_entry n ln a b h (fun r h1 => wpMod_entry a b g (fun r1 g1 => r = r1 ∧ zR n ln h1 g1)) := by
  have hR0 := hR
  obtain ⟨nc, no, hC, h0, hl, hs, hd, n40, hn, gn, he⟩ := hR
  have hno := hC.2.1
  unfold wpTop_entry
  refine z_get hn n40 a _ (fun q => ⟨fun _ => ?_, fun j ej => absurd ej (by simp)⟩) (fun e hel ea => ⟨fun z => absurd z (by simp), fun j ej => ?_⟩)
  · unfold wpMod_entry
    rw [gn]
    exact m_get n40 a (fun _ => ⟨rfl, hR0⟩) (fun e hel ea => absurd ea (q e hel))
  · obtain rfl : e = j := Option.some.inj ej
    obtain ⟨sz, out, det, a1, a2, a3, a4, a5, a6, a7, a8, a9, b1, b2, b3, b4, b5, b6⟩ := he e hel
    refine ⟨hel, ?_⟩
    obtain ⟨o, ho, eo, -⟩ := a5 (sz - 1) (by omega)
    have e8 : zlt8 h (h (34 + 4 * e + 1 + 1)) sz = h 8 o := by
      unfold zlt8
      rw [eo, znc (by omega)]
    rw [a8, b2, a3, b4, b5, e8]
    subst ea
    have go : ∀ r : Int32, r = (if b = 0 then g 17 e else if b = 1 then g 18 e else if b = 2 then nI sz else if b = 3 then h 8 o else if b = 4 then g 19 e else -1) → wpMod_entry (nI e) b g (fun r1 g1 => r = r1 ∧ zR n ln h g1) := fun r er => m_entry hC n40 gn hel a4 a1 a2 ho (by rw [(a6 (sz - 1) (by omega)).1, eo]) _ ⟨er, hR0⟩
    rw [a9, b3] at go
    refine ⟨fun q => go _ (by rw [if_pos q]), fun q0 => ?_⟩
    rw [if_neg q0] at go
    refine ⟨fun q => go _ (by rw [if_pos q]), fun q1 => ?_⟩
    rw [if_neg q1] at go
    refine ⟨fun q => go _ (by rw [if_pos q]), fun q2 => ?_⟩
    rw [if_neg q2] at go
    refine ⟨fun q => go _ (by rw [if_pos q]), fun q3 => ?_⟩
    rw [if_neg q3] at go
    refine ⟨fun q => go _ (by rw [if_pos q]), fun q4 => ?_⟩
    rw [if_neg q4] at go
    exact go _ rfl
theorem zArg_not {h : zM} {c : Nat → Int32} {k a : Nat} (hok : zArgOk h c k a (-1)) : c (5 * k + 1 + 2 * a) = -1 ∧ c (5 * k + 2 + 2 * a) = 0 := by
  rcases hok with ⟨-, z⟩ | ⟨z, -⟩ | ⟨tt, t1, t2, z, -⟩
  · exact z
  · exact absurd z (by decide)
  · exact absurd z.symm (znm1 (by omega))
theorem zArg_has {h : zM} {c : Nat → Int32} {k a : Nat} {t : Int32} (hok : zArgOk h c k a t) (ht : t ≠ -1) : c (5 * k + 1 + 2 * a) ≠ -1 ∧ (c (5 * k + 1 + 2 * a) = 0 ∨ c (5 * k + 1 + 2 * a) = 1 ∨ (c (5 * k + 1 + 2 * a) = 2 ∧ c (5 * k + 2 + 2 * a) = 0)) := by
  rcases hok with ⟨z, -⟩ | ⟨-, z | ⟨z, -⟩⟩ | ⟨tt, -, -, -, ⟨z, z'⟩ | ⟨z, -⟩⟩
  · exact absurd z ht
  · rw [z]; exact ⟨by decide, Or.inr (Or.inl rfl)⟩
  · rw [z]; exact ⟨by decide, Or.inl rfl⟩
  · rw [z]; exact ⟨by decide, Or.inr (Or.inr ⟨rfl, z'⟩)⟩
  · rw [z]; exact ⟨by decide, Or.inl rfl⟩
/-- the second argument is there as the arity says -/
theorem zOp_ar {h g : zM} {nc o : Nat} (hn : nc ≤ 4) (hok : zOpOk h g nc o) : ∃ kd : Nat, kd ≤ 9 ∧ h 5 o = nI kd ∧ g 4 o = nI kd ∧ h 6 o ≠ -1 ∧ (zar kd = 1 ∨ zar kd = 2) ∧ (zar kd = 1 → h 7 o = -1) ∧ (zar kd = 2 → h 7 o ≠ -1) := by
  obtain ⟨kd, cc, d, hkd, c1, c2, hd, e5, f4, f5, f6, e6, e7, e8⟩ := hok
  refine ⟨kd, hkd, e5, f4, ?_, ?_, ?_, ?_⟩
  · rw [e6]
    unfold zft
    split
    · decide
    · split
      · obtain ⟨e, e1, e2, rfl⟩ := hd (by unfold zhasD; omega)
        exact znm1 (by omega)
      · exact znm1 (by omega)
  · unfold zar; split
    · exact Or.inr rfl
    · exact Or.inl rfl
  · rw [e7]
    unfold zar zst
    intro z
    by_cases q : kd = 3 ∨ kd = 4 ∨ kd = 6 ∨ kd = 9
    · rw [if_pos q] at z; omega
    · rw [if_neg (by omega), if_neg (by omega)]
  · rw [e7]
    unfold zar zst
    intro z
    by_cases q : kd = 3 ∨ kd = 4 ∨ kd = 6 ∨ kd = 9
    · split
      · decide
      · split
        · obtain ⟨e, e1, e2, rfl⟩ := hd (by unfold zhasD; omega)
          exact znm1 (by omega)
        · omega
    · rw [if_neg q] at z; omega
theorem m_st90 {g : zM} {e k a : Nat} {w : Int32} {b : Nat} (hb : b < 410) (ha : a < 2) (k0 : Int32) (post : Int32 → zM → Prop) (p1 : (w - w / 2 * 2) = 1 → k0 = 0 → post (-1) g) (p2 : (w - w / 2 * 2) = 1 → k0 ≠ 0 → post (g 15 (2 * b + a)) g) (p3 : ¬ (w - w / 2 * 2) = 1 → k0 = 0 → post 0 g) (p4 : ¬ (w - w / 2 * 2) = 1 → k0 ≠ 0 → 2 ≤ g 15 (2 * b + a) → post 0 g) (p5 : ¬ (w - w / 2 * 2) = 1 → k0 ≠ 0 → ¬ 2 ≤ g 15 (2 * b + a) → post (g 16 (2 * b + a)) g) : wbMod_statement_90 post w (nI b) (nI a) k0 g := by
  unfold wbMod_statement_90
  rw [zn2, nI_add, znc (by omega)]
  have ii : vp_in (nI (2 * b + a)) 820 := zin_nI (by omega) (by omega)
  exact ⟨fun q => ⟨fun q2 => p3 q q2, fun q2 => ⟨ii, fun q3 => p4 q q2 q3, fun q3 => ⟨ii, p5 q q2 q3⟩⟩⟩, fun q => ⟨fun q2 => p1 q q2, fun q2 => ⟨ii, p2 q q2⟩⟩⟩
theorem zH_statement (n : Nat) (ln : Nat → Nat) (h g : zM) (a b w : Int32) (hR : zR n ln h g) : wpTop_statement n ln a b w h (fun r h1 => wpMod_statement a b w g (fun r1 g1 => r = r1 ∧ zR n ln h1 g1)) := by
  have hR0 := hR
  obtain ⟨nc, no, hC, h0, hl, hs, hd, n40, hn, gn, he⟩ := hR
  have hno := hC.2.1
  unfold wpTop_statement wpMod_statement
  rw [gn]
  refine z_get hn n40 a _ (fun q => ⟨fun _ => ?_, fun j ej => absurd ej (by simp)⟩) (fun e hel ea => ⟨fun z => absurd z (by simp), fun j ej => ?_⟩)
  · refine ⟨fun _ => ⟨rfl, hR0⟩, fun q1 => ⟨fun _ => ⟨rfl, hR0⟩, fun q2 => ?_⟩⟩
    rcases zix a (n := n) (by omega) with z | z | ⟨e, hel, z⟩
    · exact absurd z q1
    · exact absurd z q2
    · exact absurd z (q e hel)
  · obtain rfl : e = j := Option.some.inj ej
    subst ea
    obtain ⟨sz, out, det, a1, a2, a3, a4, a5, a6, -⟩ := he e hel
    refine ⟨hel, ?_⟩
    have m0 : ∀ {X Y : Prop}, Y → ((nI e < 0 → X) ∧ (¬ nI e < 0 → ((nI n ≤ nI e → X) ∧ (¬ nI n ≤ nI e → Y)))) := fun hY => ⟨fun z => absurd z (zn0 (by omega)), fun _ => pk_le n e (fun z => by omega) (fun _ => hY)⟩
    have ie : vp_in (nI e) 41 := zin_nI (by omega) (by omega)
    rw [a3, znc (show e < 2147483648 by omega), a4]
    rcases zix b (n := sz) (by omega) with qb | qb | ⟨k, hk, rfl⟩
    · exact ⟨fun _ => m0 ⟨fun _ => ⟨rfl, hR0⟩, fun z => absurd qb z⟩, fun z => absurd qb z⟩
    · have nb : ¬ b < 0 := by
        rw [zle, znI (by omega)] at qb
        rw [zlt, zti_0]
        omega
      exact ⟨fun z => absurd z nb, fun _ => ⟨fun _ => m0 ⟨fun z => absurd z nb, fun _ => ⟨ie, fun _ => ⟨rfl, hR0⟩, fun z => absurd qb z⟩⟩, fun z => absurd qb z⟩⟩
    · have nb : ¬ nI k < 0 := zn0 (by omega)
      have nk : ¬ nI sz ≤ nI k := by rw [zle, znI (by omega), znI (by omega)]; omega
      refine ⟨fun z => absurd z nb, fun _ => ⟨fun z => absurd z nk, fun _ => ?_⟩⟩
      rcases zix w (n := 5) (by omega) with qw | qw | ⟨ww, hw, rfl⟩
      · exact ⟨fun _ => m0 ⟨fun z => absurd z nb, fun _ => ⟨ie, fun z => absurd z nk, fun _ => ⟨fun _ => ⟨rfl, hR0⟩, fun z => absurd qw z⟩⟩⟩, fun z => absurd qw z⟩
      · have n1 : ¬ w < 0 := by
          rw [zle, znI (by omega)] at qw
          rw [zlt, zti_0]
          omega
        have n2 : ¬ w < 5 := by
          rw [zle, znI (by omega)] at qw
          rw [zlt, zti_5]
          omega
        have n3 : ¬ w ≤ 4 := by
          rw [zle, znI (by omega)] at qw
          rw [zle, zti_4]
          omega
        exact ⟨fun z => absurd z n1, fun _ => ⟨fun z => absurd z n2, fun _ => m0 ⟨fun z => absurd z nb, fun _ => ⟨ie, fun z => absurd z nk, fun _ => ⟨fun z => absurd z n1, fun _ => ⟨fun z => absurd z n3, fun _ => ⟨rfl, hR0⟩⟩⟩⟩⟩⟩⟩
      · have n1 : ¬ nI ww < 0 := zn0 (by omega)
        have n2 : nI ww < 5 := by rw [zlt, znI (by omega), zti_5]; omega
        have n3 : nI ww ≤ 4 := by rw [zle, znI (by omega), zti_4]; omega
        rw [zn5, nI_add, znc (by omega), zn10, nI_add]
        refine ⟨fun z => absurd z n1, fun _ => ⟨fun _ => ⟨zin_nI (by omega) (by omega), m0 ⟨fun z => absurd z nb, fun _ => ⟨ie, fun z => absurd z nk, fun _ => ⟨fun z => absurd z n1, fun _ => ⟨fun _ y44 e44 => ?_, fun z => absurd n3 z⟩⟩⟩⟩⟩, fun z => absurd n2 z⟩⟩
        subst e44
        obtain ⟨o, ho, eo, ok0, ok1⟩ := a5 k hk
        obtain ⟨mo, ma⟩ := a6 k hk
        obtain ⟨kd, hkd, e5, f4, t0, tar, t1, t2⟩ := zOp_ar hC.1 (hC.2.2.2.2.2.2.2 o ho)
        have ib : vp_in (nI (10 * e + k)) 410 := zin_nI (by omega) (by omega)
        rw [znc (by omega), mo, eo, znc (by omega), f4]
        have io : vp_in (nI o) 10 := zin_nI (by omega) (by omega)
        obtain ⟨A1, A2⟩ := zArg_has ok0 t0
        have B0 := (ma 0 (by decide)).resolve_left (fun z => A1 z.1)
        have tr : ∀ x y : Int32, x = y → (x = y ∧ zR n ln h g) := fun x y z => ⟨z, hR0⟩
        have two : ∀ f : Int32, (f = 0 ∨ f = 1) → ¬ 2 ≤ f := by
          rintro f (rfl | rfl) <;> decide
        rcases (show ww = 0 ∨ ww = 1 ∨ ww = 2 ∨ ww = 3 ∨ ww = 4 by omega) with rfl | rfl | rfl | rfl | rfl
        · exact ⟨fun z => absurd rfl z, fun _ => ⟨ib, tr _ _ (by rw [← eo]; rfl)⟩⟩
        · refine ⟨fun _ y63 e63 => ⟨ib, io, m_arity hkd _ ?_⟩, fun z => absurd z (by decide)⟩
          have e63 : y63 = nI 0 := e63.trans (by decide)
          subst e63
          refine pk_le (zar kd) 0 (fun z => by omega) (fun _ => m_st90 (e := e) (k := k) (by omega) (by omega) 1 _ (fun _ z => absurd z (by decide)) (fun _ _ => tr _ _ ?_) (fun z => absurd (by decide) z) (fun z => absurd (by decide) z) (fun z => absurd (by decide) z))
          rw [B0.2.1]
        · refine ⟨fun _ y63 e63 => ⟨ib, io, m_arity hkd _ ?_⟩, fun z => absurd z (by decide)⟩
          have e63 : y63 = nI 0 := e63.trans (by decide)
          subst e63
          refine pk_le (zar kd) 0 (fun z => by omega) (fun _ => m_st90 (e := e) (k := k) (by omega) (by omega) 1 _ (fun z => absurd z (by decide)) (fun z => absurd z (by decide)) (fun _ z => absurd z (by decide)) (fun _ _ z => tr _ _ ?_) (fun _ _ z => tr _ _ ?_))
          · rw [B0.2.1] at z
            rcases A2 with q | q | ⟨q, q'⟩
            · exact absurd z (two _ (Or.inl q))
            · exact absurd z (two _ (Or.inr q))
            · exact q'
          · rw [B0.2.2]
        · refine ⟨fun _ y63 e63 => ⟨ib, io, m_arity hkd _ ?_⟩, fun z => absurd z (by decide)⟩
          have e63 : y63 = nI 1 := e63.trans (by decide)
          subst e63
          refine pk_le (zar kd) 1 (fun z => m_st90 (e := e) (k := k) (by omega) (by omega) 0 _ (fun _ _ => tr _ _ ?_) (fun _ z => absurd rfl z) (fun z => absurd (by decide) z) (fun z => absurd (by decide) z) (fun z => absurd (by decide) z)) (fun z => m_st90 (e := e) (k := k) (by omega) (by omega) 1 _ (fun _ z => absurd z (by decide)) (fun _ _ => tr _ _ ?_) (fun z => absurd (by decide) z) (fun z => absurd (by decide) z) (fun z => absurd (by decide) z))
          · rw [t1 (by omega)] at ok1
            exact (zArg_not ok1).1
          · rw [((ma 1 (by decide)).resolve_left (fun w => (zArg_has ok1 (t2 (by omega))).1 w.1)).2.1]
        · refine ⟨fun _ y63 e63 => ⟨ib, io, m_arity hkd _ ?_⟩, fun z => absurd z (by decide)⟩
          have e63 : y63 = nI 1 := e63.trans (by decide)
          subst e63
          refine pk_le (zar kd) 1 (fun z => m_st90 (e := e) (k := k) (by omega) (by omega) 0 _ (fun z => absurd z (by decide)) (fun z => absurd z (by decide)) (fun _ _ => tr _ _ ?_) (fun _ z => absurd rfl z) (fun _ z => absurd rfl z)) (fun z => ?_)
          · rw [t1 (by omega)] at ok1
            exact (zArg_not ok1).2
          · obtain ⟨C1, C2⟩ := zArg_has ok1 (t2 (by omega))
            have B1 := (ma 1 (by decide)).resolve_left (fun w => C1 w.1)
            refine m_st90 (e := e) (k := k) (by omega) (by omega) 1 _ (fun z => absurd z (by decide)) (fun z => absurd z (by decide)) (fun _ z => absurd z (by decide)) (fun _ _ z => tr _ _ ?_) (fun _ _ z => tr _ _ ?_)
            · rw [B1.2.1] at z
              rcases C2 with q | q | ⟨q, q'⟩
              · exact absurd z (two _ (Or.inl q))
              · exact absurd z (two _ (Or.inr q))
              · exact q'
            · rw [B1.2.2]
