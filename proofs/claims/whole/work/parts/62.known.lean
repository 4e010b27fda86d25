/-! is the sequence in the book -/
def zsm (h : zM) (sz : Nat) (C : Nat → Int32) (e : Nat) : Prop := h (34 + 4 * e + 1) 0 = nI sz ∧ ∀ i, i < 5 * sz → h (34 + 4 * e + 1 + 1) i = C i
theorem z_holds {n : Nat} {ln : Nat → Nat} {h : zM} {sz : Nat} {C : Nat → Int32} (h9 : h 9 1 = nI n) (n40 : n ≤ 40) (hsz : h 20 0 = nI sz) (h10 : sz ≤ 10) (hC : ∀ i, i < 5 * sz → h 21 i = C i) (post : Int32 → zM → Prop) (h1 : ¬ (∃ e, e < n ∧ zsm h sz C e) → post 0 h) (h2 : (∃ e, e < n ∧ zsm h sz C e) → post 1 h) : wpBook_holds n ln 20 h post := by
  unfold wpBook_holds
  refine zL_rule (fun s => s.2 = h ∧ ∃ e : Nat, e ≤ n ∧ s.1 = nI e ∧ ∀ e', e' < e → ¬ zsm h sz C e') (fun s => n - s.1.toNatClampNeg) ?_ (0, h) ⟨rfl, 0, by omega, rfl, fun e he => by omega⟩
  rintro ⟨v2, hh⟩ L ⟨eh, e, he, e2, hz⟩ ih
  dsimp only at eh e2 ih
  subst eh e2
  unfold stBook_holds_2
  dsimp only
  rw [h9, znc (by omega)]
  refine pk_le n e (fun q => h1 ?_) (fun q => ⟨zin_nI (by omega) (by omega), q, ?_⟩)
  · rintro ⟨e', he', z⟩
    exact hz e' (by omega) z
  · have nxt : ¬ zsm hh sz C e → L (nI e + 1, hh) := by
      intro z
      rw [zp1]
      refine ih _ ⟨rfl, e + 1, by omega, rfl, fun e' he' => ?_⟩ ?_
      · by_cases w : e' = e
        · rw [w]; exact z
        · exact hz e' (by omega)
      · dsimp only
        rw [znc (by omega), znc (by omega)]
        omega
    unfold wpSequence_same
    refine ⟨fun z => ?_, fun z => ⟨fun _ => nxt (fun w => z (by rw [w.1, hsz])), fun w => absurd rfl w⟩⟩
    rw [hsz] at z
    refine zL_rule (fun s => s.2 = hh ∧ ∃ i : Nat, i ≤ 5 * sz ∧ s.1 = nI i ∧ ∀ i', i' < i → hh (34 + 4 * e + 1 + 1) i' = C i') (fun s => 5 * sz - s.1.toNatClampNeg) ?_ (0, hh) ⟨rfl, 0, by omega, rfl, fun i hi => by omega⟩
    rintro ⟨w2, h'⟩ L' ⟨eh, i, hi, e2, hz'⟩ ih'
    dsimp only at eh e2 ih'
    subst eh e2
    unfold stSequence_same_15
    dsimp only
    rw [z, zn5, znc (by omega)]
    refine pk_le (5 * sz) i (fun q2 => ⟨fun w => absurd w (by decide), fun _ => h2 ⟨e, q, z, fun i' hi' => hz' i' (by omega)⟩⟩) (fun q2 => ⟨zin_nI (by omega) (by omega), zin_nI (by omega) (by omega), fun w => ?_, fun w => ⟨fun _ => nxt (fun y => w ?_), fun y => absurd rfl y⟩⟩)
    · rw [zp1]
      refine ih' _ ⟨rfl, i + 1, by omega, rfl, fun i' hi' => ?_⟩ ?_
      · by_cases u : i' = i
        · subst u
          exact w.trans (hC i' q2)
        · exact hz' i' (by omega)
      · dsimp only
        rw [znc (by omega), znc (by omega)]
        omega
    · rw [y.2 i q2]; exact (hC i q2).symm
theorem zAq_eq {f v hw ar f' v' hw' ar' : Int32} (h : zAq f v hw ar) (h' : zAq f' v' hw' ar') (n : f ≠ -1) (n' : f' ≠ -1) : (hw = hw' ∧ ar = ar') ↔ (f = f' ∧ v = v') := by
  obtain ⟨-, rfl, rfl⟩ := h.resolve_left (fun z => n z.1)
  obtain ⟨-, rfl, rfl⟩ := h'.resolve_left (fun z => n' z.1)
  exact Iff.rfl
theorem m_alike {h g : zM} {nc no b k : Nat} {ce C : Nat → Int32} (hC : zCat h g nc no) (hb : b < 410) (hk : k < 10) (he : zStOk h ce no k) (hc : zStOk h C no k) (me : mSq ce (g 14) (g 15) (g 16) k b) (mc : mSq C (g 8) (g 9) (g 10) k k) (post : Int32 → zM → Prop) (h1 : ¬ (∀ i, i < 5 → ce (5 * k + i) = C (5 * k + i)) → post 0 g) (h2 : (∀ i, i < 5 → ce (5 * k + i) = C (5 * k + i)) → post 1 g) : wpMod_alike (nI b) (nI k) g post := by
  have hno := hC.2.1
  obtain ⟨o, ho, eo, ok0, ok1⟩ := hc
  obtain ⟨o', ho', eo', ok0', ok1'⟩ := he
  obtain ⟨kd, hkd, e5, f4, t0, tar, t1, t2⟩ := zOp_ar hC.1 (hC.2.2.2.2.2.2.2 o ho)
  have ib : vp_in (nI b) 410 := zin_nI (by omega) (by omega)
  have ik : vp_in (nI k) 20 := zin_nI (by omega) (by omega)
  have io : vp_in (nI o) 10 := zin_nI (by omega) (by omega)
  have key : ce (5 * k) = C (5 * k) → ∀ a, a < zar kd → ((g 15 (2 * b + a) = g 9 (2 * k + a) ∧ g 16 (2 * b + a) = g 10 (2 * k + a)) ↔ (ce (5 * k + 1 + 2 * a) = C (5 * k + 1 + 2 * a) ∧ ce (5 * k + 2 + 2 * a) = C (5 * k + 2 + 2 * a))) := by
    intro eop a ha
    have oo : o' = o := (nI_eq (by omega) (by omega)).mp (eo'.symm.trans (eop.trans eo))
    subst oo
    refine zAq_eq (me.2 a (by omega)) (mc.2 a (by omega)) ?_ ?_
    · rcases (show a = 0 ∨ a = 1 by omega) with rfl | rfl
      · exact (zArg_has ok0' t0).1
      · exact (zArg_has ok1' (t2 (by omega))).1
    · rcases (show a = 0 ∨ a = 1 by omega) with rfl | rfl
      · exact (zArg_has ok0 t0).1
      · exact (zArg_has ok1 (t2 (by omega))).1
  have all : (ce (5 * k) = C (5 * k) ∧ ∀ a, a < zar kd → ce (5 * k + 1 + 2 * a) = C (5 * k + 1 + 2 * a) ∧ ce (5 * k + 2 + 2 * a) = C (5 * k + 2 + 2 * a)) → ∀ i, i < 5 → ce (5 * k + i) = C (5 * k + i) := by
    rintro ⟨eop, ha⟩ i hi
    have oo : o' = o := (nI_eq (by omega) (by omega)).mp (eo'.symm.trans (eop.trans eo))
    subst oo
    obtain ⟨x1, x2⟩ := ha 0 (by omega)
    have y : ce (5 * k + 1 + 2 * 1) = C (5 * k + 1 + 2 * 1) ∧ ce (5 * k + 2 + 2 * 1) = C (5 * k + 2 + 2 * 1) := by
      rcases tar with w | w
      · rw [t1 w] at ok1 ok1'
        obtain ⟨u1, u2⟩ := zArg_not ok1
        obtain ⟨w1, w2⟩ := zArg_not ok1'
        exact ⟨w1.trans u1.symm, w2.trans u2.symm⟩
      · exact ha 1 (by omega)
    rcases (show i = 0 ∨ i = 1 ∨ i = 2 ∨ i = 3 ∨ i = 4 by omega) with rfl | rfl | rfl | rfl | rfl
    · exact eop
    · exact x1
    · exact x2
    · exact y.1
    · exact y.2
  have back : ∀ a, a ≤ zar kd → (∀ i, i < 5 → ce (5 * k + i) = C (5 * k + i)) → (ce (5 * k) = C (5 * k) ∧ ∀ a', a' < a → ce (5 * k + 1 + 2 * a') = C (5 * k + 1 + 2 * a') ∧ ce (5 * k + 2 + 2 * a') = C (5 * k + 2 + 2 * a')) := by
    intro a ha hh
    refine ⟨hh 0 (by decide), fun a' ha' => ⟨?_, ?_⟩⟩
    · have := hh (1 + 2 * a') (by omega)
      rw [← Nat.add_assoc] at this
      exact this
    · have := hh (2 + 2 * a') (by omega)
      rw [← Nat.add_assoc] at this
      exact this
  unfold wpMod_alike
  rw [znc (by omega), znc (by omega), me.1, mc.1]
  have go : ∀ v : Int32, v = (if zdec (ce (5 * k) = C (5 * k)) = true then 1 else 0) → wbMod_alike_20 post (nI b) (nI k) v g := by
    intro v ev
    unfold wbMod_alike_20
    refine zL_rule (fun s => s.1 = nI b ∧ s.2.1 = nI k ∧ s.2.2.2.2 = g ∧ ∃ a : Nat, a ≤ zar kd ∧ s.2.2.2.1 = nI a ∧ s.2.2.1 = (if zdec (ce (5 * k) = C (5 * k) ∧ ∀ a', a' < a → ce (5 * k + 1 + 2 * a') = C (5 * k + 1 + 2 * a') ∧ ce (5 * k + 2 + 2 * a') = C (5 * k + 2 + 2 * a')) = true then 1 else 0)) (fun s => 3 - s.2.2.2.1.toNatClampNeg) ?_ (nI b, nI k, v, 0, g) ⟨rfl, rfl, rfl, 0, by omega, rfl, ?_⟩
    · rintro ⟨v1, v2, v3, v4, gg⟩ L ⟨e1, e2, eg, a, ha, e4, e3⟩ ih
      dsimp only at e1 e2 eg e4 e3 ih
      subst e1 e2 eg e4
      unfold stMod_alike_24
      dsimp only
      rw [znc (show k < 2147483648 by omega), mc.1, eo, znc (show o < 2147483648 by omega), f4]
      refine ⟨ik, io, m_arity hkd _ ?_⟩
      by_cases P : ce (5 * k) = C (5 * k) ∧ ∀ a', a' < a → ce (5 * k + 1 + 2 * a') = C (5 * k + 1 + 2 * a') ∧ ce (5 * k + 2 + 2 * a') = C (5 * k + 2 + 2 * a')
      · rw [zdec_t P, if_pos rfl] at e3
        subst e3
        refine pk_le (zar kd) a (fun q => ⟨Or.inr rfl, ?_⟩) (fun q => ⟨fun w => absurd w (by decide), fun _ => ?_⟩)
        · have : a = zar kd := by omega
          subst this
          exact h2 (all P)
        · rw [zn2, zn2, nI_add, nI_add, znc (by omega), znc (by omega)]
          have i1 : vp_in (nI (2 * b + a)) 820 := zin_nI (by omega) (by omega)
          have i2 : vp_in (nI (2 * k + a)) 40 := zin_nI (by omega) (by omega)
          have K := key P.1 a q
          have nxt : ∀ w : Int32, w = (if zdec (ce (5 * k) = C (5 * k) ∧ ∀ a', a' < a + 1 → ce (5 * k + 1 + 2 * a') = C (5 * k + 1 + 2 * a') ∧ ce (5 * k + 2 + 2 * a') = C (5 * k + 2 + 2 * a')) = true then 1 else 0) → wbMod_alike_102 post L (nI b) (nI k) (nI a) w gg := by
            intro w ew
            unfold wbMod_alike_102
            rw [zp1]
            refine ih _ ⟨rfl, rfl, rfl, a + 1, by omega, rfl, ew⟩ ?_
            dsimp only
            rw [znc (by omega), znc (by omega)]
            omega
          have bad : ¬ (gg 15 (2 * b + a) = gg 9 (2 * k + a) ∧ gg 16 (2 * b + a) = gg 10 (2 * k + a)) → wbMod_alike_102 post L (nI b) (nI k) (nI a) 0 gg := by
            intro z
            refine nxt 0 ?_
            rw [zdec_f, if_neg (by decide)]
            intro y
            exact z (K.mpr (y.2 a (by omega)))
          unfold wbMod_alike_101
          refine ⟨i1, i2, fun z => bad (fun y => z y.1), fun z => ⟨i1, i2, fun z2 => bad (fun y => z2 y.2), fun z2 => nxt 1 ?_⟩⟩
          rw [zdec_t, if_pos rfl]
          refine ⟨P.1, fun a' ha' => ?_⟩
          by_cases u : a' = a
          · rw [u]; exact K.mp ⟨z, z2⟩
          · exact P.2 a' (by omega)
      · rw [zdec_f P, if_neg (by decide)] at e3
        subst e3
        have no' : post 0 gg := h1 (fun y => P (back a ha y))
        exact pk_le (zar kd) a (fun q => ⟨Or.inl rfl, no'⟩) (fun q => ⟨fun _ => ⟨Or.inl rfl, no'⟩, fun w => absurd rfl w⟩)
    · show v = _
      rw [ev]
      by_cases P : ce (5 * k) = C (5 * k)
      · rw [zdec_t P, zdec_t ⟨P, fun a' ha' => by omega⟩]
      · rw [zdec_f P, zdec_f (fun y => P y.1)]
  refine ⟨ib, ik, fun z => go 0 ?_, fun z => go 1 ?_⟩
  · rw [zdec_f z, if_neg (by decide)]
  · rw [zdec_t z, if_pos rfl]
theorem m_known {n : Nat} {ln : Nat → Nat} {h g : zM} {nc no sz : Nat} {C : Nat → Int32} (hB : zBk n ln h g nc no) (hsz : g 0 11 = nI sz) (h1' : 1 ≤ sz) (h10 : sz ≤ 10) (hst : ∀ k, k < sz → zStOk h C no k) (hm : ∀ k, k < sz → mSq C (g 8) (g 9) (g 10) k k) (post : Int32 → zM → Prop) (h1 : ¬ (∃ e, e < n ∧ zsm h sz C e) → post 0 g) (h2 : (∃ e, e < n ∧ zsm h sz C e) → post 1 g) : wpMod_known g post := by
  have n40 := hB.2.1
  unfold wpMod_known
  refine zL_rule (fun s => s.2.2 = g ∧ ∃ e : Nat, e ≤ n ∧ s.2.1 = nI e ∧ s.1 = (if zdec (∃ e', e' < e ∧ zsm h sz C e') = true then 1 else 0)) (fun s => n - s.2.1.toNatClampNeg) ?_ (0, 0, g) ⟨rfl, 0, by omega, rfl, ?_⟩
  · rintro ⟨v1, v2, gg⟩ L ⟨eg, e, he, e2, e1⟩ ih
    dsimp only at eg e2 e1 ih
    subst eg e2
    unfold stMod_known_4
    dsimp only
    rw [hB.2.2.1, znc (by omega)]
    refine pk_le n e (fun q => ?_) (fun q => ⟨zin_nI (by omega) (by omega), ?_⟩)
    · have : e = n := by omega
      subst this
      by_cases P : ∃ e', e' < e ∧ zsm h sz C e'
      · rw [zdec_t P, if_pos rfl] at e1
        subst e1
        exact ⟨Or.inr rfl, h2 P⟩
      · rw [zdec_f P, if_neg (by decide)] at e1
        subst e1
        exact ⟨Or.inl rfl, h1 P⟩
    · obtain ⟨m, out, det, a1, a2, a3, a4, a5, a6, -⟩ := hB.2.2.2 e q
      have nxt : ∀ w : Int32, w = (if zdec (∃ e', e' < e + 1 ∧ zsm h sz C e') = true then 1 else 0) → wbMod_known_80 post L (nI e) w gg := by
        intro w ew
        unfold wbMod_known_80
        rw [zp1]
        refine ih _ ⟨rfl, e + 1, by omega, rfl, ew⟩ ?_
        dsimp only
        rw [znc (by omega), znc (by omega)]
        omega
      have fin : ∀ v3 : Int32, v3 = (if zdec (zsm h sz C e) = true then 1 else 0) → wbMod_known_67 post L v1 (nI e) v3 gg := by
        intro v3 ev
        unfold wbMod_known_67 wbMod_known_75
        by_cases P : ∃ e', e' < e ∧ zsm h sz C e'
        · rw [zdec_t P, if_pos rfl] at e1
          subst e1
          obtain ⟨e', x1, x2⟩ := P
          exact ⟨fun _ => nxt 1 (by rw [zdec_t ⟨e', by omega, x2⟩, if_pos rfl]), fun w => absurd w (by decide)⟩
        · rw [zdec_f P, if_neg (by decide)] at e1
          subst e1
          refine ⟨fun w => absurd rfl w, fun _ => ?_⟩
          by_cases Q : zsm h sz C e
          · rw [zdec_t Q, if_pos rfl] at ev
            subst ev
            exact ⟨fun w => absurd w (by decide), fun _ => nxt 1 (by rw [zdec_t ⟨e, by omega, Q⟩, if_pos rfl])⟩
          · rw [zdec_f Q, if_neg (by decide)] at ev
            subst ev
            refine ⟨fun _ => nxt 0 ?_, fun w => absurd rfl w⟩
            rw [zdec_f, if_neg (by decide)]
            rintro ⟨e', x1, x2⟩
            by_cases u : e' = e
            · subst u; exact Q x2
            · exact P ⟨e', by omega, x2⟩
      have lp : ∀ v3 : Int32, v3 = (if zdec (m = sz) = true then 1 else 0) → wbMod_known_30 post L v1 (nI e) v3 gg := by
        intro v3 ev
        unfold wbMod_known_30
        refine zL_rule (fun s => s.1 = v1 ∧ s.2.1 = nI e ∧ s.2.2.2.2 = gg ∧ ∃ k : Nat, k ≤ sz ∧ s.2.2.2.1 = nI k ∧ s.2.2.1 = (if zdec (m = sz ∧ ∀ i, i < 5 * k → h (34 + 4 * e + 1 + 1) i = C i) = true then 1 else 0)) (fun s => sz - s.2.2.2.1.toNatClampNeg) ?_ (v1, nI e, v3, 0, gg) ⟨rfl, rfl, rfl, 0, by omega, rfl, ?_⟩
        · rintro ⟨w1, w2, w3, w4, g4⟩ L4 ⟨x1, x2, xg, k, hk, x4, x3⟩ ih4
          dsimp only at x1 x2 xg x4 x3 ih4
          subst x1 x2 xg x4
          unfold stMod_known_34
          dsimp only
          rw [hsz, zn10, nI_add]
          by_cases P : m = sz ∧ ∀ i, i < 5 * k → h (34 + 4 * e + 1 + 1) i = C i
          · rw [zdec_t P, if_pos rfl] at x3
            subst x3
            refine pk_le sz k (fun q2 => fin 1 ?_) (fun q2 => ⟨fun w => absurd w (by decide), fun _ => ?_⟩)
            · have : k = sz := by omega
              subst this
              rw [zdec_t ⟨by rw [a3, P.1], P.2⟩, if_pos rfl]
            · have nx : ∀ r : Int32, r = (if zdec (m = sz ∧ ∀ i, i < 5 * (k + 1) → h (34 + 4 * e + 1 + 1) i = C i) = true then 1 else 0) → L4 (w1, nI e, r, nI k + 1, g4) := by
                intro r er
                rw [zp1]
                refine ih4 _ ⟨rfl, rfl, rfl, k + 1, by omega, rfl, er⟩ ?_
                dsimp only
                rw [znc (by omega), znc (by omega)]
                omega
              refine m_alike hB.1 (by omega) (by omega) (a5 k (by omega)) (hst k q2) (a6 k (by omega)) (hm k q2) _ (fun z => nx 0 ?_) (fun z => nx 1 ?_)
              · rw [zdec_f, if_neg (by decide)]
                intro y
                exact z (fun i hi => y.2 _ (by omega))
              · rw [zdec_t, if_pos rfl]
                refine ⟨P.1, fun i hi => ?_⟩
                by_cases u : i < 5 * k
                · exact P.2 i u
                · have := z (i - 5 * k) (by omega)
                  rw [show 5 * k + (i - 5 * k) = i by omega] at this
                  exact this
          · rw [zdec_f P, if_neg (by decide)] at x3
            subst x3
            have f0 : wbMod_known_67 post L w1 (nI e) 0 g4 := by
              refine fin 0 ?_
              rw [zdec_f, if_neg (by decide)]
              intro y
              refine P ⟨?_, fun i hi => y.2 i (by omega)⟩
              have := y.1
              rw [a3] at this
              exact (nI_eq (by omega) (by omega)).mp this
            exact pk_le sz k (fun _ => f0) (fun _ => ⟨fun _ => f0, fun w => absurd rfl w⟩)
        · show v3 = _
          rw [ev]
          by_cases P : m = sz
          · rw [zdec_t P, zdec_t ⟨P, fun i hi => by omega⟩]
          · rw [zdec_f P, zdec_f (fun y => P y.1)]
      rw [a4, hsz]
      refine ⟨fun z => lp 0 ?_, fun z => lp 1 ?_⟩
      · rw [zdec_f (fun y => z (by rw [y])), if_neg (by decide)]
      · rw [zdec_t ((nI_eq (by omega) (by omega)).mp z), if_pos rfl]
  · show (0 : Int32) = _
    rw [zdec_f, if_neg (by decide)]
    rintro ⟨e', x, -⟩
    omega
