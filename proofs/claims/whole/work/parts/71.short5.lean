theorem zAq_0 {f v hw ar : Int32} (h : zAq f v hw ar) : hw = 0 ↔ f = 0 := by
  rcases h with ⟨h1, -, h3, -⟩ | ⟨-, h2, -⟩
  · rw [h1, h3]; decide
  · rw [h2]
theorem zAq_v {f v hw ar : Int32} (h : zAq f v hw ar) (h0 : f = 0) : ar = v := by
  rcases h with ⟨h1, -⟩ | ⟨-, -, h3⟩
  · rw [h0] at h1; exact absurd h1 (by decide)
  · exact h3
theorem m_used {gg : zM} {S : zSS} {k : Nat} (hW : mWk gg S) (s10 : S.1 ≤ 10) (hk : k < S.1) (post : Int32 → zM → Prop) (h1 : ¬ zusd S.2 S.1 k → post 0 gg) (h2 : zusd S.2 S.1 k → post 1 gg) : wpMod_used (nI k) gg post := by
  unfold wpMod_used
  intro y7 e7
  rw [zn2, zp2] at e7
  subst e7
  refine zL_rule (fun s => s.1 = nI k ∧ s.2.2.2 = gg ∧ ∃ j : Nat, 2 * k + 2 ≤ j ∧ j ≤ 2 * S.1 ∧ s.2.2.1 = nI j ∧ s.2.1 = (if zdec (∃ i, 2 * k + 2 ≤ i ∧ i < j ∧ gg 9 i = 0 ∧ gg 10 i = nI k) = true then 1 else 0)) (fun s => 2 * S.1 - s.2.2.1.toNatClampNeg) ?_ (nI k, 0, nI (2 * k + 2), gg) ⟨rfl, rfl, 2 * k + 2, by omega, by omega, rfl, ?_⟩
  · have eq : (∃ i, 2 * k + 2 ≤ i ∧ i < 2 * S.1 ∧ gg 9 i = 0 ∧ gg 10 i = nI k) ↔ zusd S.2 S.1 k := by
      constructor
      · rintro ⟨i, i1, i2, i3, i4⟩
        have q := (hW.2 (i / 2) (by omega)).2 (i % 2) (by omega)
        rw [show 2 * (i / 2) + i % 2 = i by omega] at q
        have q0 := (zAq_0 q).mp i3
        exact ⟨i / 2, i % 2, by omega, by omega, by omega, q0, by rw [← zAq_v q q0]; exact i4⟩
      · rintro ⟨j, a, j1, j2, j3, j4, j5⟩
        have q := (hW.2 j j2).2 a j3
        exact ⟨2 * j + a, by omega, by omega, (zAq_0 q).mpr j4, by rw [zAq_v q j4]; exact j5⟩
    rintro ⟨v1, v2, v3, g3⟩ L ⟨x1, xg, j, j1, j2, x3, x2⟩ ih
    dsimp only at x1 xg x3 x2 ih
    subst x1 xg x3
    unfold stMod_used_8
    dsimp only
    rw [hW.1, zn2, znc (by omega)]
    by_cases P : ∃ i, 2 * k + 2 ≤ i ∧ i < j ∧ g3 9 i = 0 ∧ g3 10 i = nI k
    · rw [zdec_t P, if_pos rfl] at x2
      subst x2
      obtain ⟨i, i1, i2, i3⟩ := P
      refine pk_le (2 * S.1) j (fun q => ⟨Or.inr rfl, h2 (eq.mp ⟨i, i1, by omega, i3⟩)⟩) (fun q => ⟨fun _ => ?_, fun w => absurd w (by decide)⟩)
      unfold wbMod_used_41 wbMod_used_46
      rw [zp1]
      refine ih _ ⟨rfl, rfl, j + 1, by omega, by omega, rfl, by rw [zdec_t ⟨i, i1, by omega, i3⟩, if_pos rfl]⟩ ?_
      dsimp only
      rw [znc (by omega), znc (by omega)]
      omega
    · rw [zdec_f P, if_neg (by decide)] at x2
      subst x2
      have nxt : ∀ w : Int32, w = (if zdec (∃ i, 2 * k + 2 ≤ i ∧ i < j + 1 ∧ g3 9 i = 0 ∧ g3 10 i = nI k) = true then 1 else 0) → j < 2 * S.1 → wbMod_used_46 post L (nI k) (nI j) w g3 := by
        intro w ew hj
        unfold wbMod_used_46
        rw [zp1]
        refine ih _ ⟨rfl, rfl, j + 1, by omega, by omega, rfl, ew⟩ ?_
        dsimp only
        rw [znc (by omega), znc (by omega)]
        omega
      have bad : ¬ (g3 9 j = 0 ∧ g3 10 j = nI k) → j < 2 * S.1 → wbMod_used_45 post L (nI k) (nI j) g3 := by
        intro z hj
        unfold wbMod_used_45
        refine nxt 0 ?_ hj
        rw [zdec_f, if_neg (by decide)]
        rintro ⟨i, i1, i2, i3⟩
        by_cases w : i = j
        · subst w; exact z i3
        · exact P ⟨i, i1, by omega, i3⟩
      refine pk_le (2 * S.1) j (fun q => ⟨Or.inl rfl, h1 (fun y => P ?_)⟩) (fun q => ⟨fun w => absurd rfl w, fun _ => ⟨zin_nI (by omega) (by omega), fun w => bad (fun y => w y.1) q, fun w => ⟨zin_nI (by omega) (by omega), fun u => bad (fun y => u y.2) q, fun u => ?_⟩⟩⟩)
      · obtain ⟨i, i1, i2, i3⟩ := eq.mpr y
        exact ⟨i, i1, by omega, i3⟩
      · unfold wbMod_used_41
        exact nxt 1 (by rw [zdec_t ⟨j, j1, by omega, w, u⟩, if_pos rfl]) q
  · show (0 : Int32) = _
    rw [zdec_f, if_neg (by decide)]
    rintro ⟨i, i1, i2, -⟩
    omega
def zadj (hw ar : Int32) (k : Nat) : Int32 := if hw = 0 ∧ ¬ ar ≤ nI k then ar - 1 else ar
theorem m_without {gg : zM} {S : zSS} {no k : Nat} {h : zM} {ty : Int32} (hW : mWk gg S) (hV : zVs h no ty S) (hk : k + 2 ≤ S.1) (hu : ¬ zusd S.2 S.1 k) (post : zM → Prop) (hp : ∀ g', (∀ r s, r ≠ 8 → r ≠ 9 → r ≠ 10 → (r ≠ 0 ∨ s ≠ 11) → g' r s = gg r s) → mWk g' (S.1 - 1, zrem S.2 k) → post g') : wpMod_without (nI k) gg post := by
  have s10 := hV.2.1
  unfold wpMod_without
  intro h7 e7
  obtain ⟨m, em⟩ : ∃ m, S.1 = m + 1 := ⟨S.1 - 1, by omega⟩
  rw [hW.1, em, nI_pred] at e7
  refine zL_rule (fun s => s.1 = nI k ∧ (∀ r t, r ≠ 8 → r ≠ 9 → r ≠ 10 → (r ≠ 0 ∨ t ≠ 11) → s.2.2 r t = gg r t) ∧ s.2.2 0 11 = nI m ∧ ∃ j : Nat, k ≤ j ∧ j ≤ m ∧ s.2.1 = nI j ∧ (∀ j', j' < k ∨ j ≤ j' → mCp (gg 8) (gg 9) (gg 10) (s.2.2 8) (s.2.2 9) (s.2.2 10) j' j') ∧ ∀ j', k ≤ j' → j' < j → s.2.2 8 j' = gg 8 (j' + 1) ∧ ∀ a, a < 2 → s.2.2 9 (2 * j' + a) = gg 9 (2 * (j' + 1) + a) ∧ s.2.2 10 (2 * j' + a) = zadj (gg 9 (2 * (j' + 1) + a)) (gg 10 (2 * (j' + 1) + a)) k) (fun s => m - s.2.1.toNatClampNeg) ?_ (nI k, nI k, h7) ⟨rfl, fun r t r1 r2 r3 r4 => ?_, ?_, k, Nat.le_refl _, by omega, rfl, fun j' hj' => ?_, fun j' q1 q2 => by omega⟩
  · rintro ⟨v1, v2, hh⟩ L ⟨x1, f1, f2, j, j1, j2, x2, f3, f4⟩ ih
    dsimp only at x1 x2 f1 f2 f3 f4 ih
    subst x1 x2
    unfold stMod_without_12
    dsimp only
    rw [f2]
    refine pk_le m j (fun q => ?_) (fun q => ?_)
    · have ej : j = m := by omega
      subst ej
      refine hp hh f1 ⟨by rw [f2, em]; rfl, fun k' hk' => ?_⟩
      have hk' : k' < S.1 - 1 := hk'
      by_cases w : k' < k
      · exact mCp_sq (f3 k' (Or.inl w)) (mSq_c (sz := k) w (fun i hi => zrem_lo hi) (hW.2 k' (by omega)))
      · obtain ⟨y1, y2⟩ := f4 k' (by omega) (by omega)
        obtain ⟨u1, u2⟩ := hW.2 (k' + 1) (by omega)
        refine ⟨?_, fun a ha => ?_⟩
        · show hh 8 k' = zrem S.2 k (5 * k')
          rw [y1, u1, zrem_op (by omega)]
        · show zAq (zrem S.2 k _) (zrem S.2 k _) _ _
          obtain ⟨y3, y4⟩ := y2 a ha
          have u := u2 a ha
          rw [y3, y4, zrem_f (by omega) ha, zrem_v (by omega) ha]
          have nv : S.2 (5 * (k' + 1) + 1 + 2 * a) = 0 → ∃ v : Nat, v < k' + 1 ∧ v ≠ k ∧ S.2 (5 * (k' + 1) + 2 + 2 * a) = nI v := by
            intro z
            obtain ⟨v, hv, ev⟩ := zSt_pos (by omega) ha (hV.2.2.1 (k' + 1) (by omega)) z
            refine ⟨v, hv, fun e => hu ⟨k' + 1, a, by omega, by omega, ha, z, by rw [ev, e]⟩, ev⟩
          generalize S.2 (5 * (k' + 1) + 1 + 2 * a) = f at u nv ⊢
          generalize S.2 (5 * (k' + 1) + 2 + 2 * a) = v at u nv ⊢
          unfold zadj
          rcases u with ⟨z1, z2, z3, z4⟩ | ⟨z1, z2, z3⟩
          · rw [z1, z2, z3, z4, if_neg (fun y => absurd y.1 (by decide)), if_neg (fun y => absurd y.1 (by decide))]
            exact Or.inl ⟨rfl, rfl, rfl, rfl⟩
          · rw [z2, z3]
            refine Or.inr ⟨z1, rfl, ?_⟩
            by_cases z : f = 0
            · obtain ⟨v0, p1, p2, p3⟩ := nv z
              subst p3
              have e : (¬ nI v0 ≤ nI k) ↔ ¬ nI v0 < nI k := by
                rw [zle, zlt, znI (by omega), znI (by omega)]
                omega
              by_cases w2 : ¬ nI v0 < nI k
              · rw [if_pos ⟨z, e.mpr w2⟩, if_pos ⟨z, w2⟩]
                exact Int32.sub_eq_add_neg _ _
              · rw [if_neg (fun y => w2 (e.mp y.2)), if_neg (fun y => w2 y.2)]
            · rw [if_neg (fun y => z y.1), if_neg (fun y => z y.1)]
    · rw [zp1, znc (by omega), znc (by omega)]
      refine ⟨zin_nI (by omega) (by omega), zin_nI (by omega) (by omega), fun h33 e33 y37 e37 => ?_⟩
      rw [zn2] at e37
      subst e37
      rw [(f3 (j + 1) (by omega)).1] at e33
      refine zL_rule (fun (s : Int32 × Int32 × Int32 × zM) => s.1 = nI k ∧ s.2.1 = nI j ∧ (∀ r t, r ≠ 9 → r ≠ 10 → s.2.2.2 r t = h33 r t) ∧ ∃ i : Nat, i ≤ 2 ∧ s.2.2.1 = nI (2 * j + i) ∧ (∀ t, t < 2 * j ∨ 2 * j + i ≤ t → s.2.2.2 9 t = h33 9 t ∧ s.2.2.2 10 t = h33 10 t) ∧ ∀ a, a < i → s.2.2.2 9 (2 * j + a) = gg 9 (2 * (j + 1) + a) ∧ s.2.2.2 10 (2 * j + a) = zadj (gg 9 (2 * (j + 1) + a)) (gg 10 (2 * (j + 1) + a)) k) (fun s => 2 * j + 2 - s.2.2.1.toNatClampNeg) ?_ (nI k, nI j, nI (2 * j), h33) ⟨rfl, rfl, fun _ _ _ _ => rfl, 0, by omega, rfl, fun _ _ => ⟨rfl, rfl⟩, fun a ha => by omega⟩
      rintro ⟨w1, w2, w3, h4⟩ L4 ⟨y1, y2, c1, i, hi, y3, c2, c3⟩ ih4
      dsimp only at y1 y2 y3 c1 c2 c3 ih4
      subst y1 y2 y3
      unfold stMod_without_38
      dsimp only
      rw [zn2, zp2]
      refine pk_le (2 * j + 2) (2 * j + i) (fun q2 => ?_) (fun q2 => ?_)
      · have : i = 2 := by omega
        subst this
        rw [zp1]
        refine ih _ ⟨rfl, fun r t r1 r2 r3 r4 => ?_, ?_, j + 1, by omega, by omega, rfl, fun j' hj' => ⟨?_, fun a ha => ?_⟩, fun j' q3 q4 => ?_⟩ ?_
        · show h4 r t = _
          rw [c1 r t r2 r3, e33, zuo r1]; exact f1 r t r1 r2 r3 r4
        · show h4 0 11 = _
          rw [c1 0 11 (by decide) (by decide), e33, zuo (by decide)]; exact f2
        · show h4 8 j' = _
          rw [c1 8 j' (by decide) (by decide), e33, zun (by omega)]; exact (f3 j' (by omega)).1
        · show h4 9 _ = _ ∧ h4 10 _ = _
          obtain ⟨p1, p2⟩ := c2 (2 * j' + a) (by omega)
          rw [p1, p2, e33, zuo (by decide), zuo (by decide)]; exact (f3 j' (by omega)).2 a ha
        · show h4 8 j' = _ ∧ ∀ a, a < 2 → h4 9 _ = _ ∧ h4 10 _ = _
          by_cases w : j' = j
          · subst w
            exact ⟨by rw [c1 8 j' (by decide) (by decide), e33, zux], c3⟩
          · obtain ⟨p1, p2⟩ := f4 j' q3 (by omega)
            refine ⟨by rw [c1 8 j' (by decide) (by decide), e33, zun (by omega)]; exact p1, fun a ha => ?_⟩
            obtain ⟨p3, p4⟩ := c2 (2 * j' + a) (by omega)
            rw [p3, p4, e33, zuo (by decide), zuo (by decide)]; exact p2 a ha
        · dsimp only
          rw [znc (by omega), znc (by omega)]
          omega
      · rw [zp2, znc (show 2 * j + i + 2 < 2147483648 by omega), znc (show 2 * j + i < 2147483648 by omega)]
        have i1 : vp_in (nI (2 * j + i + 2)) 40 := zin_nI (by omega) (by omega)
        have i2 : vp_in (nI (2 * j + i)) 40 := zin_nI (by omega) (by omega)
        have g9 : h4 9 (2 * j + i + 2) = gg 9 (2 * (j + 1) + i) := by
          rw [(c2 (2 * j + i + 2) (by omega)).1, e33, zuo (by decide), show 2 * j + i + 2 = 2 * (j + 1) + i by omega]
          exact ((f3 (j + 1) (by omega)).2 i (by omega)).1
        have g10 : h4 10 (2 * j + i + 2) = gg 10 (2 * (j + 1) + i) := by
          rw [(c2 (2 * j + i + 2) (by omega)).2, e33, zuo (by decide), show 2 * j + i + 2 = 2 * (j + 1) + i by omega]
          exact ((f3 (j + 1) (by omega)).2 i (by omega)).2
        rw [g9]
        refine ⟨i1, i2, fun h60 e60 => ⟨i2, ?_⟩⟩
        have k9 : h60 9 (2 * j + i) = gg 9 (2 * (j + 1) + i) := by rw [e60, zux]
        have k10 : h60 10 (2 * j + i + 2) = gg 10 (2 * (j + 1) + i) := by rw [e60, zuo (by decide)]; exact g10
        rw [k9, k10]
        have nxt : ∀ y : Int32, y = zadj (gg 9 (2 * (j + 1) + i)) (gg 10 (2 * (j + 1) + i)) k → wbMod_without_108 post L L4 (nI k) (nI j) (nI (2 * j + i)) (nI (2 * j + i)) y h60 := by
          intro y ey
          unfold wbMod_without_108
          rw [znc (by omega)]
          refine ⟨i2, fun h108 e108 => ?_⟩
          rw [zp1]
          refine ih4 _ ⟨rfl, rfl, fun r t r1 r2 => ?_, i + 1, by omega, rfl, fun t ht => ⟨?_, ?_⟩, fun a ha => ⟨?_, ?_⟩⟩ ?_
          · show h108 r t = _
            rw [e108, zuo r2, e60, zuo r1]; exact c1 r t r1 r2
          · show h108 9 t = _
            rw [e108, zuo (by decide), e60, zun (by omega)]; exact (c2 t (by omega)).1
          · show h108 10 t = _
            rw [e108, zun (by omega), e60, zuo (by decide)]; exact (c2 t (by omega)).2
          · show h108 9 _ = _
            by_cases w : a = i
            · subst w; rw [e108, zuo (by decide)]; exact k9
            · rw [e108, zuo (by decide), e60, zun (by omega)]; exact (c3 a (by omega)).1
          · show h108 10 _ = _
            by_cases w : a = i
            · subst w; rw [e108, zux]; exact ey
            · rw [e108, zun (by omega), e60, zuo (by decide)]; exact (c3 a (by omega)).2
          · dsimp only
            rw [znc (by omega), znc (by omega)]
            omega
        have same : ¬ (gg 9 (2 * (j + 1) + i) = 0 ∧ ¬ gg 10 (2 * (j + 1) + i) ≤ nI k) → wbMod_without_100 post L L4 (nI k) (nI j) (nI (2 * j + i)) (nI (2 * j + i)) h60 := by
          intro z
          unfold wbMod_without_100
          rw [zp2, znc (by omega), k10]
          refine ⟨i1, nxt _ ?_⟩
          unfold zadj
          rw [if_neg z]
        refine ⟨fun z => same (fun y => z y.1), fun z => ⟨i1, fun z2 => same (fun y => y.2 z2), fun z2 => ⟨i1, nxt _ ?_⟩⟩⟩
        unfold zadj
        rw [if_pos ⟨z, z2⟩]
  · show h7 r t = _
    rw [e7, zun (by omega)]
  · show h7 0 11 = _
    rw [e7, zux]
  · show mCp _ _ _ (h7 8) (h7 9) (h7 10) j' j'
    rw [e7, zuo (by decide), zuo (by decide), zuo (by decide)]
    exact mCp_rf
