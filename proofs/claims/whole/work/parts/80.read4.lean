/-! replay: the model's arguments -/
theorem m_expect {g : zM} {d p c : Nat} {P : Nat → Nat} (hD : mDrG g d P) (hp : g 0 41 = nI p) (hq : p < 10000) (hc : c < 1000) (hb : g 0 42 = 0 ∨ g 0 42 = 1) (post : zM → Prop) (ks : g 0 42 = 0 → P p = c → ∀ g', mN4 g g' → g' 0 42 = 0 → g' 0 41 = nI (p + 1) → post g') (kf : (g 0 42 = 1 ∨ P p ≠ c) → ∀ g', mN4 g g' → g' 0 42 = 1 → g' 0 41 = nI (p + 1) → post g') : wpMod_expect (nI c) g post := by
  have go : ∀ k1 : Int32, (k1 = 0 ∨ k1 = 1) → (∀ g', mN4 g g' → g' 0 42 = k1 → g' 0 41 = nI (p + 1) → post g') → wbMod_expect_21 post k1 g := by
    intro k1 h1 h2
    unfold wbMod_expect_21
    refine ⟨h1, fun h21 e21 h31 e31 => h2 h31 ?_ ?_ ?_⟩
    · rw [e31, e21]
      exact mN4_tr (mN4_u (Or.inr rfl)) (mN4_u (Or.inl rfl))
    · rw [e31, zun (Or.inr (by decide)), e21, zux]
    · rw [e31, zux, e21, zun (Or.inr (by decide)), hp, nI_1]
  unfold wpMod_expect wbMod_expect_16
  refine ⟨fun q => go 1 (Or.inr rfl) (kf (Or.inl ?_)), fun q => ?_⟩
  · rcases hb with hb | hb
    · exact absurd hb q
    · exact hb
  · have := (mDrG_P hD p).1
    exact m_peek hD hp (by omega) _ (pk_eq (P p) c (fun q2 => go 0 (Or.inl rfl) (ks q q2)) (fun q2 => go 1 (Or.inr rfl) (kf (Or.inr q2))))
def mN1 (g g' : zM) : Prop := ∀ r s, (r ≠ 0 ∧ r ≠ 11 ∧ r ≠ 12) ∨ (r = 0 ∧ s ≠ 41 ∧ s ≠ 42) → g' r s = g r s
theorem mN1_tr {g g' g'' : zM} (a : mN1 g g') (b : mN1 g' g'') : mN1 g g'' := fun r s hr => (b r s hr).trans (a r s hr)
theorem mN1_4 {g g' : zM} (a : mN4 g g') : mN1 g g' := fun r s hr => a r s (by omega)
theorem mN1_ch {g g' : zM} (a : ∀ r, r ≠ 11 → r ≠ 12 → g' r = g r) : mN1 g g' := fun r s hr => by rw [a r (by omega) (by omega)]
theorem m_rdA {h g : zM} {d p k a nc no : Nat} {P : Nat → Nat} {c : Nat → Int32} {t : Int32} (hC : zCat h g nc no) (hD : mDrG g d P) (hp : g 0 41 = nI p) (hq : p < 9000) (hb : g 0 42 = 0 ∨ g 0 42 = 1) (h11 : g 0 11 = nI k) (hk : k < 10) (ha : a < 2) (hst : ∀ v, v < k → ∃ o' : Nat, o' < no ∧ c (5 * v) = nI o') (h8 : ∀ v, v < k → g 8 v = c (5 * v)) (hty : zTyp nc t) (ht1 : t ≠ -1) (post : zM → Prop) (kf : (g 0 42 = 1 ∨ zRdA h P c k t p = none) → ∀ g' q, mN1 g g' → g' 0 42 = 1 → g' 0 41 = nI q → q ≤ p + 14 → post g') (ks : g 0 42 = 0 → ∀ f v q, zRdA h P c k t p = some (f, v, q) → ∀ g', mN1 g g' → g' 0 42 = 0 → g' 0 41 = nI q → g' 11 a = f → g' 12 a = v → (∀ x, x ≠ a → g' 11 x = g 11 x ∧ g' 12 x = g 12 x) → post g') : wpMod_readArgument t (nI a) g post := by
  have hno := hC.2.1
  have hnc := hC.1
  have hPp := (mDrG_P hD p).1
  -- bad after a choice
  have chf : ∀ g1 q f v, (g 0 42 = 1 ∨ zRdA h P c k t p = none) → mN4 g g1 → g1 0 42 = 1 → g1 0 41 = nI q → q ≤ p + 14 → wpMod_choose (nI a) f v g1 post := by
    intro g1 q f v hz hN e42 e41 hq'
    refine m_choose ha _ (fun g' fr _ _ _ => kf hz g' q (mN1_tr (mN1_4 hN) (mN1_ch fr)) ?_ ?_ hq')
    · rw [fr 0 (by decide) (by decide)]; exact e42
    · rw [fr 0 (by decide) (by decide)]; exact e41
  have chs : ∀ g1 q f v, g 0 42 = 0 → zRdA h P c k t p = some (f, v, q) → mN4 g g1 → g1 0 42 = 0 → g1 0 41 = nI q → wpMod_choose (nI a) f v g1 post := by
    intro g1 q f v hz hz2 hN e42 e41
    refine m_choose ha _ (fun g' fr x1 x2 x3 => ks hz f v q hz2 g' (mN1_tr (mN1_4 hN) (mN1_ch fr)) ?_ ?_ x1 x2 (fun x hx => ?_))
    · rw [fr 0 (by decide) (by decide)]; exact e42
    · rw [fr 0 (by decide) (by decide)]; exact e41
    · obtain ⟨y1, y2⟩ := x3 x hx
      rw [hN 11 x (by omega)] at y1
      rw [hN 12 x (by omega)] at y2
      exact ⟨y1, y2⟩
  unfold wpMod_readArgument
  refine m_peek hD hp (by omega) _ ?_
  have hne : ∀ {A B : Prop}, (P p = 118 → A) → (P p ≠ 118 → B) → (¬ nI (P p) = 118 → B) ∧ (nI (P p) = 118 → A) := by
    intro A B f1 f2
    have := pk_eq (x := nI (P p)) (y := 118) (P p) 118 f1 f2
    exact ⟨this.2, this.1⟩
  refine hne (fun q => ?_) (fun q => ?_)
  · have eA : zRdA h P c k t p = zRdV h c k t (zRdS P false (p + 1)) := by
      unfold zRdA
      rw [if_pos q]
    intro g1 e1
    have hN1 : mN4 g g1 := by rw [e1]; exact mN4_u (Or.inl rfl)
    have h42 : g1 0 42 = g 0 42 := by rw [e1, zun (Or.inr (by decide))]
    have h41 : g1 0 41 = nI (p + 1) := by rw [e1, zux, hp, nI_1]
    have B107 : ∀ gg q x, (g 0 42 = 1 ∨ zRdA h P c k t p = none) → mN4 g gg → gg 0 41 = nI q → q ≤ p + 14 → wbMod_readArgument_102 post (nI a) x gg := by
      intro gg q x hz hN e41 hq'
      unfold wbMod_readArgument_102 wbMod_readArgument_107
      refine ⟨Or.inr rfl, fun g2 e2 => chf g2 q 0 x hz (mN4_tr hN (by rw [e2]; exact mN4_u (Or.inr rfl))) (by rw [e2]; exact zux) (by rw [e2, zun (Or.inr (by decide))]; exact e41) hq'⟩
    have B41 : ∀ gg q x, (g 0 42 = 1 ∨ zRdA h P c k t p = none) → mN4 g gg → gg 0 41 = nI q → q ≤ p + 14 → wbMod_readArgument_41 post t (nI a) x gg := by
      intro gg q x hz hN e41 hq'
      unfold wbMod_readArgument_41 wbMod_readArgument_46
      refine ⟨Or.inr rfl, fun g2 e2 => ?_⟩
      have e42 : g2 0 42 = 1 := by rw [e2]; exact zux
      rw [e42]
      refine ⟨fun z => absurd z (by decide), fun _ => ?_⟩
      unfold wbMod_readArgument_70
      rw [e42]
      exact ⟨fun _ => B107 g2 q x hz (mN4_tr hN (by rw [e2]; exact mN4_u (Or.inr rfl))) (by rw [e2, zun (Or.inr (by decide))]; exact e41) hq', fun z => absurd z (by decide)⟩
    refine m_rd0 (mN4_D hN1 hD) h41 (by omega) (by rw [h42]; exact hb) _ (fun hz x g2 q2 hN2 e42 e41 hq2 => ?_) (fun hz x q2 hz2 g2 hN2 e42 e41 => ?_)
    · rw [e42]
      refine ⟨fun _ => B41 g2 q2 x ?_ (mN4_tr hN1 hN2) e41 (by omega), fun z => absurd z (by decide)⟩
      rcases hz with hz | hz
      · exact Or.inl (by rw [← h42]; exact hz)
      · exact Or.inr (by rw [eA, hz]; rfl)
    · rw [h42] at hz
      have hN := mN4_tr hN1 hN2
      rw [e42]
      refine ⟨fun z => absurd rfl z, fun _ => ?_⟩
      obtain ⟨v, hv, rfl⟩ := zRdS_nn hz2
      have hq2 : q2 ≤ p + 14 := by
        unfold zRdS at hz2
        by_cases z : zRok P false (p + 1)
        · rw [if_pos z] at hz2
          have e := congrArg Prod.snd (Option.some.inj hz2)
          dsimp only at e
          have := (zcnt_ok P 11 (p + 1)).1
          omega
        · rw [if_neg z] at hz2
          cases hz2
      have eR : zRdA h P c k t p = if zdec (zVk h c k t (nI v)) = true then some (0, nI v, q2) else none := by rw [eA, hz2]; rfl
      have eV : zVk h c k t (nI v) ↔ v < k ∧ zIs (h 2) (h 8 (c (5 * v)).toNatClampNeg).toNatClampNeg t.toNatClampNeg := by
        unfold zVk
        rw [znc hv]
      rw [hN 0 11 (by omega), h11]
      refine pk_lt v k (fun q3 => ?_) (fun q3 => B41 g2 q2 _ (Or.inr (by rw [eR, zdec_f (fun z => by have := (eV.mp z).1; omega)]; rfl)) hN e41 hq2)
      obtain ⟨o', ho', eo'⟩ := hst v q3
      obtain ⟨ty, ty1, ty2⟩ := zOp_ty hC ho'
      rw [eo', znc (by omega), ty2, znc (by omega)] at eV
      unfold wbMod_readArgument_46
      refine ⟨Or.inl rfl, fun g3 e3 => ?_⟩
      have hN3 : mN4 g g3 := mN4_tr hN (by rw [e3]; exact mN4_u (Or.inr rfl))
      have e342 : g3 0 42 = 0 := by rw [e3]; exact zux
      have e341 : g3 0 41 = nI q2 := by rw [e3, zun (Or.inr (by decide))]; exact e41
      rw [e342]
      refine ⟨fun _ => ⟨zin_nI (by omega) (by decide), ?_⟩, fun z => absurd rfl z⟩
      have hC3 : zCat h g3 nc no := zCat_g hC (fun r s hr => hN3 r s (by omega))
      rw [znc (by omega), hN3 8 v (by omega), h8 v q3, eo']
      refine m_gives (by omega) (hC3.2.2.2.2.2.2.2 o' ho') hnc _ ?_
      rw [ty2]
      unfold wbMod_readArgument_70
      rw [e342]
      refine ⟨fun z => absurd rfl z, fun _ => ?_⟩
      have S106 : zVk h c k t (nI v) → wbMod_readArgument_106 post (nI a) (nI v) g3 := by
        intro z
        unfold wbMod_readArgument_106 wbMod_readArgument_107
        exact ⟨Or.inl rfl, fun g4 e4 => chs g4 q2 0 (nI v) hz (by rw [eR, zdec_t z]; rfl) (mN4_tr hN3 (by rw [e4]; exact mN4_u (Or.inr rfl))) (by rw [e4]; exact zux) (by rw [e4, zun (Or.inr (by decide))]; exact e341)⟩
      have F102 : ¬ zVk h c k t (nI v) → wbMod_readArgument_102 post (nI a) (nI v) g3 := fun z => B107 g3 q2 _ (Or.inr (by rw [eR, zdec_f z]; rfl)) hN3 e341 hq2
      rcases hty with z | z | ⟨tt, z1, z2, z3⟩
      · exact absurd z ht1
      · rw [z, show (0 : Int32).toNatClampNeg = 0 from rfl, zIs_z (zPar_C hC) hnc ty1] at eV
        rw [z] at S106 F102
        refine ⟨fun w => absurd z w, fun _ => pk_eq ty 0 (fun w => S106 (eV.mpr ⟨q3, w⟩)) (fun w => F102 (fun w2 => w (eV.mp w2).2))⟩
      · rw [z3, znc (by omega)] at eV
        rw [z3] at S106 F102
        refine ⟨fun _ => ?_, fun w => absurd w (by rw [z3]; exact nI_ne0 (by omega) (by omega))⟩
        rw [z3]
        refine m_is (zPar_C hC3) hnc (fun i i1 i2 => (hC3.2.2.2.2.2.2.1 i i1 i2).1) ty tt ty1 z2 z1 _ (fun w => ⟨fun w2 => absurd rfl w2, fun _ => F102 (fun w2 => w (eV.mp w2).2)⟩) (fun w => ⟨fun _ => S106 (eV.mpr ⟨q3, w⟩), fun w2 => absurd w2 (by decide)⟩)
  · refine ⟨fun z => ?_, fun z => ?_⟩
    · have eA : zRdA h P c k t p = if P p = 110 then some (2, 0, p + 1) else none := by
        unfold zRdA
        rw [if_neg q, if_neg z]
      refine m_expect (c := 110) hD hp (by omega) (by decide) hb _ (fun hz q2 g' hN e42 e41 => chs g' (p + 1) 2 0 hz (by rw [eA, if_pos q2]) hN e42 e41) (fun hz g' hN e42 e41 => chf g' (p + 1) 2 0 ?_ hN e42 e41 (by omega))
      rcases hz with hz | hz
      · exact Or.inl hz
      · exact Or.inr (by rw [eA, if_neg hz])
    · have eA : zRdA h P c k t p = zRdL (zRdN P p) := by
        unfold zRdA
        rw [if_neg q, if_pos z]
      refine m_rdN hD hp (by omega) hb _ (fun hz x g' q' hN e42 e41 hq' => chf g' q' 1 x ?_ hN e42 e41 (by omega)) (fun hz x q' hz2 g' hN e42 e41 => chs g' q' 1 x hz (by rw [eA, hz2]; rfl) hN e42 e41)
      rcases hz with hz | hz
      · exact Or.inl hz
      · exact Or.inr (by rw [eA, hz]; rfl)
