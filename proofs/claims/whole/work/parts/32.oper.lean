/-! operation -/
theorem z_ty {n : Nat} {ln : Nat → Nat} {c d : Int32} {h : zM} {post : Int32 → zM → Prop} (r : Int32) (v : Int32) (hv : (if r = 0 then 0 else if r = 1 then c else if r = 2 then d else -1) = v) (hp : post v h) : wpCatalog_typeOf n ln r c d h post := by
  subst hv
  unfold wpCatalog_typeOf
  refine ⟨fun q => ?_, fun q => ⟨fun q2 => ?_, fun q2 => ⟨fun q3 => ?_, fun q3 => ?_⟩⟩⟩
  · rwa [if_pos q] at hp
  · rwa [if_neg q, if_pos q2] at hp
  · rwa [if_neg q, if_neg q2, if_pos q3] at hp
  · rwa [if_neg q, if_neg q2, if_neg q3] at hp
theorem zr_ft : ∀ kd, kd ≤ 9 → ∀ c d : Int32, (if zt1 kd = 0 then 0 else if zt1 kd = 1 then c else if zt1 kd = 2 then d else -1) = zft kd c d := by
  intro kd hk c d
  rcases (show kd = 0 ∨ kd = 1 ∨ kd = 2 ∨ kd = 3 ∨ kd = 4 ∨ kd = 5 ∨ kd = 6 ∨ kd = 7 ∨ kd = 8 ∨ kd = 9 by omega) with rfl | rfl | rfl | rfl | rfl | rfl | rfl | rfl | rfl | rfl <;> rfl
theorem zr_st : ∀ kd, kd ≤ 9 → ∀ c d : Int32, (if zt2 kd = 0 then 0 else if zt2 kd = 1 then c else if zt2 kd = 2 then d else -1) = zst kd c d := by
  intro kd hk c d
  rcases (show kd = 0 ∨ kd = 1 ∨ kd = 2 ∨ kd = 3 ∨ kd = 4 ∨ kd = 5 ∨ kd = 6 ∨ kd = 7 ∨ kd = 8 ∨ kd = 9 by omega) with rfl | rfl | rfl | rfl | rfl | rfl | rfl | rfl | rfl | rfl <;> rfl
theorem zr_rt : ∀ kd, kd ≤ 9 → ∀ c d : Int32, (if zt3 kd = 0 then 0 else if zt3 kd = 1 then c else if zt3 kd = 2 then d else -1) = zrt kd c d := by
  intro kd hk c d
  rcases (show kd = 0 ∨ kd = 1 ∨ kd = 2 ∨ kd = 3 ∨ kd = 4 ∨ kd = 5 ∨ kd = 6 ∨ kd = 7 ∨ kd = 8 ∨ kd = 9 by omega) with rfl | rfl | rfl | rfl | rfl | rfl | rfl | rfl | rfl | rfl <;> rfl
theorem z_hasPartner {n : Nat} {ln : Nat → Nat} {h : zM} {kd : Nat} (hk : kd ≤ 9) (post : Int32 → zM → Prop) (h1 : ¬ zhasD kd → post 0 h) (h2 : zhasD kd → post 1 h) : wpCatalog_hasPartner n ln (nI kd) h post := by
  unfold wpCatalog_hasPartner
  rw [znc (by omega)]
  have hin : vp_in (nI kd) 10 := zin_nI (by omega) (by omega)
  rcases (show kd = 0 ∨ kd = 1 ∨ kd = 2 ∨ kd = 3 ∨ kd = 4 ∨ kd = 5 ∨ kd = 6 ∨ kd = 7 ∨ kd = 8 ∨ kd = 9 by omega) with rfl | rfl | rfl | rfl | rfl | rfl | rfl | rfl | rfl | rfl
  · exact ⟨hin, fun q => absurd q (by decide), fun _ => ⟨hin, fun q => absurd q (by decide), fun _ => ⟨hin, fun _ => h1 (by unfold zhasD; omega), fun q => absurd q (by decide)⟩⟩⟩
  · exact ⟨hin, fun _ => h2 (by unfold zhasD; omega), fun q => absurd rfl q⟩
  · exact ⟨hin, fun q => absurd q (by decide), fun _ => ⟨hin, fun q => absurd q (by decide), fun _ => ⟨hin, fun _ => h1 (by unfold zhasD; omega), fun q => absurd q (by decide)⟩⟩⟩
  · exact ⟨hin, fun q => absurd q (by decide), fun _ => ⟨hin, fun q => absurd q (by decide), fun _ => ⟨hin, fun _ => h1 (by unfold zhasD; omega), fun q => absurd q (by decide)⟩⟩⟩
  · exact ⟨hin, fun q => absurd q (by decide), fun _ => ⟨hin, fun _ => h2 (by unfold zhasD; omega), fun q => absurd rfl q⟩⟩
  · exact ⟨hin, fun q => absurd q (by decide), fun _ => ⟨hin, fun q => absurd q (by decide), fun _ => ⟨hin, fun q => absurd rfl q, fun _ => h2 (by unfold zhasD; omega)⟩⟩⟩
  · exact ⟨hin, fun q => absurd q (by decide), fun _ => ⟨hin, fun q => absurd q (by decide), fun _ => ⟨hin, fun _ => h1 (by unfold zhasD; omega), fun q => absurd q (by decide)⟩⟩⟩
  · exact ⟨hin, fun q => absurd q (by decide), fun _ => ⟨hin, fun q => absurd q (by decide), fun _ => ⟨hin, fun _ => h1 (by unfold zhasD; omega), fun q => absurd q (by decide)⟩⟩⟩
  · exact ⟨hin, fun q => absurd q (by decide), fun _ => ⟨hin, fun q => absurd q (by decide), fun _ => ⟨hin, fun _ => h1 (by unfold zhasD; omega), fun q => absurd q (by decide)⟩⟩⟩
  · exact ⟨hin, fun q => absurd q (by decide), fun _ => ⟨hin, fun _ => h2 (by unfold zhasD; omega), fun q => absurd rfl q⟩⟩
theorem m_hasD {g : zM} {kd : Nat} (hk : kd ≤ 9) (post : Int32 → zM → Prop) (h1 : ¬ zhasD kd → post 0 g) (h2 : zhasD kd → post 1 g) : wpMod_hasD (nI kd) g post := by
  unfold wpMod_hasD
  refine ⟨fun q => h2 ?_, fun q => ⟨fun q2 => h2 ?_, fun q2 => ⟨fun q3 => h2 ?_, fun q3 => ⟨fun q4 => h1 ?_, fun q4 => h2 ?_⟩⟩⟩⟩
  · rw [zeq, znI (by omega), zti_1] at q; unfold zhasD; omega
  · rw [zeq, znI (by omega), zti_4] at q2; unfold zhasD; omega
  · rw [zeq, znI (by omega), zti_5] at q3; unfold zhasD; omega
  · rw [zeq, znI (by omega), zti_1] at q
    rw [zeq, znI (by omega), zti_4] at q2
    rw [zeq, znI (by omega), zti_5] at q3
    rw [zeq, znI (by omega), zti_9] at q4
    unfold zhasD; omega
  · rw [zeq, znI (by omega), zti_9] at q4; unfold zhasD; omega
def zOpIn (nc no kd c : Nat) (a b d : Int32) : Prop := no < 10 ∧ kd ≤ 9 ∧ a = nI kd ∧ 1 ≤ c ∧ c ≤ nc ∧ b = nI c ∧ (zhasD kd → ∃ e : Nat, 1 ≤ e ∧ e ≤ nc ∧ d = nI e)
def zOp (h : zM) (no kd c : Nat) (d : Int32) : zM := zu (zu (zu (zu (zu h 5 no (nI kd)) 6 no (zft kd (nI c) d)) 7 no (zst kd (nI c) d)) 8 no (zrt kd (nI c) d)) 1 1 (nI (no + 1))
def mOp (g : zM) (no kd c : Nat) (d : Int32) : zM := zu (zu (zu (zu g 4 no (nI kd)) 5 no (nI c)) 6 no d) 0 5 (nI (no + 1))
theorem z_op47 {n : Nat} {ln : Nat → Nat} {h : zM} {no kd c : Nat} (ho : h 1 1 = nI no) (hno : no < 10) (hk : kd ≤ 9) (d : Int32) (post : Int32 → zM → Prop) (hp : post (nI no) (zOp h no kd c d)) : wbCatalog_addOperation_47 n ln post (nI kd) (nI c) d h := by
  unfold wbCatalog_addOperation_47
  have hin : vp_in (nI kd) 10 := zin_nI (by omega) (by omega)
  have hio : vp_in (nI no) 10 := zin_nI (by omega) (by omega)
  rw [ho, znc (show no < 2147483648 by omega), znc (show kd < 2147483648 by omega)]
  refine ⟨hio, fun h56 e56 => ⟨hin, z_ty _ _ (zr_ft kd hk _ _) ?_⟩⟩
  have f1 : h56 1 1 = nI no := by rw [e56, zuo (by decide), ho]
  rw [f1, znc (by omega)]
  refine ⟨hio, fun h76 e76 => ⟨hin, z_ty _ _ (zr_st kd hk _ _) ?_⟩⟩
  have f2 : h76 1 1 = nI no := by rw [e76, zuo (by decide), f1]
  rw [f2, znc (by omega)]
  refine ⟨hio, fun h96 e96 => ⟨hin, z_ty _ _ (zr_rt kd hk _ _) ?_⟩⟩
  have f3 : h96 1 1 = nI no := by rw [e96, zuo (by decide), f2]
  rw [f3, znc (by omega)]
  refine ⟨hio, fun h116 e116 h124 e124 => ?_⟩
  have f4 : h116 1 1 = nI no := by rw [e116, zuo (by decide), f3]
  have f5 : h124 1 1 = nI (no + 1) := by rw [e124, zux, f4, nI_1]
  rw [f5, nI_pred]
  have e : h124 = zOp h no kd c d := by
    rw [e124, f4, nI_1, e116, e96, e76, e56]
    rfl
  rw [e]
  exact hp
theorem z_operation {n : Nat} {ln : Nat → Nat} {h : zM} {nc no : Nat} (hc : h 1 0 = nI nc) (hn : nc ≤ 4) (ho : h 1 1 = nI no) (hno : no ≤ 10) (a b d : Int32) (post : Int32 → zM → Prop) (h1 : (∀ kd c, ¬ zOpIn nc no kd c a b d) → post (-1) h) (h2 : ∀ kd c, zOpIn nc no kd c a b d → post (nI no) (zOp h no kd c d)) : wpTop_operation n ln a b d h post := by
  unfold wpTop_operation wpCatalog_addOperation
  rw [ho]
  refine ⟨fun q => h1 ?_, fun q => ⟨fun q2 => h1 ?_, fun q2 => ⟨fun q3 => h1 ?_, fun q3 => ?_⟩⟩⟩
  · rintro kd c ⟨z, -⟩
    rw [zle, znI (by omega), zti_10] at q
    omega
  · rintro kd c ⟨-, z, rfl, -⟩
    rw [zlt, znI (by omega), zti_0] at q2
    omega
  · rintro kd c ⟨-, z, rfl, -⟩
    rw [zlt, znI (by omega), zti_9] at q3
    omega
  · have hno1 : no < 10 := by
      rw [zle, znI (by omega), zti_10] at q
      omega
    obtain ⟨kd, hk, rfl⟩ : ∃ kd : Nat, kd ≤ 9 ∧ a = nI kd := by
      rcases zix a (n := 10) (by omega) with z | z | ⟨j, hj, e⟩
      · exact absurd z q2
      · exfalso
        rw [zle] at z
        rw [zlt, zti_9] at q3
        have e5 : (nI 10).toInt = 10 := rfl
        omega
      · exact ⟨j, by omega, e⟩
    refine z_isClass hc hn b _ (fun hx => ⟨fun q0 => absurd rfl q0, fun _ => h1 ?_⟩) (fun c c1 c2 e => ⟨fun _ => ?_, fun q0 => absurd q0 (by decide)⟩)
    · rintro kd' c ⟨-, -, -, z1, z2, z3, -⟩
      exact hx ⟨c, z1, z2, z3⟩
    · subst e
      refine z_hasPartner hk _ (fun hD => ⟨fun _ => z_op47 ho hno1 hk d post (h2 kd c ⟨hno1, hk, rfl, c1, c2, rfl, fun z => absurd z hD⟩), fun q0 => absurd rfl q0⟩) (fun hD => ⟨fun q0 => absurd q0 (by decide), fun _ => z_isClass hc hn d _ (fun hx => ⟨fun q0 => absurd rfl q0, fun _ => h1 ?_⟩) (fun e' e1 e2 e => ⟨fun _ => z_op47 ho hno1 hk d post (h2 kd c ⟨hno1, hk, rfl, c1, c2, rfl, fun _ => ⟨e', e1, e2, e⟩⟩), fun q0 => absurd q0 (by decide)⟩)⟩)
      rintro kd' c' ⟨-, z0, z1, -, -, -, z2⟩
      have : kd = kd' := (nI_eq (by omega) (by omega)).mp z1
      subst this
      exact hx (z2 hD)
theorem m_op44 {g : zM} {no : Nat} (ho : g 0 5 = nI no) (hno : no < 10) (kd c : Nat) (d : Int32) (post : Int32 → zM → Prop) (hp : post (nI no) (mOp g no kd c d)) : wbMod_operation_44 post (nI kd) (nI c) d g := by
  unfold wbMod_operation_44
  have hio : vp_in (nI no) 10 := zin_nI (by omega) (by omega)
  rw [ho, znc (show no < 2147483648 by omega)]
  refine ⟨hio, fun h53 e53 => ?_⟩
  have f1 : h53 0 5 = nI no := by rw [e53, zuo (by decide), ho]
  rw [f1, znc (by omega)]
  refine ⟨hio, fun h63 e63 => ?_⟩
  have f2 : h63 0 5 = nI no := by rw [e63, zuo (by decide), f1]
  rw [f2, znc (by omega)]
  refine ⟨hio, fun h73 e73 h81 e81 => ?_⟩
  have f3 : h73 0 5 = nI no := by rw [e73, zuo (by decide), f2]
  have f4 : h81 0 5 = nI (no + 1) := by rw [e81, zux, f3, nI_1]
  rw [f4, nI_pred]
  have e : h81 = mOp g no kd c d := by
    rw [e81, f3, nI_1, e73, e63, e53]
    rfl
  rw [e]
  exact hp
theorem m_operation {g : zM} {nc no : Nat} (hc : g 0 1 = nI nc) (hn : nc ≤ 4) (ho : g 0 5 = nI no) (hno : no ≤ 10) (a b d : Int32) (post : Int32 → zM → Prop) (h1 : (∀ kd c, ¬ zOpIn nc no kd c a b d) → post (-1) g) (h2 : ∀ kd c, zOpIn nc no kd c a b d → post (nI no) (mOp g no kd c d)) : wpMod_operation a b d g post := by
  unfold wpMod_operation
  rw [ho]
  refine ⟨fun q => h1 ?_, fun q => ⟨fun q2 => h1 ?_, fun q2 => ⟨fun q3 => h1 ?_, fun q3 => ?_⟩⟩⟩
  · rintro kd c ⟨z, -⟩
    rw [zeq, znI (by omega), zti_10] at q
    omega
  · rintro kd c ⟨-, z, rfl, -⟩
    rw [zlt, znI (by omega), zti_0] at q2
    omega
  · rintro kd c ⟨-, z, rfl, -⟩
    rw [zlt, znI (by omega), zti_9] at q3
    omega
  · have hno1 : no < 10 := by
      rw [zeq, znI (by omega), zti_10] at q
      omega
    obtain ⟨kd, hk, rfl⟩ : ∃ kd : Nat, kd ≤ 9 ∧ a = nI kd := by
      rcases zix a (n := 10) (by omega) with z | z | ⟨j, hj, e⟩
      · exact absurd z q2
      · exfalso
        rw [zle] at z
        rw [zlt, zti_9] at q3
        have e5 : (nI 10).toInt = 10 := rfl
        omega
      · exact ⟨j, by omega, e⟩
    refine m_isClass hc hn b _ (fun hx => ⟨fun _ => h1 ?_, fun q0 => absurd rfl q0⟩) (fun c c1 c2 e => ⟨fun q0 => absurd q0 (by decide), fun _ => ?_⟩)
    · rintro kd' c ⟨-, -, -, z1, z2, z3, -⟩
      exact hx ⟨c, z1, z2, z3⟩
    · subst e
      refine m_hasD hk _ (fun hD => ⟨fun _ => m_op44 ho hno1 kd c d post (h2 kd c ⟨hno1, hk, rfl, c1, c2, rfl, fun z => absurd z hD⟩), fun q0 => absurd rfl q0⟩) (fun hD => ⟨fun q0 => absurd q0 (by decide), fun _ => m_isClass hc hn d _ (fun hx => ⟨fun q0 => absurd rfl q0, fun _ => h1 ?_⟩) (fun e' e1 e2 e => ⟨fun _ => m_op44 ho hno1 kd c d post (h2 kd c ⟨hno1, hk, rfl, c1, c2, rfl, fun _ => ⟨e', e1, e2, e⟩⟩), fun q0 => absurd q0 (by decide)⟩)⟩)
      rintro kd' c' ⟨-, z0, z1, -, -, -, z2⟩
      have : kd = kd' := (nI_eq (by omega) (by omega)).mp z1
      subst this
      exact hx (z2 hD)
theorem zOpIn_eq {nc no kd c kd' c' : Nat} {a b d : Int32} (hn : nc ≤ 4) (h1 : zOpIn nc no kd c a b d) (h2 : zOpIn nc no kd' c' a b d) : kd = kd' ∧ c = c' := by
  obtain ⟨-, k1, k2, c1, c2, c3, -⟩ := h1
  obtain ⟨-, l1, l2, d1, d2, d3, -⟩ := h2
  exact ⟨(nI_eq (by omega) (by omega)).mp (k2.symm.trans l2), (nI_eq (by omega) (by omega)).mp (c3.symm.trans d3)⟩
/-- the rows of the class's memory that the catalog's change leaves -/
theorem zOp_lo {h : zM} {no kd c : Nat} {d : Int32} {o i : Nat} (hi : i ≠ no ∨ o < 5 ∨ 8 < o) (h1 : o ≠ 1 ∨ i ≠ 1) : zOp h no kd c d o i = h o i := by
  unfold zOp
  rw [zun h1]
  have hh : ∀ (h : zM) (r : Nat) (v : Int32), 5 ≤ r → r ≤ 8 → zu h r no v o i = h o i := fun h r v h5 h8 => zun (by omega)
  rw [hh _ 8 _ (by omega) (by omega), hh _ 7 _ (by omega) (by omega), hh _ 6 _ (by omega) (by omega), hh _ 5 _ (by omega) (by omega)]
theorem mOp_lo {g : zM} {no kd c : Nat} {d : Int32} {o i : Nat} (hi : i ≠ no ∨ o < 4 ∨ 6 < o) (h1 : o ≠ 0 ∨ i ≠ 5) : mOp g no kd c d o i = g o i := by
  unfold mOp
  rw [zun h1]
  have hh : ∀ (h : zM) (r : Nat) (v : Int32), 4 ≤ r → r ≤ 6 → zu h r no v o i = h o i := fun h r v h5 h8 => zun (by omega)
  rw [hh _ 6 _ (by omega) (by omega), hh _ 5 _ (by omega) (by omega), hh _ 4 _ (by omega) (by omega)]
theorem zCat_op {h g : zM} {nc no kd c : Nat} {a b d : Int32} (hC : zCat h g nc no) (hin : zOpIn nc no kd c a b d) : zCat (zOp h no kd c d) (mOp g no kd c d) nc (no + 1) := by
  obtain ⟨h1, h2, h3, h4, h5, h6, h7, h8⟩ := hC
  obtain ⟨o1, o2, -, o4, o5, -, o7⟩ := hin
  refine ⟨h1, by omega, ?_, ?_, ?_, ?_, fun i i1 i2 => ?_, fun o ho => ?_⟩
  · rw [zOp_lo (by omega) (by omega), h3]
  · rw [mOp_lo (by omega) (by omega), h4]
  · unfold zOp; exact zux
  · unfold mOp; exact zux
  · unfold zClsOk
    rw [zOp_lo (by omega) (by omega), zOp_lo (by omega) (by omega), zOp_lo (by omega) (by omega), mOp_lo (by omega) (by omega), mOp_lo (by omega) (by omega), mOp_lo (by omega) (by omega)]
    exact h7 i i1 i2
  · by_cases hon : o = no
    · subst hon
      refine ⟨kd, c, d, o2, o4, o5, o7, ?_, ?_, ?_, ?_, ?_, ?_, ?_⟩
      · unfold zOp; rw [zuo (by decide), zuo (by decide), zuo (by decide), zuo (by decide), zux]
      · unfold mOp; rw [zuo (by decide), zuo (by decide), zuo (by decide), zux]
      · unfold mOp; rw [zuo (by decide), zuo (by decide), zux]
      · unfold mOp; rw [zuo (by decide), zux]
      · unfold zOp; rw [zuo (by decide), zuo (by decide), zuo (by decide), zux]
      · unfold zOp; rw [zuo (by decide), zuo (by decide), zux]
      · unfold zOp; rw [zuo (by decide), zux]
    · unfold zOpOk
      rw [zOp_lo (Or.inl hon) (by omega), zOp_lo (Or.inl hon) (by omega), zOp_lo (Or.inl hon) (by omega), zOp_lo (Or.inl hon) (by omega), mOp_lo (Or.inl hon) (by omega), mOp_lo (Or.inl hon) (by omega), mOp_lo (Or.inl hon) (by omega)]
      exact h8 o (by omega)
