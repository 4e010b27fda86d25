/-! type, operation, literal -/
def zTyOk (nc no : Nat) (a b c : Int32) : Prop := nc < 4 ∧ no = 0 ∧ (∃ p : Nat, p ≤ nc ∧ a = nI p) ∧ (∃ q : Nat, q ≤ 4 ∧ b = nI q) ∧ ∃ q : Nat, q ≤ 3 ∧ c = nI q
def zTy (h : zM) (nc : Nat) (a b c : Int32) : zM := zu (zu (zu (zu h 1 0 (nI (nc + 1))) 2 (nc + 1) a) 3 (nc + 1) b) 4 (nc + 1) c
def mTy (g : zM) (nc : Nat) (a b c : Int32) : zM := zu (zu (zu (zu g 0 1 (nI (nc + 1))) 1 (nc + 1) a) 2 (nc + 1) b) 3 (nc + 1) c
theorem z_type41 {n : Nat} {ln : Nat → Nat} {h : zM} {nc no : Nat} (hc : h 1 0 = nI nc) (hn : nc < 4) (hno : no = 0) (a b c : Int32) (ha : ∃ p : Nat, p ≤ nc ∧ a = nI p) (post : Int32 → zM → Prop) (h1 : ¬ zTyOk nc no a b c → post (-1) h) (h2 : zTyOk nc no a b c → post (nI (nc + 1)) (zTy h nc a b c)) : wbCatalog_addClass_41 n ln post a b c h := by
  unfold wbCatalog_addClass_41
  refine ⟨fun q => h1 ?_, fun q => ⟨fun q2 => h1 ?_, fun q2 => ⟨fun q3 => h1 ?_, fun q3 => ⟨fun q4 => ?_, fun q4 => h1 ?_⟩⟩⟩⟩
  · rintro ⟨-, -, -, ⟨j, hj, rfl⟩, -⟩
    rw [zlt, znI (by omega), zti_0] at q
    omega
  · rintro ⟨-, -, -, ⟨j, hj, rfl⟩, -⟩
    rw [zlt, znI (by omega), zti_4] at q2
    omega
  · rintro ⟨-, -, -, -, ⟨j, hj, rfl⟩⟩
    rw [zlt, znI (by omega), zti_0] at q3
    omega
  · have hok : zTyOk nc no a b c := by
      refine ⟨hn, hno, ha, ?_, ?_⟩
      · rcases zix b (n := 5) (by omega) with z | z | ⟨j, hj, e⟩
        · exact absurd z q
        · exact absurd (show (4 : Int32) < b by rw [zle] at z; rw [zlt, zti_4]; have e5 : (nI 5).toInt = 5 := rfl; omega) q2
        · exact ⟨j, by omega, e⟩
      · rcases zix c (n := 4) (by omega) with z | z | ⟨j, hj, e⟩
        · exact absurd z q3
        · exfalso
          rw [zle] at z q4
          rw [zti_3] at q4
          have e5 : (nI 4).toInt = 4 := rfl
          omega
        · exact ⟨j, by omega, e⟩
    intro h68 e68
    have f1 : h68 1 0 = nI (nc + 1) := by rw [e68, zux, hc, nI_1]
    rw [f1, znc (by omega)]
    refine ⟨zin_nI (by omega) (by omega), fun h80 e80 => ?_⟩
    have f2 : h80 1 0 = nI (nc + 1) := by rw [e80, zuo (by decide), f1]
    rw [f2, znc (by omega)]
    refine ⟨zin_nI (by omega) (by omega), fun h90 e90 => ?_⟩
    have f3 : h90 1 0 = nI (nc + 1) := by rw [e90, zuo (by decide), f2]
    rw [f3, znc (by omega)]
    refine ⟨zin_nI (by omega) (by omega), fun h100 e100 => ?_⟩
    have f4 : h100 1 0 = nI (nc + 1) := by rw [e100, zuo (by decide), f3]
    rw [f4]
    have e : h100 = zTy h nc a b c := by
      rw [e100, e90, e80, e68, hc, nI_1]
      rfl
    rw [e]
    exact h2 hok
  · rintro ⟨-, -, -, -, ⟨j, hj, rfl⟩⟩
    rw [zle, znI (by omega), zti_3] at q4
    omega
theorem z_type {n : Nat} {ln : Nat → Nat} {h : zM} {nc no : Nat} (hc : h 1 0 = nI nc) (hn : nc ≤ 4) (ho : h 1 1 = nI no) (hno : no ≤ 10) (a b c : Int32) (post : Int32 → zM → Prop) (h1 : ¬ zTyOk nc no a b c → post (-1) h) (h2 : zTyOk nc no a b c → post (nI (nc + 1)) (zTy h nc a b c)) : wpTop_type n ln a b c h post := by
  unfold wpTop_type wpCatalog_addClass wbCatalog_addClass_15 wbCatalog_addClass_20
  rw [hc, ho]
  refine ⟨fun q => ⟨fun _ => h1 ?_, fun q0 => absurd q0 (by decide)⟩, fun q => ⟨fun q2 => ⟨fun q3 => absurd rfl q3, fun _ => ?_⟩, fun q2 => ⟨fun _ => h1 ?_, fun q0 => absurd q0 (by decide)⟩⟩⟩
  · rintro ⟨h4, -⟩
    rw [zle, znI (by omega), zti_4] at q
    omega
  · have hn4 : nc < 4 := by
      rw [zle, znI (by omega), zti_4] at q
      omega
    have hno0 : no = 0 := by
      rw [zle, znI (by omega), zti_0] at q2
      omega
    refine ⟨fun a0 => z_type41 hc hn4 hno0 a b c ⟨0, Nat.zero_le _, a0⟩ post h1 h2, fun a0 => z_isClass hc hn a _ (fun hx => ⟨fun q0 => absurd rfl q0, fun _ => h1 ?_⟩) (fun j j1 j2 e => ⟨fun _ => z_type41 hc hn4 hno0 a b c ⟨j, j2, e⟩ post h1 h2, fun q0 => absurd q0 (by decide)⟩)⟩
    rintro ⟨-, -, ⟨p, hp, rfl⟩, -⟩
    rcases Nat.eq_zero_or_pos p with rfl | hp0
    · exact a0 rfl
    · exact hx ⟨p, hp0, hp, rfl⟩
  · rintro ⟨-, h0, -⟩
    rw [zle, znI (by omega), zti_0] at q2
    omega
theorem m_type {g : zM} {nc no : Nat} (hc : g 0 1 = nI nc) (hn : nc ≤ 4) (ho : g 0 5 = nI no) (hno : no ≤ 10) (a b c : Int32) (post : Int32 → zM → Prop) (h1 : ¬ zTyOk nc no a b c → post (-1) g) (h2 : zTyOk nc no a b c → post (nI (nc + 1)) (mTy g nc a b c)) : wpMod_type a b c g post := by
  unfold wpMod_type
  rw [hc, ho]
  refine ⟨fun q => h1 ?_, fun q => ⟨fun q2 => h1 ?_, fun q2 => ⟨fun q3 => h1 ?_, fun q3 => ⟨fun q4 => h1 ?_, fun q4 => ⟨fun q5 => h1 ?_, fun q5 => ⟨fun q6 => h1 ?_, fun q6 => ⟨fun q7 => h1 ?_, fun q7 => ⟨fun q8 => ?_, fun q8 => h1 ?_⟩⟩⟩⟩⟩⟩⟩⟩
  · rintro ⟨h4, -⟩
    rw [zeq, znI (by omega), zti_4] at q
    omega
  · rintro ⟨-, h0, -⟩
    rw [zlt, znI (by omega), zti_0] at q2
    omega
  · rintro ⟨-, -, ⟨p, hp, rfl⟩, -⟩
    rw [zlt, znI (by omega), zti_0] at q3
    omega
  · rintro ⟨-, -, ⟨p, hp, rfl⟩, -⟩
    rw [zlt, znI (by omega), znI (by omega)] at q4
    omega
  · rintro ⟨-, -, -, ⟨j, hj, rfl⟩, -⟩
    rw [zlt, znI (by omega), zti_0] at q5
    omega
  · rintro ⟨-, -, -, ⟨j, hj, rfl⟩, -⟩
    rw [zlt, znI (by omega), zti_4] at q6
    omega
  · rintro ⟨-, -, -, -, ⟨j, hj, rfl⟩⟩
    rw [zlt, znI (by omega), zti_0] at q7
    omega
  · have hn4 : nc < 4 := by
      rw [zeq, znI (by omega), zti_4] at q
      omega
    have hno0 : no = 0 := by
      rw [zlt, znI (by omega), zti_0] at q2
      omega
    have hok : zTyOk nc no a b c := by
      refine ⟨hn4, hno0, ?_, ?_, ?_⟩
      · rcases zix a (n := nc + 1) (by omega) with z | z | ⟨j, hj, e⟩
        · exact absurd z q3
        · exfalso
          rw [zle, znI (by omega)] at z
          rw [zlt, znI (by omega)] at q4
          omega
        · exact ⟨j, by omega, e⟩
      · rcases zix b (n := 5) (by omega) with z | z | ⟨j, hj, e⟩
        · exact absurd z q5
        · exact absurd (show (4 : Int32) < b by rw [zle] at z; rw [zlt, zti_4]; have e5 : (nI 5).toInt = 5 := rfl; omega) q6
        · exact ⟨j, by omega, e⟩
      · rcases zix c (n := 4) (by omega) with z | z | ⟨j, hj, e⟩
        · exact absurd z q7
        · exfalso
          rw [zle] at z q8
          rw [zti_3] at q8
          have e5 : (nI 4).toInt = 4 := rfl
          omega
        · exact ⟨j, by omega, e⟩
    intro h68 e68
    have f1 : h68 0 1 = nI (nc + 1) := by rw [e68, zux, nI_1]
    rw [f1, znc (by omega)]
    refine ⟨zin_nI (by omega) (by omega), fun h80 e80 => ?_⟩
    have f2 : h80 0 1 = nI (nc + 1) := by rw [e80, zuo (by decide), f1]
    rw [f2, znc (by omega)]
    refine ⟨zin_nI (by omega) (by omega), fun h90 e90 => ?_⟩
    have f3 : h90 0 1 = nI (nc + 1) := by rw [e90, zuo (by decide), f2]
    rw [f3, znc (by omega)]
    refine ⟨zin_nI (by omega) (by omega), fun h100 e100 => ?_⟩
    have f4 : h100 0 1 = nI (nc + 1) := by rw [e100, zuo (by decide), f3]
    rw [f4]
    have e : h100 = mTy g nc a b c := by
      rw [e100, e90, e80, e68, nI_1]
      rfl
    rw [e]
    exact h2 hok
  · rintro ⟨-, -, -, -, ⟨j, hj, rfl⟩⟩
    rw [zle, znI (by omega), zti_3] at q8
    omega
theorem zCat_type {h g : zM} {nc : Nat} (hC : zCat h g nc 0) {a b c : Int32} (hok : zTyOk nc 0 a b c) : zCat (zTy h nc a b c) (mTy g nc a b c) (nc + 1) 0 := by
  obtain ⟨h1, h2, h3, h4, h5, h6, h7, h8⟩ := hC
  obtain ⟨o1, -, ⟨p, hp, rfl⟩, ⟨q, hq, rfl⟩, ⟨r, hr, rfl⟩⟩ := hok
  unfold zTy mTy
  refine ⟨by omega, by omega, ?_, ?_, ?_, ?_, fun i i1 i2 => ?_, fun o ho => by omega⟩
  · rw [zuo (by decide), zuo (by decide), zuo (by decide), zux]
  · rw [zuo (by decide), zuo (by decide), zuo (by decide), zux]
  · rw [zuo (by decide), zuo (by decide), zuo (by decide), zun (Or.inr (by decide)), h5]
  · rw [zuo (by decide), zuo (by decide), zuo (by decide), zun (Or.inr (by decide)), h6]
  · unfold zClsOk
    by_cases hi : i = nc + 1
    · subst hi
      have e1 : zu (zu (zu (zu h 1 0 (nI (nc + 1))) 2 (nc + 1) (nI p)) 3 (nc + 1) (nI q)) 4 (nc + 1) (nI r) 2 (nc + 1) = nI p := by rw [zuo (by decide), zuo (by decide), zux]
      have e2 : zu (zu (zu (zu h 1 0 (nI (nc + 1))) 2 (nc + 1) (nI p)) 3 (nc + 1) (nI q)) 4 (nc + 1) (nI r) 3 (nc + 1) = nI q := by rw [zuo (by decide), zux]
      have e3 : zu (zu (zu (zu h 1 0 (nI (nc + 1))) 2 (nc + 1) (nI p)) 3 (nc + 1) (nI q)) 4 (nc + 1) (nI r) 4 (nc + 1) = nI r := zux
      have f1 : zu (zu (zu (zu g 0 1 (nI (nc + 1))) 1 (nc + 1) (nI p)) 2 (nc + 1) (nI q)) 3 (nc + 1) (nI r) 1 (nc + 1) = nI p := by rw [zuo (by decide), zuo (by decide), zux]
      have f2 : zu (zu (zu (zu g 0 1 (nI (nc + 1))) 1 (nc + 1) (nI p)) 2 (nc + 1) (nI q)) 3 (nc + 1) (nI r) 2 (nc + 1) = nI q := by rw [zuo (by decide), zux]
      have f3 : zu (zu (zu (zu g 0 1 (nI (nc + 1))) 1 (nc + 1) (nI p)) 2 (nc + 1) (nI q)) 3 (nc + 1) (nI r) 3 (nc + 1) = nI r := zux
      rw [e1, e2, e3, f1, f2, f3]
      exact ⟨rfl, rfl, rfl, ⟨p, by omega, rfl⟩, ⟨q, hq, rfl⟩, ⟨r, hr, rfl⟩⟩
    · have e1 : zu (zu (zu (zu h 1 0 (nI (nc + 1))) 2 (nc + 1) (nI p)) 3 (nc + 1) (nI q)) 4 (nc + 1) (nI r) 2 i = h 2 i := by rw [zuo (by decide), zuo (by decide), zun (Or.inr hi), zuo (by decide)]
      have e2 : zu (zu (zu (zu h 1 0 (nI (nc + 1))) 2 (nc + 1) (nI p)) 3 (nc + 1) (nI q)) 4 (nc + 1) (nI r) 3 i = h 3 i := by rw [zuo (by decide), zun (Or.inr hi), zuo (by decide), zuo (by decide)]
      have e3 : zu (zu (zu (zu h 1 0 (nI (nc + 1))) 2 (nc + 1) (nI p)) 3 (nc + 1) (nI q)) 4 (nc + 1) (nI r) 4 i = h 4 i := by rw [zun (Or.inr hi), zuo (by decide), zuo (by decide), zuo (by decide)]
      have f1 : zu (zu (zu (zu g 0 1 (nI (nc + 1))) 1 (nc + 1) (nI p)) 2 (nc + 1) (nI q)) 3 (nc + 1) (nI r) 1 i = g 1 i := by rw [zuo (by decide), zuo (by decide), zun (Or.inr hi), zuo (by decide)]
      have f2 : zu (zu (zu (zu g 0 1 (nI (nc + 1))) 1 (nc + 1) (nI p)) 2 (nc + 1) (nI q)) 3 (nc + 1) (nI r) 2 i = g 2 i := by rw [zuo (by decide), zun (Or.inr hi), zuo (by decide), zuo (by decide)]
      have f3 : zu (zu (zu (zu g 0 1 (nI (nc + 1))) 1 (nc + 1) (nI p)) 2 (nc + 1) (nI q)) 3 (nc + 1) (nI r) 3 i = g 3 i := by rw [zun (Or.inr hi), zuo (by decide), zuo (by decide), zuo (by decide)]
      rw [e1, e2, e3, f1, f2, f3]
      exact h7 i i1 (by omega)
