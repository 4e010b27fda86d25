/-! text: the model's calls, the whole text -/
theorem zAq_on {f v hw ar : Int32} (hq : zAq f v hw ar) (hf : f = 0 ∨ f = 1 ∨ f = 2) : hw = f ∧ ar = v := by
  rcases hq with ⟨z, -⟩ | ⟨-, z1, z2⟩
  · exfalso
    rw [z] at hf
    revert hf
    decide
  · exact ⟨z1, z2⟩
theorem m_wst {g0 g : zM} {T : List Nat} {post : zM → Prop} {L12 : Int32 × Int32 × zM → Prop} {L41 : Int32 × Int32 × Int32 × zM → Prop} {v1 : Int32} {k a o kd : Nat} (hk : k < 10) (ha : a ≤ 2) (ho : o < 10) (h9 : kd ≤ 9) (e8 : g0 8 k = nI o) (e4 : g0 4 o = nI kd) (hW : mWr g0 g T) (c1 : zar kd ≤ a → wpMod_write 41 g (fun g' => L12 (v1, nI k + 1, g'))) (c2 : a < zar kd → a = 0 → wbMod_writeAll_69 post L12 L41 v1 (nI k) (nI a) g) (c3 : a < zar kd → a ≠ 0 → wpMod_write 44 g (fun g' => wbMod_writeAll_69 post L12 L41 v1 (nI k) (nI a) g')) : stMod_writeAll_41 post L12 L41 (v1, nI k, nI a, g) := by
  unfold stMod_writeAll_41
  dsimp only
  rw [znc (by omega), hW.1 8 _ (by omega) (by omega), e8, znc (by omega), hW.1 4 _ (by omega) (by omega), e4]
  refine ⟨zin_nI (by omega) (by decide), zin_nI ho (by decide), m_arity h9 _ ?_⟩
  have hz : zar kd ≤ 2 := by unfold zar; split <;> omega
  exact pk_le (zar kd) a c1 (fun q => pk_le a 0 (fun q2 => c2 q (by omega)) (fun q2 => c3 q (by omega)))
theorem m_wcall {g0 g : zM} {c : Nat → Int32} {T : List Nat} {post : zM → Prop} {L12 : Int32 × Int32 × zM → Prop} {v1 : Int32} {k : Nat} (hk : k < 10) (ht : zTs g0 c k) (hm : mSq c (g0 8) (g0 9) (g0 10) k k) (hW : mWr g0 g T) (hl : T.length + 17 ≤ 300) (hL : ∀ g', mWr g0 g' (T ++ zCl c k) → L12 (v1, nI (k + 1), g')) : wpMod_write (97 + (g 8 k)) g (fun h30 => wpMod_write 40 h30 (fun h36 => zL (stMod_writeAll_41 post L12) (v1, nI k, 0, h36))) := by
  obtain ⟨o, kd, o10, k9, eo, e4, f0, ar, hlen⟩ := ht
  obtain ⟨m8, mA⟩ := hm
  rw [eo] at m8
  unfold zCl at hlen hL
  rw [eo, znc (by omega)] at hlen hL
  simp only [List.length_append, List.length_cons, List.length_nil] at hlen
  have x12 := zAq_on (mA 0 (by decide)) f0
  have x1 : g0 9 (2 * k + 0) = c (5 * k + 1) := x12.1
  have x2 : g0 10 (2 * k + 0) = c (5 * k + 2) := x12.2
  rw [hW.1 8 _ (by omega) (by omega), m8]
  refine m_write hW (c := 97 + o) (nI_add 97 o) (by omega) (fun g1 w1 => m_write w1 (c := 40) rfl (by rw [List.length_append]; simp; omega) (fun g2 w2 => ?_))
  rcases ar with ⟨ar, f1⟩ | ⟨ar, f1⟩
  · rw [f1] at hL
    refine ⟨2, zl_mk (m_wst (a := 0) hk (by decide) o10 k9 m8 e4 w2 (fun q => by omega) (fun _ _ => ?_) (fun _ q => absurd rfl q))⟩
    refine m_warg hk (by decide) w2 x1 x2 f0 (by simp only [List.length_append, List.length_cons, List.length_nil]; omega) (fun g3 w3 => zl_mk (m_wst (a := 1) hk (by decide) o10 k9 m8 e4 w3 (fun _ => ?_) (fun q _ => by omega) (fun q _ => by omega)))
    refine m_write w3 (c := 41) rfl (by simp only [List.length_append, List.length_cons, List.length_nil]; omega) (fun g4 w4 => ?_)
    rw [nI_1]
    refine hL g4 ?_
    rw [show zCm (-1) = [] from rfl, show ∀ v, zAT (-1) v = [] from fun _ => rfl]
    simpa only [List.append_assoc, List.cons_append, List.nil_append] using w4
  · have y12 := zAq_on (mA 1 (by decide)) f1
    have y1 : g0 9 (2 * k + 1) = c (5 * k + 3) := y12.1
    have y2 : g0 10 (2 * k + 1) = c (5 * k + 4) := y12.2
    have n1 : ¬ c (5 * k + 3) = -1 := by
      rcases f1 with q | q | q <;> rw [q] <;> decide
    have hcm : zCm (c (5 * k + 3)) = [44] := by unfold zCm; rw [if_neg n1]
    rw [hcm] at hL hlen
    simp only [List.length_cons, List.length_nil] at hlen
    refine ⟨3, zl_mk (m_wst (a := 0) hk (by decide) o10 k9 m8 e4 w2 (fun q => by omega) (fun _ _ => ?_) (fun _ q => absurd rfl q))⟩
    refine m_warg hk (by decide) w2 x1 x2 f0 (by simp only [List.length_append, List.length_cons, List.length_nil]; omega) (fun g3 w3 => zl_mk (m_wst (a := 1) hk (by decide) o10 k9 m8 e4 w3 (fun q => by omega) (fun _ q => absurd q (by decide)) (fun _ _ => ?_)))
    refine m_write w3 (c := 44) rfl (by simp only [List.length_append, List.length_cons, List.length_nil]; omega) (fun g4 w4 => ?_)
    refine m_warg hk (by decide) w4 y1 y2 f1 (by simp only [List.length_append, List.length_cons, List.length_nil]; omega) (fun g5 w5 => zl_mk (m_wst (a := 2) hk (by decide) o10 k9 m8 e4 w5 (fun _ => ?_) (fun q _ => by omega) (fun q _ => by omega)))
    refine m_write w5 (c := 41) rfl (by simp only [List.length_append, List.length_cons, List.length_nil]; omega) (fun g6 w6 => ?_)
    rw [nI_1]
    refine hL g6 ?_
    simpa only [List.append_assoc, List.cons_append, List.nil_append] using w6
def zTx (c : Nat → Int32) : Nat → List Nat
  | 0 => []
  | k + 1 => zTx c k ++ zCl c k
theorem zTx_len {g : zM} {c : Nat → Int32} {sz : Nat} (ht : ∀ k, k < sz → zTs g c k) : ∀ k, k ≤ sz → (zTx c k).length ≤ 17 * k
  | 0, _ => by simp [zTx]
  | k + 1, hk => by
    have a := zTx_len ht k (by omega)
    obtain ⟨o, kd, -, -, -, -, -, -, b⟩ := ht k (by omega)
    rw [zTx, List.length_append]
    omega
def zEd (out det : Nat) (gv nm : Int32) : List Nat := if out = 2 then [33, 48 + det] else if out = 3 then [63, 48 + det] else 61 :: (if gv = 1 then zNT nm else if gv = 2 then [110] else [111])
theorem zEd_len {out det : Nat} {gv nm : Int32} : (zEd out det gv nm).length ≤ 12 := by
  have := zNT_len nm
  unfold zEd
  repeat' split
  all_goals simp
  omega
theorem z_wend {n : Nat} {ln : Nat → Nat} {e out det : Nat} {h0 h : zM} {T : List Nat} {post : zM → Prop} (h3 : out ≤ 3) (h5 : det ≤ 5) (e1 : h0 (34 + 4 * e) 1 = nI out) (e2 : h0 (34 + 4 * e) 2 = nI det) (hW : zWr h0 h T) (hl : T.length + 12 ≤ 200) (k : ∀ h', zWr h0 h' (T ++ zEd out det (h0 (34 + 4 * e) 4) (h0 (34 + 4 * e) 5)) → post h') : wpWriter_writeEnd n ln e h post := by
  have F : ∀ h T', zWr h0 h T' → h (34 + 4 * e) = h0 (34 + 4 * e) := fun h T' w => w.1 _ (by omega) (by omega)
  unfold wpWriter_writeEnd
  unfold zEd at k
  have nm := zNT_len (h0 (34 + 4 * e) 5)
  rw [F h T hW, e1]
  refine pk_eq out 2 (fun q => ?_) (fun q => ?_)
  · rw [if_pos q] at k
    refine z_put hW (z_char1 33 (by decide)) (by omega) (fun h1 w1 => ?_)
    rw [F h1 _ w1, e2]
    refine z_wnum w1 (by rw [zNT_small (by omega), List.length_append]; simp; omega) (fun h2 w2 => k h2 ?_)
    rw [zNT_small (by omega), List.append_assoc] at w2
    exact w2
  · rw [if_neg q] at k
    refine pk_eq out 3 (fun q => ?_) (fun q => ?_)
    · rw [if_pos q] at k
      refine z_put hW (z_char1 63 (by decide)) (by omega) (fun h1 w1 => ?_)
      rw [F h1 _ w1, e2]
      refine z_wnum w1 (by rw [zNT_small (by omega), List.length_append]; simp; omega) (fun h2 w2 => k h2 ?_)
      rw [zNT_small (by omega), List.append_assoc] at w2
      exact w2
    · rw [if_neg q] at k
      refine z_put hW (z_char1 61 (by decide)) (by omega) (fun h1 w1 => ?_)
      unfold wpWriter_writeResult wbWriter_writeResult_35
      rw [F h1 _ w1]
      refine ⟨fun z => ?_, fun z => ?_⟩
      · rw [if_neg z] at k
        refine ⟨fun z2 => ?_, fun z2 => ?_⟩
        · rw [if_neg z2] at k
          refine z_put w1 (z_char1 111 (by decide)) (by simp; omega) (fun h2 w2 => k h2 ?_)
          rw [List.append_assoc] at w2
          exact w2
        · rw [if_pos z2] at k
          refine z_put w1 (z_char1 110 (by decide)) (by simp; omega) (fun h2 w2 => k h2 ?_)
          rw [List.append_assoc] at w2
          exact w2
      · rw [if_pos z] at k
        refine z_wnum w1 (by simp; omega) (fun h2 w2 => k h2 ?_)
        rw [List.append_assoc] at w2
        exact w2
theorem z_wall {n : Nat} {ln : Nat → Nat} {e sz out det : Nat} {h g : zM} {post : zM → Prop} (h10 : sz ≤ 10) (hsz : h (34 + 4 * e + 1) 0 = nI sz) (ht : ∀ k, k < sz → zTs g (h (34 + 4 * e + 1 + 1)) k) (h3 : out ≤ 3) (h5 : det ≤ 5) (e1 : h (34 + 4 * e) 1 = nI out) (e2 : h (34 + 4 * e) 2 = nI det) (k : ∀ h', zWr h h' (zTx (h (34 + 4 * e + 1 + 1)) sz ++ zEd out det (h (34 + 4 * e) 4) (h (34 + 4 * e) 5)) → post h') : wpWriter_write n ln e h post := by
  unfold wpWriter_write
  intro h2 eh2
  subst eh2
  refine zL_rule (fun s : Int32 × zM => ∃ j : Nat, j ≤ sz ∧ s.1 = nI j ∧ zWr h s.2 (zTx (h (34 + 4 * e + 1 + 1)) j)) (fun s => sz - Int32.toNatClampNeg s.1) ?_ _ ⟨0, by omega, rfl, fun r a b => zuo a, (show zu h 28 1 0 28 1 = 0 from zux), fun i c z => by simp [zTx] at z⟩
  rintro ⟨v2, h1⟩ L ⟨j, hj, e0, hV⟩ hL
  dsimp only at e0 hV
  subst e0
  unfold stWriter_write_7
  dsimp only
  have hlen := zTx_len ht j hj
  rw [hV.1 (34 + 4 * e + 1) (by omega) (by omega), hsz]
  refine pk_le sz j (fun q => ?_) (fun q => ?_)
  · obtain rfl : j = sz := by omega
    exact z_wend h3 h5 e1 e2 hV (by omega) k
  · obtain ⟨o, kd, o10, -, eo, -, -, -, b⟩ := ht j q
    refine z_wcall (by omega) (by omega) o10 eo hV (by omega) (fun h' w' => hL _ ⟨j + 1, by omega, nI_1 j, w'⟩ ?_)
    dsimp only
    rw [nI_1, znc (by omega), znc (by omega)]
    omega
theorem m_wall {e sz out det nc no : Nat} {c : Nat → Int32} {h g : zM} {post : zM → Prop} (hC : zCat h g nc no) (he : e ≤ 40) (h1 : 1 ≤ sz) (h10 : sz ≤ 10) (hsz : g 13 e = nI sz) (hst : ∀ k, k < sz → zStOk h c no k) (hm : ∀ k, k < sz → mSq c (g 14) (g 15) (g 16) k (10 * e + k)) (h3 : out ≤ 3) (h5 : det ≤ 5) (e1 : g 17 e = nI out) (e2 : g 18 e = nI det) {gv nm : Int32} (hg : out < 2 → (zfin h c sz).1 = 0 ∧ gv = zgave h c sz (zfin h c sz) ∧ nm = znum h c sz (zfin h c sz)) (k : ∀ g', mSm g g' → g' 0 39 = nI (zTx c sz ++ zEd out det gv nm).length → (∀ i x, (zTx c sz ++ zEd out det gv nm)[i]? = some x → g' 27 i = nI x) → post g') : wpMod_writeAll (nI e) g post := by
  unfold wpMod_writeAll
  refine m_load he hsz h10 _ (fun g1 f1 s1 c1 g2 eg2 => ?_)
  have hCg : zCat h g1 nc no := zCat_g hC (fun r s hr => f1 r s (by omega) (by omega) (by omega) (by omega))
  have ht : ∀ k, k < sz → zTs g1 c k := fun k hk => zTs_of hCg (by omega) (hst k hk)
  have hm1 : ∀ k, k < sz → mSq c (g1 8) (g1 9) (g1 10) k k := fun k hk => mCp_sq (c1 k hk) (hm k hk)
  subst eg2
  refine zL_rule (fun s : Int32 × Int32 × zM => ∃ j : Nat, j ≤ sz ∧ s.1 = nI e ∧ s.2.1 = nI j ∧ mWr g1 s.2.2 (zTx c j)) (fun s => sz - Int32.toNatClampNeg s.2.1) ?_ _ ⟨0, by omega, rfl, rfl, fun r s a b => zun b, (show zu g1 0 39 0 0 39 = 0 from zux), fun i c z => by simp [zTx] at z⟩
  rintro ⟨v1, v2, gg⟩ L ⟨j, hj, e01, e02, hV⟩ hL
  dsimp only at e01 e02 hV
  subst e01
  subst e02
  unfold stMod_writeAll_12
  dsimp only
  have hlen := zTx_len ht j hj
  rw [hV.1 0 11 (by omega) (by omega), s1]
  refine pk_le sz j (fun q => ?_) (fun q => ?_)
  · obtain rfl : j = sz := by omega
    have hv : vp_in (nI e) 41 := zin_nI (by omega) (by decide)
    have F17 : ∀ g' T, mWr g1 g' T → g' 17 e = nI out := fun g' T w => by rw [w.1 17 _ (by omega) (by omega), f1 17 _ (by omega) (by omega) (by omega) (by omega), e1]
    have F18 : ∀ g' T, mWr g1 g' T → g' 18 e = nI det := fun g' T w => by rw [w.1 18 _ (by omega) (by omega), f1 18 _ (by omega) (by omega) (by omega) (by omega), e2]
    have fin : ∀ g', mWr g1 g' (zTx c j ++ zEd out det gv nm) → post g' := fun g' w => k g' (fun r s hr => by rw [w.1 r s (by omega) (by omega), f1 r s (by omega) (by omega) (by omega) (by omega)]) w.2.1 w.2.2
    rw [znc (by omega), F17 gg _ hV]
    refine ⟨hv, pk_le 2 out (fun q2 => ⟨hv, ?_⟩) (fun q2 => ?_)⟩
    · have hi : ∀ x : Nat, (x = 33 ∧ out = 2) ∨ (x = 63 ∧ out = 3) → wbMod_writeAll_174 post (nI e) (nI x) gg := by
        intro x hx
        unfold wbMod_writeAll_174
        refine m_write hV (c := x) rfl (by omega) (fun g3 w3 => ⟨hv, ?_⟩)
        rw [znc (by omega), F17 g3 _ w3, F18 g3 _ w3]
        refine pk_lt out 2 (fun q3 => by omega) (fun _ => ⟨hv, m_write w3 (c := 48 + det) (nI_add 48 det) (by simp; omega) (fun g4 w4 => fin g4 ?_)⟩)
        unfold zEd
        rw [List.append_assoc] at w4
        rcases hx with ⟨rfl, hx⟩ | ⟨rfl, hx⟩
        · rw [if_pos hx]
          exact w4
        · rw [if_neg (by omega), if_pos hx]
          exact w4
      have := pk_eq out 2 (fun q3 => hi 33 (Or.inl ⟨rfl, q3⟩)) (fun q3 => hi 63 (Or.inr ⟨rfl, by omega⟩))
      exact ⟨this.2, this.1⟩
    · unfold wbMod_writeAll_174
      refine m_write hV (c := 61) rfl (by omega) (fun g3 w3 => ⟨hv, ?_⟩)
      rw [znc (by omega), F17 g3 _ w3]
      refine pk_lt out 2 (fun _ => ?_) (fun q3 => by omega)
      obtain ⟨r0, rg, rn⟩ := hg q2
      unfold zEd at fin
      rw [if_neg (by omega), if_neg (by omega)] at fin
      have R8 : ∀ r, 8 ≤ r → r ≤ 10 → g3 r = g1 r := fun r r1 r2 => funext fun s => w3.1 r s (by omega) (by omega)
      have hC3 : zCat h g3 nc no := zCat_g hCg (fun r s hr => w3.1 r s (by omega) (by omega))
      refine m_run hC3 (by rw [w3.1 0 11 (by omega) (by omega)]; exact s1) h1 h10 hst (fun k hk => by rw [R8 8 (by omega) (by omega), R8 9 (by omega) (by omega), R8 10 (by omega) (by omega)]; exact hm1 k hk) _ (fun g4 f4 _ _ _ x4 => ?_)
      obtain ⟨x5, -⟩ := x4 r0
      have w4 : ∀ r s, r ≠ 27 → (r ≠ 0 ∨ s ≠ 39) → g4 r s = g4 r s := fun _ _ _ _ => rfl
      have W4 : mWr g4 g4 (zTx c j ++ [61]) := ⟨w4, by rw [f4 0 39 (by omega)]; exact w3.2.1, fun i x z => by rw [f4 27 i (by omega)]; exact w3.2.2 i x z⟩
      have fin4 : ∀ g', mWr g4 g' (zTx c j ++ 61 :: (if gv = 1 then zNT nm else if gv = 2 then [110] else [111])) → post g' := by
        intro g' w
        refine k g' (fun r s hr => ?_) (by unfold zEd; rw [if_neg (by omega), if_neg (by omega)]; exact w.2.1) (by unfold zEd; rw [if_neg (by omega), if_neg (by omega)]; exact w.2.2)
        rw [w.1 r s (by omega) (by omega), f4 r s (by omega), w3.1 r s (by omega) (by omega), f1 r s (by omega) (by omega) (by omega) (by omega)]
      have s4 : g4 0 11 = nI j := by rw [f4 0 11 (by omega), w3.1 0 11 (by omega) (by omega)]; exact s1
      have sm : (nI j : Int32) - 1 = nI (j - 1) := pk_sub (b := 1) h1
      obtain ⟨o, ho, eo, -⟩ := hst (j - 1) (by omega)
      have ho10 := hC.2.1
      have e8 : g4 8 (j - 1) = nI o := by
        rw [f4 8 _ (by omega), R8 8 (by omega) (by omega), (hm1 (j - 1) (by omega)).1]
        exact eo
      have z8 : zlt8 h c j = h 8 o := by
        unfold zlt8
        rw [eo, znc (by omega)]
      rw [s4, sm, znc (by omega), e8]
      refine ⟨zin_nI (by omega) (by decide), fun y ey => ⟨zin_nI (by omega) (by decide), ?_⟩⟩
      have hC4 : zCat h g4 nc no := zCat_g hC3 (fun r s hr => f4 r s (by omega))
      refine m_gives (by omega) (hC4.2.2.2.2.2.2.2 o ho) hC.1 _ ?_
      unfold zgave at rg
      unfold znum at rn
      rw [if_pos r0, z8] at rg rn
      subst ey
      rw [x5]
      refine ⟨fun z => ?_, fun z => ?_⟩
      · rw [if_neg z] at rg
        have hrf := zfin_rf hC h1 h10 hst r0 (by rw [z8]; exact z)
        have n1 : gv ≠ 1 := by rw [rg]; split <;> decide
        rw [if_neg n1] at fin4
        refine ⟨fun z2 => ?_, fun z2 => ?_⟩
        · have : ¬ (zfin h c j).2.2.2 3 (j - 1) = -1 := by
            intro q3
            rw [q3] at z2
            exact absurd z2 (by decide)
          rw [if_neg this] at rg
          rw [if_neg (by rw [rg]; decide)] at fin4
          unfold wbMod_writeAll_255
          refine m_write W4 (c := 111) rfl (by simp; omega) (fun g5 w5 => fin4 g5 ?_)
          rw [List.append_assoc] at w5
          exact w5
        · have : (zfin h c j).2.2.2 3 (j - 1) = -1 := by
            rcases hrf with q3 | ⟨i, hi, q3⟩
            · exact q3
            · exfalso
              rw [q3] at z2
              exact z2 (by rw [zle, zti_0, znI (by omega)]; omega)
          rw [if_pos this] at rg
          rw [if_pos rg] at fin4
          unfold wbMod_writeAll_255
          refine m_write W4 (c := 110) rfl (by simp; omega) (fun g5 w5 => fin4 g5 ?_)
          rw [List.append_assoc] at w5
          exact w5
      · rw [if_pos z] at rg rn
        rw [if_pos rg] at fin4
        rw [← rn]
        have := zNT_len nm
        refine m_wnum W4 (by simp; omega) (fun g5 w5 => fin4 g5 ?_)
        rw [List.append_assoc] at w5
        exact w5
  · refine ⟨zin_nI (by omega) (by decide), ?_⟩
    rw [znc (by omega)]
    refine m_wcall (by omega) (ht j q) (hm1 j q) hV (by omega) (fun g' w' => hL _ ⟨j + 1, by omega, rfl, rfl, w'⟩ ?_)
    dsimp only
    rw [znc (by omega), znc (by omega)]
    omega
