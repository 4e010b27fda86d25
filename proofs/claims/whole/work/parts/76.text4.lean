/-! text -/
theorem zH_text (n : Nat) (ln : Nat → Nat) (h g : zM) (a b : Int32) (hR : zR n ln h g) : wpTop_text n ln a b h (fun r h1 => wpMod_text a b g (fun r1 g1 => r = r1 ∧ zR n ln h1 g1)) := by
  have hR0 := hR
  obtain ⟨nc, no, hC, h0, hl, hs, hd, n40, hn, gn, he⟩ := hR
  unfold wpTop_text
  refine z_get hn n40 a _ (fun q => ⟨fun _ => ?_, fun j ej => absurd ej (by simp)⟩) (fun e hel ea => ⟨fun z => absurd z (by simp), fun j ej => ?_⟩)
  · unfold wpMod_text
    rw [gn]
    rcases zix a (n := n) (by omega) with q1 | q1 | ⟨j, hj, q1⟩
    · exact ⟨fun _ => ⟨rfl, hR0⟩, fun z => absurd q1 z⟩
    · exact ⟨fun _ => ⟨rfl, hR0⟩, fun _ => ⟨fun _ => ⟨rfl, hR0⟩, fun z => absurd q1 z⟩⟩
    · exact absurd q1 (q j hj)
  · obtain rfl : e = j := Option.some.inj ej
    obtain ⟨sz, out, det, a1, a2, a3, a4, a5, a6, a7, a8, a9, b1, b2, b3, b4, b5, b6⟩ := he e hel
    refine ⟨hel, ?_⟩
    have ht : ∀ k, k < sz → zTs g (h (34 + 4 * e + 1 + 1)) k := fun k hk => zTs_of hC (by omega) (a5 k hk)
    have tl := zTx_len ht sz (Nat.le_refl _)
    have el := @zEd_len out det (h (34 + 4 * e) 4) (h (34 + 4 * e) 5)
    have TL : (zTx (h (34 + 4 * e + 1 + 1)) sz ++ zEd out det (h (34 + 4 * e) 4) (h (34 + 4 * e) 5)).length ≤ 182 := by
      rw [List.length_append]
      omega
    refine z_wall a2 a3 ht a7 b1 a8 b2 (fun h' w' => ?_)
    subst ea
    generalize hT : zTx (h (34 + 4 * e + 1 + 1)) sz ++ zEd out det (h (34 + 4 * e) 4) (h (34 + 4 * e) 5) = T at TL w'
    have hz : zSm h h' := ⟨fun r hr => w'.1 r (by omega) (by omega), by rw [w'.1 19 (by omega) (by omega)], by rw [w'.1 19 (by omega) (by omega)], by rw [w'.1 30 (by omega) (by omega)]⟩
    have hRh : zR n ln h' g := zR_fr hz (fun _ _ _ => rfl) hR0
    have go : ∀ post : Int32 → zM → Prop, (b < -1 → post (-2) g) → (¬ b < -1 → ∀ g', mSm g g' → g' 0 39 = nI T.length → (∀ i x, T[i]? = some x → g' 27 i = nI x) → (¬ b = -1 → (nI T.length ≤ b → post (-2) g') ∧ (¬ nI T.length ≤ b → vp_in b 300 ∧ post (g' 27 (Int32.toNatClampNeg b)) g')) ∧ (b = -1 → post (nI T.length) g')) → wpMod_text (nI e) b g post := by
      intro post p1 p2
      unfold wpMod_text
      rw [gn]
      refine ⟨fun z => absurd z (by rw [zlt, zti_0, znI (by omega)]; omega), fun _ => ⟨fun z => absurd z (by rw [zle, znI (by omega), znI (by omega)]; omega), fun _ => ⟨fun z => ?_, fun z => p1 (by rw [zlt]; rw [zle] at z; omega)⟩⟩⟩
      refine m_wall hC (by omega) a1 a2 a4 a5 a6 a7 b1 a9 b3 (fun q => ⟨(b6 q).1, (b6 q).2.1, (b6 q).2.2.1⟩) (fun g' s1 s2 s3 => ?_)
      rw [hT] at s2 s3
      have := p2 (by rw [zlt]; rw [zle] at z; omega) g' s1 s2 s3
      rw [s2]
      exact this
    obtain ⟨w1, w2, w3⟩ := w'
    rw [w2]
    refine ⟨fun z => ⟨fun z2 => ?_, fun z2 => ⟨fun z3 => ?_, fun z3 => ?_⟩⟩, fun z => ?_⟩
    · refine go _ (fun _ => ⟨rfl, hRh⟩) (fun z5 g' s1 s2 s3 => ⟨fun _ => ⟨fun _ => ⟨rfl, zR_fr hz s1 hR0⟩, fun z4 => ?_⟩, fun z4 => absurd z4 z⟩)
      exfalso
      rw [zlt, zti_0] at z2
      rw [zlt, zti_m1] at z5
      rw [zeq, zti_m1] at z
      omega
    · refine go _ (fun z4 => ?_) (fun z5 g' s1 s2 s3 => ⟨fun _ => ⟨fun _ => ⟨rfl, zR_fr hz s1 hR0⟩, fun z4 => absurd z3 z4⟩, fun z4 => absurd z4 z⟩)
      exfalso
      rw [zlt, zti_0] at z2
      rw [zlt, zti_m1] at z4
      omega
    · rcases zix b (n := T.length) (by omega) with q1 | q1 | ⟨i, hi, q1⟩
      · exact absurd q1 z2
      · exact absurd q1 z3
      · subst q1
        rw [znc (by omega)]
        have ei : T[i]? = some T[i] := List.getElem?_eq_getElem hi
        refine ⟨zin_nI (by omega) (by decide), go _ (fun z4 => ?_) (fun z5 g' s1 s2 s3 => ⟨fun _ => ⟨fun z4 => absurd z4 z3, fun _ => ⟨zin_nI (by omega) (by decide), ?_, zR_fr hz s1 hR0⟩⟩, fun z4 => absurd z4 z⟩)⟩
        · exfalso
          rw [zlt, zti_0] at z2
          rw [zlt, zti_m1] at z4
          omega
        · rw [znc (by omega), w3 i _ ei, s3 i _ ei]
    · subst z
      exact go _ (fun z4 => absurd z4 (by decide)) (fun z5 g' s1 s2 s3 => ⟨fun z4 => absurd rfl z4, fun _ => ⟨rfl, zR_fr hz s1 hR0⟩⟩)
