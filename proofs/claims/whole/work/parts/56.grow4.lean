/-! the model takes an entry -/
def zBk (n : Nat) (ln : Nat → Nat) (h g : zM) (nc no : Nat) : Prop := zCat h g nc no ∧ n ≤ 40 ∧ g 0 17 = nI n ∧ ∀ e, e < n → zEnt h g ln no e
def mGf (g g' : zM) : Prop := ∀ r s, (r = 0 ∧ s ≠ 0 ∧ s ≠ 11) ∨ (r ≠ 0 ∧ (r < 8 ∨ 12 < r)) → g' r s = g r s
theorem mGf_rf {g : zM} : mGf g g := fun _ _ _ => rfl
theorem mGf_tr {g g' g'' : zM} (a : mGf g g') (b : mGf g' g'') : mGf g g'' := fun r s hr => (b r s hr).trans (a r s hr)
theorem zBk_g {n : Nat} {ln : Nat → Nat} {h g g' : zM} {nc no : Nat} (hB : zBk n ln h g nc no) (hf : mGf g g') : zBk n ln h g' nc no := ⟨zCat_g hB.1 (fun r s hr => hf r s (by omega)), hB.2.1, by rw [hf 0 17 (by omega)]; exact hB.2.2.1, fun e he => zEnt_g (fun r s r1 r2 => hf r s (by omega)) (hB.2.2.2 e he)⟩
theorem zAq_add {f v hw ar b : Int32} (h : zAq f v hw ar) : zAq f (if f = 0 then v + b else v) hw (ar + (if hw = 0 then b else 0)) := by
  rcases h with ⟨h1, h2, h3, h4⟩ | ⟨h1, h2, h3⟩
  · refine Or.inl ⟨h1, ?_, h3, ?_⟩
    · rw [if_neg (by rw [h1]; decide)]; exact h2
    · rw [if_neg (by rw [h3]; decide), h4]; rfl
  · refine Or.inr ⟨h1, h2, ?_⟩
    rw [h2, h3]
    by_cases q : f = 0
    · rw [if_pos q, if_pos q]
    · rw [if_neg q, if_neg q, Int32.add_zero]
theorem zEnt_off {n : Nat} {ln : Nat → Nat} {h g : zM} {nc no e t : Nat} (hB : zBk n ln h g nc no) (he : e < n) (ht : t ≤ nc) (post : Int32 → zM → Prop) (hp1 : ¬ zoff h t e → post 0 g) (hp2 : zoff h t e → post 1 g) : wpMod_offers (nI e) (nI t) g post := by
  obtain ⟨hC, n40, gn, hE⟩ := hB
  have hno := hC.2.1
  obtain ⟨sz, out, det, a1, a2, a3, a4, a5, a6, a7, a8, a9, b1, b2, b3, b4, b5, b6⟩ := hE e he
  obtain ⟨o, ho, eo, -⟩ := a5 (sz - 1) (by omega)
  refine m_offers hC (by omega) a4 a1 a2 ho (by rw [(a6 (sz - 1) (by omega)).1, eo]) (by rw [a9, a8]) ?_ ht post hp1 hp2
  rw [b4]
  unfold zlt8
  rw [eo, znc (by omega)]
theorem m_offered {n : Nat} {ln : Nat → Nat} {h g : zM} {nc no t : Nat} (hB : zBk n ln h g nc no) (ht : t ≤ nc) (post : Int32 → zM → Prop) (hp : post (nI (zoc h t n)) g) : wpMod_offered (nI t) g post := by
  have n40 := hB.2.1
  unfold wpMod_offered
  refine zL_rule (fun s => s.1 = nI t ∧ s.2.2.2 = g ∧ ∃ e : Nat, e ≤ n ∧ s.2.1 = nI (zoc h t e) ∧ s.2.2.1 = nI e) (fun s => n - s.2.2.1.toNatClampNeg) ?_ (nI t, 0, 0, g) ⟨rfl, rfl, 0, by omega, rfl, rfl⟩
  rintro ⟨v1, v2, v3, hh⟩ L ⟨e1, eh, e, he, e2, e3⟩ ih
  dsimp only at e1 e2 e3 eh ih
  subst e1 e2 e3 eh
  unfold stMod_offered_4
  dsimp only
  rw [hB.2.2.1]
  refine pk_le n e (fun q => ?_) (fun q => ?_)
  · have : e = n := by omega
    subst this
    exact hp
  · have nxt : ∀ y : Int32, y = nI (zoc h t (e + 1)) → L (nI t, y, nI e + 1, hh) := by
      intro y ey
      rw [zp1]
      refine ih _ ⟨rfl, rfl, e + 1, by omega, ey, rfl⟩ ?_
      dsimp only
      rw [znc (by omega), znc (by omega)]
      omega
    unfold wbMod_offered_27
    refine zEnt_off hB q ht _ (fun z => ⟨fun _ y28 e28 => nxt y28 ?_, fun w => absurd rfl w⟩) (fun z => ⟨fun w => absurd w (by decide), fun _ y28 e28 => nxt y28 ?_⟩)
    · rw [e28, zoc_f z, Int32.add_zero]
    · rw [e28, zoc_t z, zp1]
theorem m_take2 {n : Nat} {ln : Nat → Nat} {h g : zM} {nc no e m sz a : Nat} {c : Nat → Int32} (hB : zBk n ln h g nc no) (he : e < n) (hm' : g 13 e = nI m) (hm10 : m ≤ 10) (hE : ∀ k, k < m → mSq (h (34 + 4 * e + 1 + 1)) (g 14) (g 15) (g 16) k (10 * e + k)) (ha : a < 2) (hsz : g 0 11 = nI sz) (h9 : sz ≤ 9) (hm1 : 1 ≤ m) (hm : ∀ k, k < sz → mSq c (g 8) (g 9) (g 10) k k) (post : zM → Prop) (hp : ∀ g', mGf g g' → g' 0 0 = g 0 0 → g' 0 11 = nI (sz + m) → g' 11 a = 0 → g' 12 a = nI (sz + m - 1) → (∀ s, s ≠ a → g' 11 s = g 11 s ∧ g' 12 s = g 12 s) → (∀ k, k < sz + m → mSq (zapp c sz (h (34 + 4 * e + 1 + 1))) (g' 8) (g' 9) (g' 10) k k) → post g') : wbMod_take_56 post (nI a) (nI e) g := by
  have n40 := hB.2.1
  unfold wbMod_take_56
  intro y60 e60
  rw [hsz] at e60
  subst e60
  refine zL_rule (fun s => s.1 = nI a ∧ s.2.1 = nI e ∧ s.2.2.1 = nI sz ∧ ∃ k : Nat, k ≤ m ∧ s.2.2.2.1 = nI k ∧ s.2.2.2.2 0 11 = nI (sz + k) ∧ (∀ r t, (r = 0 ∧ t ≠ 11) ∨ (r ≠ 0 ∧ (r < 8 ∨ 10 < r)) → s.2.2.2.2 r t = g r t) ∧ ∀ k', k' < sz + k → mSq (zapp c sz (h (34 + 4 * e + 1 + 1))) (s.2.2.2.2 8) (s.2.2.2.2 9) (s.2.2.2.2 10) k' k') (fun s => m - s.2.2.2.1.toNatClampNeg) ?_ (nI a, nI e, nI sz, 0, g) ⟨rfl, rfl, rfl, 0, by omega, rfl, hsz, fun _ _ _ => rfl, fun k' hk' => mSq_c hk' (fun i hi => zapp_lo hi) (hm k' hk')⟩
  rintro ⟨v3, v5, v6, v7, hh⟩ L ⟨e3, e5, e6, k, hk, e7, f1, f2, f3⟩ ih
  dsimp only at e3 e5 e6 e7 f1 f2 f3 ih
  subst e3 e5 e6 e7
  unfold stMod_take_65
  dsimp only
  rw [znc (show e < 2147483648 by omega), f2 13 e (by omega), hm', znc (show a < 2147483648 by omega)]
  refine ⟨zin_nI (by omega) (by omega), pk_le m k (fun q => ?_) (fun q => ?_)⟩
  · have : k = m := by omega
    subst this
    refine ⟨zin_nI (by omega) (by omega), fun h168 e168 => ⟨zin_nI (by omega) (by omega), fun h180 e180 => ?_⟩⟩
    have w : h168 0 11 = nI (sz + k) := by rw [e168, zuo (by decide), f1]
    obtain ⟨q, eq⟩ : ∃ q, sz + k = q + 1 := ⟨sz + k - 1, by omega⟩
    rw [w, eq, nI_pred] at e180
    refine hp h180 (fun r t hr => ?_) ?_ ?_ ?_ ?_ (fun s hs => ⟨?_, ?_⟩) ?_
    · rw [e180, zuo (by omega), e168, zuo (by omega)]; exact f2 r t (by omega)
    · rw [e180, zuo (by decide), e168, zuo (by decide)]; exact f2 0 0 (by omega)
    · rw [e180, zuo (by decide), e168, zuo (by decide)]; exact f1
    · rw [e180, zuo (by decide), e168, zux]
    · rw [e180, zux, eq]; rfl
    · rw [e180, zuo (by decide), e168, zun (Or.inr hs)]; exact f2 11 s (by omega)
    · rw [e180, zun (Or.inr hs), e168, zuo (by decide)]; exact f2 12 s (by omega)
    · rw [e180, zuo (by decide), zuo (by decide), zuo (by decide), e168, zuo (by decide), zuo (by decide), zuo (by decide)]; exact f3
  · rw [f1, zn10, nI_add]
    refine m_copyFrom (by omega) (by omega) _ (fun gk k1 k2 k3 y99 e99 => ?_)
    have E : ∀ r, 14 ≤ r → r ≤ 16 → hh r = g r := fun r r1 r2 => funext fun t => f2 r t (by omega)
    rw [E 14 (by omega) (by omega), E 15 (by omega) (by omega), E 16 (by omega) (by omega)] at k3
    have k3 := mCp_sq k3 (hE k (by omega))
    have w11 : gk 0 11 = nI (sz + k) := by rw [k1 0 11 (by decide) (by decide) (by decide), f1]
    rw [w11, zn2] at e99
    subst e99
    refine zL_rule (fun (s : Int32 × Int32 × Int32 × Int32 × Int32 × zM) => s.1 = nI a ∧ s.2.1 = nI e ∧ s.2.2.1 = nI sz ∧ s.2.2.2.1 = nI k ∧ (∀ r t, r ≠ 10 → s.2.2.2.2.2 r t = gk r t) ∧ (∀ t, t < 2 * (sz + k) ∨ 2 * (sz + k) + 2 ≤ t → s.2.2.2.2.2 10 t = gk 10 t) ∧ ∃ i : Nat, i ≤ 2 ∧ s.2.2.2.2.1 = nI (2 * (sz + k) + i) ∧ (∀ a', i ≤ a' → s.2.2.2.2.2 10 (2 * (sz + k) + a') = gk 10 (2 * (sz + k) + a')) ∧ ∀ a', a' < i → s.2.2.2.2.2 10 (2 * (sz + k) + a') = gk 10 (2 * (sz + k) + a') + (if gk 9 (2 * (sz + k) + a') = 0 then nI sz else 0)) (fun s => 2 * (sz + k) + 2 - s.2.2.2.2.1.toNatClampNeg) ?_ (nI a, nI e, nI sz, nI k, nI (2 * (sz + k)), gk) ⟨rfl, rfl, rfl, rfl, fun _ _ _ => rfl, fun _ _ => rfl, 0, by omega, rfl, fun _ _ => rfl, fun a' ha' => by omega⟩
    rintro ⟨w3, w5, w6, w7, w8, h8⟩ L8 ⟨e3, e5, e6, e7, c1, c2, i, hi, e8, c3, c4⟩ ih8
    dsimp only at e3 e5 e6 e7 e8 c1 c2 c3 c4 ih8
    subst e3 e5 e6 e7 e8
    unfold stMod_take_101
    dsimp only
    rw [c1 0 11 (by decide), w11, zn2, zp2, zp1, znc (show 2 * (sz + k) + i < 2147483648 by omega), c1 9 _ (by decide)]
    refine pk_le (2 * (sz + k) + 2) (2 * (sz + k) + i) (fun q2 h153 e153 => ?_) (fun q2 => ?_)
    · have : i = 2 := by omega
      subst this
      rw [zp1]
      refine ih _ ⟨rfl, rfl, rfl, k + 1, by omega, rfl, ?_, fun r t hr => ?_, fun k' hk' => ?_⟩ ?_
      · show h153 0 11 = _
        rw [e153, zux]; rfl
      · show h153 r t = _
        rw [e153, zun (by omega), c1 r t (by omega), k1 r t (by omega) (by omega) (by omega)]; exact f2 r t hr
      · show mSq _ (h153 8) (h153 9) (h153 10) k' k'
        rw [e153, zuo (by decide), zuo (by decide), zuo (by decide)]
        by_cases w : k' = sz + k
        · subst w
          refine ⟨?_, fun a' ha' => ?_⟩
          · rw [c1 8 _ (by decide), zapp_op]; exact k3.1
          · rw [c1 9 _ (by decide), c4 a' ha', zapp_f ha', zapp_v ha']
            exact zAq_add (k3.2 a' ha')
        · refine mCp_sq (mCp_tr (k2 k' w) ?_) (f3 k' (by omega))
          exact ⟨c1 8 _ (by decide), fun a' ha' => ⟨c1 9 _ (by decide), c2 _ (by omega)⟩⟩
      · dsimp only
        rw [znc (by omega), znc (by omega)]
        omega
    · have iv : vp_in (nI (2 * (sz + k) + i)) 40 := zin_nI (by omega) (by omega)
      have nxt : ∀ v3 : Int32, v3 = (if gk 9 (2 * (sz + k) + i) = 0 then nI sz else 0) → wbMod_take_138 post L L8 (nI a) (nI e) (nI sz) (nI k) (nI (2 * (sz + k) + i)) (nI (2 * (sz + k) + i)) (h8 10 (2 * (sz + k) + i)) v3 h8 := by
        intro v3 ev
        unfold wbMod_take_138
        refine ⟨iv, fun h139 e139 => ?_⟩
        rw [znc (by omega), c3 i (Nat.le_refl _)] at e139
        rw [zp1]
        refine ih8 _ ⟨rfl, rfl, rfl, rfl, fun r t hr => ?_, fun t ht => ?_, i + 1, by omega, rfl, fun a' ha' => ?_, fun a' ha' => ?_⟩ ?_
        · show h139 r t = _
          rw [e139, zuo hr]; exact c1 r t hr
        · show h139 10 t = _
          rw [e139, zun (by omega)]; exact c2 t ht
        · show h139 10 _ = _
          rw [e139, zun (by omega)]; exact c3 a' (by omega)
        · show h139 10 _ = _
          rw [e139]
          by_cases w : a' = i
          · subst w; rw [zux, ev]
          · rw [zun (by omega)]; exact c4 a' (by omega)
        · dsimp only
          rw [znc (by omega), znc (by omega)]
          omega
      refine ⟨iv, iv, fun z => nxt 0 (if_neg z).symm, fun z => nxt _ (if_pos z).symm⟩
theorem m_take {n : Nat} {ln : Nat → Nat} {h g : zM} {nc no sz a t r : Nat} {c : Nat → Int32} (hB : zBk n ln h g nc no) (ht : t ≤ nc) (hr : r < zoc h t n) (ha : a < 2) (hsz : g 0 11 = nI sz) (h9 : sz ≤ 9) (hm : ∀ k, k < sz → mSq c (g 8) (g 9) (g 10) k k) (post : zM → Prop) (hp : ∀ e m g', e < n → zoff h t e → zoc h t e = r → h (34 + 4 * e + 1) 0 = nI m → 1 ≤ m → m ≤ 10 → mGf g g' → g' 0 0 = g 0 0 → g' 0 11 = nI (sz + m) → g' 11 a = 0 → g' 12 a = nI (sz + m - 1) → (∀ s, s ≠ a → g' 11 s = g 11 s ∧ g' 12 s = g 12 s) → (∀ k, k < sz + m → mSq (zapp c sz (h (34 + 4 * e + 1 + 1))) (g' 8) (g' 9) (g' 10) k k) → post g') : wpMod_take (nI t) (nI r) (nI a) g post := by
  have n40 := hB.2.1
  unfold wpMod_take
  refine zL_rule (fun s => s.1 = nI t ∧ s.2.1 = nI a ∧ s.2.2.2.2 = g ∧ ∃ e : Nat, e ≤ n ∧ zoc h t e ≤ r ∧ s.2.2.1 = nI (r - zoc h t e) ∧ s.2.2.2.1 = nI e) (fun s => n - s.2.2.2.1.toNatClampNeg) ?_ (nI t, nI a, nI r, 0, g) ⟨rfl, rfl, rfl, 0, by omega, Nat.zero_le _, rfl, rfl⟩
  rintro ⟨v1, v3, v4, v5, hh⟩ L ⟨e1, e3, eh, e, he, hz, e4, e5⟩ ih
  dsimp only at e1 e3 e4 e5 eh ih
  subst e1 e3 e4 e5 eh
  have hrn : r < 40 := by have := zoc_le (h := h) (t := t) n; omega
  have hen : e < n := by
    rcases Nat.lt_or_ge e n with w | w
    · exact w
    · have : e = n := by omega
      subst this
      omega
  unfold stMod_take_6
  dsimp only
  rw [hB.2.2.1]
  refine pk_le n e (fun q => by omega) (fun q => ?_)
  have nxt : ∀ y : Int32, zoc h t (e + 1) ≤ r → y = nI (r - zoc h t (e + 1)) → L (nI t, nI a, y, nI e + 1, hh) := by
    intro y hle ey
    rw [zp1]
    refine ih _ ⟨rfl, rfl, rfl, e + 1, by omega, hle, ey, rfl⟩ ?_
    dsimp only
    rw [znc (by omega), znc (by omega)]
    omega
  have t30 : (zoff h t e → zoc h t e < r) → wbMod_take_30 post L (nI t) (nI a) (nI (r - zoc h t e)) (nI e) hh := by
    intro hlt
    unfold wbMod_take_30 wbMod_take_47
    refine zEnt_off hB hen ht _ (fun z => ⟨fun _ y48 e48 => nxt y48 (by rw [zoc_f z]; exact hz) ?_, fun w => absurd rfl w⟩) (fun z => ⟨fun w => absurd w (by decide), fun _ y48 e48 => nxt y48 (by rw [zoc_t z]; exact hlt z) ?_⟩)
    · rw [e48, zoc_f z, Int32.sub_zero]
    · have := hlt z
      rw [e48, zoc_t z, show r - zoc h t e = (r - (zoc h t e + 1)) + 1 by omega, nI_pred]
  refine zEnt_off hB hen ht _ (fun z => ⟨fun _ => t30 (fun w => absurd w z), fun w => absurd rfl w⟩) (fun z => ⟨fun w => absurd w (by decide), fun _ => pk_eq (r - zoc h t e) 0 (fun w => ?_) (fun w => t30 (fun _ => by omega))⟩)
  obtain ⟨m, out, det, a1, a2, a3, a4, a5, a6, -⟩ := hB.2.2.2 e hen
  exact m_take2 hB hen a4 a2 a6 ha hsz h9 a1 hm post (fun g' k1 k2 k3 k4 k5 k6 k7 => hp e m g' hen z (by omega) a3 a1 a2 k1 k2 k3 k4 k5 k6 k7)
