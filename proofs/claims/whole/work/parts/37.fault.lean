/-! codes and faults -/
noncomputable def zdec (P : Prop) : Bool := @decide P (Classical.propDecidable P)
theorem zdec_t {P : Prop} (h : P) : zdec P = true := by
  unfold zdec
  exact @decide_eq_true P (Classical.propDecidable P) h
theorem zdec_f {P : Prop} (h : ¬ P) : zdec P = false := by
  unfold zdec
  exact @decide_eq_false P (Classical.propDecidable P) h
def zcode (K x : zM) (i : Nat) : Int32 := if K 4 (Int32.toNatClampNeg (x 0 i)) = 0 then x 1 i else if K 4 (Int32.toNatClampNeg (x 0 i)) = 1 then 7 else if K 4 (Int32.toNatClampNeg (x 0 i)) = 2 then nI i else 31 * x 1 i + x 0 i
noncomputable def zpr (K x : zM) (a b : Nat) : Int32 := if zdec (zequ K x 10 a b) = zdec (zequ K x 10 b a) then (if zdec (zequ K x 10 a b) = true then (if zcode K x a = zcode K x b then 0 else 3) else 0) else 2
noncomputable def zinn (K x : zM) (a : Nat) : Nat → Nat → Int32
  | 0, _ => 0
  | m + 1, b => if zpr K x a b = 0 then zinn K x a m (b + 1) else zpr K x a b
noncomputable def zout (K x : zM) (cnt : Nat) : Nat → Nat → Int32
  | 0, _ => 0
  | m + 1, a => if zinn K x a (cnt - (a + 1)) (a + 1) = 0 then zout K x cnt m (a + 1) else zinn K x a (cnt - (a + 1)) (a + 1)
noncomputable def zself (K x : zM) : Nat → Nat → Bool
  | 0, _ => true
  | m + 1, a => if zdec (zequ K x 10 a a) = true then zself K x m (a + 1) else false
noncomputable def zfault (K x : zM) (cnt : Nat) : Int32 := if zself K x cnt 0 = true then zout K x cnt cnt 0 else 1
theorem z_code {n : Nat} {ln : Nat → Nat} {h x : zM} {nc cnt : Nat} (hA : zAg h cnt x) (hv : zHv nc cnt x) (hn : nc ≤ 4) {i : Nat} (hi : i < cnt) (post : Int32 → zM → Prop) (hp : post (zcode h x i) h) : wpHeap_code n ln (nI i) h post := by
  have hc := hv.1
  unfold wpHeap_code
  have ii : vp_in (nI i) 10 := zin_nI (by omega) (by omega)
  rw [znc (show i < 2147483648 by omega), (hA.2 i hi).1, (hA.2 i hi).2.1]
  obtain ⟨⟨c, c1, c2, ec⟩, -, -⟩ := hv.2 i hi
  unfold zcode at hp
  refine ⟨ii, by rw [ec]; exact zin_nI (by omega) (by omega), fun q => ⟨ii, ?_⟩, fun q => ⟨fun q2 => ?_, fun q2 => ⟨fun q3 => ?_, fun q3 => ⟨ii, ii, ?_⟩⟩⟩⟩
  · rwa [if_pos q] at hp
  · rwa [if_neg q, if_pos q2] at hp
  · rwa [if_neg q, if_neg q2, if_pos q3] at hp
  · rwa [if_neg q, if_neg q2, if_neg q3] at hp
theorem m_code {h g x : zM} {nc cnt : Nat} (hA : mAg g cnt x) (hv : zHv nc cnt x) (hn : nc ≤ 4) (hg : ∀ i, 1 ≤ i → i ≤ nc → h 4 i = g 3 i) {i : Nat} (hi : i < cnt) (post : Int32 → zM → Prop) (hp : post (zcode h x i) g) : wpMod_codeOf (nI i) g post := by
  have hc := hv.1
  unfold wpMod_codeOf
  have ii : vp_in (nI i) 10 := zin_nI (by omega) (by omega)
  rw [znc (show i < 2147483648 by omega), (hA.2 i hi).1, (hA.2 i hi).2.1]
  obtain ⟨⟨c, c1, c2, ec⟩, -, -⟩ := hv.2 i hi
  have em : g 3 (Int32.toNatClampNeg (x 0 i)) = h 4 (Int32.toNatClampNeg (x 0 i)) := by
    rw [ec, znc (by omega)]
    exact (hg c c1 c2).symm
  rw [em]
  unfold zcode at hp
  refine ⟨ii, by rw [ec]; exact zin_nI (by omega) (by omega), fun q => ⟨ii, ?_⟩, fun q => ⟨fun q2 => ?_, fun q2 => ⟨fun q3 => ?_, fun q3 => ⟨ii, ii, ?_⟩⟩⟩⟩
  · rwa [if_pos q] at hp
  · rwa [if_neg q, if_pos q2] at hp
  · rwa [if_neg q, if_neg q2, if_pos q3] at hp
  · rwa [if_neg q, if_neg q2, if_neg q3] at hp
theorem z_pair {n : Nat} {ln : Nat → Nat} {h x : zM} {nc cnt : Nat} (hA : zAg h cnt x) (hv : zHv nc cnt x) (hp : zPar h nc) (hn : nc ≤ 4) {a b : Nat} (ha : a < cnt) (hb : b < cnt) (post : Int32 → zM → Prop) (hq : post (zpr h x a b) h) : wpHeap_faultOfPair n ln (nI a) (nI b) h post := by
  unfold wpHeap_faultOfPair
  unfold zpr at hq
  refine z_equal hA hv hp hn ha hb _ (fun e1 => ?_) (fun e1 => ?_) <;> refine z_equal hA hv hp hn hb ha _ (fun e2 => ?_) (fun e2 => ?_)
  · rw [zdec_f e1, zdec_f e2, if_pos rfl, if_neg (by decide)] at hq
    exact ⟨fun _ => ⟨fun _ => hq, fun q => absurd rfl q⟩, fun q => absurd rfl q⟩
  · rw [zdec_f e1, zdec_t e2, if_neg (by decide)] at hq
    exact ⟨fun q => absurd q (by decide), fun _ => hq⟩
  · rw [zdec_t e1, zdec_f e2, if_neg (by decide)] at hq
    exact ⟨fun q => absurd q (by decide), fun _ => hq⟩
  · rw [zdec_t e1, zdec_t e2, if_pos rfl, if_pos rfl] at hq
    refine ⟨fun _ => ⟨fun q => absurd q (by decide), fun _ => z_code hA hv hn ha _ (z_code hA hv hn hb _ ⟨fun q => ?_, fun q => ?_⟩)⟩, fun q => absurd rfl q⟩
    · rwa [if_pos q] at hq
    · rwa [if_neg q] at hq
theorem z_findFault {n : Nat} {ln : Nat → Nat} {h x : zM} {nc cnt : Nat} (hA : zAg h cnt x) (hv : zHv nc cnt x) (hp : zPar h nc) (hn : nc ≤ 4) (post : Int32 → zM → Prop) (hq : post (zfault h x cnt) h) : wpHeap_findFault n ln h post := by
  have hc := hv.1
  unfold wpHeap_findFault
  unfold zfault at hq
  have inner : ∀ (L29 : (Int32 × zM) → Prop) (a b : Nat), a < cnt → b ≤ cnt → (zinn h x a (cnt - b) b = 0 → L29 (nI (a + 1), h)) → (zinn h x a (cnt - b) b ≠ 0 → post (zinn h x a (cnt - b) b) h) → zL (stHeap_findFault_41 n ln post L29) (nI a, nI b, h) := by
    intro L29 a b ha hb k0 k1
    refine zL_rule (fun s => ∃ b' : Nat, s = (nI a, nI b', h) ∧ b' ≤ cnt ∧ zinn h x a (cnt - b') b' = zinn h x a (cnt - b) b) (fun s => cnt + 1 - s.2.1.toNatClampNeg) ?_ (nI a, nI b, h) ⟨b, rfl, hb, rfl⟩
    rintro s L ⟨b', rfl, hb', e⟩ ih
    unfold stHeap_findFault_41
    dsimp only at ih ⊢
    rw [hA.1]
    refine ⟨fun q1 => ?_, fun q1 => ?_⟩
    · rw [zle, znI (by omega), znI (by omega)] at q1
      rw [show cnt - b' = 0 by omega] at e
      rw [nI_1]
      exact k0 e.symm
    · rw [zle, znI (by omega), znI (by omega)] at q1
      obtain ⟨m, hm⟩ : ∃ m, cnt - b' = m + 1 := ⟨cnt - b' - 1, by omega⟩
      rw [hm] at e
      have e' : (if zpr h x a b' = 0 then zinn h x a m (b' + 1) else zpr h x a b') = zinn h x a (cnt - b) b := e
      refine z_pair hA hv hp hn ha (by omega) _ ⟨fun z => ?_, fun z => ?_⟩
      · rw [if_pos z] at e'
        rw [nI_1]
        refine ih _ ⟨b' + 1, rfl, by omega, by rw [show cnt - (b' + 1) = m by omega]; exact e'⟩ ?_
        dsimp only
        rw [znc (by omega), znc (by omega)]
        omega
      · rw [if_neg z] at e'
        rw [e'] at z ⊢
        exact k1 z
  have outer : ∀ a : Nat, a ≤ cnt → post (zout h x cnt (cnt - a) a) h → zL (stHeap_findFault_29 n ln post) (nI a, h) := by
    intro a ha hpo
    refine zL_rule (fun s => ∃ a' : Nat, s = (nI a', h) ∧ a' ≤ cnt ∧ zout h x cnt (cnt - a') a' = zout h x cnt (cnt - a) a) (fun s => cnt + 1 - s.1.toNatClampNeg) ?_ (nI a, h) ⟨a, rfl, ha, rfl⟩
    rintro s L ⟨a', rfl, ha', e⟩ ih
    unfold stHeap_findFault_29
    dsimp only at ih ⊢
    rw [hA.1]
    refine ⟨fun q1 => ?_, fun q1 y40 e40 => ?_⟩
    · rw [zle, znI (by omega), znI (by omega)] at q1
      rw [show cnt - a' = 0 by omega] at e
      rw [← e] at hpo
      exact hpo
    · rw [zle, znI (by omega), znI (by omega)] at q1
      obtain ⟨m, hm⟩ : ∃ m, cnt - a' = m + 1 := ⟨cnt - a' - 1, by omega⟩
      rw [hm] at e
      have e' : (if zinn h x a' (cnt - (a' + 1)) (a' + 1) = 0 then zout h x cnt m (a' + 1) else zinn h x a' (cnt - (a' + 1)) (a' + 1)) = zout h x cnt (cnt - a) a := e
      rw [nI_1] at e40
      subst e40
      refine inner L a' (a' + 1) (by omega) (by omega) (fun z => ?_) (fun z => ?_)
      · rw [if_pos z] at e'
        refine ih _ ⟨a' + 1, rfl, by omega, by rw [show cnt - (a' + 1) = m by omega]; exact e'⟩ ?_
        dsimp only
        rw [znc (by omega), znc (by omega)]
        omega
      · rw [if_neg z] at e'
        rw [e']
        exact hpo
  refine zL_rule (fun s => ∃ a' : Nat, s = (nI a', h) ∧ a' ≤ cnt ∧ zself h x (cnt - a') a' = zself h x cnt 0) (fun s => cnt + 1 - s.1.toNatClampNeg) ?_ (0, h) ⟨0, rfl, by omega, rfl⟩
  rintro s L ⟨a', rfl, ha', e⟩ ih
  unfold stHeap_findFault_2
  dsimp only at ih ⊢
  rw [hA.1]
  refine ⟨fun q1 => ?_, fun q1 => ?_⟩
  · rw [zle, znI (by omega), znI (by omega)] at q1
    rw [show cnt - a' = 0 by omega] at e
    have e : true = zself h x cnt 0 := e
    rw [if_pos e.symm] at hq
    exact outer 0 (by omega) hq
  · rw [zle, znI (by omega), znI (by omega)] at q1
    obtain ⟨m, hm⟩ : ∃ m, cnt - a' = m + 1 := ⟨cnt - a' - 1, by omega⟩
    rw [hm] at e
    have e' : (if zdec (zequ h x 10 a' a') = true then zself h x m (a' + 1) else false) = zself h x cnt 0 := e
    refine z_equal hA hv hp hn (by omega) (by omega) _ (fun z => ⟨fun q => absurd rfl q, fun _ => ?_⟩) (fun z => ⟨fun _ => ?_, fun q => absurd q (by decide)⟩)
    · rw [zdec_f z, if_neg (by decide)] at e'
      rw [← e', if_neg (by decide)] at hq
      exact hq
    · rw [zdec_t z, if_pos rfl] at e'
      rw [nI_1]
      refine ih _ ⟨a' + 1, rfl, by omega, by rw [show cnt - (a' + 1) = m by omega]; exact e'⟩ ?_
      dsimp only
      rw [znc (by omega), znc (by omega)]
      omega
theorem m_unsound {h g x : zM} {nc cnt : Nat} (hA : mAg g cnt x) (hv : zHv nc cnt x) (hp : zPar h nc) (hn : nc ≤ 4) (hg : ∀ i, 1 ≤ i → i ≤ nc → h 2 i = g 1 i ∧ h 3 i = g 2 i ∧ h 4 i = g 3 i) (post : Int32 → zM → Prop) (hq : post (zfault h x cnt) g) : wpMod_unsound g post := by
  have hc := hv.1
  have hg1 : ∀ i, 1 ≤ i → i ≤ nc → h 2 i = g 1 i ∧ h 3 i = g 2 i := fun i a b => ⟨(hg i a b).1, (hg i a b).2.1⟩
  have hg3 : ∀ i, 1 ≤ i → i ≤ nc → h 4 i = g 3 i := fun i a b => (hg i a b).2.2
  unfold wpMod_unsound
  unfold zfault at hq
  have inner : ∀ (L29 : (Int32 × zM) → Prop) (a b : Nat), a < cnt → b ≤ cnt → (zinn h x a (cnt - b) b = 0 → L29 (nI (a + 1), g)) → (zinn h x a (cnt - b) b ≠ 0 → post (zinn h x a (cnt - b) b) g) → zL (stMod_unsound_41 post L29) (nI a, nI b, g) := by
    intro L29 a b ha hb k0 k1
    refine zL_rule (fun s => ∃ b' : Nat, s = (nI a, nI b', g) ∧ b' ≤ cnt ∧ zinn h x a (cnt - b') b' = zinn h x a (cnt - b) b) (fun s => cnt + 1 - s.2.1.toNatClampNeg) ?_ (nI a, nI b, g) ⟨b, rfl, hb, rfl⟩
    rintro s L ⟨b', rfl, hb', e⟩ ih
    unfold stMod_unsound_41 wbMod_unsound_87
    dsimp only at ih ⊢
    rw [hA.1]
    refine ⟨fun q1 => ?_, fun q1 => ?_⟩
    · rw [zle, znI (by omega), znI (by omega)] at q1
      rw [show cnt - b' = 0 by omega] at e
      rw [nI_1]
      exact k0 e.symm
    · rw [zle, znI (by omega), znI (by omega)] at q1
      obtain ⟨m, hm⟩ : ∃ m, cnt - b' = m + 1 := ⟨cnt - b' - 1, by omega⟩
      rw [hm] at e
      have e' : (if zpr h x a b' = 0 then zinn h x a m (b' + 1) else zpr h x a b') = zinn h x a (cnt - b) b := e
      have hb2 : b' < cnt := by omega
      rw [nI_1]
      have goon : zpr h x a b' = 0 → L (nI a, nI (b' + 1), g) := fun z => by
        rw [if_pos z] at e'
        refine ih _ ⟨b' + 1, rfl, by omega, by rw [show cnt - (b' + 1) = m by omega]; exact e'⟩ ?_
        dsimp only
        rw [znc (by omega), znc (by omega)]
        omega
      have stop : ∀ r : Int32, zpr h x a b' = r → r ≠ 0 → post r g := fun r z z2 => by
        rw [if_neg (by rw [z]; exact z2), z] at e'
        rw [e'] at z2 ⊢
        exact k1 z2
      refine m_equal hA hv hp hn hg1 ha hb2 _ (fun e1 => ?_) (fun e1 => ?_) <;> refine m_equal hA hv hp hn hg1 hb2 ha _ (fun e2 => ?_) (fun e2 => ?_)
      · exact ⟨fun _ => ⟨fun _ => goon (by unfold zpr; rw [zdec_f e1, zdec_f e2, if_pos rfl, if_neg (by decide)]), fun q => absurd rfl q⟩, fun q => absurd rfl q⟩
      · exact ⟨fun q => absurd q (by decide), fun _ => stop 2 (by unfold zpr; rw [zdec_f e1, zdec_t e2, if_neg (by decide)]) (by decide)⟩
      · exact ⟨fun q => absurd q (by decide), fun _ => stop 2 (by unfold zpr; rw [zdec_t e1, zdec_f e2, if_neg (by decide)]) (by decide)⟩
      · refine ⟨fun _ => ⟨fun q => absurd q (by decide), fun _ => m_code hA hv hn hg3 ha _ (m_code hA hv hn hg3 hb2 _ ⟨fun q => goon ?_, fun q => stop 3 ?_ (by decide)⟩)⟩, fun q => absurd rfl q⟩
        · unfold zpr; rw [zdec_t e1, zdec_t e2, if_pos rfl, if_pos rfl, if_pos q]
        · unfold zpr; rw [zdec_t e1, zdec_t e2, if_pos rfl, if_pos rfl, if_neg q]
  have outer : ∀ a : Nat, a ≤ cnt → post (zout h x cnt (cnt - a) a) g → zL (stMod_unsound_29 post) (nI a, g) := by
    intro a ha hpo
    refine zL_rule (fun s => ∃ a' : Nat, s = (nI a', g) ∧ a' ≤ cnt ∧ zout h x cnt (cnt - a') a' = zout h x cnt (cnt - a) a) (fun s => cnt + 1 - s.1.toNatClampNeg) ?_ (nI a, g) ⟨a, rfl, ha, rfl⟩
    rintro s L ⟨a', rfl, ha', e⟩ ih
    unfold stMod_unsound_29
    dsimp only at ih ⊢
    rw [hA.1]
    refine ⟨fun q1 => ?_, fun q1 y40 e40 => ?_⟩
    · rw [zle, znI (by omega), znI (by omega)] at q1
      rw [show cnt - a' = 0 by omega] at e
      rw [← e] at hpo
      exact hpo
    · rw [zle, znI (by omega), znI (by omega)] at q1
      obtain ⟨m, hm⟩ : ∃ m, cnt - a' = m + 1 := ⟨cnt - a' - 1, by omega⟩
      rw [hm] at e
      have e' : (if zinn h x a' (cnt - (a' + 1)) (a' + 1) = 0 then zout h x cnt m (a' + 1) else zinn h x a' (cnt - (a' + 1)) (a' + 1)) = zout h x cnt (cnt - a) a := e
      rw [nI_1] at e40
      subst e40
      refine inner L a' (a' + 1) (by omega) (by omega) (fun z => ?_) (fun z => ?_)
      · rw [if_pos z] at e'
        refine ih _ ⟨a' + 1, rfl, by omega, by rw [show cnt - (a' + 1) = m by omega]; exact e'⟩ ?_
        dsimp only
        rw [znc (by omega), znc (by omega)]
        omega
      · rw [if_neg z] at e'
        rw [e']
        exact hpo
  refine zL_rule (fun s => ∃ a' : Nat, s = (nI a', g) ∧ a' ≤ cnt ∧ zself h x (cnt - a') a' = zself h x cnt 0) (fun s => cnt + 1 - s.1.toNatClampNeg) ?_ (0, g) ⟨0, rfl, by omega, rfl⟩
  rintro s L ⟨a', rfl, ha', e⟩ ih
  unfold stMod_unsound_2
  dsimp only at ih ⊢
  rw [hA.1]
  refine ⟨fun q1 => ?_, fun q1 => ?_⟩
  · rw [zle, znI (by omega), znI (by omega)] at q1
    rw [show cnt - a' = 0 by omega] at e
    have e : true = zself h x cnt 0 := e
    rw [if_pos e.symm] at hq
    exact outer 0 (by omega) hq
  · rw [zle, znI (by omega), znI (by omega)] at q1
    obtain ⟨m, hm⟩ : ∃ m, cnt - a' = m + 1 := ⟨cnt - a' - 1, by omega⟩
    rw [hm] at e
    have e' : (if zdec (zequ h x 10 a' a') = true then zself h x m (a' + 1) else false) = zself h x cnt 0 := e
    refine m_equal hA hv hp hn hg1 (show a' < cnt by omega) (by omega) _ (fun z => ⟨fun q => absurd rfl q, fun _ => ?_⟩) (fun z => ⟨fun _ => ?_, fun q => absurd q (by decide)⟩)
    · rw [zdec_f z, if_neg (by decide)] at e'
      rw [← e', if_neg (by decide)] at hq
      exact hq
    · rw [zdec_t z, if_pos rfl] at e'
      rw [nI_1]
      refine ih _ ⟨a' + 1, rfl, by omega, by rw [show cnt - (a' + 1) = m by omega]; exact e'⟩ ?_
      dsimp only
      rw [znc (by omega), znc (by omega)]
      omega
