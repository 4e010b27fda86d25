/-! words of the tables by their places; printed by wip/whole/gen/gen.py -/
theorem dTop_seek_0 : decode bTop_seek 0 = .ok (.iload_n 1, 1) := by decide +kernel
theorem dTop_seek_1 : decode bTop_seek 1 = .ok (.iconst 1, 1) := by decide +kernel
theorem dTop_seek_2 : decode bTop_seek 2 = .ok (.if_icmp .lt 9, 3) := by decide +kernel
theorem dTop_seek_5 : decode bTop_seek 5 = .ok (.iload_n 1, 1) := by decide +kernel
theorem dTop_seek_6 : decode bTop_seek 6 = .ok (.bipush 20, 2) := by decide +kernel
theorem dTop_seek_8 : decode bTop_seek 8 = .ok (.if_icmp .le 5, 3) := by decide +kernel
theorem dTop_seek_11 : decode bTop_seek 11 = .ok (.iconst (-1), 1) := by decide +kernel
theorem dTop_seek_12 : decode bTop_seek 12 = .ok (.ireturn, 1) := by decide +kernel
theorem dTop_seek_13 : decode bTop_seek 13 = .ok (.iconst 0, 1) := by decide +kernel
theorem dTop_seek_14 : decode bTop_seek 14 = .ok (.istore_n 2, 1) := by decide +kernel
theorem dTop_seek_15 : decode bTop_seek 15 = .ok (.iload_n 2, 1) := by decide +kernel
theorem dTop_seek_16 : decode bTop_seek 16 = .ok (.iload_n 1, 1) := by decide +kernel
theorem dTop_seek_17 : decode bTop_seek 17 = .ok (.if_icmp .ge 46, 3) := by decide +kernel
theorem dTop_seek_20 : decode bTop_seek 20 = .ok (.aload_n 0, 1) := by decide +kernel
theorem dTop_seek_21 : decode bTop_seek 21 = .ok (.getfield 21, 3) := by decide +kernel
theorem dTop_seek_24 : decode bTop_seek 24 = .ok (.aload_n 0, 1) := by decide +kernel
theorem dTop_seek_25 : decode bTop_seek 25 = .ok (.getfield 37, 3) := by decide +kernel
theorem dTop_seek_28 : decode bTop_seek 28 = .ok (.invokevirtual 75, 3) := by decide +kernel
theorem dTop_seek_31 : decode bTop_seek 31 = .ok (.invokevirtual 79, 3) := by decide +kernel
theorem dTop_seek_34 : decode bTop_seek 34 = .ok (.astore_n 3, 1) := by decide +kernel
theorem dTop_seek_35 : decode bTop_seek 35 = .ok (.aload_n 3, 1) := by decide +kernel
theorem dTop_seek_36 : decode bTop_seek 36 = .ok (.ifnull 21, 3) := by decide +kernel
theorem dTop_seek_39 : decode bTop_seek 39 = .ok (.aload_n 3, 1) := by decide +kernel
theorem dTop_seek_40 : decode bTop_seek 40 = .ok (.getfield 83, 3) := by decide +kernel
theorem dTop_seek_43 : decode bTop_seek 43 = .ok (.iconst 3, 1) := by decide +kernel
theorem dTop_seek_44 : decode bTop_seek 44 = .ok (.if_icmp .ne 13, 3) := by decide +kernel
theorem dTop_seek_47 : decode bTop_seek 47 = .ok (.aload_n 0, 1) := by decide +kernel
theorem dTop_seek_48 : decode bTop_seek 48 = .ok (.getfield 21, 3) := by decide +kernel
theorem dTop_seek_51 : decode bTop_seek 51 = .ok (.getfield 89, 3) := by decide +kernel
theorem dTop_seek_54 : decode bTop_seek 54 = .ok (.iconst 1, 1) := by decide +kernel
theorem dTop_seek_55 : decode bTop_seek 55 = .ok (.isub, 1) := by decide +kernel
theorem dTop_seek_56 : decode bTop_seek 56 = .ok (.ireturn, 1) := by decide +kernel
theorem dTop_seek_57 : decode bTop_seek 57 = .ok (.iinc 2 1, 3) := by decide +kernel
theorem dTop_seek_60 : decode bTop_seek 60 = .ok (.goto (-45), 3) := by decide +kernel
theorem dTop_seek_63 : decode bTop_seek 63 = .ok (.iconst (-1), 1) := by decide +kernel
theorem dTop_seek_64 : decode bTop_seek 64 = .ok (.ireturn, 1) := by decide +kernel
def stTop_seek_15 (x1 : Int32) (post : Int32 → Nat → (Nat → Nat) → zM → Prop) (L15 : (Int32 × Nat × (Nat → Nat) × zM) → Prop) : (Int32 × Nat × (Nat → Nat) × zM) → Prop := fun s => match s with
  | (v2, n, ln, h) => ((x1 ≤ v2 → post (-1) n ln h) ∧ (¬ x1 ≤ v2 → wpGrower_grow n ln h (fun r28 n1 ln1 h28 => wpBook_get n1 ln1 r28 h28 (fun r h31 => (r = none → L15 (v2 + 1, n1, ln1, h31)) ∧ ∀ jr : Nat, r = some jr → jr < n1 ∧ ((¬ h31 (34 + 4 * jr) 1 = 3 → L15 (v2 + 1, n1, ln1, h31)) ∧ (h31 (34 + 4 * jr) 1 = 3 → post (h31 9 1 - 1) n1 ln1 h31))))))
def wpTop_seek (n : Nat) (ln : Nat → Nat) (x1 : Int32) (h : zM) (post : Int32 → Nat → (Nat → Nat) → zM → Prop) : Prop := ((x1 < 1 → post (-1) n ln h) ∧ (¬ x1 < 1 → ((x1 ≤ 20 → zL (stTop_seek_15 x1 post) (0, n, ln, h)) ∧ (¬ x1 ≤ 20 → post (-1) n ln h))))
abbrev rmTop_seek : Room := { frames := 7, cells := 80, slots := 1580, locals := 162 }
set_option maxHeartbeats 8000000 in
set_option maxRecDepth 100000 in
theorem cTop_seek (l : Launch) (D : va_G) (cI cC cE : ClassId) (ad : Nat → Nat) (n : Nat) (ln : Nat → Nat) (A : Nat → Prop) (hJ : zJ A (34 + 4 * n) ad) (sz : Nat) (hA : ∀ q, sz ≤ q → A q) (x1 : Int32) (h : zM) (post : Int32 → Nat → (Nat → Nat) → zM → Prop) (hw : wpTop_seek n ln x1 h post) : Met l yTop_seek (.code yTop_seek bTop_seek 4 (some .int) :: zt) rmTop_seek (va_Pc [.ref (ad 0), .int x1] (zPa D (zty cI cC cE) (34 + 4 * n) ad (zF ad cI cC cE n ln) A sz h)) (va_Qi (zaP post n ad A) (zaB D cI cC cE) A) 80 1580 A := by
  refine Met.ofW (cc := bTop_seek) (maxL := 4) (ret := some .int) (by decide) rfl ?_
  intro p e s m args below meth c s₁ B hml hv
  obtain ⟨hargs, ⟨hP, hK, hT, hN⟩, hz⟩ := hv
  have hr := B.returns
  have hlk := B.notSynchronized
  have S : zS p m c bTop_seek 4 s args "CallExplorer" := ⟨B.exec, B.bytes, hml, findClass_of_methodNamed B.named, fun w hw => atoms_spec (ws := .code yTop_seek bTop_seek 4 (some .int) :: zt) B.pre w (List.mem_cons_of_mem _ hw)⟩
  have hS : va_S A s.heap s.heap [] := va_S.rf
  have hl := lv_entry ([.ref (ad 0), .int x1]) (n := 4) (Nat.le_of_ble_eq_true rfl)
  rw [show entryFrame m args 4 = entryFrame m ([.ref (ad 0), .int x1] : List Value).toArray 4 by rw [hargs], lg_entry_eq]
  generalize (lg_sl ([.ref (ad 0), .int x1]) ++ List.replicate (4 - (lg_sl ([.ref (ad 0), .int x1])).length) Slot.unset).toArray = ls at hl ⊢
  have hl : lv_has ls 4 [(0, .ref (ad 0)), (1, .int x1)] := hl
  show W p l e rmTop_seek s m args below meth c s.heap [] 0 0 (zQa post D cI cC cE n ad A below args s 80 1580) _
  have J15 : ∀ (hx : x1 ≤ 20) (fu : Nat) (j : Nat) (hj : j ≤ 20) (ad1 : Nat → Nat) (n1 : Nat) (ln1 : Nat → Nat) (h : zM) (H : Heap) (locs : List Loc) (ls : Array Slot), zl (stTop_seek_15 x1 post) fu (nI j, n1, ln1, h) → lv_has ls 4 [(0, .ref (ad1 0)), (1, .int x1), (2, .int (nI j))] → va_P D zcl (zW (34 + 4 * n1) ad1 (zF ad1 cI cC cE n1 ln1) h) H → va_S A s.heap H locs → zJ A (34 + 4 * n1) ad1 → n ≤ n1 → (∀ o, o < 34 + 4 * n → ad1 o = ad o) → W p l e rmTop_seek s m args below meth c H locs (4 * j) (79 * j) (zQa post D cI cC cE n ad A below args s 80 1580) (F0 m 15 ls []) := by
    intro hx fu
    induction fu with
    | zero =>
      intro j hj ad1 n1 ln1 h H locs ls hw
      exact (zl_0 hw).elim
    | succ fu ih =>
      intro j hj ad1 n1 ln1 h H locs ls hw hl hP hS hJ1 hn1 hag1
      have hw := zl_s hw
      generalize zl (stTop_seek_15 x1 post) fu = L15 at hw ih
      unfold stTop_seek_15 at hw
      dsimp only at hw
      refine lv_iload_n S.1 S.2.1 dTop_seek_15 rfl (lv_at hl 2 rfl) ?_
      refine lv_iload_n S.1 S.2.1 dTop_seek_16 rfl (lv_at hl 1 rfl) ?_
      refine lv_icmp_ge S.1 S.2.1 dTop_seek_17 rfl (fun hc => ?_) (fun hc => ?_)
      · have hw := hw.1 hc
        refine lv_iconst (v := -1) S.1 S.2.1 dTop_seek_63 (by decide) ?_
        refine W.widen (k := 80) (n := 1580) (by omega) (by omega) ?_
        exact zr_aret S hr hlk hK hP hS hJ1 hn1 hag1 hw dTop_seek_64
      · have hw := hw.2 hc
        have hj2 : j < 20 := by
          rcases Nat.lt_or_ge j 20 with h | h
          · exact h
          · exact absurd (show x1 ≤ nI j by rw [show j = 20 by omega]; exact hx) hc
        refine lv_aload_n S.1 S.2.1 dTop_seek_20 rfl (lv_at hl 0 rfl) ?_
        refine zr_get S hK hP (zk (by decide)) (zF_0 _) fTop_book q296 rfl dTop_seek_21 ?_
        refine lv_aload_n S.1 S.2.1 dTop_seek_24 rfl (lv_at hl 0 rfl) ?_
        refine zr_get S hK hP (zk (by decide)) (zF_0 _) fTop_grower q298 rfl dTop_seek_25 ?_
        refine va_calli (zg_VA (As := []) (rest := [.ref (ad1 9)]) S hK hT hN hP hS hz (zk (by decide)) (zF_19 _) rfl (cGrower_grow l D cI cC cE ad1 n1 ln1 A hJ1 sz hA _ _ hw) caTop_75 ⟨Nat.le_of_ble_eq_true rfl, Nat.le_of_ble_eq_true rfl⟩ ⟨rfl, rfl⟩ rfl hl.1 rfl (Nat.le_of_ble_eq_true rfl) dTop_seek_28 ⟨by show 4 * j + 4 ≤ 80; omega, by show 79 * j + 79 ≤ 1580; omega⟩) hS (fun _ _ h => h) (fun _ h => h) (fun r28 u t H1 locs ht hvm hp hB _ _ hS => ?_)
        obtain ⟨ad2, n2, ln2, h2⟩ := u
        obtain ⟨hw, hn2, hag2, hJ2⟩ := hp
        dsimp only at hw hn2 hag2 hJ2
        obtain ⟨hP, -⟩ := hB
        rw [ht] at hP
        dsimp only at hP
        rw [← hag2 9 (by omega)]
        have hl : lv_has ls 4 [(0, .ref (ad2 0)), (1, .int x1), (2, .int (nI j))] := by rw [hag2 0 (by omega)]; exact hl
        have hn3 : n ≤ n2 := Nat.le_trans hn1 hn2
        have hag3 : ∀ o, o < 34 + 4 * n → ad2 o = ad o := fun o ho => by rw [hag2 o (by omega), hag1 o ho]
        refine W.widen (k := 4 * (j + 1)) (n := 79 * (j + 1)) (by omega) (by omega) ?_
        refine va_calle (zg_V (As := [.int r28]) (rest := []) S hK hT hN hP hS (zk (by decide)) (zF_9 _) rfl (cBook_get l D cI cC cE ad2 n2 ln2 A hJ2 r28 _ _ hw) caTop_79 ⟨Nat.le_of_ble_eq_true rfl, Nat.le_of_ble_eq_true rfl⟩ ⟨rfl, rfl⟩ rfl hl.1 rfl (Nat.le_of_ble_eq_true rfl) dTop_seek_31 ⟨by show 4 * (j + 1) ≤ 80; omega, by show 79 * (j + 1) ≤ 1580; omega⟩) hS (fun _ _ h => h) (fun _ h => h) (fun r31 h31 t H1 locs ht hvm hw hB _ _ hS => ?_)
        obtain ⟨hP, -⟩ := hB
        rw [ht] at hP
        refine W.widen (k := 4 * (j + 1)) (n := 79 * (j + 1)) (by omega) (by omega) ?_
        have e1 : nI j + Int32.ofInt 1 = nI (j + 1) := by rw [← nI_1]; rfl
        have fin : L15 (nI j + 1, n2, ln2, h31) → ∀ (v : Value) (ls : Array Slot), lv_has ls 4 [(3, v), (0, .ref (ad2 0)), (1, .int x1), (2, .int (nI j))] → W p l e rmTop_seek s m args below meth c H1 locs (4 * (j + 1)) (79 * (j + 1)) (zQa post D cI cC cE n ad A below args s 80 1580) (F0 m 57 ls []) := by
          intro hw v ls hl
          refine lv_iinc (v := nI (j + 1)) (lv' := [(2, .int (nI (j + 1))), (3, v), (0, .ref (ad2 0)), (1, .int x1)]) (k := 3) S.1 S.2.1 dTop_seek_57 hl rfl e1 (by decide) rfl (fun ls hl => ?_)
          refine lv_goto S.1 S.2.1 dTop_seek_60 rfl ?_
          refine ih (j + 1) (by omega) ad2 n2 ln2 h31 _ _ _ (by rw [← nI_1]; exact hw) (lv_sub hl [2, 3, 0] rfl) hP hS hJ2 hn3 hag3
        cases r31 with
        | none =>
          have hw := hw.1 rfl
          refine lv_astore_nN (lv' := [(3, .null), (0, .ref (ad2 0)), (1, .int x1), (2, .int (nI j))]) S.1 S.2.1 dTop_seek_34 rfl hl (by decide) rfl (fun ls hl => ?_)
          refine lv_aload_nN S.1 S.2.1 dTop_seek_35 rfl (lv_at hl 0 rfl) ?_
          refine lv_ifnullN S.1 S.2.1 dTop_seek_36 rfl ?_
          exact fin hw _ ls hl
        | some jr =>
          obtain ⟨hjr, hw⟩ := hw.2 jr rfl
          refine lv_astore_n (x := ad2 (34 + 4 * jr)) (lv' := [(3, .ref (ad2 (34 + 4 * jr))), (0, .ref (ad2 0)), (1, .int x1), (2, .int (nI j))]) S.1 S.2.1 dTop_seek_34 rfl hl (by decide) rfl (fun ls hl => ?_)
          refine lv_aload_n S.1 S.2.1 dTop_seek_35 rfl (lv_at hl 0 rfl) ?_
          refine lv_ifnull S.1 S.2.1 dTop_seek_36 ?_
          refine lv_aload_n S.1 S.2.1 dTop_seek_39 rfl (lv_at hl 0 rfl) ?_
          refine zr_get S hK hP (zke0 hjr) (zFe_0 jr _) fEntry_outcome q609 rfl dTop_seek_40 ?_
          refine lv_iconst (v := 3) S.1 S.2.1 dTop_seek_43 (by decide) ?_
          refine lv_icmp_ne S.1 S.2.1 dTop_seek_44 rfl (fun hc => ?_) (fun hc => ?_)
          · exact fin (hw.1 hc) _ ls hl
          · have hw := hw.2 hc
            refine lv_aload_n S.1 S.2.1 dTop_seek_47 rfl (lv_at hl 1 rfl) ?_
            refine zr_get S hK hP (zk (by decide)) (zF_0 _) fTop_book q296 rfl dTop_seek_48 ?_
            refine zr_get S hK hP (zk (by decide)) (zF_9 _) fBook_size q79 rfl dTop_seek_51 ?_
            refine lv_iconst (v := 1) S.1 S.2.1 dTop_seek_54 (by decide) ?_
            refine lv_isub S.1 S.2.1 dTop_seek_55 ?_
            refine W.widen (k := 80) (n := 1580) (by omega) (by omega) ?_
            exact zr_aret S hr hlk hK hP hS hJ2 hn3 hag3 hw dTop_seek_56
  unfold wpTop_seek at hw
  refine lv_iload_n S.1 S.2.1 dTop_seek_0 rfl (lv_at hl 1 rfl) ?_
  refine lv_iconst (v := 1) S.1 S.2.1 dTop_seek_1 (by decide) ?_
  refine lv_icmp_lt S.1 S.2.1 dTop_seek_2 rfl (fun hc => ?_) (fun hc => ?_)
  · have hw := hw.1 hc
    refine lv_iconst (v := -1) S.1 S.2.1 dTop_seek_11 (by decide) ?_
    refine W.widen (k := 80) (n := 1580) (Nat.zero_le _) (Nat.zero_le _) ?_
    exact zr_aret S hr hlk hK hP hS hJ (Nat.le_refl _) (fun _ _ => rfl) hw dTop_seek_12
  · have hw := hw.2 hc
    refine lv_iload_n S.1 S.2.1 dTop_seek_5 rfl (lv_at hl 1 rfl) ?_
    refine lv_bipush (v := 20) S.1 S.2.1 dTop_seek_6 (by decide) ?_
    refine lv_icmp_le S.1 S.2.1 dTop_seek_8 rfl (fun hc => ?_) (fun hc => ?_)
    · obtain ⟨fu, hw⟩ := hw.1 hc
      refine lv_iconst (v := 0) S.1 S.2.1 dTop_seek_13 (by decide) ?_
      refine lv_istore_n (lv' := [(2, .int 0), (0, .ref (ad 0)), (1, .int x1)]) S.1 S.2.1 dTop_seek_14 rfl hl (by decide) rfl (fun ls hl => ?_)
      exact J15 hc fu 0 (by omega) ad n ln h _ _ ls hw (lv_sub hl [1, 2, 0] rfl) hP hS hJ (Nat.le_refl _) (fun _ _ => rfl)
    · have hw := hw.2 hc
      refine lv_iconst (v := -1) S.1 S.2.1 dTop_seek_11 (by decide) ?_
      refine W.widen (k := 80) (n := 1580) (Nat.zero_le _) (Nat.zero_le _) ?_
      exact zr_aret S hr hlk hK hP hS hJ (Nat.le_refl _) (fun _ _ => rfl) hw dTop_seek_12
