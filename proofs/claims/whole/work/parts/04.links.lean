/-! the shapes of the two worlds; printed by wip/whole/gen/gen.py -/
abbrev zty (cI cC cE : ClassId) : List (ClassId × FieldType) := [(cI, .int), (cC, .char), (cE, .object "CallExplorer$Entry")]
def zFl (ad : Nat → Nat) (cI cC cE : ClassId) (n : Nat) (g : Nat → Int32) : List va_E := [.inr (10, [.ref (ad 1), .ref (ad 9), .ref (ad 12), .ref (ad 19), .ref (ad 25), .ref (ad 28), .ref (ad 30)]),
  .inr (1, [.int (g 0), .int (g 1), .ref (ad 2), .ref (ad 3), .ref (ad 4), .ref (ad 5), .ref (ad 6), .ref (ad 7), .ref (ad 8)]),
  .inl (cI, 5, .inl g),
  .inl (cI, 5, .inl g),
  .inl (cI, 5, .inl g),
  .inl (cI, 10, .inl g),
  .inl (cI, 10, .inl g),
  .inl (cI, 10, .inl g),
  .inl (cI, 10, .inl g),
  .inr (0, [.ref (ad 1), .int (g 1), .ref (ad 10), .ref (ad 11)]),
  .inl (cE, 40, .inr (.inr (.inr (.inr (fun e => if e < n then some (ad (34 + 4 * e)) else none))))),
  .inl (cI, 40, .inl g),
  .inr (6, [.ref (ad 1), .ref (ad 15), .ref (ad 13), .int (g 3), .int (g 4), .int (g 5), .int (g 6), .int (g 7), .ref (ad 14)]),
  .inl (cI, 10, .inl g),
  .inl (cI, 20, .inl g),
  .inr (4, [.ref (ad 1), .int (g 1), .ref (ad 16), .ref (ad 17), .ref (ad 18)]),
  .inl (cI, 10, .inl g),
  .inl (cI, 10, .inl g),
  .inl (cI, 10, .inl g),
  .inr (3, [.ref (ad 1), .ref (ad 9), .ref (ad 12), .ref (ad 20), .ref (ad 22), .int (g 5), .int (g 6), .ref (ad 23), .ref (ad 24)]),
  .inr (7, [.int (g 0), .ref (ad 21)]),
  .inl (cI, 50, .inl g),
  .inl (cI, 8, .inl g),
  .inl (cI, 2, .inl g),
  .inl (cI, 2, .inl g),
  .inr (8, [.ref (ad 1), .ref (ad 12), .ref (ad 26)]),
  .inr (7, [.int (g 0), .ref (ad 27)]),
  .inl (cI, 50, .inl g),
  .inr (9, [.ref (ad 29), .int (g 1)]),
  .inl (cC, 200, .inl g),
  .inr (5, [.ref (ad 1), .ref (ad 31), .int (g 2), .ref (ad 32), .int (g 4), .int (g 5), .int (g 6), .int (g 7), .int (g 8), .int (g 9)]),
  .inl (cC, 200, .inl g),
  .inr (7, [.int (g 0), .ref (ad 33)]),
  .inl (cI, 50, .inl g)]
def zFe (ad : Nat → Nat) (cI : ClassId) (ln : Nat → Nat) (j i : Nat) (g : Nat → Int32) : va_E := if i = 0 then .inr (2, [.ref (ad (34 + 4 * j + 1)), .int (g 1), .int (g 2), .int (g 3), .int (g 4), .int (g 5), .ref (ad (34 + 4 * j + 3))]) else if i = 1 then .inr (7, [.int (g 0), .ref (ad (34 + 4 * j + 2))]) else if i = 2 then .inl (cI, 50, .inl g) else .inl (cI, ln j, .inl g)
def zF (ad : Nat → Nat) (cI cC cE : ClassId) (n : Nat) (ln : Nat → Nat) : zSh := fun o g => if o < 34 then (zFl ad cI cC cE n g).getD o (.inr (0, [])) else zFe ad cI ln ((o - 34) / 4) ((o - 34) % 4) g
section
variable {ad : Nat → Nat} {cI cC cE : ClassId} {n : Nat} {ln : Nat → Nat}
theorem zF_0 (g : Nat → Int32) : zF ad cI cC cE n ln 0 g = .inr (10, [.ref (ad 1), .ref (ad 9), .ref (ad 12), .ref (ad 19), .ref (ad 25), .ref (ad 28), .ref (ad 30)]) := rfl
theorem zF_1 (g : Nat → Int32) : zF ad cI cC cE n ln 1 g = .inr (1, [.int (g 0), .int (g 1), .ref (ad 2), .ref (ad 3), .ref (ad 4), .ref (ad 5), .ref (ad 6), .ref (ad 7), .ref (ad 8)]) := rfl
theorem zF_2 (g : Nat → Int32) : zF ad cI cC cE n ln 2 g = .inl (cI, 5, .inl g) := rfl
theorem zF_3 (g : Nat → Int32) : zF ad cI cC cE n ln 3 g = .inl (cI, 5, .inl g) := rfl
theorem zF_4 (g : Nat → Int32) : zF ad cI cC cE n ln 4 g = .inl (cI, 5, .inl g) := rfl
theorem zF_5 (g : Nat → Int32) : zF ad cI cC cE n ln 5 g = .inl (cI, 10, .inl g) := rfl
theorem zF_6 (g : Nat → Int32) : zF ad cI cC cE n ln 6 g = .inl (cI, 10, .inl g) := rfl
theorem zF_7 (g : Nat → Int32) : zF ad cI cC cE n ln 7 g = .inl (cI, 10, .inl g) := rfl
theorem zF_8 (g : Nat → Int32) : zF ad cI cC cE n ln 8 g = .inl (cI, 10, .inl g) := rfl
theorem zF_9 (g : Nat → Int32) : zF ad cI cC cE n ln 9 g = .inr (0, [.ref (ad 1), .int (g 1), .ref (ad 10), .ref (ad 11)]) := rfl
theorem zF_10 (g : Nat → Int32) : zF ad cI cC cE n ln 10 g = .inl (cE, 40, .inr (.inr (.inr (.inr (fun e => if e < n then some (ad (34 + 4 * e)) else none))))) := rfl
theorem zF_11 (g : Nat → Int32) : zF ad cI cC cE n ln 11 g = .inl (cI, 40, .inl g) := rfl
theorem zF_12 (g : Nat → Int32) : zF ad cI cC cE n ln 12 g = .inr (6, [.ref (ad 1), .ref (ad 15), .ref (ad 13), .int (g 3), .int (g 4), .int (g 5), .int (g 6), .int (g 7), .ref (ad 14)]) := rfl
theorem zF_13 (g : Nat → Int32) : zF ad cI cC cE n ln 13 g = .inl (cI, 10, .inl g) := rfl
theorem zF_14 (g : Nat → Int32) : zF ad cI cC cE n ln 14 g = .inl (cI, 20, .inl g) := rfl
theorem zF_15 (g : Nat → Int32) : zF ad cI cC cE n ln 15 g = .inr (4, [.ref (ad 1), .int (g 1), .ref (ad 16), .ref (ad 17), .ref (ad 18)]) := rfl
theorem zF_16 (g : Nat → Int32) : zF ad cI cC cE n ln 16 g = .inl (cI, 10, .inl g) := rfl
theorem zF_17 (g : Nat → Int32) : zF ad cI cC cE n ln 17 g = .inl (cI, 10, .inl g) := rfl
theorem zF_18 (g : Nat → Int32) : zF ad cI cC cE n ln 18 g = .inl (cI, 10, .inl g) := rfl
theorem zF_19 (g : Nat → Int32) : zF ad cI cC cE n ln 19 g = .inr (3, [.ref (ad 1), .ref (ad 9), .ref (ad 12), .ref (ad 20), .ref (ad 22), .int (g 5), .int (g 6), .ref (ad 23), .ref (ad 24)]) := rfl
theorem zF_20 (g : Nat → Int32) : zF ad cI cC cE n ln 20 g = .inr (7, [.int (g 0), .ref (ad 21)]) := rfl
theorem zF_21 (g : Nat → Int32) : zF ad cI cC cE n ln 21 g = .inl (cI, 50, .inl g) := rfl
theorem zF_22 (g : Nat → Int32) : zF ad cI cC cE n ln 22 g = .inl (cI, 8, .inl g) := rfl
theorem zF_23 (g : Nat → Int32) : zF ad cI cC cE n ln 23 g = .inl (cI, 2, .inl g) := rfl
theorem zF_24 (g : Nat → Int32) : zF ad cI cC cE n ln 24 g = .inl (cI, 2, .inl g) := rfl
theorem zF_25 (g : Nat → Int32) : zF ad cI cC cE n ln 25 g = .inr (8, [.ref (ad 1), .ref (ad 12), .ref (ad 26)]) := rfl
theorem zF_26 (g : Nat → Int32) : zF ad cI cC cE n ln 26 g = .inr (7, [.int (g 0), .ref (ad 27)]) := rfl
theorem zF_27 (g : Nat → Int32) : zF ad cI cC cE n ln 27 g = .inl (cI, 50, .inl g) := rfl
theorem zF_28 (g : Nat → Int32) : zF ad cI cC cE n ln 28 g = .inr (9, [.ref (ad 29), .int (g 1)]) := rfl
theorem zF_29 (g : Nat → Int32) : zF ad cI cC cE n ln 29 g = .inl (cC, 200, .inl g) := rfl
theorem zF_30 (g : Nat → Int32) : zF ad cI cC cE n ln 30 g = .inr (5, [.ref (ad 1), .ref (ad 31), .int (g 2), .ref (ad 32), .int (g 4), .int (g 5), .int (g 6), .int (g 7), .int (g 8), .int (g 9)]) := rfl
theorem zF_31 (g : Nat → Int32) : zF ad cI cC cE n ln 31 g = .inl (cC, 200, .inl g) := rfl
theorem zF_32 (g : Nat → Int32) : zF ad cI cC cE n ln 32 g = .inr (7, [.int (g 0), .ref (ad 33)]) := rfl
theorem zF_33 (g : Nat → Int32) : zF ad cI cC cE n ln 33 g = .inl (cI, 50, .inl g) := rfl
theorem zFe_0 (j : Nat) (g : Nat → Int32) : zF ad cI cC cE n ln (34 + 4 * j) g = .inr (2, [.ref (ad (34 + 4 * j + 1)), .int (g 1), .int (g 2), .int (g 3), .int (g 4), .int (g 5), .ref (ad (34 + 4 * j + 3))]) := by
  unfold zF
  rw [if_neg (by omega), show (34 + 4 * j - 34) / 4 = j by omega, show (34 + 4 * j - 34) % 4 = 0 by omega]
  rfl
theorem zFe_1 (j : Nat) (g : Nat → Int32) : zF ad cI cC cE n ln (34 + 4 * j + 1) g = .inr (7, [.int (g 0), .ref (ad (34 + 4 * j + 2))]) := by
  unfold zF
  rw [if_neg (by omega), show (34 + 4 * j + 1 - 34) / 4 = j by omega, show (34 + 4 * j + 1 - 34) % 4 = 1 by omega]
  rfl
theorem zFe_2 (j : Nat) (g : Nat → Int32) : zF ad cI cC cE n ln (34 + 4 * j + 2) g = .inl (cI, 50, .inl g) := by
  unfold zF
  rw [if_neg (by omega), show (34 + 4 * j + 2 - 34) / 4 = j by omega, show (34 + 4 * j + 2 - 34) % 4 = 2 by omega]
  rfl
theorem zFe_3 (j : Nat) (g : Nat → Int32) : zF ad cI cC cE n ln (34 + 4 * j + 3) g = .inl (cI, ln j, .inl g) := by
  unfold zF
  rw [if_neg (by omega), show (34 + 4 * j + 3 - 34) / 4 = j by omega, show (34 + 4 * j + 3 - 34) % 4 = 3 by omega]
  rfl
theorem zk {k : Nat} (h : k < 34) : k < 34 + 4 * n := Nat.lt_of_lt_of_le h (Nat.le_add_right _ _)
theorem zke (i : Nat) {j : Nat} (hj : j < n) (hi : i < 4 := by decide) : 34 + 4 * j + i < 34 + 4 * n := by omega
theorem zke0 {j : Nat} (hj : j < n) : 34 + 4 * j < 34 + 4 * n := by omega
end
def zSeq (N : Nat) (ad : Nat → Nat) (F : zSh) (cI : ClassId) (o : Nat) : Prop := o + 1 < N ∧ (∀ g, F o g = .inr (7, [.int (g 0), .ref (ad (o + 1))])) ∧ ∀ g, F (o + 1) g = .inl (cI, 50, .inl g)
section
variable {ad : Nat → Nat} {cI cC cE : ClassId} {n : Nat} {ln : Nat → Nat}
theorem zs_20 : zSeq (34 + 4 * n) ad (zF ad cI cC cE n ln) cI 20 := ⟨zk (by decide), zF_20, zF_21⟩
theorem zs_26 : zSeq (34 + 4 * n) ad (zF ad cI cC cE n ln) cI 26 := ⟨zk (by decide), zF_26, zF_27⟩
theorem zs_32 : zSeq (34 + 4 * n) ad (zF ad cI cC cE n ln) cI 32 := ⟨zk (by decide), zF_32, zF_33⟩
theorem zs_e {j : Nat} (hj : j < n) : zSeq (34 + 4 * n) ad (zF ad cI cC cE n ln) cI (34 + 4 * j + 1) := ⟨zke 2 hj, zFe_1 j, zFe_2 j⟩
end
def mF (ad : Nat → Nat) (cI : ClassId) : zSh := fun o g => ([.inr (11, [.int (g 0), .int (g 1), .ref (ad 1), .ref (ad 2), .ref (ad 3), .int (g 5), .ref (ad 4), .ref (ad 5), .ref (ad 6), .int (g 9), .ref (ad 7), .int (g 11), .ref (ad 8), .ref (ad 9), .ref (ad 10), .ref (ad 11), .ref (ad 12), .int (g 17), .ref (ad 13), .ref (ad 14), .ref (ad 15), .ref (ad 16), .ref (ad 17), .ref (ad 18), .ref (ad 19), .int (g 25), .ref (ad 20), .ref (ad 21), .ref (ad 22), .ref (ad 23), .int (g 30), .int (g 31), .int (g 32), .int (g 33), .ref (ad 24), .int (g 35), .ref (ad 25), .int (g 37), .ref (ad 26), .int (g 39), .ref (ad 27), .int (g 41), .int (g 42)]),
  .inl (cI, 5, .inl g),
  .inl (cI, 5, .inl g),
  .inl (cI, 5, .inl g),
  .inl (cI, 10, .inl g),
  .inl (cI, 10, .inl g),
  .inl (cI, 10, .inl g),
  .inl (cI, 8, .inl g),
  .inl (cI, 20, .inl g),
  .inl (cI, 40, .inl g),
  .inl (cI, 40, .inl g),
  .inl (cI, 2, .inl g),
  .inl (cI, 2, .inl g),
  .inl (cI, 41, .inl g),
  .inl (cI, 410, .inl g),
  .inl (cI, 820, .inl g),
  .inl (cI, 820, .inl g),
  .inl (cI, 41, .inl g),
  .inl (cI, 41, .inl g),
  .inl (cI, 41, .inl g),
  .inl (cI, 10, .inl g),
  .inl (cI, 10, .inl g),
  .inl (cI, 10, .inl g),
  .inl (cI, 10, .inl g),
  .inl (cI, 21, .inl g),
  .inl (cI, 21, .inl g),
  .inl (cI, 200, .inl g),
  .inl (cI, 300, .inl g)] : List va_E).getD o (.inr (0, []))
section
variable {ad : Nat → Nat} {cI : ClassId}
theorem mF_0 (g : Nat → Int32) : mF ad cI 0 g = .inr (11, [.int (g 0), .int (g 1), .ref (ad 1), .ref (ad 2), .ref (ad 3), .int (g 5), .ref (ad 4), .ref (ad 5), .ref (ad 6), .int (g 9), .ref (ad 7), .int (g 11), .ref (ad 8), .ref (ad 9), .ref (ad 10), .ref (ad 11), .ref (ad 12), .int (g 17), .ref (ad 13), .ref (ad 14), .ref (ad 15), .ref (ad 16), .ref (ad 17), .ref (ad 18), .ref (ad 19), .int (g 25), .ref (ad 20), .ref (ad 21), .ref (ad 22), .ref (ad 23), .int (g 30), .int (g 31), .int (g 32), .int (g 33), .ref (ad 24), .int (g 35), .ref (ad 25), .int (g 37), .ref (ad 26), .int (g 39), .ref (ad 27), .int (g 41), .int (g 42)]) := rfl
theorem mF_1 (g : Nat → Int32) : mF ad cI 1 g = .inl (cI, 5, .inl g) := rfl
theorem mF_2 (g : Nat → Int32) : mF ad cI 2 g = .inl (cI, 5, .inl g) := rfl
theorem mF_3 (g : Nat → Int32) : mF ad cI 3 g = .inl (cI, 5, .inl g) := rfl
theorem mF_4 (g : Nat → Int32) : mF ad cI 4 g = .inl (cI, 10, .inl g) := rfl
theorem mF_5 (g : Nat → Int32) : mF ad cI 5 g = .inl (cI, 10, .inl g) := rfl
theorem mF_6 (g : Nat → Int32) : mF ad cI 6 g = .inl (cI, 10, .inl g) := rfl
theorem mF_7 (g : Nat → Int32) : mF ad cI 7 g = .inl (cI, 8, .inl g) := rfl
theorem mF_8 (g : Nat → Int32) : mF ad cI 8 g = .inl (cI, 20, .inl g) := rfl
theorem mF_9 (g : Nat → Int32) : mF ad cI 9 g = .inl (cI, 40, .inl g) := rfl
theorem mF_10 (g : Nat → Int32) : mF ad cI 10 g = .inl (cI, 40, .inl g) := rfl
theorem mF_11 (g : Nat → Int32) : mF ad cI 11 g = .inl (cI, 2, .inl g) := rfl
theorem mF_12 (g : Nat → Int32) : mF ad cI 12 g = .inl (cI, 2, .inl g) := rfl
theorem mF_13 (g : Nat → Int32) : mF ad cI 13 g = .inl (cI, 41, .inl g) := rfl
theorem mF_14 (g : Nat → Int32) : mF ad cI 14 g = .inl (cI, 410, .inl g) := rfl
theorem mF_15 (g : Nat → Int32) : mF ad cI 15 g = .inl (cI, 820, .inl g) := rfl
theorem mF_16 (g : Nat → Int32) : mF ad cI 16 g = .inl (cI, 820, .inl g) := rfl
theorem mF_17 (g : Nat → Int32) : mF ad cI 17 g = .inl (cI, 41, .inl g) := rfl
theorem mF_18 (g : Nat → Int32) : mF ad cI 18 g = .inl (cI, 41, .inl g) := rfl
theorem mF_19 (g : Nat → Int32) : mF ad cI 19 g = .inl (cI, 41, .inl g) := rfl
theorem mF_20 (g : Nat → Int32) : mF ad cI 20 g = .inl (cI, 10, .inl g) := rfl
theorem mF_21 (g : Nat → Int32) : mF ad cI 21 g = .inl (cI, 10, .inl g) := rfl
theorem mF_22 (g : Nat → Int32) : mF ad cI 22 g = .inl (cI, 10, .inl g) := rfl
theorem mF_23 (g : Nat → Int32) : mF ad cI 23 g = .inl (cI, 10, .inl g) := rfl
theorem mF_24 (g : Nat → Int32) : mF ad cI 24 g = .inl (cI, 21, .inl g) := rfl
theorem mF_25 (g : Nat → Int32) : mF ad cI 25 g = .inl (cI, 21, .inl g) := rfl
theorem mF_26 (g : Nat → Int32) : mF ad cI 26 g = .inl (cI, 200, .inl g) := rfl
theorem mF_27 (g : Nat → Int32) : mF ad cI 27 g = .inl (cI, 300, .inl g) := rfl
end
theorem zbn {v : Int32} (h : v = 0 ∨ v = 1) : narrow .boolean (.int v) = .int v := by rcases h with rfl | rfl <;> rfl
theorem zbf {v : Int32} (h : v = 0 ∨ v = 1) : fits .boolean (.int v) = true := by rcases h with rfl | rfl <;> rfl
/-! words of the tables by their places; printed by wip/whole/gen/gen.py -/
theorem qp0 : Cond.selects "CallExplorer$Catalog" ⟨"CallExplorer$Catalog", "isClass", "(I)Z"⟩ ⟨"CallExplorer$Catalog", "isClass", "(I)Z"⟩ ∈ zt := zin (List.mem_append_left _ (List.mem_of_getElem? (i := 0) (by decide +kernel))) (by decide +kernel)
theorem qp1 : Cond.selects "CallExplorer$Catalog" ⟨"CallExplorer$Catalog", "hasPartner", "(I)Z"⟩ ⟨"CallExplorer$Catalog", "hasPartner", "(I)Z"⟩ ∈ zt := zin (List.mem_append_left _ (List.mem_of_getElem? (i := 1) (by decide +kernel))) (by decide +kernel)
theorem qp2 : Cond.selects "CallExplorer$Catalog" ⟨"CallExplorer$Catalog", "typeOf", "(III)I"⟩ ⟨"CallExplorer$Catalog", "typeOf", "(III)I"⟩ ∈ zt := zin (List.mem_append_left _ (List.mem_of_getElem? (i := 2) (by decide +kernel))) (by decide +kernel)
theorem qp3 : Cond.selects "CallExplorer$Grower" ⟨"CallExplorer$Grower", "random", "(I)I"⟩ ⟨"CallExplorer$Grower", "random", "(I)I"⟩ ∈ zt := zin (List.mem_append_left _ (List.mem_of_getElem? (i := 3) (by decide +kernel))) (by decide +kernel)
theorem qp5 : Cond.selects "CallExplorer$Grower" ⟨"CallExplorer$Grower", "choose", "(III)I"⟩ ⟨"CallExplorer$Grower", "choose", "(III)I"⟩ ∈ zt := zin (List.mem_append_left _ (List.mem_of_getElem? (i := 5) (by decide +kernel))) (by decide +kernel)
theorem qp6 : Cond.selects "CallExplorer$Grower" ⟨"CallExplorer$Grower", "chooseNumber", "(I)I"⟩ ⟨"CallExplorer$Grower", "chooseNumber", "(I)I"⟩ ∈ zt := zin (List.mem_append_left _ (List.mem_of_getElem? (i := 6) (by decide +kernel))) (by decide +kernel)
theorem qp7 : Cond.selects "CallExplorer$Grower" ⟨"CallExplorer$Grower", "take", "(II)I"⟩ ⟨"CallExplorer$Grower", "take", "(II)I"⟩ ∈ zt := zin (List.mem_append_left _ (List.mem_of_getElem? (i := 7) (by decide +kernel))) (by decide +kernel)
theorem qp8 : Cond.selects "CallExplorer$Sequence" ⟨"CallExplorer$Sequence", "moveVariables", "(III)V"⟩ ⟨"CallExplorer$Sequence", "moveVariables", "(III)V"⟩ ∈ zt := zin (List.mem_append_left _ (List.mem_of_getElem? (i := 8) (by decide +kernel))) (by decide +kernel)
theorem qp9 : Cond.selects "CallExplorer$Grower" ⟨"CallExplorer$Grower", "chooseObject", "(II)I"⟩ ⟨"CallExplorer$Grower", "chooseObject", "(II)I"⟩ ∈ zt := zin (List.mem_append_left _ (List.mem_of_getElem? (i := 9) (by decide +kernel))) (by decide +kernel)
theorem qp10 : Cond.selects "CallExplorer$Grower" ⟨"CallExplorer$Grower", "firstFits", "(I)Z"⟩ ⟨"CallExplorer$Grower", "firstFits", "(I)Z"⟩ ∈ zt := zin (List.mem_append_left _ (List.mem_of_getElem? (i := 10) (by decide +kernel))) (by decide +kernel)
theorem qp12 : Cond.selects "CallExplorer$Runner" ⟨"CallExplorer$Runner", "execute", "(LCallExplorer$Sequence;I)I"⟩ ⟨"CallExplorer$Runner", "execute", "(LCallExplorer$Sequence;I)I"⟩ ∈ zt := zin (List.mem_append_left _ (List.mem_of_getElem? (i := 12) (by decide +kernel))) (by decide +kernel)
theorem qp13 : Cond.selects "CallExplorer$Runner" ⟨"CallExplorer$Runner", "isNull", "(LCallExplorer$Sequence;II)Z"⟩ ⟨"CallExplorer$Runner", "isNull", "(LCallExplorer$Sequence;II)Z"⟩ ∈ zt := zin (List.mem_append_left _ (List.mem_of_getElem? (i := 13) (by decide +kernel))) (by decide +kernel)
theorem qp14 : Cond.selects "CallExplorer$Runner" ⟨"CallExplorer$Runner", "argumentValue", "(LCallExplorer$Sequence;II)I"⟩ ⟨"CallExplorer$Runner", "argumentValue", "(LCallExplorer$Sequence;II)I"⟩ ∈ zt := zin (List.mem_append_left _ (List.mem_of_getElem? (i := 14) (by decide +kernel))) (by decide +kernel)
theorem qp15 : Cond.selects "CallExplorer$Runner" ⟨"CallExplorer$Runner", "make", "(III)I"⟩ ⟨"CallExplorer$Runner", "make", "(III)I"⟩ ∈ zt := zin (List.mem_append_left _ (List.mem_of_getElem? (i := 15) (by decide +kernel))) (by decide +kernel)
theorem qp16 : Cond.selects "CallExplorer$Runner" ⟨"CallExplorer$Runner", "canBeValue", "(J)Z"⟩ ⟨"CallExplorer$Runner", "canBeValue", "(J)Z"⟩ ∈ zt := zin (List.mem_append_left _ (List.mem_of_getElem? (i := 16) (by decide +kernel))) (by decide +kernel)
theorem qp17 : Cond.selects "CallExplorer$Runner" ⟨"CallExplorer$Runner", "give", "(II)I"⟩ ⟨"CallExplorer$Runner", "give", "(II)I"⟩ ∈ zt := zin (List.mem_append_left _ (List.mem_of_getElem? (i := 17) (by decide +kernel))) (by decide +kernel)
theorem qp18 : Cond.selects "CallExplorer$Runner" ⟨"CallExplorer$Runner", "add", "(III)I"⟩ ⟨"CallExplorer$Runner", "add", "(III)I"⟩ ∈ zt := zin (List.mem_append_left _ (List.mem_of_getElem? (i := 18) (by decide +kernel))) (by decide +kernel)
theorem qp19 : Cond.selects "CallExplorer$Runner" ⟨"CallExplorer$Runner", "link", "(III)I"⟩ ⟨"CallExplorer$Runner", "link", "(III)I"⟩ ∈ zt := zin (List.mem_append_left _ (List.mem_of_getElem? (i := 19) (by decide +kernel))) (by decide +kernel)
theorem qp20 : Cond.selects "CallExplorer$Runner" ⟨"CallExplorer$Runner", "getNext", "(III)I"⟩ ⟨"CallExplorer$Runner", "getNext", "(III)I"⟩ ∈ zt := zin (List.mem_append_left _ (List.mem_of_getElem? (i := 20) (by decide +kernel))) (by decide +kernel)
theorem qp21 : Cond.selects "CallExplorer$Runner" ⟨"CallExplorer$Runner", "getNextValue", "(II)I"⟩ ⟨"CallExplorer$Runner", "getNextValue", "(II)I"⟩ ∈ zt := zin (List.mem_append_left _ (List.mem_of_getElem? (i := 21) (by decide +kernel))) (by decide +kernel)
theorem qp22 : Cond.selects "CallExplorer$Runner" ⟨"CallExplorer$Runner", "endWithTrouble", "(LCallExplorer$Sequence;II)V"⟩ ⟨"CallExplorer$Runner", "endWithTrouble", "(LCallExplorer$Sequence;II)V"⟩ ∈ zt := zin (List.mem_append_left _ (List.mem_of_getElem? (i := 22) (by decide +kernel))) (by decide +kernel)
theorem qp23 : Cond.selects "CallExplorer$Runner" ⟨"CallExplorer$Runner", "keepResult", "(LCallExplorer$Sequence;)V"⟩ ⟨"CallExplorer$Runner", "keepResult", "(LCallExplorer$Sequence;)V"⟩ ∈ zt := zin (List.mem_append_left _ (List.mem_of_getElem? (i := 23) (by decide +kernel))) (by decide +kernel)
theorem qp24 : Cond.selects "CallExplorer$Runner" ⟨"CallExplorer$Runner", "keepRow", "(I)V"⟩ ⟨"CallExplorer$Runner", "keepRow", "(I)V"⟩ ∈ zt := zin (List.mem_append_left _ (List.mem_of_getElem? (i := 24) (by decide +kernel))) (by decide +kernel)
theorem qp25 : Cond.selects "CallExplorer$Heap" ⟨"CallExplorer$Heap", "faultOfPair", "(II)I"⟩ ⟨"CallExplorer$Heap", "faultOfPair", "(II)I"⟩ ∈ zt := zin (List.mem_append_left _ (List.mem_of_getElem? (i := 25) (by decide +kernel))) (by decide +kernel)
theorem qp26 : Cond.selects "CallExplorer$Heap" ⟨"CallExplorer$Heap", "code", "(I)I"⟩ ⟨"CallExplorer$Heap", "code", "(I)I"⟩ ∈ zt := zin (List.mem_append_left _ (List.mem_of_getElem? (i := 26) (by decide +kernel))) (by decide +kernel)
theorem qp28 : Cond.selects "CallExplorer$Shortener" ⟨"CallExplorer$Shortener", "lowerInTrial", "(LCallExplorer$Sequence;II)Z"⟩ ⟨"CallExplorer$Shortener", "lowerInTrial", "(LCallExplorer$Sequence;II)Z"⟩ ∈ zt := zin (List.mem_append_left _ (List.mem_of_getElem? (i := 28) (by decide +kernel))) (by decide +kernel)
theorem qp29 : Cond.selects "CallExplorer$Shortener" ⟨"CallExplorer$Shortener", "keepIfSame", "(LCallExplorer$Entry;)V"⟩ ⟨"CallExplorer$Shortener", "keepIfSame", "(LCallExplorer$Entry;)V"⟩ ∈ zt := zin (List.mem_append_left _ (List.mem_of_getElem? (i := 29) (by decide +kernel))) (by decide +kernel)
theorem qp30 : Cond.selects "CallExplorer$Writer" ⟨"CallExplorer$Writer", "writeCall", "(LCallExplorer$Sequence;I)V"⟩ ⟨"CallExplorer$Writer", "writeCall", "(LCallExplorer$Sequence;I)V"⟩ ∈ zt := zin (List.mem_append_left _ (List.mem_of_getElem? (i := 30) (by decide +kernel))) (by decide +kernel)
theorem qp31 : Cond.selects "CallExplorer$Writer" ⟨"CallExplorer$Writer", "put", "(C)V"⟩ ⟨"CallExplorer$Writer", "put", "(C)V"⟩ ∈ zt := zin (List.mem_append_left _ (List.mem_of_getElem? (i := 31) (by decide +kernel))) (by decide +kernel)
theorem qp32 : Cond.selects "CallExplorer$Writer" ⟨"CallExplorer$Writer", "writeArgument", "(II)V"⟩ ⟨"CallExplorer$Writer", "writeArgument", "(II)V"⟩ ∈ zt := zin (List.mem_append_left _ (List.mem_of_getElem? (i := 32) (by decide +kernel))) (by decide +kernel)
theorem qp33 : Cond.selects "CallExplorer$Writer" ⟨"CallExplorer$Writer", "writeNumber", "(I)V"⟩ ⟨"CallExplorer$Writer", "writeNumber", "(I)V"⟩ ∈ zt := zin (List.mem_append_left _ (List.mem_of_getElem? (i := 33) (by decide +kernel))) (by decide +kernel)
theorem qp34 : Cond.selects "CallExplorer$Writer" ⟨"CallExplorer$Writer", "writeEnd", "(LCallExplorer$Entry;)V"⟩ ⟨"CallExplorer$Writer", "writeEnd", "(LCallExplorer$Entry;)V"⟩ ∈ zt := zin (List.mem_append_left _ (List.mem_of_getElem? (i := 34) (by decide +kernel))) (by decide +kernel)
theorem qp35 : Cond.selects "CallExplorer$Writer" ⟨"CallExplorer$Writer", "writeResult", "(LCallExplorer$Entry;)V"⟩ ⟨"CallExplorer$Writer", "writeResult", "(LCallExplorer$Entry;)V"⟩ ∈ zt := zin (List.mem_append_left _ (List.mem_of_getElem? (i := 35) (by decide +kernel))) (by decide +kernel)
theorem qp36 : Cond.selects "CallExplorer$Reader" ⟨"CallExplorer$Reader", "countBytes", "(J)I"⟩ ⟨"CallExplorer$Reader", "countBytes", "(J)I"⟩ ∈ zt := zin (List.mem_append_left _ (List.mem_of_getElem? (i := 36) (by decide +kernel))) (by decide +kernel)
theorem qp37 : Cond.selects "CallExplorer$Reader" ⟨"CallExplorer$Reader", "byteOf", "(JI)I"⟩ ⟨"CallExplorer$Reader", "byteOf", "(JI)I"⟩ ∈ zt := zin (List.mem_append_left _ (List.mem_of_getElem? (i := 37) (by decide +kernel))) (by decide +kernel)
theorem qp38 : Cond.selects "CallExplorer$Reader" ⟨"CallExplorer$Reader", "isAtEnd", "()Z"⟩ ⟨"CallExplorer$Reader", "isAtEnd", "()Z"⟩ ∈ zt := zin (List.mem_append_left _ (List.mem_of_getElem? (i := 38) (by decide +kernel))) (by decide +kernel)
theorem qp39 : Cond.selects "CallExplorer$Reader" ⟨"CallExplorer$Reader", "peek", "()C"⟩ ⟨"CallExplorer$Reader", "peek", "()C"⟩ ∈ zt := zin (List.mem_append_left _ (List.mem_of_getElem? (i := 39) (by decide +kernel))) (by decide +kernel)
theorem qp40 : Cond.selects "CallExplorer$Reader" ⟨"CallExplorer$Reader", "readCall", "()Z"⟩ ⟨"CallExplorer$Reader", "readCall", "()Z"⟩ ∈ zt := zin (List.mem_append_left _ (List.mem_of_getElem? (i := 40) (by decide +kernel))) (by decide +kernel)
theorem qp41 : Cond.selects "CallExplorer$Reader" ⟨"CallExplorer$Reader", "accept", "(C)Z"⟩ ⟨"CallExplorer$Reader", "accept", "(C)Z"⟩ ∈ zt := zin (List.mem_append_left _ (List.mem_of_getElem? (i := 41) (by decide +kernel))) (by decide +kernel)
theorem qp42 : Cond.selects "CallExplorer$Reader" ⟨"CallExplorer$Reader", "readArgument", "(II)Z"⟩ ⟨"CallExplorer$Reader", "readArgument", "(II)Z"⟩ ∈ zt := zin (List.mem_append_left _ (List.mem_of_getElem? (i := 42) (by decide +kernel))) (by decide +kernel)
theorem qp43 : Cond.selects "CallExplorer$Reader" ⟨"CallExplorer$Reader", "readVariable", "(III)Z"⟩ ⟨"CallExplorer$Reader", "readVariable", "(III)Z"⟩ ∈ zt := zin (List.mem_append_left _ (List.mem_of_getElem? (i := 43) (by decide +kernel))) (by decide +kernel)
theorem qp44 : Cond.selects "CallExplorer$Reader" ⟨"CallExplorer$Reader", "isAtDigit", "()Z"⟩ ⟨"CallExplorer$Reader", "isAtDigit", "()Z"⟩ ∈ zt := zin (List.mem_append_left _ (List.mem_of_getElem? (i := 44) (by decide +kernel))) (by decide +kernel)
theorem qp45 : Cond.selects "CallExplorer$Reader" ⟨"CallExplorer$Reader", "readNumber", "()Z"⟩ ⟨"CallExplorer$Reader", "readNumber", "()Z"⟩ ∈ zt := zin (List.mem_append_left _ (List.mem_of_getElem? (i := 45) (by decide +kernel))) (by decide +kernel)
theorem qp46 : Cond.selects "CallExplorer$Reader" ⟨"CallExplorer$Reader", "readEnd", "()Z"⟩ ⟨"CallExplorer$Reader", "readEnd", "()Z"⟩ ∈ zt := zin (List.mem_append_left _ (List.mem_of_getElem? (i := 46) (by decide +kernel))) (by decide +kernel)
theorem qp47 : Cond.selects "CallExplorer$Reader" ⟨"CallExplorer$Reader", "readDetail", "(I)Z"⟩ ⟨"CallExplorer$Reader", "readDetail", "(I)Z"⟩ ∈ zt := zin (List.mem_append_left _ (List.mem_of_getElem? (i := 47) (by decide +kernel))) (by decide +kernel)
theorem qp48 : Cond.selects "CallExplorer$Reader" ⟨"CallExplorer$Reader", "readResult", "()Z"⟩ ⟨"CallExplorer$Reader", "readResult", "()Z"⟩ ∈ zt := zin (List.mem_append_left _ (List.mem_of_getElem? (i := 48) (by decide +kernel))) (by decide +kernel)
theorem qp49 : Cond.selects "CallExplorerModel" ⟨"CallExplorerModel", "isClass", "(I)Z"⟩ ⟨"CallExplorerModel", "isClass", "(I)Z"⟩ ∈ zt := zin (List.mem_append_left _ (List.mem_of_getElem? (i := 49) (by decide +kernel))) (by decide +kernel)
theorem qp50 : Cond.selects "CallExplorerModel" ⟨"CallExplorerModel", "random", "(I)I"⟩ ⟨"CallExplorerModel", "random", "(I)I"⟩ ∈ zt := zin (List.mem_append_left _ (List.mem_of_getElem? (i := 50) (by decide +kernel))) (by decide +kernel)
theorem qp51 : Cond.selects "CallExplorerModel" ⟨"CallExplorerModel", "wants", "(II)I"⟩ ⟨"CallExplorerModel", "wants", "(II)I"⟩ ∈ zt := zin (List.mem_append_left _ (List.mem_of_getElem? (i := 51) (by decide +kernel))) (by decide +kernel)
theorem qp52 : Cond.selects "CallExplorerModel" ⟨"CallExplorerModel", "chosen", "(II)I"⟩ ⟨"CallExplorerModel", "chosen", "(II)I"⟩ ∈ zt := zin (List.mem_append_left _ (List.mem_of_getElem? (i := 52) (by decide +kernel))) (by decide +kernel)
theorem qp53 : Cond.selects "CallExplorerModel" ⟨"CallExplorerModel", "offered", "(I)I"⟩ ⟨"CallExplorerModel", "offered", "(I)I"⟩ ∈ zt := zin (List.mem_append_left _ (List.mem_of_getElem? (i := 53) (by decide +kernel))) (by decide +kernel)
theorem qp54 : Cond.selects "CallExplorerModel" ⟨"CallExplorerModel", "offers", "(II)Z"⟩ ⟨"CallExplorerModel", "offers", "(II)Z"⟩ ∈ zt := zin (List.mem_append_left _ (List.mem_of_getElem? (i := 54) (by decide +kernel))) (by decide +kernel)
theorem qp55 : Cond.selects "CallExplorerModel" ⟨"CallExplorerModel", "typeOf", "(I)I"⟩ ⟨"CallExplorerModel", "typeOf", "(I)I"⟩ ∈ zt := zin (List.mem_append_left _ (List.mem_of_getElem? (i := 55) (by decide +kernel))) (by decide +kernel)
theorem qp56 : Cond.selects "CallExplorerModel" ⟨"CallExplorerModel", "gives", "(I)I"⟩ ⟨"CallExplorerModel", "gives", "(I)I"⟩ ∈ zt := zin (List.mem_append_left _ (List.mem_of_getElem? (i := 56) (by decide +kernel))) (by decide +kernel)
theorem qp57 : Cond.selects "CallExplorerModel" ⟨"CallExplorerModel", "is", "(II)Z"⟩ ⟨"CallExplorerModel", "is", "(II)Z"⟩ ∈ zt := zin (List.mem_append_left _ (List.mem_of_getElem? (i := 57) (by decide +kernel))) (by decide +kernel)
theorem qp58 : Cond.selects "CallExplorerModel" ⟨"CallExplorerModel", "take", "(III)V"⟩ ⟨"CallExplorerModel", "take", "(III)V"⟩ ∈ zt := zin (List.mem_append_left _ (List.mem_of_getElem? (i := 58) (by decide +kernel))) (by decide +kernel)
theorem qp59 : Cond.selects "CallExplorerModel" ⟨"CallExplorerModel", "copyFrom", "(II)V"⟩ ⟨"CallExplorerModel", "copyFrom", "(II)V"⟩ ∈ zt := zin (List.mem_append_left _ (List.mem_of_getElem? (i := 59) (by decide +kernel))) (by decide +kernel)
theorem qp60 : Cond.selects "CallExplorerModel" ⟨"CallExplorerModel", "choose", "(III)V"⟩ ⟨"CallExplorerModel", "choose", "(III)V"⟩ ∈ zt := zin (List.mem_append_left _ (List.mem_of_getElem? (i := 60) (by decide +kernel))) (by decide +kernel)
theorem qp61 : Cond.selects "CallExplorerModel" ⟨"CallExplorerModel", "put", "(I)V"⟩ ⟨"CallExplorerModel", "put", "(I)V"⟩ ∈ zt := zin (List.mem_append_left _ (List.mem_of_getElem? (i := 61) (by decide +kernel))) (by decide +kernel)
theorem qp62 : Cond.selects "CallExplorerModel" ⟨"CallExplorerModel", "known", "()Z"⟩ ⟨"CallExplorerModel", "known", "()Z"⟩ ∈ zt := zin (List.mem_append_left _ (List.mem_of_getElem? (i := 62) (by decide +kernel))) (by decide +kernel)
theorem qp63 : Cond.selects "CallExplorerModel" ⟨"CallExplorerModel", "alike", "(II)Z"⟩ ⟨"CallExplorerModel", "alike", "(II)Z"⟩ ∈ zt := zin (List.mem_append_left _ (List.mem_of_getElem? (i := 63) (by decide +kernel))) (by decide +kernel)
theorem qp64 : Cond.selects "CallExplorerModel" ⟨"CallExplorerModel", "entered", "()I"⟩ ⟨"CallExplorerModel", "entered", "()I"⟩ ∈ zt := zin (List.mem_append_left _ (List.mem_of_getElem? (i := 64) (by decide +kernel))) (by decide +kernel)
theorem qp65 : Cond.selects "CallExplorerModel" ⟨"CallExplorerModel", "store", "(I)V"⟩ ⟨"CallExplorerModel", "store", "(I)V"⟩ ∈ zt := zin (List.mem_append_left _ (List.mem_of_getElem? (i := 65) (by decide +kernel))) (by decide +kernel)
theorem qp66 : Cond.selects "CallExplorerModel" ⟨"CallExplorerModel", "run", "()V"⟩ ⟨"CallExplorerModel", "run", "()V"⟩ ∈ zt := zin (List.mem_append_left _ (List.mem_of_getElem? (i := 66) (by decide +kernel))) (by decide +kernel)
theorem qp67 : Cond.selects "CallExplorerModel" ⟨"CallExplorerModel", "perform", "(I)I"⟩ ⟨"CallExplorerModel", "perform", "(I)I"⟩ ∈ zt := zin (List.mem_append_left _ (List.mem_of_getElem? (i := 67) (by decide +kernel))) (by decide +kernel)
theorem qp68 : Cond.selects "CallExplorerModel" ⟨"CallExplorerModel", "valueOf", "(II)I"⟩ ⟨"CallExplorerModel", "valueOf", "(II)I"⟩ ∈ zt := zin (List.mem_append_left _ (List.mem_of_getElem? (i := 68) (by decide +kernel))) (by decide +kernel)
theorem qp69 : Cond.selects "CallExplorerModel" ⟨"CallExplorerModel", "made", "(III)I"⟩ ⟨"CallExplorerModel", "made", "(III)I"⟩ ∈ zt := zin (List.mem_append_left _ (List.mem_of_getElem? (i := 69) (by decide +kernel))) (by decide +kernel)
theorem qp70 : Cond.selects "CallExplorerModel" ⟨"CallExplorerModel", "reaches", "(II)Z"⟩ ⟨"CallExplorerModel", "reaches", "(II)Z"⟩ ∈ zt := zin (List.mem_append_left _ (List.mem_of_getElem? (i := 70) (by decide +kernel))) (by decide +kernel)
theorem qp71 : Cond.selects "CallExplorerModel" ⟨"CallExplorerModel", "count", "(I)I"⟩ ⟨"CallExplorerModel", "count", "(I)I"⟩ ∈ zt := zin (List.mem_append_left _ (List.mem_of_getElem? (i := 71) (by decide +kernel))) (by decide +kernel)
theorem qp72 : Cond.selects "CallExplorerModel" ⟨"CallExplorerModel", "equal", "(II)Z"⟩ ⟨"CallExplorerModel", "equal", "(II)Z"⟩ ∈ zt := zin (List.mem_append_left _ (List.mem_of_getElem? (i := 72) (by decide +kernel))) (by decide +kernel)
theorem qp73 : Cond.selects "CallExplorerModel" ⟨"CallExplorerModel", "hadNull", "(I)Z"⟩ ⟨"CallExplorerModel", "hadNull", "(I)Z"⟩ ∈ zt := zin (List.mem_append_left _ (List.mem_of_getElem? (i := 73) (by decide +kernel))) (by decide +kernel)
theorem qp74 : Cond.selects "CallExplorerModel" ⟨"CallExplorerModel", "unsound", "()I"⟩ ⟨"CallExplorerModel", "unsound", "()I"⟩ ∈ zt := zin (List.mem_append_left _ (List.mem_of_getElem? (i := 74) (by decide +kernel))) (by decide +kernel)
theorem qp75 : Cond.selects "CallExplorerModel" ⟨"CallExplorerModel", "codeOf", "(I)I"⟩ ⟨"CallExplorerModel", "codeOf", "(I)I"⟩ ∈ zt := zin (List.mem_append_left _ (List.mem_of_getElem? (i := 75) (by decide +kernel))) (by decide +kernel)
theorem qp76 : Cond.selects "CallExplorerModel" ⟨"CallExplorerModel", "form", "()V"⟩ ⟨"CallExplorerModel", "form", "()V"⟩ ∈ zt := zin (List.mem_append_left _ (List.mem_of_getElem? (i := 76) (by decide +kernel))) (by decide +kernel)
theorem qp77 : Cond.selects "CallExplorerModel" ⟨"CallExplorerModel", "seen", "()Z"⟩ ⟨"CallExplorerModel", "seen", "()Z"⟩ ∈ zt := zin (List.mem_append_left _ (List.mem_of_getElem? (i := 77) (by decide +kernel))) (by decide +kernel)
theorem qp78 : Cond.selects "CallExplorerModel" ⟨"CallExplorerModel", "load", "(I)V"⟩ ⟨"CallExplorerModel", "load", "(I)V"⟩ ∈ zt := zin (List.mem_append_left _ (List.mem_of_getElem? (i := 78) (by decide +kernel))) (by decide +kernel)
theorem qp79 : Cond.selects "CallExplorerModel" ⟨"CallExplorerModel", "simpler", "(II)V"⟩ ⟨"CallExplorerModel", "simpler", "(II)V"⟩ ∈ zt := zin (List.mem_append_left _ (List.mem_of_getElem? (i := 79) (by decide +kernel))) (by decide +kernel)
theorem qp80 : Cond.selects "CallExplorerModel" ⟨"CallExplorerModel", "settle", "(I)V"⟩ ⟨"CallExplorerModel", "settle", "(I)V"⟩ ∈ zt := zin (List.mem_append_left _ (List.mem_of_getElem? (i := 80) (by decide +kernel))) (by decide +kernel)
theorem qp81 : Cond.selects "CallExplorerModel" ⟨"CallExplorerModel", "used", "(I)Z"⟩ ⟨"CallExplorerModel", "used", "(I)Z"⟩ ∈ zt := zin (List.mem_append_left _ (List.mem_of_getElem? (i := 81) (by decide +kernel))) (by decide +kernel)
theorem qp82 : Cond.selects "CallExplorerModel" ⟨"CallExplorerModel", "without", "(I)V"⟩ ⟨"CallExplorerModel", "without", "(I)V"⟩ ∈ zt := zin (List.mem_append_left _ (List.mem_of_getElem? (i := 82) (by decide +kernel))) (by decide +kernel)
theorem qp83 : Cond.selects "CallExplorerModel" ⟨"CallExplorerModel", "writeAll", "(I)V"⟩ ⟨"CallExplorerModel", "writeAll", "(I)V"⟩ ∈ zt := zin (List.mem_append_left _ (List.mem_of_getElem? (i := 83) (by decide +kernel))) (by decide +kernel)
theorem qp84 : Cond.selects "CallExplorerModel" ⟨"CallExplorerModel", "write", "(I)V"⟩ ⟨"CallExplorerModel", "write", "(I)V"⟩ ∈ zt := zin (List.mem_append_left _ (List.mem_of_getElem? (i := 84) (by decide +kernel))) (by decide +kernel)
theorem qp85 : Cond.selects "CallExplorerModel" ⟨"CallExplorerModel", "writeNumber", "(I)V"⟩ ⟨"CallExplorerModel", "writeNumber", "(I)V"⟩ ∈ zt := zin (List.mem_append_left _ (List.mem_of_getElem? (i := 85) (by decide +kernel))) (by decide +kernel)
theorem qp86 : Cond.selects "CallExplorerModel" ⟨"CallExplorerModel", "peek", "()I"⟩ ⟨"CallExplorerModel", "peek", "()I"⟩ ∈ zt := zin (List.mem_append_left _ (List.mem_of_getElem? (i := 86) (by decide +kernel))) (by decide +kernel)
theorem qp87 : Cond.selects "CallExplorerModel" ⟨"CallExplorerModel", "readStatement", "()V"⟩ ⟨"CallExplorerModel", "readStatement", "()V"⟩ ∈ zt := zin (List.mem_append_left _ (List.mem_of_getElem? (i := 87) (by decide +kernel))) (by decide +kernel)
theorem qp88 : Cond.selects "CallExplorerModel" ⟨"CallExplorerModel", "expect", "(I)V"⟩ ⟨"CallExplorerModel", "expect", "(I)V"⟩ ∈ zt := zin (List.mem_append_left _ (List.mem_of_getElem? (i := 88) (by decide +kernel))) (by decide +kernel)
theorem qp89 : Cond.selects "CallExplorerModel" ⟨"CallExplorerModel", "readArgument", "(II)V"⟩ ⟨"CallExplorerModel", "readArgument", "(II)V"⟩ ∈ zt := zin (List.mem_append_left _ (List.mem_of_getElem? (i := 89) (by decide +kernel))) (by decide +kernel)
theorem qp90 : Cond.selects "CallExplorerModel" ⟨"CallExplorerModel", "number", "(Z)I"⟩ ⟨"CallExplorerModel", "number", "(Z)I"⟩ ∈ zt := zin (List.mem_append_left _ (List.mem_of_getElem? (i := 90) (by decide +kernel))) (by decide +kernel)
theorem qp91 : Cond.selects "CallExplorerModel" ⟨"CallExplorerModel", "rightEnd", "()Z"⟩ ⟨"CallExplorerModel", "rightEnd", "()Z"⟩ ∈ zt := zin (List.mem_append_left _ (List.mem_of_getElem? (i := 91) (by decide +kernel))) (by decide +kernel)
theorem q2 : Cond.initialized "CallExplorer$Catalog" ∈ zt := zin (List.mem_append_right _ (List.mem_of_getElem? (i := 2) (by decide +kernel))) (by decide +kernel)
theorem q3 : Cond.initialized "CallExplorer$Book" ∈ zt := zin (List.mem_append_right _ (List.mem_of_getElem? (i := 3) (by decide +kernel))) (by decide +kernel)
theorem q4 : Cond.initialized "CallExplorer$Runner" ∈ zt := zin (List.mem_append_right _ (List.mem_of_getElem? (i := 4) (by decide +kernel))) (by decide +kernel)
theorem q5 : Cond.initialized "CallExplorer$Heap" ∈ zt := zin (List.mem_append_right _ (List.mem_of_getElem? (i := 5) (by decide +kernel))) (by decide +kernel)
theorem q6 : Cond.initialized "CallExplorer$Grower" ∈ zt := zin (List.mem_append_right _ (List.mem_of_getElem? (i := 6) (by decide +kernel))) (by decide +kernel)
theorem q7 : Cond.initialized "CallExplorer$Sequence" ∈ zt := zin (List.mem_append_right _ (List.mem_of_getElem? (i := 7) (by decide +kernel))) (by decide +kernel)
theorem q8 : Cond.initialized "CallExplorer$Shortener" ∈ zt := zin (List.mem_append_right _ (List.mem_of_getElem? (i := 8) (by decide +kernel))) (by decide +kernel)
theorem q9 : Cond.initialized "CallExplorer$Writer" ∈ zt := zin (List.mem_append_right _ (List.mem_of_getElem? (i := 9) (by decide +kernel))) (by decide +kernel)
theorem q10 : Cond.initialized "CallExplorer$Reader" ∈ zt := zin (List.mem_append_right _ (List.mem_of_getElem? (i := 10) (by decide +kernel))) (by decide +kernel)
theorem q11 : Cond.initialized "CallExplorerModel" ∈ zt := zin (List.mem_append_right _ (List.mem_of_getElem? (i := 11) (by decide +kernel))) (by decide +kernel)
theorem q12 : Cond.initialized "java/lang/System" ∈ zt := zin (List.mem_append_right _ (List.mem_of_getElem? (i := 12) (by decide +kernel))) (by decide +kernel)
theorem q13 : Cond.initialized "CallExplorer$Entry" ∈ zt := zin (List.mem_append_right _ (List.mem_of_getElem? (i := 13) (by decide +kernel))) (by decide +kernel)
theorem q30 : Cond.fieldLink "CallExplorer$Catalog" (33 : Nat) "CallExplorer$Catalog" "classes" "I" ∈ zt := zin (List.mem_append_right _ (List.mem_of_getElem? (i := 30) (by decide +kernel))) (by decide +kernel)
theorem q31 : Cond.fieldLink "CallExplorer$Catalog" (37 : Nat) "CallExplorer$Catalog" "operations" "I" ∈ zt := zin (List.mem_append_right _ (List.mem_of_getElem? (i := 31) (by decide +kernel))) (by decide +kernel)
theorem q33 : Cond.fieldLink "CallExplorer$Reader" (81 : Nat) "CallExplorer$Catalog" "operations" "I" ∈ zt := zin (List.mem_append_right _ (List.mem_of_getElem? (i := 33) (by decide +kernel))) (by decide +kernel)
theorem q34 : Cond.fieldLink "CallExplorer$Catalog" (9 : Nat) "CallExplorer$Catalog" "parents" "[I" ∈ zt := zin (List.mem_append_right _ (List.mem_of_getElem? (i := 34) (by decide +kernel))) (by decide +kernel)
theorem q35 : Cond.fieldLink "CallExplorer$Catalog" (15 : Nat) "CallExplorer$Catalog" "senses" "[I" ∈ zt := zin (List.mem_append_right _ (List.mem_of_getElem? (i := 35) (by decide +kernel))) (by decide +kernel)
theorem q36 : Cond.fieldLink "CallExplorer$Heap" (29 : Nat) "CallExplorer$Catalog" "senses" "[I" ∈ zt := zin (List.mem_append_right _ (List.mem_of_getElem? (i := 36) (by decide +kernel))) (by decide +kernel)
theorem q37 : Cond.fieldLink "CallExplorer$Catalog" (18 : Nat) "CallExplorer$Catalog" "marks" "[I" ∈ zt := zin (List.mem_append_right _ (List.mem_of_getElem? (i := 37) (by decide +kernel))) (by decide +kernel)
theorem q38 : Cond.fieldLink "CallExplorer$Heap" (38 : Nat) "CallExplorer$Catalog" "marks" "[I" ∈ zt := zin (List.mem_append_right _ (List.mem_of_getElem? (i := 38) (by decide +kernel))) (by decide +kernel)
theorem q39 : Cond.fieldLink "CallExplorer$Catalog" (21 : Nat) "CallExplorer$Catalog" "kinds" "[I" ∈ zt := zin (List.mem_append_right _ (List.mem_of_getElem? (i := 39) (by decide +kernel))) (by decide +kernel)
theorem q40 : Cond.fieldLink "CallExplorer$Runner" (95 : Nat) "CallExplorer$Catalog" "kinds" "[I" ∈ zt := zin (List.mem_append_right _ (List.mem_of_getElem? (i := 40) (by decide +kernel))) (by decide +kernel)
theorem q41 : Cond.fieldLink "CallExplorer$Catalog" (24 : Nat) "CallExplorer$Catalog" "firstTypes" "[I" ∈ zt := zin (List.mem_append_right _ (List.mem_of_getElem? (i := 41) (by decide +kernel))) (by decide +kernel)
theorem q42 : Cond.fieldLink "CallExplorer$Catalog" (27 : Nat) "CallExplorer$Catalog" "secondTypes" "[I" ∈ zt := zin (List.mem_append_right _ (List.mem_of_getElem? (i := 42) (by decide +kernel))) (by decide +kernel)
theorem q43 : Cond.fieldLink "CallExplorer$Catalog" (30 : Nat) "CallExplorer$Catalog" "resultTypes" "[I" ∈ zt := zin (List.mem_append_right _ (List.mem_of_getElem? (i := 43) (by decide +kernel))) (by decide +kernel)
theorem q44 : Cond.fieldLink "CallExplorer$Shortener" (68 : Nat) "CallExplorer$Catalog" "resultTypes" "[I" ∈ zt := zin (List.mem_append_right _ (List.mem_of_getElem? (i := 44) (by decide +kernel))) (by decide +kernel)
theorem q46 : Cond.fieldLink "CallExplorer$Runner" (98 : Nat) "CallExplorer$Catalog" "resultTypes" "[I" ∈ zt := zin (List.mem_append_right _ (List.mem_of_getElem? (i := 46) (by decide +kernel))) (by decide +kernel)
theorem q47 : Cond.fieldLink "CallExplorer$Grower" (114 : Nat) "CallExplorer$Catalog" "resultTypes" "[I" ∈ zt := zin (List.mem_append_right _ (List.mem_of_getElem? (i := 47) (by decide +kernel))) (by decide +kernel)
theorem q48 : Cond.fieldLink "CallExplorer$Reader" (122 : Nat) "CallExplorer$Catalog" "resultTypes" "[I" ∈ zt := zin (List.mem_append_right _ (List.mem_of_getElem? (i := 48) (by decide +kernel))) (by decide +kernel)
theorem q77 : Cond.fieldLink "CallExplorer$Book" (21 : Nat) "CallExplorer$Book" "catalog" "LCallExplorer$Catalog;" ∈ zt := zin (List.mem_append_right _ (List.mem_of_getElem? (i := 77) (by decide +kernel))) (by decide +kernel)
theorem q78 : Cond.fieldLink "CallExplorer$Book" (25 : Nat) "CallExplorer$Book" "size" "I" ∈ zt := zin (List.mem_append_right _ (List.mem_of_getElem? (i := 78) (by decide +kernel))) (by decide +kernel)
theorem q79 : Cond.fieldLink "CallExplorer" (89 : Nat) "CallExplorer$Book" "size" "I" ∈ zt := zin (List.mem_append_right _ (List.mem_of_getElem? (i := 79) (by decide +kernel))) (by decide +kernel)
theorem q80 : Cond.fieldLink "CallExplorer$Book" (11 : Nat) "CallExplorer$Book" "rows" "[LCallExplorer$Entry;" ∈ zt := zin (List.mem_append_right _ (List.mem_of_getElem? (i := 80) (by decide +kernel))) (by decide +kernel)
theorem q81 : Cond.fieldLink "CallExplorer$Book" (17 : Nat) "CallExplorer$Book" "listed" "[I" ∈ zt := zin (List.mem_append_right _ (List.mem_of_getElem? (i := 81) (by decide +kernel))) (by decide +kernel)
theorem q82 : Cond.fieldLink "CallExplorer$Grower" (124 : Nat) "CallExplorer$Book" "listed" "[I" ∈ zt := zin (List.mem_append_right _ (List.mem_of_getElem? (i := 82) (by decide +kernel))) (by decide +kernel)
theorem q104 : Cond.fieldLink "CallExplorer$Heap" (21 : Nat) "CallExplorer$Heap" "catalog" "LCallExplorer$Catalog;" ∈ zt := zin (List.mem_append_right _ (List.mem_of_getElem? (i := 104) (by decide +kernel))) (by decide +kernel)
theorem q105 : Cond.fieldLink "CallExplorer$Heap" (25 : Nat) "CallExplorer$Heap" "count" "I" ∈ zt := zin (List.mem_append_right _ (List.mem_of_getElem? (i := 105) (by decide +kernel))) (by decide +kernel)
theorem q106 : Cond.fieldLink "CallExplorer$Runner" (31 : Nat) "CallExplorer$Heap" "count" "I" ∈ zt := zin (List.mem_append_right _ (List.mem_of_getElem? (i := 106) (by decide +kernel))) (by decide +kernel)
theorem q107 : Cond.fieldLink "CallExplorer$Heap" (9 : Nat) "CallExplorer$Heap" "classes" "[I" ∈ zt := zin (List.mem_append_right _ (List.mem_of_getElem? (i := 107) (by decide +kernel))) (by decide +kernel)
theorem q108 : Cond.fieldLink "CallExplorer$Runner" (141 : Nat) "CallExplorer$Heap" "classes" "[I" ∈ zt := zin (List.mem_append_right _ (List.mem_of_getElem? (i := 108) (by decide +kernel))) (by decide +kernel)
theorem q109 : Cond.fieldLink "CallExplorer$Heap" (15 : Nat) "CallExplorer$Heap" "values" "[I" ∈ zt := zin (List.mem_append_right _ (List.mem_of_getElem? (i := 109) (by decide +kernel))) (by decide +kernel)
theorem q110 : Cond.fieldLink "CallExplorer$Runner" (105 : Nat) "CallExplorer$Heap" "values" "[I" ∈ zt := zin (List.mem_append_right _ (List.mem_of_getElem? (i := 110) (by decide +kernel))) (by decide +kernel)
theorem q111 : Cond.fieldLink "CallExplorer$Heap" (18 : Nat) "CallExplorer$Heap" "nexts" "[I" ∈ zt := zin (List.mem_append_right _ (List.mem_of_getElem? (i := 111) (by decide +kernel))) (by decide +kernel)
theorem q112 : Cond.fieldLink "CallExplorer$Runner" (138 : Nat) "CallExplorer$Heap" "nexts" "[I" ∈ zt := zin (List.mem_append_right _ (List.mem_of_getElem? (i := 112) (by decide +kernel))) (by decide +kernel)
theorem q124 : Cond.fieldLink "CallExplorer$Runner" (18 : Nat) "CallExplorer$Runner" "catalog" "LCallExplorer$Catalog;" ∈ zt := zin (List.mem_append_right _ (List.mem_of_getElem? (i := 124) (by decide +kernel))) (by decide +kernel)
theorem q125 : Cond.fieldLink "CallExplorer$Runner" (27 : Nat) "CallExplorer$Runner" "heap" "LCallExplorer$Heap;" ∈ zt := zin (List.mem_append_right _ (List.mem_of_getElem? (i := 125) (by decide +kernel))) (by decide +kernel)
theorem q126 : Cond.fieldLink "CallExplorer$Runner" (9 : Nat) "CallExplorer$Runner" "results" "[I" ∈ zt := zin (List.mem_append_right _ (List.mem_of_getElem? (i := 126) (by decide +kernel))) (by decide +kernel)
theorem q127 : Cond.fieldLink "CallExplorer$Runner" (68 : Nat) "CallExplorer$Runner" "outcome" "I" ∈ zt := zin (List.mem_append_right _ (List.mem_of_getElem? (i := 127) (by decide +kernel))) (by decide +kernel)
theorem q130 : Cond.fieldLink "CallExplorer$Reader" (62 : Nat) "CallExplorer$Runner" "outcome" "I" ∈ zt := zin (List.mem_append_right _ (List.mem_of_getElem? (i := 130) (by decide +kernel))) (by decide +kernel)
theorem q131 : Cond.fieldLink "CallExplorer$Shortener" (91 : Nat) "CallExplorer$Runner" "outcome" "I" ∈ zt := zin (List.mem_append_right _ (List.mem_of_getElem? (i := 131) (by decide +kernel))) (by decide +kernel)
theorem q133 : Cond.fieldLink "CallExplorer$Runner" (65 : Nat) "CallExplorer$Runner" "detail" "I" ∈ zt := zin (List.mem_append_right _ (List.mem_of_getElem? (i := 133) (by decide +kernel))) (by decide +kernel)
theorem q134 : Cond.fieldLink "CallExplorer$Reader" (68 : Nat) "CallExplorer$Runner" "detail" "I" ∈ zt := zin (List.mem_append_right _ (List.mem_of_getElem? (i := 134) (by decide +kernel))) (by decide +kernel)
theorem q135 : Cond.fieldLink "CallExplorer$Shortener" (95 : Nat) "CallExplorer$Runner" "detail" "I" ∈ zt := zin (List.mem_append_right _ (List.mem_of_getElem? (i := 135) (by decide +kernel))) (by decide +kernel)
theorem q136 : Cond.fieldLink "CallExplorer$Entry" (33 : Nat) "CallExplorer$Runner" "gave" "I" ∈ zt := zin (List.mem_append_right _ (List.mem_of_getElem? (i := 136) (by decide +kernel))) (by decide +kernel)
theorem q137 : Cond.fieldLink "CallExplorer$Runner" (35 : Nat) "CallExplorer$Runner" "gave" "I" ∈ zt := zin (List.mem_append_right _ (List.mem_of_getElem? (i := 137) (by decide +kernel))) (by decide +kernel)
theorem q138 : Cond.fieldLink "CallExplorer$Reader" (72 : Nat) "CallExplorer$Runner" "gave" "I" ∈ zt := zin (List.mem_append_right _ (List.mem_of_getElem? (i := 138) (by decide +kernel))) (by decide +kernel)
theorem q139 : Cond.fieldLink "CallExplorer$Entry" (37 : Nat) "CallExplorer$Runner" "number" "I" ∈ zt := zin (List.mem_append_right _ (List.mem_of_getElem? (i := 139) (by decide +kernel))) (by decide +kernel)
theorem q140 : Cond.fieldLink "CallExplorer$Runner" (38 : Nat) "CallExplorer$Runner" "number" "I" ∈ zt := zin (List.mem_append_right _ (List.mem_of_getElem? (i := 140) (by decide +kernel))) (by decide +kernel)
theorem q141 : Cond.fieldLink "CallExplorer$Reader" (76 : Nat) "CallExplorer$Runner" "number" "I" ∈ zt := zin (List.mem_append_right _ (List.mem_of_getElem? (i := 141) (by decide +kernel))) (by decide +kernel)
theorem q142 : Cond.fieldLink "CallExplorer$Entry" (45 : Nat) "CallExplorer$Runner" "rowLength" "I" ∈ zt := zin (List.mem_append_right _ (List.mem_of_getElem? (i := 142) (by decide +kernel))) (by decide +kernel)
theorem q143 : Cond.fieldLink "CallExplorer$Runner" (41 : Nat) "CallExplorer$Runner" "rowLength" "I" ∈ zt := zin (List.mem_append_right _ (List.mem_of_getElem? (i := 143) (by decide +kernel))) (by decide +kernel)
theorem q144 : Cond.fieldLink "CallExplorer$Runner" (15 : Nat) "CallExplorer$Runner" "row" "[I" ∈ zt := zin (List.mem_append_right _ (List.mem_of_getElem? (i := 144) (by decide +kernel))) (by decide +kernel)
theorem q145 : Cond.fieldLink "CallExplorer$Entry" (41 : Nat) "CallExplorer$Runner" "row" "[I" ∈ zt := zin (List.mem_append_right _ (List.mem_of_getElem? (i := 145) (by decide +kernel))) (by decide +kernel)
theorem q177 : Cond.fieldLink "CallExplorer$Shortener" (31 : Nat) "CallExplorer$Sequence" "size" "I" ∈ zt := zin (List.mem_append_right _ (List.mem_of_getElem? (i := 177) (by decide +kernel))) (by decide +kernel)
theorem q178 : Cond.fieldLink "CallExplorer$Writer" (25 : Nat) "CallExplorer$Sequence" "size" "I" ∈ zt := zin (List.mem_append_right _ (List.mem_of_getElem? (i := 178) (by decide +kernel))) (by decide +kernel)
theorem q179 : Cond.fieldLink "CallExplorer$Runner" (44 : Nat) "CallExplorer$Sequence" "size" "I" ∈ zt := zin (List.mem_append_right _ (List.mem_of_getElem? (i := 179) (by decide +kernel))) (by decide +kernel)
theorem q181 : Cond.fieldLink "CallExplorer$Reader" (53 : Nat) "CallExplorer$Sequence" "size" "I" ∈ zt := zin (List.mem_append_right _ (List.mem_of_getElem? (i := 181) (by decide +kernel))) (by decide +kernel)
theorem q182 : Cond.fieldLink "CallExplorer$Sequence" (15 : Nat) "CallExplorer$Sequence" "size" "I" ∈ zt := zin (List.mem_append_right _ (List.mem_of_getElem? (i := 182) (by decide +kernel))) (by decide +kernel)
theorem q183 : Cond.fieldLink "CallExplorer" (106 : Nat) "CallExplorer$Sequence" "size" "I" ∈ zt := zin (List.mem_append_right _ (List.mem_of_getElem? (i := 183) (by decide +kernel))) (by decide +kernel)
theorem q184 : Cond.fieldLink "CallExplorer$Grower" (131 : Nat) "CallExplorer$Sequence" "size" "I" ∈ zt := zin (List.mem_append_right _ (List.mem_of_getElem? (i := 184) (by decide +kernel))) (by decide +kernel)
theorem q185 : Cond.fieldLink "CallExplorer$Sequence" (9 : Nat) "CallExplorer$Sequence" "cells" "[I" ∈ zt := zin (List.mem_append_right _ (List.mem_of_getElem? (i := 185) (by decide +kernel))) (by decide +kernel)
theorem q186 : Cond.fieldLink "CallExplorer" (118 : Nat) "CallExplorer$Sequence" "cells" "[I" ∈ zt := zin (List.mem_append_right _ (List.mem_of_getElem? (i := 186) (by decide +kernel))) (by decide +kernel)
theorem q192 : Cond.fieldLink "CallExplorer$Grower" (28 : Nat) "CallExplorer$Grower" "catalog" "LCallExplorer$Catalog;" ∈ zt := zin (List.mem_append_right _ (List.mem_of_getElem? (i := 192) (by decide +kernel))) (by decide +kernel)
theorem q193 : Cond.fieldLink "CallExplorer$Grower" (32 : Nat) "CallExplorer$Grower" "book" "LCallExplorer$Book;" ∈ zt := zin (List.mem_append_right _ (List.mem_of_getElem? (i := 193) (by decide +kernel))) (by decide +kernel)
theorem q195 : Cond.fieldLink "CallExplorer$Grower" (12 : Nat) "CallExplorer$Grower" "sequence" "LCallExplorer$Sequence;" ∈ zt := zin (List.mem_append_right _ (List.mem_of_getElem? (i := 195) (by decide +kernel))) (by decide +kernel)
theorem q196 : Cond.fieldLink "CallExplorer$Grower" (18 : Nat) "CallExplorer$Grower" "literals" "[I" ∈ zt := zin (List.mem_append_right _ (List.mem_of_getElem? (i := 196) (by decide +kernel))) (by decide +kernel)
theorem q197 : Cond.fieldLink "CallExplorer$Grower" (44 : Nat) "CallExplorer$Grower" "literalCount" "I" ∈ zt := zin (List.mem_append_right _ (List.mem_of_getElem? (i := 197) (by decide +kernel))) (by decide +kernel)
theorem q198 : Cond.fieldLink "CallExplorer$Grower" (40 : Nat) "CallExplorer$Grower" "seed" "I" ∈ zt := zin (List.mem_append_right _ (List.mem_of_getElem? (i := 198) (by decide +kernel))) (by decide +kernel)
theorem q199 : Cond.fieldLink "CallExplorer" (149 : Nat) "CallExplorer$Grower" "seed" "I" ∈ zt := zin (List.mem_append_right _ (List.mem_of_getElem? (i := 199) (by decide +kernel))) (by decide +kernel)
theorem q200 : Cond.fieldLink "CallExplorer$Grower" (22 : Nat) "CallExplorer$Grower" "forms" "[I" ∈ zt := zin (List.mem_append_right _ (List.mem_of_getElem? (i := 200) (by decide +kernel))) (by decide +kernel)
theorem q201 : Cond.fieldLink "CallExplorer$Grower" (25 : Nat) "CallExplorer$Grower" "contents" "[I" ∈ zt := zin (List.mem_append_right _ (List.mem_of_getElem? (i := 201) (by decide +kernel))) (by decide +kernel)
theorem q229 : Cond.fieldLink "CallExplorer$Shortener" (18 : Nat) "CallExplorer$Shortener" "catalog" "LCallExplorer$Catalog;" ∈ zt := zin (List.mem_append_right _ (List.mem_of_getElem? (i := 229) (by decide +kernel))) (by decide +kernel)
theorem q230 : Cond.fieldLink "CallExplorer$Shortener" (22 : Nat) "CallExplorer$Shortener" "runner" "LCallExplorer$Runner;" ∈ zt := zin (List.mem_append_right _ (List.mem_of_getElem? (i := 230) (by decide +kernel))) (by decide +kernel)
theorem q231 : Cond.fieldLink "CallExplorer$Shortener" (12 : Nat) "CallExplorer$Shortener" "trial" "LCallExplorer$Sequence;" ∈ zt := zin (List.mem_append_right _ (List.mem_of_getElem? (i := 231) (by decide +kernel))) (by decide +kernel)
theorem q245 : Cond.fieldLink "CallExplorer$Writer" (9 : Nat) "CallExplorer$Writer" "letters" "[C" ∈ zt := zin (List.mem_append_right _ (List.mem_of_getElem? (i := 245) (by decide +kernel))) (by decide +kernel)
theorem q246 : Cond.fieldLink "CallExplorer" (128 : Nat) "CallExplorer$Writer" "letters" "[C" ∈ zt := zin (List.mem_append_right _ (List.mem_of_getElem? (i := 246) (by decide +kernel))) (by decide +kernel)
theorem q247 : Cond.fieldLink "CallExplorer$Writer" (15 : Nat) "CallExplorer$Writer" "length" "I" ∈ zt := zin (List.mem_append_right _ (List.mem_of_getElem? (i := 247) (by decide +kernel))) (by decide +kernel)
theorem q248 : Cond.fieldLink "CallExplorer" (125 : Nat) "CallExplorer$Writer" "length" "I" ∈ zt := zin (List.mem_append_right _ (List.mem_of_getElem? (i := 248) (by decide +kernel))) (by decide +kernel)
theorem q263 : Cond.fieldLink "CallExplorer$Reader" (22 : Nat) "CallExplorer$Reader" "catalog" "LCallExplorer$Catalog;" ∈ zt := zin (List.mem_append_right _ (List.mem_of_getElem? (i := 263) (by decide +kernel))) (by decide +kernel)
theorem q264 : Cond.fieldLink "CallExplorer$Reader" (9 : Nat) "CallExplorer$Reader" "letters" "[C" ∈ zt := zin (List.mem_append_right _ (List.mem_of_getElem? (i := 264) (by decide +kernel))) (by decide +kernel)
theorem q265 : Cond.fieldLink "CallExplorer$Reader" (26 : Nat) "CallExplorer$Reader" "length" "I" ∈ zt := zin (List.mem_append_right _ (List.mem_of_getElem? (i := 265) (by decide +kernel))) (by decide +kernel)
theorem q266 : Cond.fieldLink "CallExplorer$Reader" (18 : Nat) "CallExplorer$Reader" "sequence" "LCallExplorer$Sequence;" ∈ zt := zin (List.mem_append_right _ (List.mem_of_getElem? (i := 266) (by decide +kernel))) (by decide +kernel)
theorem q267 : Cond.fieldLink "CallExplorer" (140 : Nat) "CallExplorer$Reader" "sequence" "LCallExplorer$Sequence;" ∈ zt := zin (List.mem_append_right _ (List.mem_of_getElem? (i := 267) (by decide +kernel))) (by decide +kernel)
theorem q268 : Cond.fieldLink "CallExplorer$Reader" (40 : Nat) "CallExplorer$Reader" "at" "I" ∈ zt := zin (List.mem_append_right _ (List.mem_of_getElem? (i := 268) (by decide +kernel))) (by decide +kernel)
theorem q269 : Cond.fieldLink "CallExplorer$Reader" (116 : Nat) "CallExplorer$Reader" "numberRead" "I" ∈ zt := zin (List.mem_append_right _ (List.mem_of_getElem? (i := 269) (by decide +kernel))) (by decide +kernel)
theorem q270 : Cond.fieldLink "CallExplorer$Reader" (59 : Nat) "CallExplorer$Reader" "outcome" "I" ∈ zt := zin (List.mem_append_right _ (List.mem_of_getElem? (i := 270) (by decide +kernel))) (by decide +kernel)
theorem q271 : Cond.fieldLink "CallExplorer$Reader" (65 : Nat) "CallExplorer$Reader" "detail" "I" ∈ zt := zin (List.mem_append_right _ (List.mem_of_getElem? (i := 271) (by decide +kernel))) (by decide +kernel)
theorem q272 : Cond.fieldLink "CallExplorer$Reader" (69 : Nat) "CallExplorer$Reader" "gave" "I" ∈ zt := zin (List.mem_append_right _ (List.mem_of_getElem? (i := 272) (by decide +kernel))) (by decide +kernel)
theorem q273 : Cond.fieldLink "CallExplorer$Reader" (73 : Nat) "CallExplorer$Reader" "number" "I" ∈ zt := zin (List.mem_append_right _ (List.mem_of_getElem? (i := 273) (by decide +kernel))) (by decide +kernel)
theorem q295 : Cond.fieldLink "CallExplorer" (10 : Nat) "CallExplorer" "catalog" "LCallExplorer$Catalog;" ∈ zt := zin (List.mem_append_right _ (List.mem_of_getElem? (i := 295) (by decide +kernel))) (by decide +kernel)
theorem q296 : Cond.fieldLink "CallExplorer" (21 : Nat) "CallExplorer" "book" "LCallExplorer$Book;" ∈ zt := zin (List.mem_append_right _ (List.mem_of_getElem? (i := 296) (by decide +kernel))) (by decide +kernel)
theorem q297 : Cond.fieldLink "CallExplorer" (28 : Nat) "CallExplorer" "runner" "LCallExplorer$Runner;" ∈ zt := zin (List.mem_append_right _ (List.mem_of_getElem? (i := 297) (by decide +kernel))) (by decide +kernel)
theorem q298 : Cond.fieldLink "CallExplorer" (37 : Nat) "CallExplorer" "grower" "LCallExplorer$Grower;" ∈ zt := zin (List.mem_append_right _ (List.mem_of_getElem? (i := 298) (by decide +kernel))) (by decide +kernel)
theorem q299 : Cond.fieldLink "CallExplorer" (46 : Nat) "CallExplorer" "shortener" "LCallExplorer$Shortener;" ∈ zt := zin (List.mem_append_right _ (List.mem_of_getElem? (i := 299) (by decide +kernel))) (by decide +kernel)
theorem q300 : Cond.fieldLink "CallExplorer" (53 : Nat) "CallExplorer" "writer" "LCallExplorer$Writer;" ∈ zt := zin (List.mem_append_right _ (List.mem_of_getElem? (i := 300) (by decide +kernel))) (by decide +kernel)
theorem q301 : Cond.fieldLink "CallExplorer" (60 : Nat) "CallExplorer" "reader" "LCallExplorer$Reader;" ∈ zt := zin (List.mem_append_right _ (List.mem_of_getElem? (i := 301) (by decide +kernel))) (by decide +kernel)
theorem q321 : Cond.methodLink "CallExplorer" (64 : Nat) ({ cls := "CallExplorer$Catalog", name := "addClass", desc := "(III)I" } : MethodName) ∈ zt := zin (List.mem_append_right _ (List.mem_of_getElem? (i := 321) (by decide +kernel))) (by decide +kernel)
theorem q322 : Cond.instanceMethod ({ cls := "CallExplorer$Catalog", name := "addClass", desc := "(III)I" } : MethodName) ∈ zt := zin (List.mem_append_right _ (List.mem_of_getElem? (i := 322) (by decide +kernel))) (by decide +kernel)
theorem q323 : Cond.selects "CallExplorer$Catalog" ({ cls := "CallExplorer$Catalog", name := "addClass", desc := "(III)I" } : MethodName) ({ cls := "CallExplorer$Catalog", name := "addClass", desc := "(III)I" } : MethodName) ∈ zt := zin (List.mem_append_right _ (List.mem_of_getElem? (i := 323) (by decide +kernel))) (by decide +kernel)
set_option maxRecDepth 100000 in
theorem q324 : Cond.code ({ cls := "CallExplorer$Catalog", name := "addClass", desc := "(III)I" } : MethodName) prog_3_method_2_code (5 : Nat) (Option.some FieldType.int) ∈ zt := zin (List.mem_append_right _ (List.mem_of_getElem? (i := 324) (rfl))) (by rfl)
theorem q325 : Cond.methodLink "CallExplorer$Catalog" (40 : Nat) ({ cls := "CallExplorer$Catalog", name := "isClass", desc := "(I)Z" } : MethodName) ∈ zt := zin (List.mem_append_right _ (List.mem_of_getElem? (i := 325) (by decide +kernel))) (by decide +kernel)
theorem q327 : Cond.instanceMethod ({ cls := "CallExplorer$Catalog", name := "isClass", desc := "(I)Z" } : MethodName) ∈ zt := zin (List.mem_append_right _ (List.mem_of_getElem? (i := 327) (by decide +kernel))) (by decide +kernel)
set_option maxRecDepth 100000 in
theorem q328 : Cond.code ({ cls := "CallExplorer$Catalog", name := "isClass", desc := "(I)Z" } : MethodName) prog_3_method_4_code (2 : Nat) (Option.some FieldType.boolean) ∈ zt := zin (List.mem_append_right _ (List.mem_of_getElem? (i := 328) (rfl))) (by rfl)
theorem q333 : Cond.methodLink "CallExplorer" (68 : Nat) ({ cls := "CallExplorer$Catalog", name := "addOperation", desc := "(III)I" } : MethodName) ∈ zt := zin (List.mem_append_right _ (List.mem_of_getElem? (i := 333) (by decide +kernel))) (by decide +kernel)
theorem q334 : Cond.instanceMethod ({ cls := "CallExplorer$Catalog", name := "addOperation", desc := "(III)I" } : MethodName) ∈ zt := zin (List.mem_append_right _ (List.mem_of_getElem? (i := 334) (by decide +kernel))) (by decide +kernel)
theorem q335 : Cond.selects "CallExplorer$Catalog" ({ cls := "CallExplorer$Catalog", name := "addOperation", desc := "(III)I" } : MethodName) ({ cls := "CallExplorer$Catalog", name := "addOperation", desc := "(III)I" } : MethodName) ∈ zt := zin (List.mem_append_right _ (List.mem_of_getElem? (i := 335) (by decide +kernel))) (by decide +kernel)
set_option maxRecDepth 100000 in
theorem q336 : Cond.code ({ cls := "CallExplorer$Catalog", name := "addOperation", desc := "(III)I" } : MethodName) prog_3_method_3_code (4 : Nat) (Option.some FieldType.int) ∈ zt := zin (List.mem_append_right _ (List.mem_of_getElem? (i := 336) (rfl))) (by rfl)
theorem q337 : Cond.methodLink "CallExplorer$Catalog" (44 : Nat) ({ cls := "CallExplorer$Catalog", name := "hasPartner", desc := "(I)Z" } : MethodName) ∈ zt := zin (List.mem_append_right _ (List.mem_of_getElem? (i := 337) (by decide +kernel))) (by decide +kernel)
theorem q339 : Cond.instanceMethod ({ cls := "CallExplorer$Catalog", name := "hasPartner", desc := "(I)Z" } : MethodName) ∈ zt := zin (List.mem_append_right _ (List.mem_of_getElem? (i := 339) (by decide +kernel))) (by decide +kernel)
set_option maxRecDepth 100000 in
theorem q340 : Cond.code ({ cls := "CallExplorer$Catalog", name := "hasPartner", desc := "(I)Z" } : MethodName) prog_3_method_5_code (2 : Nat) (Option.some FieldType.boolean) ∈ zt := zin (List.mem_append_right _ (List.mem_of_getElem? (i := 340) (rfl))) (by rfl)
theorem q347 : Cond.methodLink "CallExplorer$Catalog" (50 : Nat) ({ cls := "CallExplorer$Catalog", name := "typeOf", desc := "(III)I" } : MethodName) ∈ zt := zin (List.mem_append_right _ (List.mem_of_getElem? (i := 347) (by decide +kernel))) (by decide +kernel)
theorem q349 : Cond.instanceMethod ({ cls := "CallExplorer$Catalog", name := "typeOf", desc := "(III)I" } : MethodName) ∈ zt := zin (List.mem_append_right _ (List.mem_of_getElem? (i := 349) (by decide +kernel))) (by decide +kernel)
set_option maxRecDepth 100000 in
theorem q350 : Cond.code ({ cls := "CallExplorer$Catalog", name := "typeOf", desc := "(III)I" } : MethodName) prog_3_method_6_code (4 : Nat) (Option.some FieldType.int) ∈ zt := zin (List.mem_append_right _ (List.mem_of_getElem? (i := 350) (rfl))) (by rfl)
theorem q355 : Cond.methodLink "CallExplorer" (71 : Nat) ({ cls := "CallExplorer$Grower", name := "addLiteral", desc := "(I)I" } : MethodName) ∈ zt := zin (List.mem_append_right _ (List.mem_of_getElem? (i := 355) (by decide +kernel))) (by decide +kernel)
theorem q356 : Cond.instanceMethod ({ cls := "CallExplorer$Grower", name := "addLiteral", desc := "(I)I" } : MethodName) ∈ zt := zin (List.mem_append_right _ (List.mem_of_getElem? (i := 356) (by decide +kernel))) (by decide +kernel)
theorem q357 : Cond.selects "CallExplorer$Grower" ({ cls := "CallExplorer$Grower", name := "addLiteral", desc := "(I)I" } : MethodName) ({ cls := "CallExplorer$Grower", name := "addLiteral", desc := "(I)I" } : MethodName) ∈ zt := zin (List.mem_append_right _ (List.mem_of_getElem? (i := 357) (by decide +kernel))) (by decide +kernel)
set_option maxRecDepth 100000 in
theorem q358 : Cond.code ({ cls := "CallExplorer$Grower", name := "addLiteral", desc := "(I)I" } : MethodName) prog_5_method_2_code (3 : Nat) (Option.some FieldType.int) ∈ zt := zin (List.mem_append_right _ (List.mem_of_getElem? (i := 358) (rfl))) (by rfl)
theorem q371 : Cond.methodLink "CallExplorer$Grower" (59 : Nat) ({ cls := "CallExplorer$Grower", name := "random", desc := "(I)I" } : MethodName) ∈ zt := zin (List.mem_append_right _ (List.mem_of_getElem? (i := 371) (by decide +kernel))) (by decide +kernel)
theorem q373 : Cond.instanceMethod ({ cls := "CallExplorer$Grower", name := "random", desc := "(I)I" } : MethodName) ∈ zt := zin (List.mem_append_right _ (List.mem_of_getElem? (i := 373) (by decide +kernel))) (by decide +kernel)
set_option maxRecDepth 100000 in
theorem q374 : Cond.code ({ cls := "CallExplorer$Grower", name := "random", desc := "(I)I" } : MethodName) prog_5_method_3_code (2 : Nat) (Option.some FieldType.int) ∈ zt := zin (List.mem_append_right _ (List.mem_of_getElem? (i := 374) (rfl))) (by rfl)
theorem q375 : Cond.constant "CallExplorer$Grower" (47 : Nat) (1103515245 : Int32) ∈ zt := zin (List.mem_append_right _ (List.mem_of_getElem? (i := 375) (by decide +kernel))) (by decide +kernel)
theorem q377 : Cond.instanceMethod ({ cls := "CallExplorer$Sequence", name := "clear", desc := "()V" } : MethodName) ∈ zt := zin (List.mem_append_right _ (List.mem_of_getElem? (i := 377) (by decide +kernel))) (by decide +kernel)
theorem q378 : Cond.selects "CallExplorer$Sequence" ({ cls := "CallExplorer$Sequence", name := "clear", desc := "()V" } : MethodName) ({ cls := "CallExplorer$Sequence", name := "clear", desc := "()V" } : MethodName) ∈ zt := zin (List.mem_append_right _ (List.mem_of_getElem? (i := 378) (by decide +kernel))) (by decide +kernel)
set_option maxRecDepth 100000 in
theorem q379 : Cond.code ({ cls := "CallExplorer$Sequence", name := "clear", desc := "()V" } : MethodName) prog_9_method_7_code (1 : Nat) (Option.none : Option FieldType) ∈ zt := zin (List.mem_append_right _ (List.mem_of_getElem? (i := 379) (rfl))) (by rfl)
theorem q381 : Cond.instanceMethod ({ cls := "CallExplorer$Catalog", name := "argumentType", desc := "(II)I" } : MethodName) ∈ zt := zin (List.mem_append_right _ (List.mem_of_getElem? (i := 381) (by decide +kernel))) (by decide +kernel)
theorem q382 : Cond.selects "CallExplorer$Catalog" ({ cls := "CallExplorer$Catalog", name := "argumentType", desc := "(II)I" } : MethodName) ({ cls := "CallExplorer$Catalog", name := "argumentType", desc := "(II)I" } : MethodName) ∈ zt := zin (List.mem_append_right _ (List.mem_of_getElem? (i := 382) (by decide +kernel))) (by decide +kernel)
set_option maxRecDepth 100000 in
theorem q383 : Cond.code ({ cls := "CallExplorer$Catalog", name := "argumentType", desc := "(II)I" } : MethodName) prog_3_method_7_code (3 : Nat) (Option.some FieldType.int) ∈ zt := zin (List.mem_append_right _ (List.mem_of_getElem? (i := 383) (rfl))) (by rfl)
theorem q388 : Cond.methodLink "CallExplorer$Grower" (94 : Nat) ({ cls := "CallExplorer$Grower", name := "choose", desc := "(III)I" } : MethodName) ∈ zt := zin (List.mem_append_right _ (List.mem_of_getElem? (i := 388) (by decide +kernel))) (by decide +kernel)
theorem q390 : Cond.instanceMethod ({ cls := "CallExplorer$Grower", name := "choose", desc := "(III)I" } : MethodName) ∈ zt := zin (List.mem_append_right _ (List.mem_of_getElem? (i := 390) (by decide +kernel))) (by decide +kernel)
set_option maxRecDepth 100000 in
theorem q391 : Cond.code ({ cls := "CallExplorer$Grower", name := "choose", desc := "(III)I" } : MethodName) prog_5_method_6_code (4 : Nat) (Option.some FieldType.int) ∈ zt := zin (List.mem_append_right _ (List.mem_of_getElem? (i := 391) (rfl))) (by rfl)
theorem q392 : Cond.methodLink "CallExplorer$Grower" (98 : Nat) ({ cls := "CallExplorer$Grower", name := "chooseNumber", desc := "(I)I" } : MethodName) ∈ zt := zin (List.mem_append_right _ (List.mem_of_getElem? (i := 392) (by decide +kernel))) (by decide +kernel)
theorem q394 : Cond.instanceMethod ({ cls := "CallExplorer$Grower", name := "chooseNumber", desc := "(I)I" } : MethodName) ∈ zt := zin (List.mem_append_right _ (List.mem_of_getElem? (i := 394) (by decide +kernel))) (by decide +kernel)
set_option maxRecDepth 100000 in
theorem q395 : Cond.code ({ cls := "CallExplorer$Grower", name := "chooseNumber", desc := "(I)I" } : MethodName) prog_5_method_7_code (2 : Nat) (Option.some FieldType.int) ∈ zt := zin (List.mem_append_right _ (List.mem_of_getElem? (i := 395) (rfl))) (by rfl)
theorem q396 : Cond.methodLink "CallExplorer$Grower" (104 : Nat) ({ cls := "CallExplorer$Book", name := "listFresh", desc := "(I)I" } : MethodName) ∈ zt := zin (List.mem_append_right _ (List.mem_of_getElem? (i := 396) (by decide +kernel))) (by decide +kernel)
theorem q397 : Cond.instanceMethod ({ cls := "CallExplorer$Book", name := "listFresh", desc := "(I)I" } : MethodName) ∈ zt := zin (List.mem_append_right _ (List.mem_of_getElem? (i := 397) (by decide +kernel))) (by decide +kernel)
theorem q398 : Cond.selects "CallExplorer$Book" ({ cls := "CallExplorer$Book", name := "listFresh", desc := "(I)I" } : MethodName) ({ cls := "CallExplorer$Book", name := "listFresh", desc := "(I)I" } : MethodName) ∈ zt := zin (List.mem_append_right _ (List.mem_of_getElem? (i := 398) (by decide +kernel))) (by decide +kernel)
set_option maxRecDepth 100000 in
theorem q399 : Cond.code ({ cls := "CallExplorer$Book", name := "listFresh", desc := "(I)I" } : MethodName) prog_2_method_7_code (4 : Nat) (Option.some FieldType.int) ∈ zt := zin (List.mem_append_right _ (List.mem_of_getElem? (i := 399) (rfl))) (by rfl)
theorem q400 : Cond.methodLink "CallExplorer$Book" (68 : Nat) ({ cls := "CallExplorer$Catalog", name := "is", desc := "(II)Z" } : MethodName) ∈ zt := zin (List.mem_append_right _ (List.mem_of_getElem? (i := 400) (by decide +kernel))) (by decide +kernel)
theorem q401 : Cond.instanceMethod ({ cls := "CallExplorer$Catalog", name := "is", desc := "(II)Z" } : MethodName) ∈ zt := zin (List.mem_append_right _ (List.mem_of_getElem? (i := 401) (by decide +kernel))) (by decide +kernel)
theorem q402 : Cond.selects "CallExplorer$Catalog" ({ cls := "CallExplorer$Catalog", name := "is", desc := "(II)Z" } : MethodName) ({ cls := "CallExplorer$Catalog", name := "is", desc := "(II)Z" } : MethodName) ∈ zt := zin (List.mem_append_right _ (List.mem_of_getElem? (i := 402) (by decide +kernel))) (by decide +kernel)
set_option maxRecDepth 100000 in
theorem q403 : Cond.code ({ cls := "CallExplorer$Catalog", name := "is", desc := "(II)Z" } : MethodName) prog_3_method_8_code (5 : Nat) (Option.some FieldType.boolean) ∈ zt := zin (List.mem_append_right _ (List.mem_of_getElem? (i := 403) (rfl))) (by rfl)
theorem q404 : Cond.methodLink "CallExplorer$Grower" (107 : Nat) ({ cls := "CallExplorer$Grower", name := "take", desc := "(II)I" } : MethodName) ∈ zt := zin (List.mem_append_right _ (List.mem_of_getElem? (i := 404) (by decide +kernel))) (by decide +kernel)
theorem q406 : Cond.instanceMethod ({ cls := "CallExplorer$Grower", name := "take", desc := "(II)I" } : MethodName) ∈ zt := zin (List.mem_append_right _ (List.mem_of_getElem? (i := 406) (by decide +kernel))) (by decide +kernel)
set_option maxRecDepth 100000 in
theorem q407 : Cond.code ({ cls := "CallExplorer$Grower", name := "take", desc := "(II)I" } : MethodName) prog_5_method_10_code (5 : Nat) (Option.some FieldType.int) ∈ zt := zin (List.mem_append_right _ (List.mem_of_getElem? (i := 407) (rfl))) (by rfl)
theorem q408 : Cond.methodLink "CallExplorer$Grower" (127 : Nat) ({ cls := "CallExplorer$Book", name := "get", desc := "(I)LCallExplorer$Entry;" } : MethodName) ∈ zt := zin (List.mem_append_right _ (List.mem_of_getElem? (i := 408) (by decide +kernel))) (by decide +kernel)
theorem q409 : Cond.instanceMethod ({ cls := "CallExplorer$Book", name := "get", desc := "(I)LCallExplorer$Entry;" } : MethodName) ∈ zt := zin (List.mem_append_right _ (List.mem_of_getElem? (i := 409) (by decide +kernel))) (by decide +kernel)
theorem q410 : Cond.selects "CallExplorer$Book" ({ cls := "CallExplorer$Book", name := "get", desc := "(I)LCallExplorer$Entry;" } : MethodName) ({ cls := "CallExplorer$Book", name := "get", desc := "(I)LCallExplorer$Entry;" } : MethodName) ∈ zt := zin (List.mem_append_right _ (List.mem_of_getElem? (i := 410) (by decide +kernel))) (by decide +kernel)
set_option maxRecDepth 100000 in
theorem q411 : Cond.code ({ cls := "CallExplorer$Book", name := "get", desc := "(I)LCallExplorer$Entry;" } : MethodName) prog_2_method_3_code (2 : Nat) (Option.some (FieldType.object "CallExplorer$Entry")) ∈ zt := zin (List.mem_append_right _ (List.mem_of_getElem? (i := 411) (rfl))) (by rfl)
theorem q412 : Cond.methodLink "CallExplorer$Grower" (137 : Nat) ({ cls := "CallExplorer$Sequence", name := "append", desc := "(LCallExplorer$Sequence;)V" } : MethodName) ∈ zt := zin (List.mem_append_right _ (List.mem_of_getElem? (i := 412) (by decide +kernel))) (by decide +kernel)
theorem q413 : Cond.instanceMethod ({ cls := "CallExplorer$Sequence", name := "append", desc := "(LCallExplorer$Sequence;)V" } : MethodName) ∈ zt := zin (List.mem_append_right _ (List.mem_of_getElem? (i := 413) (by decide +kernel))) (by decide +kernel)
theorem q414 : Cond.selects "CallExplorer$Sequence" ({ cls := "CallExplorer$Sequence", name := "append", desc := "(LCallExplorer$Sequence;)V" } : MethodName) ({ cls := "CallExplorer$Sequence", name := "append", desc := "(LCallExplorer$Sequence;)V" } : MethodName) ∈ zt := zin (List.mem_append_right _ (List.mem_of_getElem? (i := 414) (by decide +kernel))) (by decide +kernel)
set_option maxRecDepth 100000 in
theorem q415 : Cond.code ({ cls := "CallExplorer$Sequence", name := "append", desc := "(LCallExplorer$Sequence;)V" } : MethodName) prog_9_method_9_code (3 : Nat) (Option.none : Option FieldType) ∈ zt := zin (List.mem_append_right _ (List.mem_of_getElem? (i := 415) (rfl))) (by rfl)
theorem q416 : Cond.methodLink "CallExplorer$Sequence" (23 : Nat) ({ cls := "java/lang/System", name := "arraycopy", desc := "(Ljava/lang/Object;ILjava/lang/Object;II)V" } : MethodName) ∈ zt := zin (List.mem_append_right _ (List.mem_of_getElem? (i := 416) (by decide +kernel))) (by decide +kernel)
theorem q417 : Cond.static ({ cls := "java/lang/System", name := "arraycopy", desc := "(Ljava/lang/Object;ILjava/lang/Object;II)V" } : MethodName) ∈ zt := zin (List.mem_append_right _ (List.mem_of_getElem? (i := 417) (by decide +kernel))) (by decide +kernel)
theorem q418 : Cond.native ({ cls := "java/lang/System", name := "arraycopy", desc := "(Ljava/lang/Object;ILjava/lang/Object;II)V" } : MethodName) ∈ zt := zin (List.mem_append_right _ (List.mem_of_getElem? (i := 418) (by decide +kernel))) (by decide +kernel)
theorem q419 : Cond.methodLink "CallExplorer$Sequence" (29 : Nat) ({ cls := "CallExplorer$Sequence", name := "moveVariables", desc := "(III)V" } : MethodName) ∈ zt := zin (List.mem_append_right _ (List.mem_of_getElem? (i := 419) (by decide +kernel))) (by decide +kernel)
theorem q421 : Cond.instanceMethod ({ cls := "CallExplorer$Sequence", name := "moveVariables", desc := "(III)V" } : MethodName) ∈ zt := zin (List.mem_append_right _ (List.mem_of_getElem? (i := 421) (by decide +kernel))) (by decide +kernel)
set_option maxRecDepth 100000 in
theorem q422 : Cond.code ({ cls := "CallExplorer$Sequence", name := "moveVariables", desc := "(III)V" } : MethodName) prog_9_method_14_code (6 : Nat) (Option.none : Option FieldType) ∈ zt := zin (List.mem_append_right _ (List.mem_of_getElem? (i := 422) (rfl))) (by rfl)
theorem q423 : Cond.methodLink "CallExplorer$Sequence" (33 : Nat) ({ cls := "CallExplorer$Sequence", name := "isVariable", desc := "(II)Z" } : MethodName) ∈ zt := zin (List.mem_append_right _ (List.mem_of_getElem? (i := 423) (by decide +kernel))) (by decide +kernel)
theorem q424 : Cond.instanceMethod ({ cls := "CallExplorer$Sequence", name := "isVariable", desc := "(II)Z" } : MethodName) ∈ zt := zin (List.mem_append_right _ (List.mem_of_getElem? (i := 424) (by decide +kernel))) (by decide +kernel)
theorem q425 : Cond.selects "CallExplorer$Sequence" ({ cls := "CallExplorer$Sequence", name := "isVariable", desc := "(II)Z" } : MethodName) ({ cls := "CallExplorer$Sequence", name := "isVariable", desc := "(II)Z" } : MethodName) ∈ zt := zin (List.mem_append_right _ (List.mem_of_getElem? (i := 425) (by decide +kernel))) (by decide +kernel)
set_option maxRecDepth 100000 in
theorem q426 : Cond.code ({ cls := "CallExplorer$Sequence", name := "isVariable", desc := "(II)Z" } : MethodName) prog_9_method_6_code (3 : Nat) (Option.some FieldType.boolean) ∈ zt := zin (List.mem_append_right _ (List.mem_of_getElem? (i := 426) (rfl))) (by rfl)
theorem q427 : Cond.methodLink "CallExplorer$Sequence" (37 : Nat) ({ cls := "CallExplorer$Sequence", name := "content", desc := "(II)I" } : MethodName) ∈ zt := zin (List.mem_append_right _ (List.mem_of_getElem? (i := 427) (by decide +kernel))) (by decide +kernel)
theorem q428 : Cond.instanceMethod ({ cls := "CallExplorer$Sequence", name := "content", desc := "(II)I" } : MethodName) ∈ zt := zin (List.mem_append_right _ (List.mem_of_getElem? (i := 428) (by decide +kernel))) (by decide +kernel)
theorem q429 : Cond.selects "CallExplorer$Sequence" ({ cls := "CallExplorer$Sequence", name := "content", desc := "(II)I" } : MethodName) ({ cls := "CallExplorer$Sequence", name := "content", desc := "(II)I" } : MethodName) ∈ zt := zin (List.mem_append_right _ (List.mem_of_getElem? (i := 429) (by decide +kernel))) (by decide +kernel)
set_option maxRecDepth 100000 in
theorem q430 : Cond.code ({ cls := "CallExplorer$Sequence", name := "content", desc := "(II)I" } : MethodName) prog_9_method_4_code (3 : Nat) (Option.some FieldType.int) ∈ zt := zin (List.mem_append_right _ (List.mem_of_getElem? (i := 430) (rfl))) (by rfl)
theorem q431 : Cond.methodLink "CallExplorer$Sequence" (19 : Nat) ({ cls := "CallExplorer$Sequence", name := "setArgument", desc := "(IIII)V" } : MethodName) ∈ zt := zin (List.mem_append_right _ (List.mem_of_getElem? (i := 431) (by decide +kernel))) (by decide +kernel)
theorem q432 : Cond.instanceMethod ({ cls := "CallExplorer$Sequence", name := "setArgument", desc := "(IIII)V" } : MethodName) ∈ zt := zin (List.mem_append_right _ (List.mem_of_getElem? (i := 432) (by decide +kernel))) (by decide +kernel)
theorem q433 : Cond.selects "CallExplorer$Sequence" ({ cls := "CallExplorer$Sequence", name := "setArgument", desc := "(IIII)V" } : MethodName) ({ cls := "CallExplorer$Sequence", name := "setArgument", desc := "(IIII)V" } : MethodName) ∈ zt := zin (List.mem_append_right _ (List.mem_of_getElem? (i := 433) (by decide +kernel))) (by decide +kernel)
set_option maxRecDepth 100000 in
theorem q434 : Cond.code ({ cls := "CallExplorer$Sequence", name := "setArgument", desc := "(IIII)V" } : MethodName) prog_9_method_5_code (5 : Nat) (Option.none : Option FieldType) ∈ zt := zin (List.mem_append_right _ (List.mem_of_getElem? (i := 434) (rfl))) (by rfl)
theorem q435 : Cond.methodLink "CallExplorer$Grower" (101 : Nat) ({ cls := "CallExplorer$Grower", name := "chooseObject", desc := "(II)I" } : MethodName) ∈ zt := zin (List.mem_append_right _ (List.mem_of_getElem? (i := 435) (by decide +kernel))) (by decide +kernel)
theorem q437 : Cond.instanceMethod ({ cls := "CallExplorer$Grower", name := "chooseObject", desc := "(II)I" } : MethodName) ∈ zt := zin (List.mem_append_right _ (List.mem_of_getElem? (i := 437) (by decide +kernel))) (by decide +kernel)
set_option maxRecDepth 100000 in
theorem q438 : Cond.code ({ cls := "CallExplorer$Grower", name := "chooseObject", desc := "(II)I" } : MethodName) prog_5_method_8_code (3 : Nat) (Option.some FieldType.int) ∈ zt := zin (List.mem_append_right _ (List.mem_of_getElem? (i := 438) (rfl))) (by rfl)
theorem q439 : Cond.methodLink "CallExplorer$Grower" (110 : Nat) ({ cls := "CallExplorer$Grower", name := "firstFits", desc := "(I)Z" } : MethodName) ∈ zt := zin (List.mem_append_right _ (List.mem_of_getElem? (i := 439) (by decide +kernel))) (by decide +kernel)
theorem q441 : Cond.instanceMethod ({ cls := "CallExplorer$Grower", name := "firstFits", desc := "(I)Z" } : MethodName) ∈ zt := zin (List.mem_append_right _ (List.mem_of_getElem? (i := 441) (by decide +kernel))) (by decide +kernel)
set_option maxRecDepth 100000 in
theorem q442 : Cond.code ({ cls := "CallExplorer$Grower", name := "firstFits", desc := "(I)Z" } : MethodName) prog_5_method_9_code (2 : Nat) (Option.some FieldType.boolean) ∈ zt := zin (List.mem_append_right _ (List.mem_of_getElem? (i := 442) (rfl))) (by rfl)
theorem q443 : Cond.methodLink "CallExplorer$Grower" (117 : Nat) ({ cls := "CallExplorer$Sequence", name := "operationOf", desc := "(I)I" } : MethodName) ∈ zt := zin (List.mem_append_right _ (List.mem_of_getElem? (i := 443) (by decide +kernel))) (by decide +kernel)
theorem q444 : Cond.instanceMethod ({ cls := "CallExplorer$Sequence", name := "operationOf", desc := "(I)I" } : MethodName) ∈ zt := zin (List.mem_append_right _ (List.mem_of_getElem? (i := 444) (by decide +kernel))) (by decide +kernel)
theorem q445 : Cond.selects "CallExplorer$Sequence" ({ cls := "CallExplorer$Sequence", name := "operationOf", desc := "(I)I" } : MethodName) ({ cls := "CallExplorer$Sequence", name := "operationOf", desc := "(I)I" } : MethodName) ∈ zt := zin (List.mem_append_right _ (List.mem_of_getElem? (i := 445) (by decide +kernel))) (by decide +kernel)
set_option maxRecDepth 100000 in
theorem q446 : Cond.code ({ cls := "CallExplorer$Sequence", name := "operationOf", desc := "(I)I" } : MethodName) prog_9_method_2_code (2 : Nat) (Option.some FieldType.int) ∈ zt := zin (List.mem_append_right _ (List.mem_of_getElem? (i := 446) (rfl))) (by rfl)
theorem q447 : Cond.methodLink "CallExplorer$Grower" (120 : Nat) ({ cls := "CallExplorer$Catalog", name := "is", desc := "(II)Z" } : MethodName) ∈ zt := zin (List.mem_append_right _ (List.mem_of_getElem? (i := 447) (by decide +kernel))) (by decide +kernel)
theorem q452 : Cond.methodLink "CallExplorer$Grower" (140 : Nat) ({ cls := "CallExplorer$Sequence", name := "push", desc := "(I)I" } : MethodName) ∈ zt := zin (List.mem_append_right _ (List.mem_of_getElem? (i := 452) (by decide +kernel))) (by decide +kernel)
theorem q453 : Cond.instanceMethod ({ cls := "CallExplorer$Sequence", name := "push", desc := "(I)I" } : MethodName) ∈ zt := zin (List.mem_append_right _ (List.mem_of_getElem? (i := 453) (by decide +kernel))) (by decide +kernel)
theorem q454 : Cond.selects "CallExplorer$Sequence" ({ cls := "CallExplorer$Sequence", name := "push", desc := "(I)I" } : MethodName) ({ cls := "CallExplorer$Sequence", name := "push", desc := "(I)I" } : MethodName) ∈ zt := zin (List.mem_append_right _ (List.mem_of_getElem? (i := 454) (by decide +kernel))) (by decide +kernel)
set_option maxRecDepth 100000 in
theorem q455 : Cond.code ({ cls := "CallExplorer$Sequence", name := "push", desc := "(I)I" } : MethodName) prog_9_method_8_code (3 : Nat) (Option.some FieldType.int) ∈ zt := zin (List.mem_append_right _ (List.mem_of_getElem? (i := 455) (rfl))) (by rfl)
theorem q456 : Cond.methodLink "CallExplorer$Grower" (143 : Nat) ({ cls := "CallExplorer$Sequence", name := "setArgument", desc := "(IIII)V" } : MethodName) ∈ zt := zin (List.mem_append_right _ (List.mem_of_getElem? (i := 456) (by decide +kernel))) (by decide +kernel)
theorem q461 : Cond.methodLink "CallExplorer$Book" (61 : Nat) ({ cls := "CallExplorer$Sequence", name := "same", desc := "(LCallExplorer$Sequence;)Z" } : MethodName) ∈ zt := zin (List.mem_append_right _ (List.mem_of_getElem? (i := 461) (by decide +kernel))) (by decide +kernel)
theorem q462 : Cond.instanceMethod ({ cls := "CallExplorer$Sequence", name := "same", desc := "(LCallExplorer$Sequence;)Z" } : MethodName) ∈ zt := zin (List.mem_append_right _ (List.mem_of_getElem? (i := 462) (by decide +kernel))) (by decide +kernel)
theorem q463 : Cond.selects "CallExplorer$Sequence" ({ cls := "CallExplorer$Sequence", name := "same", desc := "(LCallExplorer$Sequence;)Z" } : MethodName) ({ cls := "CallExplorer$Sequence", name := "same", desc := "(LCallExplorer$Sequence;)Z" } : MethodName) ∈ zt := zin (List.mem_append_right _ (List.mem_of_getElem? (i := 463) (by decide +kernel))) (by decide +kernel)
set_option maxRecDepth 100000 in
theorem q464 : Cond.code ({ cls := "CallExplorer$Sequence", name := "same", desc := "(LCallExplorer$Sequence;)Z" } : MethodName) prog_9_method_11_code (3 : Nat) (Option.some FieldType.boolean) ∈ zt := zin (List.mem_append_right _ (List.mem_of_getElem? (i := 464) (rfl))) (by rfl)
theorem q466 : Cond.instanceMethod ({ cls := "CallExplorer$Runner", name := "run", desc := "(LCallExplorer$Sequence;)V" } : MethodName) ∈ zt := zin (List.mem_append_right _ (List.mem_of_getElem? (i := 466) (by decide +kernel))) (by decide +kernel)
theorem q467 : Cond.selects "CallExplorer$Runner" ({ cls := "CallExplorer$Runner", name := "run", desc := "(LCallExplorer$Sequence;)V" } : MethodName) ({ cls := "CallExplorer$Runner", name := "run", desc := "(LCallExplorer$Sequence;)V" } : MethodName) ∈ zt := zin (List.mem_append_right _ (List.mem_of_getElem? (i := 467) (by decide +kernel))) (by decide +kernel)
set_option maxRecDepth 100000 in
theorem q468 : Cond.code ({ cls := "CallExplorer$Runner", name := "run", desc := "(LCallExplorer$Sequence;)V" } : MethodName) prog_8_method_2_code (4 : Nat) (Option.none : Option FieldType) ∈ zt := zin (List.mem_append_right _ (List.mem_of_getElem? (i := 468) (rfl))) (by rfl)
theorem q469 : Cond.methodLink "CallExplorer$Runner" (49 : Nat) ({ cls := "CallExplorer$Runner", name := "execute", desc := "(LCallExplorer$Sequence;I)I" } : MethodName) ∈ zt := zin (List.mem_append_right _ (List.mem_of_getElem? (i := 469) (by decide +kernel))) (by decide +kernel)
theorem q471 : Cond.instanceMethod ({ cls := "CallExplorer$Runner", name := "execute", desc := "(LCallExplorer$Sequence;I)I" } : MethodName) ∈ zt := zin (List.mem_append_right _ (List.mem_of_getElem? (i := 471) (by decide +kernel))) (by decide +kernel)
set_option maxRecDepth 100000 in
theorem q472 : Cond.code ({ cls := "CallExplorer$Runner", name := "execute", desc := "(LCallExplorer$Sequence;I)I" } : MethodName) prog_8_method_6_code (6 : Nat) (Option.some FieldType.int) ∈ zt := zin (List.mem_append_right _ (List.mem_of_getElem? (i := 472) (rfl))) (by rfl)
theorem q473 : Cond.methodLink "CallExplorer$Runner" (71 : Nat) ({ cls := "CallExplorer$Runner", name := "isNull", desc := "(LCallExplorer$Sequence;II)Z" } : MethodName) ∈ zt := zin (List.mem_append_right _ (List.mem_of_getElem? (i := 473) (by decide +kernel))) (by decide +kernel)
theorem q475 : Cond.instanceMethod ({ cls := "CallExplorer$Runner", name := "isNull", desc := "(LCallExplorer$Sequence;II)Z" } : MethodName) ∈ zt := zin (List.mem_append_right _ (List.mem_of_getElem? (i := 475) (by decide +kernel))) (by decide +kernel)
set_option maxRecDepth 100000 in
theorem q476 : Cond.code ({ cls := "CallExplorer$Runner", name := "isNull", desc := "(LCallExplorer$Sequence;II)Z" } : MethodName) prog_8_method_4_code (5 : Nat) (Option.some FieldType.boolean) ∈ zt := zin (List.mem_append_right _ (List.mem_of_getElem? (i := 476) (rfl))) (by rfl)
theorem q477 : Cond.methodLink "CallExplorer$Runner" (75 : Nat) ({ cls := "CallExplorer$Sequence", name := "operationOf", desc := "(I)I" } : MethodName) ∈ zt := zin (List.mem_append_right _ (List.mem_of_getElem? (i := 477) (by decide +kernel))) (by decide +kernel)
theorem q478 : Cond.methodLink "CallExplorer$Runner" (79 : Nat) ({ cls := "CallExplorer$Catalog", name := "argumentType", desc := "(II)I" } : MethodName) ∈ zt := zin (List.mem_append_right _ (List.mem_of_getElem? (i := 478) (by decide +kernel))) (by decide +kernel)
theorem q479 : Cond.methodLink "CallExplorer$Runner" (85 : Nat) ({ cls := "CallExplorer$Runner", name := "argumentValue", desc := "(LCallExplorer$Sequence;II)I" } : MethodName) ∈ zt := zin (List.mem_append_right _ (List.mem_of_getElem? (i := 479) (by decide +kernel))) (by decide +kernel)
theorem q481 : Cond.instanceMethod ({ cls := "CallExplorer$Runner", name := "argumentValue", desc := "(LCallExplorer$Sequence;II)I" } : MethodName) ∈ zt := zin (List.mem_append_right _ (List.mem_of_getElem? (i := 481) (by decide +kernel))) (by decide +kernel)
set_option maxRecDepth 100000 in
theorem q482 : Cond.code ({ cls := "CallExplorer$Runner", name := "argumentValue", desc := "(LCallExplorer$Sequence;II)I" } : MethodName) prog_8_method_5_code (5 : Nat) (Option.some FieldType.int) ∈ zt := zin (List.mem_append_right _ (List.mem_of_getElem? (i := 482) (rfl))) (by rfl)
theorem q483 : Cond.methodLink "CallExplorer$Runner" (89 : Nat) ({ cls := "CallExplorer$Sequence", name := "content", desc := "(II)I" } : MethodName) ∈ zt := zin (List.mem_append_right _ (List.mem_of_getElem? (i := 483) (by decide +kernel))) (by decide +kernel)
theorem q484 : Cond.methodLink "CallExplorer$Runner" (92 : Nat) ({ cls := "CallExplorer$Sequence", name := "form", desc := "(II)I" } : MethodName) ∈ zt := zin (List.mem_append_right _ (List.mem_of_getElem? (i := 484) (by decide +kernel))) (by decide +kernel)
theorem q485 : Cond.instanceMethod ({ cls := "CallExplorer$Sequence", name := "form", desc := "(II)I" } : MethodName) ∈ zt := zin (List.mem_append_right _ (List.mem_of_getElem? (i := 485) (by decide +kernel))) (by decide +kernel)
theorem q486 : Cond.selects "CallExplorer$Sequence" ({ cls := "CallExplorer$Sequence", name := "form", desc := "(II)I" } : MethodName) ({ cls := "CallExplorer$Sequence", name := "form", desc := "(II)I" } : MethodName) ∈ zt := zin (List.mem_append_right _ (List.mem_of_getElem? (i := 486) (by decide +kernel))) (by decide +kernel)
set_option maxRecDepth 100000 in
theorem q487 : Cond.code ({ cls := "CallExplorer$Sequence", name := "form", desc := "(II)I" } : MethodName) prog_9_method_3_code (3 : Nat) (Option.some FieldType.int) ∈ zt := zin (List.mem_append_right _ (List.mem_of_getElem? (i := 487) (rfl))) (by rfl)
theorem q488 : Cond.methodLink "CallExplorer$Runner" (101 : Nat) ({ cls := "CallExplorer$Runner", name := "make", desc := "(III)I" } : MethodName) ∈ zt := zin (List.mem_append_right _ (List.mem_of_getElem? (i := 488) (by decide +kernel))) (by decide +kernel)
theorem q490 : Cond.instanceMethod ({ cls := "CallExplorer$Runner", name := "make", desc := "(III)I" } : MethodName) ∈ zt := zin (List.mem_append_right _ (List.mem_of_getElem? (i := 490) (by decide +kernel))) (by decide +kernel)
set_option maxRecDepth 100000 in
theorem q491 : Cond.code ({ cls := "CallExplorer$Runner", name := "make", desc := "(III)I" } : MethodName) prog_8_method_8_code (4 : Nat) (Option.some FieldType.int) ∈ zt := zin (List.mem_append_right _ (List.mem_of_getElem? (i := 491) (rfl))) (by rfl)
theorem q492 : Cond.methodLink "CallExplorer$Runner" (131 : Nat) ({ cls := "CallExplorer$Runner", name := "canBeValue", desc := "(J)Z" } : MethodName) ∈ zt := zin (List.mem_append_right _ (List.mem_of_getElem? (i := 492) (by decide +kernel))) (by decide +kernel)
theorem q494 : Cond.instanceMethod ({ cls := "CallExplorer$Runner", name := "canBeValue", desc := "(J)Z" } : MethodName) ∈ zt := zin (List.mem_append_right _ (List.mem_of_getElem? (i := 494) (by decide +kernel))) (by decide +kernel)
set_option maxRecDepth 100000 in
theorem q495 : Cond.code ({ cls := "CallExplorer$Runner", name := "canBeValue", desc := "(J)Z" } : MethodName) prog_8_method_13_code (3 : Nat) (Option.some FieldType.boolean) ∈ zt := zin (List.mem_append_right _ (List.mem_of_getElem? (i := 495) (rfl))) (by rfl)
theorem q496 : Cond.constantLong "CallExplorer$Runner" (147 : Nat) (-100 : Int64) ∈ zt := zin (List.mem_append_right _ (List.mem_of_getElem? (i := 496) (by decide +kernel))) (by decide +kernel)
theorem q497 : Cond.constantLong "CallExplorer$Runner" (149 : Nat) (100 : Int64) ∈ zt := zin (List.mem_append_right _ (List.mem_of_getElem? (i := 497) (by decide +kernel))) (by decide +kernel)
theorem q498 : Cond.methodLink "CallExplorer$Runner" (108 : Nat) ({ cls := "CallExplorer$Heap", name := "make", desc := "(III)I" } : MethodName) ∈ zt := zin (List.mem_append_right _ (List.mem_of_getElem? (i := 498) (by decide +kernel))) (by decide +kernel)
theorem q499 : Cond.instanceMethod ({ cls := "CallExplorer$Heap", name := "make", desc := "(III)I" } : MethodName) ∈ zt := zin (List.mem_append_right _ (List.mem_of_getElem? (i := 499) (by decide +kernel))) (by decide +kernel)
theorem q500 : Cond.selects "CallExplorer$Heap" ({ cls := "CallExplorer$Heap", name := "make", desc := "(III)I" } : MethodName) ({ cls := "CallExplorer$Heap", name := "make", desc := "(III)I" } : MethodName) ∈ zt := zin (List.mem_append_right _ (List.mem_of_getElem? (i := 500) (by decide +kernel))) (by decide +kernel)
set_option maxRecDepth 100000 in
theorem q501 : Cond.code ({ cls := "CallExplorer$Heap", name := "make", desc := "(III)I" } : MethodName) prog_6_method_2_code (5 : Nat) (Option.some FieldType.int) ∈ zt := zin (List.mem_append_right _ (List.mem_of_getElem? (i := 501) (rfl))) (by rfl)
theorem q502 : Cond.methodLink "CallExplorer$Runner" (109 : Nat) ({ cls := "CallExplorer$Runner", name := "give", desc := "(II)I" } : MethodName) ∈ zt := zin (List.mem_append_right _ (List.mem_of_getElem? (i := 502) (by decide +kernel))) (by decide +kernel)
theorem q504 : Cond.instanceMethod ({ cls := "CallExplorer$Runner", name := "give", desc := "(II)I" } : MethodName) ∈ zt := zin (List.mem_append_right _ (List.mem_of_getElem? (i := 504) (by decide +kernel))) (by decide +kernel)
set_option maxRecDepth 100000 in
theorem q505 : Cond.code ({ cls := "CallExplorer$Runner", name := "give", desc := "(II)I" } : MethodName) prog_8_method_7_code (3 : Nat) (Option.some FieldType.int) ∈ zt := zin (List.mem_append_right _ (List.mem_of_getElem? (i := 505) (rfl))) (by rfl)
theorem q506 : Cond.methodLink "CallExplorer$Runner" (112 : Nat) ({ cls := "CallExplorer$Runner", name := "add", desc := "(III)I" } : MethodName) ∈ zt := zin (List.mem_append_right _ (List.mem_of_getElem? (i := 506) (by decide +kernel))) (by decide +kernel)
theorem q508 : Cond.instanceMethod ({ cls := "CallExplorer$Runner", name := "add", desc := "(III)I" } : MethodName) ∈ zt := zin (List.mem_append_right _ (List.mem_of_getElem? (i := 508) (by decide +kernel))) (by decide +kernel)
set_option maxRecDepth 100000 in
theorem q509 : Cond.code ({ cls := "CallExplorer$Runner", name := "add", desc := "(III)I" } : MethodName) prog_8_method_9_code (6 : Nat) (Option.some FieldType.int) ∈ zt := zin (List.mem_append_right _ (List.mem_of_getElem? (i := 509) (rfl))) (by rfl)
theorem q510 : Cond.methodLink "CallExplorer$Runner" (115 : Nat) ({ cls := "CallExplorer$Runner", name := "link", desc := "(III)I" } : MethodName) ∈ zt := zin (List.mem_append_right _ (List.mem_of_getElem? (i := 510) (by decide +kernel))) (by decide +kernel)
theorem q512 : Cond.instanceMethod ({ cls := "CallExplorer$Runner", name := "link", desc := "(III)I" } : MethodName) ∈ zt := zin (List.mem_append_right _ (List.mem_of_getElem? (i := 512) (by decide +kernel))) (by decide +kernel)
set_option maxRecDepth 100000 in
theorem q513 : Cond.code ({ cls := "CallExplorer$Runner", name := "link", desc := "(III)I" } : MethodName) prog_8_method_10_code (4 : Nat) (Option.some FieldType.int) ∈ zt := zin (List.mem_append_right _ (List.mem_of_getElem? (i := 513) (rfl))) (by rfl)
theorem q514 : Cond.methodLink "CallExplorer$Runner" (135 : Nat) ({ cls := "CallExplorer$Heap", name := "reaches", desc := "(II)Z" } : MethodName) ∈ zt := zin (List.mem_append_right _ (List.mem_of_getElem? (i := 514) (by decide +kernel))) (by decide +kernel)
theorem q515 : Cond.instanceMethod ({ cls := "CallExplorer$Heap", name := "reaches", desc := "(II)Z" } : MethodName) ∈ zt := zin (List.mem_append_right _ (List.mem_of_getElem? (i := 515) (by decide +kernel))) (by decide +kernel)
theorem q516 : Cond.selects "CallExplorer$Heap" ({ cls := "CallExplorer$Heap", name := "reaches", desc := "(II)Z" } : MethodName) ({ cls := "CallExplorer$Heap", name := "reaches", desc := "(II)Z" } : MethodName) ∈ zt := zin (List.mem_append_right _ (List.mem_of_getElem? (i := 516) (by decide +kernel))) (by decide +kernel)
set_option maxRecDepth 100000 in
theorem q517 : Cond.code ({ cls := "CallExplorer$Heap", name := "reaches", desc := "(II)Z" } : MethodName) prog_6_method_3_code (5 : Nat) (Option.some FieldType.boolean) ∈ zt := zin (List.mem_append_right _ (List.mem_of_getElem? (i := 517) (rfl))) (by rfl)
theorem q518 : Cond.methodLink "CallExplorer$Runner" (118 : Nat) ({ cls := "CallExplorer$Runner", name := "getNext", desc := "(III)I" } : MethodName) ∈ zt := zin (List.mem_append_right _ (List.mem_of_getElem? (i := 518) (by decide +kernel))) (by decide +kernel)
theorem q520 : Cond.instanceMethod ({ cls := "CallExplorer$Runner", name := "getNext", desc := "(III)I" } : MethodName) ∈ zt := zin (List.mem_append_right _ (List.mem_of_getElem? (i := 520) (by decide +kernel))) (by decide +kernel)
set_option maxRecDepth 100000 in
theorem q521 : Cond.code ({ cls := "CallExplorer$Runner", name := "getNext", desc := "(III)I" } : MethodName) prog_8_method_11_code (5 : Nat) (Option.some FieldType.int) ∈ zt := zin (List.mem_append_right _ (List.mem_of_getElem? (i := 521) (rfl))) (by rfl)
theorem q522 : Cond.methodLink "CallExplorer$Runner" (144 : Nat) ({ cls := "CallExplorer$Catalog", name := "is", desc := "(II)Z" } : MethodName) ∈ zt := zin (List.mem_append_right _ (List.mem_of_getElem? (i := 522) (by decide +kernel))) (by decide +kernel)
theorem q523 : Cond.methodLink "CallExplorer$Runner" (121 : Nat) ({ cls := "CallExplorer$Runner", name := "getNextValue", desc := "(II)I" } : MethodName) ∈ zt := zin (List.mem_append_right _ (List.mem_of_getElem? (i := 523) (by decide +kernel))) (by decide +kernel)
theorem q525 : Cond.instanceMethod ({ cls := "CallExplorer$Runner", name := "getNextValue", desc := "(II)I" } : MethodName) ∈ zt := zin (List.mem_append_right _ (List.mem_of_getElem? (i := 525) (by decide +kernel))) (by decide +kernel)
set_option maxRecDepth 100000 in
theorem q526 : Cond.code ({ cls := "CallExplorer$Runner", name := "getNextValue", desc := "(II)I" } : MethodName) prog_8_method_12_code (4 : Nat) (Option.some FieldType.int) ∈ zt := zin (List.mem_append_right _ (List.mem_of_getElem? (i := 526) (rfl))) (by rfl)
theorem q527 : Cond.methodLink "CallExplorer$Runner" (124 : Nat) ({ cls := "CallExplorer$Heap", name := "chainLength", desc := "(I)I" } : MethodName) ∈ zt := zin (List.mem_append_right _ (List.mem_of_getElem? (i := 527) (by decide +kernel))) (by decide +kernel)
theorem q528 : Cond.instanceMethod ({ cls := "CallExplorer$Heap", name := "chainLength", desc := "(I)I" } : MethodName) ∈ zt := zin (List.mem_append_right _ (List.mem_of_getElem? (i := 528) (by decide +kernel))) (by decide +kernel)
theorem q529 : Cond.selects "CallExplorer$Heap" ({ cls := "CallExplorer$Heap", name := "chainLength", desc := "(I)I" } : MethodName) ({ cls := "CallExplorer$Heap", name := "chainLength", desc := "(I)I" } : MethodName) ∈ zt := zin (List.mem_append_right _ (List.mem_of_getElem? (i := 529) (by decide +kernel))) (by decide +kernel)
set_option maxRecDepth 100000 in
theorem q530 : Cond.code ({ cls := "CallExplorer$Heap", name := "chainLength", desc := "(I)I" } : MethodName) prog_6_method_4_code (5 : Nat) (Option.some FieldType.int) ∈ zt := zin (List.mem_append_right _ (List.mem_of_getElem? (i := 530) (rfl))) (by rfl)
theorem q531 : Cond.methodLink "CallExplorer$Runner" (127 : Nat) ({ cls := "CallExplorer$Heap", name := "equal", desc := "(II)Z" } : MethodName) ∈ zt := zin (List.mem_append_right _ (List.mem_of_getElem? (i := 531) (by decide +kernel))) (by decide +kernel)
theorem q532 : Cond.instanceMethod ({ cls := "CallExplorer$Heap", name := "equal", desc := "(II)Z" } : MethodName) ∈ zt := zin (List.mem_append_right _ (List.mem_of_getElem? (i := 532) (by decide +kernel))) (by decide +kernel)
theorem q533 : Cond.selects "CallExplorer$Heap" ({ cls := "CallExplorer$Heap", name := "equal", desc := "(II)Z" } : MethodName) ({ cls := "CallExplorer$Heap", name := "equal", desc := "(II)Z" } : MethodName) ∈ zt := zin (List.mem_append_right _ (List.mem_of_getElem? (i := 533) (by decide +kernel))) (by decide +kernel)
set_option maxRecDepth 100000 in
theorem q534 : Cond.code ({ cls := "CallExplorer$Heap", name := "equal", desc := "(II)Z" } : MethodName) prog_6_method_5_code (7 : Nat) (Option.some FieldType.boolean) ∈ zt := zin (List.mem_append_right _ (List.mem_of_getElem? (i := 534) (rfl))) (by rfl)
theorem q535 : Cond.methodLink "CallExplorer$Heap" (34 : Nat) ({ cls := "CallExplorer$Catalog", name := "is", desc := "(II)Z" } : MethodName) ∈ zt := zin (List.mem_append_right _ (List.mem_of_getElem? (i := 535) (by decide +kernel))) (by decide +kernel)
theorem q536 : Cond.methodLink "CallExplorer$Runner" (53 : Nat) ({ cls := "CallExplorer$Runner", name := "endWithTrouble", desc := "(LCallExplorer$Sequence;II)V" } : MethodName) ∈ zt := zin (List.mem_append_right _ (List.mem_of_getElem? (i := 536) (by decide +kernel))) (by decide +kernel)
theorem q538 : Cond.instanceMethod ({ cls := "CallExplorer$Runner", name := "endWithTrouble", desc := "(LCallExplorer$Sequence;II)V" } : MethodName) ∈ zt := zin (List.mem_append_right _ (List.mem_of_getElem? (i := 538) (by decide +kernel))) (by decide +kernel)
set_option maxRecDepth 100000 in
theorem q539 : Cond.code ({ cls := "CallExplorer$Runner", name := "endWithTrouble", desc := "(LCallExplorer$Sequence;II)V" } : MethodName) prog_8_method_3_code (5 : Nat) (Option.none : Option FieldType) ∈ zt := zin (List.mem_append_right _ (List.mem_of_getElem? (i := 539) (rfl))) (by rfl)
theorem q540 : Cond.methodLink "CallExplorer$Runner" (57 : Nat) ({ cls := "CallExplorer$Runner", name := "keepResult", desc := "(LCallExplorer$Sequence;)V" } : MethodName) ∈ zt := zin (List.mem_append_right _ (List.mem_of_getElem? (i := 540) (by decide +kernel))) (by decide +kernel)
theorem q542 : Cond.instanceMethod ({ cls := "CallExplorer$Runner", name := "keepResult", desc := "(LCallExplorer$Sequence;)V" } : MethodName) ∈ zt := zin (List.mem_append_right _ (List.mem_of_getElem? (i := 542) (by decide +kernel))) (by decide +kernel)
set_option maxRecDepth 100000 in
theorem q543 : Cond.code ({ cls := "CallExplorer$Runner", name := "keepResult", desc := "(LCallExplorer$Sequence;)V" } : MethodName) prog_8_method_14_code (3 : Nat) (Option.none : Option FieldType) ∈ zt := zin (List.mem_append_right _ (List.mem_of_getElem? (i := 543) (rfl))) (by rfl)
theorem q544 : Cond.methodLink "CallExplorer$Runner" (151 : Nat) ({ cls := "CallExplorer$Runner", name := "keepRow", desc := "(I)V" } : MethodName) ∈ zt := zin (List.mem_append_right _ (List.mem_of_getElem? (i := 544) (by decide +kernel))) (by decide +kernel)
theorem q546 : Cond.instanceMethod ({ cls := "CallExplorer$Runner", name := "keepRow", desc := "(I)V" } : MethodName) ∈ zt := zin (List.mem_append_right _ (List.mem_of_getElem? (i := 546) (by decide +kernel))) (by decide +kernel)
set_option maxRecDepth 100000 in
theorem q547 : Cond.code ({ cls := "CallExplorer$Runner", name := "keepRow", desc := "(I)V" } : MethodName) prog_8_method_15_code (4 : Nat) (Option.none : Option FieldType) ∈ zt := zin (List.mem_append_right _ (List.mem_of_getElem? (i := 547) (rfl))) (by rfl)
theorem q548 : Cond.methodLink "CallExplorer$Runner" (61 : Nat) ({ cls := "CallExplorer$Heap", name := "findFault", desc := "()I" } : MethodName) ∈ zt := zin (List.mem_append_right _ (List.mem_of_getElem? (i := 548) (by decide +kernel))) (by decide +kernel)
theorem q549 : Cond.instanceMethod ({ cls := "CallExplorer$Heap", name := "findFault", desc := "()I" } : MethodName) ∈ zt := zin (List.mem_append_right _ (List.mem_of_getElem? (i := 549) (by decide +kernel))) (by decide +kernel)
theorem q550 : Cond.selects "CallExplorer$Heap" ({ cls := "CallExplorer$Heap", name := "findFault", desc := "()I" } : MethodName) ({ cls := "CallExplorer$Heap", name := "findFault", desc := "()I" } : MethodName) ∈ zt := zin (List.mem_append_right _ (List.mem_of_getElem? (i := 550) (by decide +kernel))) (by decide +kernel)
set_option maxRecDepth 100000 in
theorem q551 : Cond.code ({ cls := "CallExplorer$Heap", name := "findFault", desc := "()I" } : MethodName) prog_6_method_7_code (4 : Nat) (Option.some FieldType.int) ∈ zt := zin (List.mem_append_right _ (List.mem_of_getElem? (i := 551) (rfl))) (by rfl)
theorem q552 : Cond.methodLink "CallExplorer$Heap" (41 : Nat) ({ cls := "CallExplorer$Heap", name := "equal", desc := "(II)Z" } : MethodName) ∈ zt := zin (List.mem_append_right _ (List.mem_of_getElem? (i := 552) (by decide +kernel))) (by decide +kernel)
theorem q553 : Cond.methodLink "CallExplorer$Heap" (44 : Nat) ({ cls := "CallExplorer$Heap", name := "faultOfPair", desc := "(II)I" } : MethodName) ∈ zt := zin (List.mem_append_right _ (List.mem_of_getElem? (i := 553) (by decide +kernel))) (by decide +kernel)
theorem q555 : Cond.instanceMethod ({ cls := "CallExplorer$Heap", name := "faultOfPair", desc := "(II)I" } : MethodName) ∈ zt := zin (List.mem_append_right _ (List.mem_of_getElem? (i := 555) (by decide +kernel))) (by decide +kernel)
set_option maxRecDepth 100000 in
theorem q556 : Cond.code ({ cls := "CallExplorer$Heap", name := "faultOfPair", desc := "(II)I" } : MethodName) prog_6_method_8_code (5 : Nat) (Option.some FieldType.int) ∈ zt := zin (List.mem_append_right _ (List.mem_of_getElem? (i := 556) (rfl))) (by rfl)
theorem q557 : Cond.methodLink "CallExplorer$Heap" (48 : Nat) ({ cls := "CallExplorer$Heap", name := "code", desc := "(I)I" } : MethodName) ∈ zt := zin (List.mem_append_right _ (List.mem_of_getElem? (i := 557) (by decide +kernel))) (by decide +kernel)
theorem q559 : Cond.instanceMethod ({ cls := "CallExplorer$Heap", name := "code", desc := "(I)I" } : MethodName) ∈ zt := zin (List.mem_append_right _ (List.mem_of_getElem? (i := 559) (by decide +kernel))) (by decide +kernel)
set_option maxRecDepth 100000 in
theorem q560 : Cond.code ({ cls := "CallExplorer$Heap", name := "code", desc := "(I)I" } : MethodName) prog_6_method_6_code (2 : Nat) (Option.some FieldType.int) ∈ zt := zin (List.mem_append_right _ (List.mem_of_getElem? (i := 560) (rfl))) (by rfl)
theorem q570 : Cond.methodLink "CallExplorer$Book" (54 : Nat) ({ cls := "CallExplorer$Entry", name := "hasShapeOf", desc := "(LCallExplorer$Runner;)Z" } : MethodName) ∈ zt := zin (List.mem_append_right _ (List.mem_of_getElem? (i := 570) (by decide +kernel))) (by decide +kernel)
theorem q571 : Cond.instanceMethod ({ cls := "CallExplorer$Entry", name := "hasShapeOf", desc := "(LCallExplorer$Runner;)Z" } : MethodName) ∈ zt := zin (List.mem_append_right _ (List.mem_of_getElem? (i := 571) (by decide +kernel))) (by decide +kernel)
theorem q572 : Cond.selects "CallExplorer$Entry" ({ cls := "CallExplorer$Entry", name := "hasShapeOf", desc := "(LCallExplorer$Runner;)Z" } : MethodName) ({ cls := "CallExplorer$Entry", name := "hasShapeOf", desc := "(LCallExplorer$Runner;)Z" } : MethodName) ∈ zt := zin (List.mem_append_right _ (List.mem_of_getElem? (i := 572) (by decide +kernel))) (by decide +kernel)
set_option maxRecDepth 100000 in
theorem q573 : Cond.code ({ cls := "CallExplorer$Entry", name := "hasShapeOf", desc := "(LCallExplorer$Runner;)Z" } : MethodName) prog_4_method_2_code (3 : Nat) (Option.some FieldType.boolean) ∈ zt := zin (List.mem_append_right _ (List.mem_of_getElem? (i := 573) (rfl))) (by rfl)
theorem q582 : Cond.instanceMethod ({ cls := "CallExplorer$Sequence", name := "copy", desc := "(LCallExplorer$Sequence;)V" } : MethodName) ∈ zt := zin (List.mem_append_right _ (List.mem_of_getElem? (i := 582) (by decide +kernel))) (by decide +kernel)
theorem q583 : Cond.selects "CallExplorer$Sequence" ({ cls := "CallExplorer$Sequence", name := "copy", desc := "(LCallExplorer$Sequence;)V" } : MethodName) ({ cls := "CallExplorer$Sequence", name := "copy", desc := "(LCallExplorer$Sequence;)V" } : MethodName) ∈ zt := zin (List.mem_append_right _ (List.mem_of_getElem? (i := 583) (by decide +kernel))) (by decide +kernel)
set_option maxRecDepth 100000 in
theorem q584 : Cond.code ({ cls := "CallExplorer$Sequence", name := "copy", desc := "(LCallExplorer$Sequence;)V" } : MethodName) prog_9_method_10_code (2 : Nat) (Option.none : Option FieldType) ∈ zt := zin (List.mem_append_right _ (List.mem_of_getElem? (i := 584) (rfl))) (by rfl)
theorem q600 : Cond.fieldLink "CallExplorer$Shortener" (26 : Nat) "CallExplorer$Entry" "sequence" "LCallExplorer$Sequence;" ∈ zt := zin (List.mem_append_right _ (List.mem_of_getElem? (i := 600) (by decide +kernel))) (by decide +kernel)
theorem q601 : Cond.fieldLink "CallExplorer$Writer" (19 : Nat) "CallExplorer$Entry" "sequence" "LCallExplorer$Sequence;" ∈ zt := zin (List.mem_append_right _ (List.mem_of_getElem? (i := 601) (by decide +kernel))) (by decide +kernel)
theorem q602 : Cond.fieldLink "CallExplorer$Book" (57 : Nat) "CallExplorer$Entry" "sequence" "LCallExplorer$Sequence;" ∈ zt := zin (List.mem_append_right _ (List.mem_of_getElem? (i := 602) (by decide +kernel))) (by decide +kernel)
theorem q603 : Cond.fieldLink "CallExplorer" (102 : Nat) "CallExplorer$Entry" "sequence" "LCallExplorer$Sequence;" ∈ zt := zin (List.mem_append_right _ (List.mem_of_getElem? (i := 603) (by decide +kernel))) (by decide +kernel)
theorem q604 : Cond.fieldLink "CallExplorer$Grower" (134 : Nat) "CallExplorer$Entry" "sequence" "LCallExplorer$Sequence;" ∈ zt := zin (List.mem_append_right _ (List.mem_of_getElem? (i := 604) (by decide +kernel))) (by decide +kernel)
theorem q606 : Cond.fieldLink "CallExplorer$Book" (53 : Nat) "CallExplorer$Entry" "outcome" "I" ∈ zt := zin (List.mem_append_right _ (List.mem_of_getElem? (i := 606) (by decide +kernel))) (by decide +kernel)
theorem q607 : Cond.fieldLink "CallExplorer$Writer" (61 : Nat) "CallExplorer$Entry" "outcome" "I" ∈ zt := zin (List.mem_append_right _ (List.mem_of_getElem? (i := 607) (by decide +kernel))) (by decide +kernel)
theorem q608 : Cond.fieldLink "CallExplorer$Shortener" (94 : Nat) "CallExplorer$Entry" "outcome" "I" ∈ zt := zin (List.mem_append_right _ (List.mem_of_getElem? (i := 608) (by decide +kernel))) (by decide +kernel)
theorem q609 : Cond.fieldLink "CallExplorer" (83 : Nat) "CallExplorer$Entry" "outcome" "I" ∈ zt := zin (List.mem_append_right _ (List.mem_of_getElem? (i := 609) (by decide +kernel))) (by decide +kernel)
theorem q611 : Cond.fieldLink "CallExplorer$Shortener" (98 : Nat) "CallExplorer$Entry" "detail" "I" ∈ zt := zin (List.mem_append_right _ (List.mem_of_getElem? (i := 611) (by decide +kernel))) (by decide +kernel)
theorem q612 : Cond.fieldLink "CallExplorer$Writer" (64 : Nat) "CallExplorer$Entry" "detail" "I" ∈ zt := zin (List.mem_append_right _ (List.mem_of_getElem? (i := 612) (by decide +kernel))) (by decide +kernel)
theorem q613 : Cond.fieldLink "CallExplorer" (109 : Nat) "CallExplorer$Entry" "detail" "I" ∈ zt := zin (List.mem_append_right _ (List.mem_of_getElem? (i := 613) (by decide +kernel))) (by decide +kernel)
theorem q615 : Cond.fieldLink "CallExplorer$Book" (65 : Nat) "CallExplorer$Entry" "type" "I" ∈ zt := zin (List.mem_append_right _ (List.mem_of_getElem? (i := 615) (by decide +kernel))) (by decide +kernel)
theorem q616 : Cond.fieldLink "CallExplorer" (112 : Nat) "CallExplorer$Entry" "type" "I" ∈ zt := zin (List.mem_append_right _ (List.mem_of_getElem? (i := 616) (by decide +kernel))) (by decide +kernel)
theorem q617 : Cond.fieldLink "CallExplorer$Entry" (36 : Nat) "CallExplorer$Entry" "gave" "I" ∈ zt := zin (List.mem_append_right _ (List.mem_of_getElem? (i := 617) (by decide +kernel))) (by decide +kernel)
theorem q618 : Cond.fieldLink "CallExplorer$Writer" (70 : Nat) "CallExplorer$Entry" "gave" "I" ∈ zt := zin (List.mem_append_right _ (List.mem_of_getElem? (i := 618) (by decide +kernel))) (by decide +kernel)
theorem q619 : Cond.fieldLink "CallExplorer$Entry" (40 : Nat) "CallExplorer$Entry" "number" "I" ∈ zt := zin (List.mem_append_right _ (List.mem_of_getElem? (i := 619) (by decide +kernel))) (by decide +kernel)
theorem q620 : Cond.fieldLink "CallExplorer$Writer" (73 : Nat) "CallExplorer$Entry" "number" "I" ∈ zt := zin (List.mem_append_right _ (List.mem_of_getElem? (i := 620) (by decide +kernel))) (by decide +kernel)
theorem q621 : Cond.fieldLink "CallExplorer" (115 : Nat) "CallExplorer$Entry" "number" "I" ∈ zt := zin (List.mem_append_right _ (List.mem_of_getElem? (i := 621) (by decide +kernel))) (by decide +kernel)
theorem q622 : Cond.fieldLink "CallExplorer$Entry" (54 : Nat) "CallExplorer$Entry" "row" "[I" ∈ zt := zin (List.mem_append_right _ (List.mem_of_getElem? (i := 622) (by decide +kernel))) (by decide +kernel)
theorem q642 : Cond.methodLink "CallExplorer" (79 : Nat) ({ cls := "CallExplorer$Book", name := "get", desc := "(I)LCallExplorer$Entry;" } : MethodName) ∈ zt := zin (List.mem_append_right _ (List.mem_of_getElem? (i := 642) (by decide +kernel))) (by decide +kernel)
theorem q647 : Cond.methodLink "CallExplorer" (92 : Nat) ({ cls := "CallExplorer$Shortener", name := "lowerVariables", desc := "(LCallExplorer$Entry;)V" } : MethodName) ∈ zt := zin (List.mem_append_right _ (List.mem_of_getElem? (i := 647) (by decide +kernel))) (by decide +kernel)
theorem q648 : Cond.instanceMethod ({ cls := "CallExplorer$Shortener", name := "lowerVariables", desc := "(LCallExplorer$Entry;)V" } : MethodName) ∈ zt := zin (List.mem_append_right _ (List.mem_of_getElem? (i := 648) (by decide +kernel))) (by decide +kernel)
theorem q649 : Cond.selects "CallExplorer$Shortener" ({ cls := "CallExplorer$Shortener", name := "lowerVariables", desc := "(LCallExplorer$Entry;)V" } : MethodName) ({ cls := "CallExplorer$Shortener", name := "lowerVariables", desc := "(LCallExplorer$Entry;)V" } : MethodName) ∈ zt := zin (List.mem_append_right _ (List.mem_of_getElem? (i := 649) (by decide +kernel))) (by decide +kernel)
set_option maxRecDepth 100000 in
theorem q650 : Cond.code ({ cls := "CallExplorer$Shortener", name := "lowerVariables", desc := "(LCallExplorer$Entry;)V" } : MethodName) prog_10_method_2_code (5 : Nat) (Option.none : Option FieldType) ∈ zt := zin (List.mem_append_right _ (List.mem_of_getElem? (i := 650) (rfl))) (by rfl)
theorem q651 : Cond.methodLink "CallExplorer$Shortener" (35 : Nat) ({ cls := "CallExplorer$Sequence", name := "isVariable", desc := "(II)Z" } : MethodName) ∈ zt := zin (List.mem_append_right _ (List.mem_of_getElem? (i := 651) (by decide +kernel))) (by decide +kernel)
theorem q652 : Cond.methodLink "CallExplorer$Shortener" (39 : Nat) ({ cls := "CallExplorer$Shortener", name := "lowerInTrial", desc := "(LCallExplorer$Sequence;II)Z" } : MethodName) ∈ zt := zin (List.mem_append_right _ (List.mem_of_getElem? (i := 652) (by decide +kernel))) (by decide +kernel)
theorem q654 : Cond.instanceMethod ({ cls := "CallExplorer$Shortener", name := "lowerInTrial", desc := "(LCallExplorer$Sequence;II)Z" } : MethodName) ∈ zt := zin (List.mem_append_right _ (List.mem_of_getElem? (i := 654) (by decide +kernel))) (by decide +kernel)
set_option maxRecDepth 100000 in
theorem q655 : Cond.code ({ cls := "CallExplorer$Shortener", name := "lowerInTrial", desc := "(LCallExplorer$Sequence;II)Z" } : MethodName) prog_10_method_3_code (7 : Nat) (Option.some FieldType.boolean) ∈ zt := zin (List.mem_append_right _ (List.mem_of_getElem? (i := 655) (rfl))) (by rfl)
theorem q656 : Cond.methodLink "CallExplorer$Shortener" (47 : Nat) ({ cls := "CallExplorer$Sequence", name := "operationOf", desc := "(I)I" } : MethodName) ∈ zt := zin (List.mem_append_right _ (List.mem_of_getElem? (i := 656) (by decide +kernel))) (by decide +kernel)
theorem q657 : Cond.methodLink "CallExplorer$Shortener" (51 : Nat) ({ cls := "CallExplorer$Catalog", name := "argumentType", desc := "(II)I" } : MethodName) ∈ zt := zin (List.mem_append_right _ (List.mem_of_getElem? (i := 657) (by decide +kernel))) (by decide +kernel)
theorem q658 : Cond.methodLink "CallExplorer$Shortener" (57 : Nat) ({ cls := "CallExplorer$Sequence", name := "copy", desc := "(LCallExplorer$Sequence;)V" } : MethodName) ∈ zt := zin (List.mem_append_right _ (List.mem_of_getElem? (i := 658) (by decide +kernel))) (by decide +kernel)
theorem q659 : Cond.methodLink "CallExplorer$Shortener" (61 : Nat) ({ cls := "CallExplorer$Sequence", name := "setArgument", desc := "(IIII)V" } : MethodName) ∈ zt := zin (List.mem_append_right _ (List.mem_of_getElem? (i := 659) (by decide +kernel))) (by decide +kernel)
theorem q660 : Cond.methodLink "CallExplorer$Shortener" (65 : Nat) ({ cls := "CallExplorer$Sequence", name := "content", desc := "(II)I" } : MethodName) ∈ zt := zin (List.mem_append_right _ (List.mem_of_getElem? (i := 660) (by decide +kernel))) (by decide +kernel)
theorem q661 : Cond.methodLink "CallExplorer$Shortener" (72 : Nat) ({ cls := "CallExplorer$Catalog", name := "is", desc := "(II)Z" } : MethodName) ∈ zt := zin (List.mem_append_right _ (List.mem_of_getElem? (i := 661) (by decide +kernel))) (by decide +kernel)
theorem q662 : Cond.methodLink "CallExplorer$Shortener" (43 : Nat) ({ cls := "CallExplorer$Shortener", name := "keepIfSame", desc := "(LCallExplorer$Entry;)V" } : MethodName) ∈ zt := zin (List.mem_append_right _ (List.mem_of_getElem? (i := 662) (by decide +kernel))) (by decide +kernel)
theorem q664 : Cond.instanceMethod ({ cls := "CallExplorer$Shortener", name := "keepIfSame", desc := "(LCallExplorer$Entry;)V" } : MethodName) ∈ zt := zin (List.mem_append_right _ (List.mem_of_getElem? (i := 664) (by decide +kernel))) (by decide +kernel)
set_option maxRecDepth 100000 in
theorem q665 : Cond.code ({ cls := "CallExplorer$Shortener", name := "keepIfSame", desc := "(LCallExplorer$Entry;)V" } : MethodName) prog_10_method_6_code (2 : Nat) (Option.none : Option FieldType) ∈ zt := zin (List.mem_append_right _ (List.mem_of_getElem? (i := 665) (rfl))) (by rfl)
theorem q666 : Cond.methodLink "CallExplorer$Shortener" (86 : Nat) ({ cls := "CallExplorer$Runner", name := "run", desc := "(LCallExplorer$Sequence;)V" } : MethodName) ∈ zt := zin (List.mem_append_right _ (List.mem_of_getElem? (i := 666) (by decide +kernel))) (by decide +kernel)
theorem q667 : Cond.methodLink "CallExplorer" (96 : Nat) ({ cls := "CallExplorer$Shortener", name := "dropStatements", desc := "(LCallExplorer$Entry;)V" } : MethodName) ∈ zt := zin (List.mem_append_right _ (List.mem_of_getElem? (i := 667) (by decide +kernel))) (by decide +kernel)
theorem q668 : Cond.instanceMethod ({ cls := "CallExplorer$Shortener", name := "dropStatements", desc := "(LCallExplorer$Entry;)V" } : MethodName) ∈ zt := zin (List.mem_append_right _ (List.mem_of_getElem? (i := 668) (by decide +kernel))) (by decide +kernel)
theorem q669 : Cond.selects "CallExplorer$Shortener" ({ cls := "CallExplorer$Shortener", name := "dropStatements", desc := "(LCallExplorer$Entry;)V" } : MethodName) ({ cls := "CallExplorer$Shortener", name := "dropStatements", desc := "(LCallExplorer$Entry;)V" } : MethodName) ∈ zt := zin (List.mem_append_right _ (List.mem_of_getElem? (i := 669) (by decide +kernel))) (by decide +kernel)
set_option maxRecDepth 100000 in
theorem q670 : Cond.code ({ cls := "CallExplorer$Shortener", name := "dropStatements", desc := "(LCallExplorer$Entry;)V" } : MethodName) prog_10_method_4_code (3 : Nat) (Option.none : Option FieldType) ∈ zt := zin (List.mem_append_right _ (List.mem_of_getElem? (i := 670) (rfl))) (by rfl)
theorem q671 : Cond.methodLink "CallExplorer$Shortener" (75 : Nat) ({ cls := "CallExplorer$Sequence", name := "usesLater", desc := "(I)Z" } : MethodName) ∈ zt := zin (List.mem_append_right _ (List.mem_of_getElem? (i := 671) (by decide +kernel))) (by decide +kernel)
theorem q672 : Cond.instanceMethod ({ cls := "CallExplorer$Sequence", name := "usesLater", desc := "(I)Z" } : MethodName) ∈ zt := zin (List.mem_append_right _ (List.mem_of_getElem? (i := 672) (by decide +kernel))) (by decide +kernel)
theorem q673 : Cond.selects "CallExplorer$Sequence" ({ cls := "CallExplorer$Sequence", name := "usesLater", desc := "(I)Z" } : MethodName) ({ cls := "CallExplorer$Sequence", name := "usesLater", desc := "(I)Z" } : MethodName) ∈ zt := zin (List.mem_append_right _ (List.mem_of_getElem? (i := 673) (by decide +kernel))) (by decide +kernel)
set_option maxRecDepth 100000 in
theorem q674 : Cond.code ({ cls := "CallExplorer$Sequence", name := "usesLater", desc := "(I)Z" } : MethodName) prog_9_method_12_code (4 : Nat) (Option.some FieldType.boolean) ∈ zt := zin (List.mem_append_right _ (List.mem_of_getElem? (i := 674) (rfl))) (by rfl)
theorem q675 : Cond.methodLink "CallExplorer$Shortener" (79 : Nat) ({ cls := "CallExplorer$Sequence", name := "remove", desc := "(I)V" } : MethodName) ∈ zt := zin (List.mem_append_right _ (List.mem_of_getElem? (i := 675) (by decide +kernel))) (by decide +kernel)
theorem q676 : Cond.instanceMethod ({ cls := "CallExplorer$Sequence", name := "remove", desc := "(I)V" } : MethodName) ∈ zt := zin (List.mem_append_right _ (List.mem_of_getElem? (i := 676) (by decide +kernel))) (by decide +kernel)
theorem q677 : Cond.selects "CallExplorer$Sequence" ({ cls := "CallExplorer$Sequence", name := "remove", desc := "(I)V" } : MethodName) ({ cls := "CallExplorer$Sequence", name := "remove", desc := "(I)V" } : MethodName) ∈ zt := zin (List.mem_append_right _ (List.mem_of_getElem? (i := 677) (by decide +kernel))) (by decide +kernel)
set_option maxRecDepth 100000 in
theorem q678 : Cond.code ({ cls := "CallExplorer$Sequence", name := "remove", desc := "(I)V" } : MethodName) prog_9_method_13_code (3 : Nat) (Option.none : Option FieldType) ∈ zt := zin (List.mem_append_right _ (List.mem_of_getElem? (i := 678) (rfl))) (by rfl)
theorem q679 : Cond.methodLink "CallExplorer" (99 : Nat) ({ cls := "CallExplorer$Shortener", name := "zeroLiterals", desc := "(LCallExplorer$Entry;)V" } : MethodName) ∈ zt := zin (List.mem_append_right _ (List.mem_of_getElem? (i := 679) (by decide +kernel))) (by decide +kernel)
theorem q680 : Cond.instanceMethod ({ cls := "CallExplorer$Shortener", name := "zeroLiterals", desc := "(LCallExplorer$Entry;)V" } : MethodName) ∈ zt := zin (List.mem_append_right _ (List.mem_of_getElem? (i := 680) (by decide +kernel))) (by decide +kernel)
theorem q681 : Cond.selects "CallExplorer$Shortener" ({ cls := "CallExplorer$Shortener", name := "zeroLiterals", desc := "(LCallExplorer$Entry;)V" } : MethodName) ({ cls := "CallExplorer$Shortener", name := "zeroLiterals", desc := "(LCallExplorer$Entry;)V" } : MethodName) ∈ zt := zin (List.mem_append_right _ (List.mem_of_getElem? (i := 681) (by decide +kernel))) (by decide +kernel)
set_option maxRecDepth 100000 in
theorem q682 : Cond.code ({ cls := "CallExplorer$Shortener", name := "zeroLiterals", desc := "(LCallExplorer$Entry;)V" } : MethodName) prog_10_method_5_code (5 : Nat) (Option.none : Option FieldType) ∈ zt := zin (List.mem_append_right _ (List.mem_of_getElem? (i := 682) (rfl))) (by rfl)
theorem q683 : Cond.methodLink "CallExplorer$Shortener" (83 : Nat) ({ cls := "CallExplorer$Sequence", name := "form", desc := "(II)I" } : MethodName) ∈ zt := zin (List.mem_append_right _ (List.mem_of_getElem? (i := 683) (by decide +kernel))) (by decide +kernel)
theorem q700 : Cond.methodLink "CallExplorer" (122 : Nat) ({ cls := "CallExplorer$Writer", name := "write", desc := "(LCallExplorer$Entry;)V" } : MethodName) ∈ zt := zin (List.mem_append_right _ (List.mem_of_getElem? (i := 700) (by decide +kernel))) (by decide +kernel)
theorem q701 : Cond.instanceMethod ({ cls := "CallExplorer$Writer", name := "write", desc := "(LCallExplorer$Entry;)V" } : MethodName) ∈ zt := zin (List.mem_append_right _ (List.mem_of_getElem? (i := 701) (by decide +kernel))) (by decide +kernel)
theorem q702 : Cond.selects "CallExplorer$Writer" ({ cls := "CallExplorer$Writer", name := "write", desc := "(LCallExplorer$Entry;)V" } : MethodName) ({ cls := "CallExplorer$Writer", name := "write", desc := "(LCallExplorer$Entry;)V" } : MethodName) ∈ zt := zin (List.mem_append_right _ (List.mem_of_getElem? (i := 702) (by decide +kernel))) (by decide +kernel)
set_option maxRecDepth 100000 in
theorem q703 : Cond.code ({ cls := "CallExplorer$Writer", name := "write", desc := "(LCallExplorer$Entry;)V" } : MethodName) prog_11_method_2_code (3 : Nat) (Option.none : Option FieldType) ∈ zt := zin (List.mem_append_right _ (List.mem_of_getElem? (i := 703) (rfl))) (by rfl)
theorem q704 : Cond.methodLink "CallExplorer$Writer" (30 : Nat) ({ cls := "CallExplorer$Writer", name := "writeCall", desc := "(LCallExplorer$Sequence;I)V" } : MethodName) ∈ zt := zin (List.mem_append_right _ (List.mem_of_getElem? (i := 704) (by decide +kernel))) (by decide +kernel)
theorem q706 : Cond.instanceMethod ({ cls := "CallExplorer$Writer", name := "writeCall", desc := "(LCallExplorer$Sequence;I)V" } : MethodName) ∈ zt := zin (List.mem_append_right _ (List.mem_of_getElem? (i := 706) (by decide +kernel))) (by decide +kernel)
set_option maxRecDepth 100000 in
theorem q707 : Cond.code ({ cls := "CallExplorer$Writer", name := "writeCall", desc := "(LCallExplorer$Sequence;I)V" } : MethodName) prog_11_method_4_code (4 : Nat) (Option.none : Option FieldType) ∈ zt := zin (List.mem_append_right _ (List.mem_of_getElem? (i := 707) (rfl))) (by rfl)
theorem q708 : Cond.methodLink "CallExplorer$Writer" (38 : Nat) ({ cls := "CallExplorer$Sequence", name := "operationOf", desc := "(I)I" } : MethodName) ∈ zt := zin (List.mem_append_right _ (List.mem_of_getElem? (i := 708) (by decide +kernel))) (by decide +kernel)
theorem q709 : Cond.methodLink "CallExplorer$Writer" (42 : Nat) ({ cls := "CallExplorer$Writer", name := "put", desc := "(C)V" } : MethodName) ∈ zt := zin (List.mem_append_right _ (List.mem_of_getElem? (i := 709) (by decide +kernel))) (by decide +kernel)
theorem q711 : Cond.instanceMethod ({ cls := "CallExplorer$Writer", name := "put", desc := "(C)V" } : MethodName) ∈ zt := zin (List.mem_append_right _ (List.mem_of_getElem? (i := 711) (by decide +kernel))) (by decide +kernel)
set_option maxRecDepth 100000 in
theorem q712 : Cond.code ({ cls := "CallExplorer$Writer", name := "put", desc := "(C)V" } : MethodName) prog_11_method_3_code (2 : Nat) (Option.none : Option FieldType) ∈ zt := zin (List.mem_append_right _ (List.mem_of_getElem? (i := 712) (rfl))) (by rfl)
theorem q713 : Cond.methodLink "CallExplorer$Writer" (46 : Nat) ({ cls := "CallExplorer$Sequence", name := "form", desc := "(II)I" } : MethodName) ∈ zt := zin (List.mem_append_right _ (List.mem_of_getElem? (i := 713) (by decide +kernel))) (by decide +kernel)
theorem q714 : Cond.methodLink "CallExplorer$Writer" (50 : Nat) ({ cls := "CallExplorer$Sequence", name := "content", desc := "(II)I" } : MethodName) ∈ zt := zin (List.mem_append_right _ (List.mem_of_getElem? (i := 714) (by decide +kernel))) (by decide +kernel)
theorem q715 : Cond.methodLink "CallExplorer$Writer" (53 : Nat) ({ cls := "CallExplorer$Writer", name := "writeArgument", desc := "(II)V" } : MethodName) ∈ zt := zin (List.mem_append_right _ (List.mem_of_getElem? (i := 715) (by decide +kernel))) (by decide +kernel)
theorem q717 : Cond.instanceMethod ({ cls := "CallExplorer$Writer", name := "writeArgument", desc := "(II)V" } : MethodName) ∈ zt := zin (List.mem_append_right _ (List.mem_of_getElem? (i := 717) (by decide +kernel))) (by decide +kernel)
set_option maxRecDepth 100000 in
theorem q718 : Cond.code ({ cls := "CallExplorer$Writer", name := "writeArgument", desc := "(II)V" } : MethodName) prog_11_method_5_code (3 : Nat) (Option.none : Option FieldType) ∈ zt := zin (List.mem_append_right _ (List.mem_of_getElem? (i := 718) (rfl))) (by rfl)
theorem q719 : Cond.methodLink "CallExplorer$Writer" (57 : Nat) ({ cls := "CallExplorer$Writer", name := "writeNumber", desc := "(I)V" } : MethodName) ∈ zt := zin (List.mem_append_right _ (List.mem_of_getElem? (i := 719) (by decide +kernel))) (by decide +kernel)
theorem q721 : Cond.instanceMethod ({ cls := "CallExplorer$Writer", name := "writeNumber", desc := "(I)V" } : MethodName) ∈ zt := zin (List.mem_append_right _ (List.mem_of_getElem? (i := 721) (by decide +kernel))) (by decide +kernel)
set_option maxRecDepth 100000 in
theorem q722 : Cond.code ({ cls := "CallExplorer$Writer", name := "writeNumber", desc := "(I)V" } : MethodName) prog_11_method_8_code (7 : Nat) (Option.none : Option FieldType) ∈ zt := zin (List.mem_append_right _ (List.mem_of_getElem? (i := 722) (rfl))) (by rfl)
theorem q725 : Cond.constantLong "CallExplorer$Writer" (80 : Nat) (10 : Int64) ∈ zt := zin (List.mem_append_right _ (List.mem_of_getElem? (i := 725) (by decide +kernel))) (by decide +kernel)
theorem q726 : Cond.methodLink "CallExplorer$Writer" (34 : Nat) ({ cls := "CallExplorer$Writer", name := "writeEnd", desc := "(LCallExplorer$Entry;)V" } : MethodName) ∈ zt := zin (List.mem_append_right _ (List.mem_of_getElem? (i := 726) (by decide +kernel))) (by decide +kernel)
theorem q728 : Cond.instanceMethod ({ cls := "CallExplorer$Writer", name := "writeEnd", desc := "(LCallExplorer$Entry;)V" } : MethodName) ∈ zt := zin (List.mem_append_right _ (List.mem_of_getElem? (i := 728) (by decide +kernel))) (by decide +kernel)
set_option maxRecDepth 100000 in
theorem q729 : Cond.code ({ cls := "CallExplorer$Writer", name := "writeEnd", desc := "(LCallExplorer$Entry;)V" } : MethodName) prog_11_method_6_code (2 : Nat) (Option.none : Option FieldType) ∈ zt := zin (List.mem_append_right _ (List.mem_of_getElem? (i := 729) (rfl))) (by rfl)
theorem q730 : Cond.methodLink "CallExplorer$Writer" (67 : Nat) ({ cls := "CallExplorer$Writer", name := "writeResult", desc := "(LCallExplorer$Entry;)V" } : MethodName) ∈ zt := zin (List.mem_append_right _ (List.mem_of_getElem? (i := 730) (by decide +kernel))) (by decide +kernel)
theorem q732 : Cond.instanceMethod ({ cls := "CallExplorer$Writer", name := "writeResult", desc := "(LCallExplorer$Entry;)V" } : MethodName) ∈ zt := zin (List.mem_append_right _ (List.mem_of_getElem? (i := 732) (by decide +kernel))) (by decide +kernel)
set_option maxRecDepth 100000 in
theorem q733 : Cond.code ({ cls := "CallExplorer$Writer", name := "writeResult", desc := "(LCallExplorer$Entry;)V" } : MethodName) prog_11_method_7_code (2 : Nat) (Option.none : Option FieldType) ∈ zt := zin (List.mem_append_right _ (List.mem_of_getElem? (i := 733) (rfl))) (by rfl)
theorem q738 : Cond.methodLink "CallExplorer" (132 : Nat) ({ cls := "CallExplorer$Reader", name := "addToDraft", desc := "(J)Z" } : MethodName) ∈ zt := zin (List.mem_append_right _ (List.mem_of_getElem? (i := 738) (by decide +kernel))) (by decide +kernel)
theorem q739 : Cond.instanceMethod ({ cls := "CallExplorer$Reader", name := "addToDraft", desc := "(J)Z" } : MethodName) ∈ zt := zin (List.mem_append_right _ (List.mem_of_getElem? (i := 739) (by decide +kernel))) (by decide +kernel)
theorem q740 : Cond.selects "CallExplorer$Reader" ({ cls := "CallExplorer$Reader", name := "addToDraft", desc := "(J)Z" } : MethodName) ({ cls := "CallExplorer$Reader", name := "addToDraft", desc := "(J)Z" } : MethodName) ∈ zt := zin (List.mem_append_right _ (List.mem_of_getElem? (i := 740) (by decide +kernel))) (by decide +kernel)
set_option maxRecDepth 100000 in
theorem q741 : Cond.code ({ cls := "CallExplorer$Reader", name := "addToDraft", desc := "(J)Z" } : MethodName) prog_7_method_2_code (5 : Nat) (Option.some FieldType.boolean) ∈ zt := zin (List.mem_append_right _ (List.mem_of_getElem? (i := 741) (rfl))) (by rfl)
theorem q742 : Cond.methodLink "CallExplorer$Reader" (30 : Nat) ({ cls := "CallExplorer$Reader", name := "countBytes", desc := "(J)I" } : MethodName) ∈ zt := zin (List.mem_append_right _ (List.mem_of_getElem? (i := 742) (by decide +kernel))) (by decide +kernel)
theorem q744 : Cond.instanceMethod ({ cls := "CallExplorer$Reader", name := "countBytes", desc := "(J)I" } : MethodName) ∈ zt := zin (List.mem_append_right _ (List.mem_of_getElem? (i := 744) (by decide +kernel))) (by decide +kernel)
set_option maxRecDepth 100000 in
theorem q745 : Cond.code ({ cls := "CallExplorer$Reader", name := "countBytes", desc := "(J)I" } : MethodName) prog_7_method_3_code (4 : Nat) (Option.some FieldType.int) ∈ zt := zin (List.mem_append_right _ (List.mem_of_getElem? (i := 745) (rfl))) (by rfl)
theorem q746 : Cond.methodLink "CallExplorer$Reader" (34 : Nat) ({ cls := "CallExplorer$Reader", name := "byteOf", desc := "(JI)I" } : MethodName) ∈ zt := zin (List.mem_append_right _ (List.mem_of_getElem? (i := 746) (by decide +kernel))) (by decide +kernel)
theorem q748 : Cond.instanceMethod ({ cls := "CallExplorer$Reader", name := "byteOf", desc := "(JI)I" } : MethodName) ∈ zt := zin (List.mem_append_right _ (List.mem_of_getElem? (i := 748) (by decide +kernel))) (by decide +kernel)
set_option maxRecDepth 100000 in
theorem q749 : Cond.code ({ cls := "CallExplorer$Reader", name := "byteOf", desc := "(JI)I" } : MethodName) prog_7_method_4_code (4 : Nat) (Option.some FieldType.int) ∈ zt := zin (List.mem_append_right _ (List.mem_of_getElem? (i := 749) (rfl))) (by rfl)
theorem q750 : Cond.constantLong "CallExplorer$Reader" (38 : Nat) (255 : Int64) ∈ zt := zin (List.mem_append_right _ (List.mem_of_getElem? (i := 750) (by decide +kernel))) (by decide +kernel)
theorem q755 : Cond.methodLink "CallExplorer" (136 : Nat) ({ cls := "CallExplorer$Reader", name := "read", desc := "()Z" } : MethodName) ∈ zt := zin (List.mem_append_right _ (List.mem_of_getElem? (i := 755) (by decide +kernel))) (by decide +kernel)
theorem q756 : Cond.instanceMethod ({ cls := "CallExplorer$Reader", name := "read", desc := "()Z" } : MethodName) ∈ zt := zin (List.mem_append_right _ (List.mem_of_getElem? (i := 756) (by decide +kernel))) (by decide +kernel)
theorem q757 : Cond.selects "CallExplorer$Reader" ({ cls := "CallExplorer$Reader", name := "read", desc := "()Z" } : MethodName) ({ cls := "CallExplorer$Reader", name := "read", desc := "()Z" } : MethodName) ∈ zt := zin (List.mem_append_right _ (List.mem_of_getElem? (i := 757) (by decide +kernel))) (by decide +kernel)
set_option maxRecDepth 100000 in
theorem q758 : Cond.code ({ cls := "CallExplorer$Reader", name := "read", desc := "()Z" } : MethodName) prog_7_method_5_code (2 : Nat) (Option.some FieldType.boolean) ∈ zt := zin (List.mem_append_right _ (List.mem_of_getElem? (i := 758) (rfl))) (by rfl)
theorem q759 : Cond.methodLink "CallExplorer$Reader" (43 : Nat) ({ cls := "CallExplorer$Sequence", name := "clear", desc := "()V" } : MethodName) ∈ zt := zin (List.mem_append_right _ (List.mem_of_getElem? (i := 759) (by decide +kernel))) (by decide +kernel)
theorem q760 : Cond.methodLink "CallExplorer$Reader" (46 : Nat) ({ cls := "CallExplorer$Reader", name := "isAtEnd", desc := "()Z" } : MethodName) ∈ zt := zin (List.mem_append_right _ (List.mem_of_getElem? (i := 760) (by decide +kernel))) (by decide +kernel)
theorem q762 : Cond.instanceMethod ({ cls := "CallExplorer$Reader", name := "isAtEnd", desc := "()Z" } : MethodName) ∈ zt := zin (List.mem_append_right _ (List.mem_of_getElem? (i := 762) (by decide +kernel))) (by decide +kernel)
set_option maxRecDepth 100000 in
theorem q763 : Cond.code ({ cls := "CallExplorer$Reader", name := "isAtEnd", desc := "()Z" } : MethodName) prog_7_method_9_code (2 : Nat) (Option.some FieldType.boolean) ∈ zt := zin (List.mem_append_right _ (List.mem_of_getElem? (i := 763) (rfl))) (by rfl)
theorem q764 : Cond.methodLink "CallExplorer$Reader" (77 : Nat) ({ cls := "CallExplorer$Reader", name := "peek", desc := "()C" } : MethodName) ∈ zt := zin (List.mem_append_right _ (List.mem_of_getElem? (i := 764) (by decide +kernel))) (by decide +kernel)
theorem q766 : Cond.instanceMethod ({ cls := "CallExplorer$Reader", name := "peek", desc := "()C" } : MethodName) ∈ zt := zin (List.mem_append_right _ (List.mem_of_getElem? (i := 766) (by decide +kernel))) (by decide +kernel)
set_option maxRecDepth 100000 in
theorem q767 : Cond.code ({ cls := "CallExplorer$Reader", name := "peek", desc := "()C" } : MethodName) prog_7_method_7_code (1 : Nat) (Option.some FieldType.char) ∈ zt := zin (List.mem_append_right _ (List.mem_of_getElem? (i := 767) (rfl))) (by rfl)
theorem q768 : Cond.methodLink "CallExplorer$Reader" (50 : Nat) ({ cls := "CallExplorer$Reader", name := "readCall", desc := "()Z" } : MethodName) ∈ zt := zin (List.mem_append_right _ (List.mem_of_getElem? (i := 768) (by decide +kernel))) (by decide +kernel)
theorem q770 : Cond.instanceMethod ({ cls := "CallExplorer$Reader", name := "readCall", desc := "()Z" } : MethodName) ∈ zt := zin (List.mem_append_right _ (List.mem_of_getElem? (i := 770) (by decide +kernel))) (by decide +kernel)
set_option maxRecDepth 100000 in
theorem q771 : Cond.code ({ cls := "CallExplorer$Reader", name := "readCall", desc := "()Z" } : MethodName) prog_7_method_11_code (3 : Nat) (Option.some FieldType.boolean) ∈ zt := zin (List.mem_append_right _ (List.mem_of_getElem? (i := 771) (rfl))) (by rfl)
theorem q772 : Cond.methodLink "CallExplorer$Reader" (86 : Nat) ({ cls := "CallExplorer$Sequence", name := "push", desc := "(I)I" } : MethodName) ∈ zt := zin (List.mem_append_right _ (List.mem_of_getElem? (i := 772) (by decide +kernel))) (by decide +kernel)
theorem q773 : Cond.methodLink "CallExplorer$Reader" (90 : Nat) ({ cls := "CallExplorer$Reader", name := "accept", desc := "(C)Z" } : MethodName) ∈ zt := zin (List.mem_append_right _ (List.mem_of_getElem? (i := 773) (by decide +kernel))) (by decide +kernel)
theorem q775 : Cond.instanceMethod ({ cls := "CallExplorer$Reader", name := "accept", desc := "(C)Z" } : MethodName) ∈ zt := zin (List.mem_append_right _ (List.mem_of_getElem? (i := 775) (by decide +kernel))) (by decide +kernel)
set_option maxRecDepth 100000 in
theorem q776 : Cond.code ({ cls := "CallExplorer$Reader", name := "accept", desc := "(C)Z" } : MethodName) prog_7_method_8_code (2 : Nat) (Option.some FieldType.boolean) ∈ zt := zin (List.mem_append_right _ (List.mem_of_getElem? (i := 776) (rfl))) (by rfl)
theorem q777 : Cond.methodLink "CallExplorer$Reader" (94 : Nat) ({ cls := "CallExplorer$Reader", name := "readArgument", desc := "(II)Z" } : MethodName) ∈ zt := zin (List.mem_append_right _ (List.mem_of_getElem? (i := 777) (by decide +kernel))) (by decide +kernel)
theorem q779 : Cond.instanceMethod ({ cls := "CallExplorer$Reader", name := "readArgument", desc := "(II)Z" } : MethodName) ∈ zt := zin (List.mem_append_right _ (List.mem_of_getElem? (i := 779) (by decide +kernel))) (by decide +kernel)
set_option maxRecDepth 100000 in
theorem q780 : Cond.code ({ cls := "CallExplorer$Reader", name := "readArgument", desc := "(II)Z" } : MethodName) prog_7_method_12_code (5 : Nat) (Option.some FieldType.boolean) ∈ zt := zin (List.mem_append_right _ (List.mem_of_getElem? (i := 780) (rfl))) (by rfl)
theorem q781 : Cond.methodLink "CallExplorer$Reader" (102 : Nat) ({ cls := "CallExplorer$Sequence", name := "operationOf", desc := "(I)I" } : MethodName) ∈ zt := zin (List.mem_append_right _ (List.mem_of_getElem? (i := 781) (by decide +kernel))) (by decide +kernel)
theorem q782 : Cond.methodLink "CallExplorer$Reader" (98 : Nat) ({ cls := "CallExplorer$Catalog", name := "argumentType", desc := "(II)I" } : MethodName) ∈ zt := zin (List.mem_append_right _ (List.mem_of_getElem? (i := 782) (by decide +kernel))) (by decide +kernel)
theorem q783 : Cond.methodLink "CallExplorer$Reader" (105 : Nat) ({ cls := "CallExplorer$Reader", name := "readVariable", desc := "(III)Z" } : MethodName) ∈ zt := zin (List.mem_append_right _ (List.mem_of_getElem? (i := 783) (by decide +kernel))) (by decide +kernel)
theorem q785 : Cond.instanceMethod ({ cls := "CallExplorer$Reader", name := "readVariable", desc := "(III)Z" } : MethodName) ∈ zt := zin (List.mem_append_right _ (List.mem_of_getElem? (i := 785) (by decide +kernel))) (by decide +kernel)
set_option maxRecDepth 100000 in
theorem q786 : Cond.code ({ cls := "CallExplorer$Reader", name := "readVariable", desc := "(III)Z" } : MethodName) prog_7_method_13_code (4 : Nat) (Option.some FieldType.boolean) ∈ zt := zin (List.mem_append_right _ (List.mem_of_getElem? (i := 786) (rfl))) (by rfl)
theorem q787 : Cond.methodLink "CallExplorer$Reader" (119 : Nat) ({ cls := "CallExplorer$Reader", name := "isAtDigit", desc := "()Z" } : MethodName) ∈ zt := zin (List.mem_append_right _ (List.mem_of_getElem? (i := 787) (by decide +kernel))) (by decide +kernel)
theorem q789 : Cond.instanceMethod ({ cls := "CallExplorer$Reader", name := "isAtDigit", desc := "()Z" } : MethodName) ∈ zt := zin (List.mem_append_right _ (List.mem_of_getElem? (i := 789) (by decide +kernel))) (by decide +kernel)
set_option maxRecDepth 100000 in
theorem q790 : Cond.code ({ cls := "CallExplorer$Reader", name := "isAtDigit", desc := "()Z" } : MethodName) prog_7_method_10_code (1 : Nat) (Option.some FieldType.boolean) ∈ zt := zin (List.mem_append_right _ (List.mem_of_getElem? (i := 790) (rfl))) (by rfl)
theorem q791 : Cond.methodLink "CallExplorer$Reader" (113 : Nat) ({ cls := "CallExplorer$Reader", name := "readNumber", desc := "()Z" } : MethodName) ∈ zt := zin (List.mem_append_right _ (List.mem_of_getElem? (i := 791) (by decide +kernel))) (by decide +kernel)
theorem q793 : Cond.instanceMethod ({ cls := "CallExplorer$Reader", name := "readNumber", desc := "()Z" } : MethodName) ∈ zt := zin (List.mem_append_right _ (List.mem_of_getElem? (i := 793) (by decide +kernel))) (by decide +kernel)
set_option maxRecDepth 100000 in
theorem q794 : Cond.code ({ cls := "CallExplorer$Reader", name := "readNumber", desc := "()Z" } : MethodName) prog_7_method_14_code (6 : Nat) (Option.some FieldType.boolean) ∈ zt := zin (List.mem_append_right _ (List.mem_of_getElem? (i := 794) (rfl))) (by rfl)
theorem q795 : Cond.constantLong "CallExplorer$Reader" (129 : Nat) (10 : Int64) ∈ zt := zin (List.mem_append_right _ (List.mem_of_getElem? (i := 795) (by decide +kernel))) (by decide +kernel)
theorem q796 : Cond.methodLink "CallExplorer$Reader" (109 : Nat) ({ cls := "CallExplorer$Sequence", name := "setArgument", desc := "(IIII)V" } : MethodName) ∈ zt := zin (List.mem_append_right _ (List.mem_of_getElem? (i := 796) (by decide +kernel))) (by decide +kernel)
theorem q797 : Cond.methodLink "CallExplorer$Reader" (126 : Nat) ({ cls := "CallExplorer$Catalog", name := "is", desc := "(II)Z" } : MethodName) ∈ zt := zin (List.mem_append_right _ (List.mem_of_getElem? (i := 797) (by decide +kernel))) (by decide +kernel)
theorem q798 : Cond.methodLink "CallExplorer$Reader" (56 : Nat) ({ cls := "CallExplorer$Reader", name := "readEnd", desc := "()Z" } : MethodName) ∈ zt := zin (List.mem_append_right _ (List.mem_of_getElem? (i := 798) (by decide +kernel))) (by decide +kernel)
theorem q800 : Cond.instanceMethod ({ cls := "CallExplorer$Reader", name := "readEnd", desc := "()Z" } : MethodName) ∈ zt := zin (List.mem_append_right _ (List.mem_of_getElem? (i := 800) (by decide +kernel))) (by decide +kernel)
set_option maxRecDepth 100000 in
theorem q801 : Cond.code ({ cls := "CallExplorer$Reader", name := "readEnd", desc := "()Z" } : MethodName) prog_7_method_15_code (1 : Nat) (Option.some FieldType.boolean) ∈ zt := zin (List.mem_append_right _ (List.mem_of_getElem? (i := 801) (rfl))) (by rfl)
theorem q802 : Cond.methodLink "CallExplorer$Reader" (131 : Nat) ({ cls := "CallExplorer$Reader", name := "readDetail", desc := "(I)Z" } : MethodName) ∈ zt := zin (List.mem_append_right _ (List.mem_of_getElem? (i := 802) (by decide +kernel))) (by decide +kernel)
theorem q804 : Cond.instanceMethod ({ cls := "CallExplorer$Reader", name := "readDetail", desc := "(I)Z" } : MethodName) ∈ zt := zin (List.mem_append_right _ (List.mem_of_getElem? (i := 804) (by decide +kernel))) (by decide +kernel)
set_option maxRecDepth 100000 in
theorem q805 : Cond.code ({ cls := "CallExplorer$Reader", name := "readDetail", desc := "(I)Z" } : MethodName) prog_7_method_16_code (2 : Nat) (Option.some FieldType.boolean) ∈ zt := zin (List.mem_append_right _ (List.mem_of_getElem? (i := 805) (rfl))) (by rfl)
theorem q806 : Cond.methodLink "CallExplorer$Reader" (135 : Nat) ({ cls := "CallExplorer$Reader", name := "readResult", desc := "()Z" } : MethodName) ∈ zt := zin (List.mem_append_right _ (List.mem_of_getElem? (i := 806) (by decide +kernel))) (by decide +kernel)
theorem q808 : Cond.instanceMethod ({ cls := "CallExplorer$Reader", name := "readResult", desc := "()Z" } : MethodName) ∈ zt := zin (List.mem_append_right _ (List.mem_of_getElem? (i := 808) (by decide +kernel))) (by decide +kernel)
set_option maxRecDepth 100000 in
theorem q809 : Cond.code ({ cls := "CallExplorer$Reader", name := "readResult", desc := "()Z" } : MethodName) prog_7_method_17_code (2 : Nat) (Option.some FieldType.boolean) ∈ zt := zin (List.mem_append_right _ (List.mem_of_getElem? (i := 809) (rfl))) (by rfl)
theorem q810 : Cond.methodLink "CallExplorer" (141 : Nat) ({ cls := "CallExplorer$Runner", name := "run", desc := "(LCallExplorer$Sequence;)V" } : MethodName) ∈ zt := zin (List.mem_append_right _ (List.mem_of_getElem? (i := 810) (by decide +kernel))) (by decide +kernel)
theorem q811 : Cond.methodLink "CallExplorer" (145 : Nat) ({ cls := "CallExplorer$Reader", name := "foretold", desc := "(LCallExplorer$Runner;)Z" } : MethodName) ∈ zt := zin (List.mem_append_right _ (List.mem_of_getElem? (i := 811) (by decide +kernel))) (by decide +kernel)
theorem q812 : Cond.instanceMethod ({ cls := "CallExplorer$Reader", name := "foretold", desc := "(LCallExplorer$Runner;)Z" } : MethodName) ∈ zt := zin (List.mem_append_right _ (List.mem_of_getElem? (i := 812) (by decide +kernel))) (by decide +kernel)
theorem q813 : Cond.selects "CallExplorer$Reader" ({ cls := "CallExplorer$Reader", name := "foretold", desc := "(LCallExplorer$Runner;)Z" } : MethodName) ({ cls := "CallExplorer$Reader", name := "foretold", desc := "(LCallExplorer$Runner;)Z" } : MethodName) ∈ zt := zin (List.mem_append_right _ (List.mem_of_getElem? (i := 813) (by decide +kernel))) (by decide +kernel)
set_option maxRecDepth 100000 in
theorem q814 : Cond.code ({ cls := "CallExplorer$Reader", name := "foretold", desc := "(LCallExplorer$Runner;)Z" } : MethodName) prog_7_method_6_code (2 : Nat) (Option.some FieldType.boolean) ∈ zt := zin (List.mem_append_right _ (List.mem_of_getElem? (i := 814) (rfl))) (by rfl)
theorem q828 : Cond.fieldLink "CallExplorerModel" (95 : Nat) "CallExplorerModel" "state" "I" ∈ zt := zin (List.mem_append_right _ (List.mem_of_getElem? (i := 828) (by decide +kernel))) (by decide +kernel)
theorem q829 : Cond.fieldLink "CallExplorerModel" (98 : Nat) "CallExplorerModel" "classes" "I" ∈ zt := zin (List.mem_append_right _ (List.mem_of_getElem? (i := 829) (by decide +kernel))) (by decide +kernel)
theorem q830 : Cond.fieldLink "CallExplorerModel" (7 : Nat) "CallExplorerModel" "parent" "[I" ∈ zt := zin (List.mem_append_right _ (List.mem_of_getElem? (i := 830) (by decide +kernel))) (by decide +kernel)
theorem q831 : Cond.fieldLink "CallExplorerModel" (13 : Nat) "CallExplorerModel" "sense" "[I" ∈ zt := zin (List.mem_append_right _ (List.mem_of_getElem? (i := 831) (by decide +kernel))) (by decide +kernel)
theorem q832 : Cond.fieldLink "CallExplorerModel" (16 : Nat) "CallExplorerModel" "mark" "[I" ∈ zt := zin (List.mem_append_right _ (List.mem_of_getElem? (i := 832) (by decide +kernel))) (by decide +kernel)
theorem q833 : Cond.fieldLink "CallExplorerModel" (101 : Nat) "CallExplorerModel" "operations" "I" ∈ zt := zin (List.mem_append_right _ (List.mem_of_getElem? (i := 833) (by decide +kernel))) (by decide +kernel)
theorem q834 : Cond.fieldLink "CallExplorerModel" (19 : Nat) "CallExplorerModel" "kind" "[I" ∈ zt := zin (List.mem_append_right _ (List.mem_of_getElem? (i := 834) (by decide +kernel))) (by decide +kernel)
theorem q835 : Cond.fieldLink "CallExplorerModel" (22 : Nat) "CallExplorerModel" "first" "[I" ∈ zt := zin (List.mem_append_right _ (List.mem_of_getElem? (i := 835) (by decide +kernel))) (by decide +kernel)
theorem q836 : Cond.fieldLink "CallExplorerModel" (25 : Nat) "CallExplorerModel" "second" "[I" ∈ zt := zin (List.mem_append_right _ (List.mem_of_getElem? (i := 836) (by decide +kernel))) (by decide +kernel)
theorem q837 : Cond.fieldLink "CallExplorerModel" (28 : Nat) "CallExplorerModel" "literals" "I" ∈ zt := zin (List.mem_append_right _ (List.mem_of_getElem? (i := 837) (by decide +kernel))) (by decide +kernel)
theorem q838 : Cond.fieldLink "CallExplorerModel" (32 : Nat) "CallExplorerModel" "literal" "[I" ∈ zt := zin (List.mem_append_right _ (List.mem_of_getElem? (i := 838) (by decide +kernel))) (by decide +kernel)
theorem q839 : Cond.fieldLink "CallExplorerModel" (156 : Nat) "CallExplorerModel" "size" "I" ∈ zt := zin (List.mem_append_right _ (List.mem_of_getElem? (i := 839) (by decide +kernel))) (by decide +kernel)
theorem q840 : Cond.fieldLink "CallExplorerModel" (35 : Nat) "CallExplorerModel" "op" "[I" ∈ zt := zin (List.mem_append_right _ (List.mem_of_getElem? (i := 840) (by decide +kernel))) (by decide +kernel)
theorem q841 : Cond.fieldLink "CallExplorerModel" (38 : Nat) "CallExplorerModel" "how" "[I" ∈ zt := zin (List.mem_append_right _ (List.mem_of_getElem? (i := 841) (by decide +kernel))) (by decide +kernel)
theorem q842 : Cond.fieldLink "CallExplorerModel" (41 : Nat) "CallExplorerModel" "arg" "[I" ∈ zt := zin (List.mem_append_right _ (List.mem_of_getElem? (i := 842) (by decide +kernel))) (by decide +kernel)
theorem q843 : Cond.fieldLink "CallExplorerModel" (44 : Nat) "CallExplorerModel" "nowHow" "[I" ∈ zt := zin (List.mem_append_right _ (List.mem_of_getElem? (i := 843) (by decide +kernel))) (by decide +kernel)
theorem q844 : Cond.fieldLink "CallExplorerModel" (47 : Nat) "CallExplorerModel" "nowArg" "[I" ∈ zt := zin (List.mem_append_right _ (List.mem_of_getElem? (i := 844) (by decide +kernel))) (by decide +kernel)
theorem q845 : Cond.fieldLink "CallExplorerModel" (191 : Nat) "CallExplorerModel" "entries" "I" ∈ zt := zin (List.mem_append_right _ (List.mem_of_getElem? (i := 845) (by decide +kernel))) (by decide +kernel)
theorem q846 : Cond.fieldLink "CallExplorerModel" (50 : Nat) "CallExplorerModel" "sizes" "[I" ∈ zt := zin (List.mem_append_right _ (List.mem_of_getElem? (i := 846) (by decide +kernel))) (by decide +kernel)
theorem q847 : Cond.fieldLink "CallExplorerModel" (53 : Nat) "CallExplorerModel" "ops" "[I" ∈ zt := zin (List.mem_append_right _ (List.mem_of_getElem? (i := 847) (by decide +kernel))) (by decide +kernel)
theorem q848 : Cond.fieldLink "CallExplorerModel" (56 : Nat) "CallExplorerModel" "hows" "[I" ∈ zt := zin (List.mem_append_right _ (List.mem_of_getElem? (i := 848) (by decide +kernel))) (by decide +kernel)
theorem q849 : Cond.fieldLink "CallExplorerModel" (59 : Nat) "CallExplorerModel" "args" "[I" ∈ zt := zin (List.mem_append_right _ (List.mem_of_getElem? (i := 849) (by decide +kernel))) (by decide +kernel)
theorem q850 : Cond.fieldLink "CallExplorerModel" (62 : Nat) "CallExplorerModel" "outcome" "[I" ∈ zt := zin (List.mem_append_right _ (List.mem_of_getElem? (i := 850) (by decide +kernel))) (by decide +kernel)
theorem q851 : Cond.fieldLink "CallExplorerModel" (65 : Nat) "CallExplorerModel" "detail" "[I" ∈ zt := zin (List.mem_append_right _ (List.mem_of_getElem? (i := 851) (by decide +kernel))) (by decide +kernel)
theorem q852 : Cond.fieldLink "CallExplorerModel" (68 : Nat) "CallExplorerModel" "gave" "[I" ∈ zt := zin (List.mem_append_right _ (List.mem_of_getElem? (i := 852) (by decide +kernel))) (by decide +kernel)
theorem q853 : Cond.fieldLink "CallExplorerModel" (111 : Nat) "CallExplorerModel" "objects" "I" ∈ zt := zin (List.mem_append_right _ (List.mem_of_getElem? (i := 853) (by decide +kernel))) (by decide +kernel)
theorem q854 : Cond.fieldLink "CallExplorerModel" (71 : Nat) "CallExplorerModel" "of" "[I" ∈ zt := zin (List.mem_append_right _ (List.mem_of_getElem? (i := 854) (by decide +kernel))) (by decide +kernel)
theorem q855 : Cond.fieldLink "CallExplorerModel" (74 : Nat) "CallExplorerModel" "value" "[I" ∈ zt := zin (List.mem_append_right _ (List.mem_of_getElem? (i := 855) (by decide +kernel))) (by decide +kernel)
theorem q856 : Cond.fieldLink "CallExplorerModel" (77 : Nat) "CallExplorerModel" "next" "[I" ∈ zt := zin (List.mem_append_right _ (List.mem_of_getElem? (i := 856) (by decide +kernel))) (by decide +kernel)
theorem q857 : Cond.fieldLink "CallExplorerModel" (80 : Nat) "CallExplorerModel" "result" "[I" ∈ zt := zin (List.mem_append_right _ (List.mem_of_getElem? (i := 857) (by decide +kernel))) (by decide +kernel)
theorem q858 : Cond.fieldLink "CallExplorerModel" (153 : Nat) "CallExplorerModel" "trouble" "I" ∈ zt := zin (List.mem_append_right _ (List.mem_of_getElem? (i := 858) (by decide +kernel))) (by decide +kernel)
theorem q859 : Cond.fieldLink "CallExplorerModel" (165 : Nat) "CallExplorerModel" "came" "I" ∈ zt := zin (List.mem_append_right _ (List.mem_of_getElem? (i := 859) (by decide +kernel))) (by decide +kernel)
theorem q860 : Cond.fieldLink "CallExplorerModel" (168 : Nat) "CallExplorerModel" "cameBy" "I" ∈ zt := zin (List.mem_append_right _ (List.mem_of_getElem? (i := 860) (by decide +kernel))) (by decide +kernel)
theorem q861 : Cond.fieldLink "CallExplorerModel" (178 : Nat) "CallExplorerModel" "shapeN" "I" ∈ zt := zin (List.mem_append_right _ (List.mem_of_getElem? (i := 861) (by decide +kernel))) (by decide +kernel)
theorem q862 : Cond.fieldLink "CallExplorerModel" (83 : Nat) "CallExplorerModel" "shape" "[I" ∈ zt := zin (List.mem_append_right _ (List.mem_of_getElem? (i := 862) (by decide +kernel))) (by decide +kernel)
theorem q863 : Cond.fieldLink "CallExplorerModel" (188 : Nat) "CallExplorerModel" "wantedN" "I" ∈ zt := zin (List.mem_append_right _ (List.mem_of_getElem? (i := 863) (by decide +kernel))) (by decide +kernel)
theorem q864 : Cond.fieldLink "CallExplorerModel" (86 : Nat) "CallExplorerModel" "wanted" "[I" ∈ zt := zin (List.mem_append_right _ (List.mem_of_getElem? (i := 864) (by decide +kernel))) (by decide +kernel)
theorem q865 : Cond.fieldLink "CallExplorerModel" (276 : Nat) "CallExplorerModel" "drafted" "I" ∈ zt := zin (List.mem_append_right _ (List.mem_of_getElem? (i := 865) (by decide +kernel))) (by decide +kernel)
theorem q866 : Cond.fieldLink "CallExplorerModel" (89 : Nat) "CallExplorerModel" "draft" "[I" ∈ zt := zin (List.mem_append_right _ (List.mem_of_getElem? (i := 866) (by decide +kernel))) (by decide +kernel)
theorem q867 : Cond.fieldLink "CallExplorerModel" (258 : Nat) "CallExplorerModel" "written" "I" ∈ zt := zin (List.mem_append_right _ (List.mem_of_getElem? (i := 867) (by decide +kernel))) (by decide +kernel)
theorem q868 : Cond.fieldLink "CallExplorerModel" (92 : Nat) "CallExplorerModel" "text" "[I" ∈ zt := zin (List.mem_append_right _ (List.mem_of_getElem? (i := 868) (by decide +kernel))) (by decide +kernel)
theorem q869 : Cond.fieldLink "CallExplorerModel" (281 : Nat) "CallExplorerModel" "at" "I" ∈ zt := zin (List.mem_append_right _ (List.mem_of_getElem? (i := 869) (by decide +kernel))) (by decide +kernel)
theorem q870 : Cond.fieldLink "CallExplorerModel" (284 : Nat) "CallExplorerModel" "bad" "Z" ∈ zt := zin (List.mem_append_right _ (List.mem_of_getElem? (i := 870) (by decide +kernel))) (by decide +kernel)
theorem q966 : Cond.methodLink "CallExplorerModel" (104 : Nat) ({ cls := "CallExplorerModel", name := "isClass", desc := "(I)Z" } : MethodName) ∈ zt := zin (List.mem_append_right _ (List.mem_of_getElem? (i := 966) (by decide +kernel))) (by decide +kernel)
theorem q968 : Cond.instanceMethod ({ cls := "CallExplorerModel", name := "isClass", desc := "(I)Z" } : MethodName) ∈ zt := zin (List.mem_append_right _ (List.mem_of_getElem? (i := 968) (by decide +kernel))) (by decide +kernel)
set_option maxRecDepth 100000 in
theorem q969 : Cond.code ({ cls := "CallExplorerModel", name := "isClass", desc := "(I)Z" } : MethodName) prog_13_method_3_code (2 : Nat) (Option.some FieldType.boolean) ∈ zt := zin (List.mem_append_right _ (List.mem_of_getElem? (i := 969) (rfl))) (by rfl)
theorem q970 : Cond.methodLink "CallExplorerModel" (108 : Nat) ({ cls := "CallExplorerModel", name := "hasD", desc := "(I)Z" } : MethodName) ∈ zt := zin (List.mem_append_right _ (List.mem_of_getElem? (i := 970) (by decide +kernel))) (by decide +kernel)
theorem q971 : Cond.static ({ cls := "CallExplorerModel", name := "hasD", desc := "(I)Z" } : MethodName) ∈ zt := zin (List.mem_append_right _ (List.mem_of_getElem? (i := 971) (by decide +kernel))) (by decide +kernel)
set_option maxRecDepth 100000 in
theorem q972 : Cond.code ({ cls := "CallExplorerModel", name := "hasD", desc := "(I)Z" } : MethodName) prog_13_method_4_code (1 : Nat) (Option.some FieldType.boolean) ∈ zt := zin (List.mem_append_right _ (List.mem_of_getElem? (i := 972) (rfl))) (by rfl)
theorem q978 : Cond.instanceMethod ({ cls := "CallExplorerModel", name := "step", desc := "()I" } : MethodName) ∈ zt := zin (List.mem_append_right _ (List.mem_of_getElem? (i := 978) (by decide +kernel))) (by decide +kernel)
theorem q979 : Cond.selects "CallExplorerModel" ({ cls := "CallExplorerModel", name := "step", desc := "()I" } : MethodName) ({ cls := "CallExplorerModel", name := "step", desc := "()I" } : MethodName) ∈ zt := zin (List.mem_append_right _ (List.mem_of_getElem? (i := 979) (by decide +kernel))) (by decide +kernel)
set_option maxRecDepth 100000 in
theorem q980 : Cond.code ({ cls := "CallExplorerModel", name := "step", desc := "()I" } : MethodName) prog_13_method_37_code (4 : Nat) (Option.some FieldType.int) ∈ zt := zin (List.mem_append_right _ (List.mem_of_getElem? (i := 980) (rfl))) (by rfl)
theorem q981 : Cond.methodLink "CallExplorerModel" (214 : Nat) ({ cls := "CallExplorerModel", name := "random", desc := "(I)I" } : MethodName) ∈ zt := zin (List.mem_append_right _ (List.mem_of_getElem? (i := 981) (by decide +kernel))) (by decide +kernel)
theorem q983 : Cond.instanceMethod ({ cls := "CallExplorerModel", name := "random", desc := "(I)I" } : MethodName) ∈ zt := zin (List.mem_append_right _ (List.mem_of_getElem? (i := 983) (by decide +kernel))) (by decide +kernel)
set_option maxRecDepth 100000 in
theorem q984 : Cond.code ({ cls := "CallExplorerModel", name := "random", desc := "(I)I" } : MethodName) prog_13_method_30_code (2 : Nat) (Option.some FieldType.int) ∈ zt := zin (List.mem_append_right _ (List.mem_of_getElem? (i := 984) (rfl))) (by rfl)
theorem q985 : Cond.constant "CallExplorerModel" (204 : Nat) (1103515245 : Int32) ∈ zt := zin (List.mem_append_right _ (List.mem_of_getElem? (i := 985) (by decide +kernel))) (by decide +kernel)
theorem q986 : Cond.methodLink "CallExplorerModel" (122 : Nat) ({ cls := "CallExplorerModel", name := "arity", desc := "(I)I" } : MethodName) ∈ zt := zin (List.mem_append_right _ (List.mem_of_getElem? (i := 986) (by decide +kernel))) (by decide +kernel)
theorem q987 : Cond.static ({ cls := "CallExplorerModel", name := "arity", desc := "(I)I" } : MethodName) ∈ zt := zin (List.mem_append_right _ (List.mem_of_getElem? (i := 987) (by decide +kernel))) (by decide +kernel)
set_option maxRecDepth 100000 in
theorem q988 : Cond.code ({ cls := "CallExplorerModel", name := "arity", desc := "(I)I" } : MethodName) prog_13_method_8_code (1 : Nat) (Option.some FieldType.int) ∈ zt := zin (List.mem_append_right _ (List.mem_of_getElem? (i := 988) (rfl))) (by rfl)
theorem q989 : Cond.methodLink "CallExplorerModel" (150 : Nat) ({ cls := "CallExplorerModel", name := "wants", desc := "(II)I" } : MethodName) ∈ zt := zin (List.mem_append_right _ (List.mem_of_getElem? (i := 989) (by decide +kernel))) (by decide +kernel)
theorem q991 : Cond.instanceMethod ({ cls := "CallExplorerModel", name := "wants", desc := "(II)I" } : MethodName) ∈ zt := zin (List.mem_append_right _ (List.mem_of_getElem? (i := 991) (by decide +kernel))) (by decide +kernel)
set_option maxRecDepth 100000 in
theorem q992 : Cond.code ({ cls := "CallExplorerModel", name := "wants", desc := "(II)I" } : MethodName) prog_13_method_9_code (4 : Nat) (Option.some FieldType.int) ∈ zt := zin (List.mem_append_right _ (List.mem_of_getElem? (i := 992) (rfl))) (by rfl)
theorem q993 : Cond.methodLink "CallExplorerModel" (224 : Nat) ({ cls := "CallExplorerModel", name := "chosen", desc := "(II)I" } : MethodName) ∈ zt := zin (List.mem_append_right _ (List.mem_of_getElem? (i := 993) (by decide +kernel))) (by decide +kernel)
theorem q995 : Cond.instanceMethod ({ cls := "CallExplorerModel", name := "chosen", desc := "(II)I" } : MethodName) ∈ zt := zin (List.mem_append_right _ (List.mem_of_getElem? (i := 995) (by decide +kernel))) (by decide +kernel)
set_option maxRecDepth 100000 in
theorem q996 : Cond.code ({ cls := "CallExplorerModel", name := "chosen", desc := "(II)I" } : MethodName) prog_13_method_35_code (5 : Nat) (Option.some FieldType.int) ∈ zt := zin (List.mem_append_right _ (List.mem_of_getElem? (i := 996) (rfl))) (by rfl)
theorem q997 : Cond.methodLink "CallExplorerModel" (211 : Nat) ({ cls := "CallExplorerModel", name := "offered", desc := "(I)I" } : MethodName) ∈ zt := zin (List.mem_append_right _ (List.mem_of_getElem? (i := 997) (by decide +kernel))) (by decide +kernel)
theorem q999 : Cond.instanceMethod ({ cls := "CallExplorerModel", name := "offered", desc := "(I)I" } : MethodName) ∈ zt := zin (List.mem_append_right _ (List.mem_of_getElem? (i := 999) (by decide +kernel))) (by decide +kernel)
set_option maxRecDepth 100000 in
theorem q1000 : Cond.code ({ cls := "CallExplorerModel", name := "offered", desc := "(I)I" } : MethodName) prog_13_method_32_code (4 : Nat) (Option.some FieldType.int) ∈ zt := zin (List.mem_append_right _ (List.mem_of_getElem? (i := 1000) (rfl))) (by rfl)
theorem q1001 : Cond.methodLink "CallExplorerModel" (208 : Nat) ({ cls := "CallExplorerModel", name := "offers", desc := "(II)Z" } : MethodName) ∈ zt := zin (List.mem_append_right _ (List.mem_of_getElem? (i := 1001) (by decide +kernel))) (by decide +kernel)
theorem q1003 : Cond.instanceMethod ({ cls := "CallExplorerModel", name := "offers", desc := "(II)Z" } : MethodName) ∈ zt := zin (List.mem_append_right _ (List.mem_of_getElem? (i := 1003) (by decide +kernel))) (by decide +kernel)
set_option maxRecDepth 100000 in
theorem q1004 : Cond.code ({ cls := "CallExplorerModel", name := "offers", desc := "(II)Z" } : MethodName) prog_13_method_31_code (3 : Nat) (Option.some FieldType.boolean) ∈ zt := zin (List.mem_append_right _ (List.mem_of_getElem? (i := 1004) (rfl))) (by rfl)
theorem q1005 : Cond.methodLink "CallExplorerModel" (205 : Nat) ({ cls := "CallExplorerModel", name := "typeOf", desc := "(I)I" } : MethodName) ∈ zt := zin (List.mem_append_right _ (List.mem_of_getElem? (i := 1005) (by decide +kernel))) (by decide +kernel)
theorem q1007 : Cond.instanceMethod ({ cls := "CallExplorerModel", name := "typeOf", desc := "(I)I" } : MethodName) ∈ zt := zin (List.mem_append_right _ (List.mem_of_getElem? (i := 1007) (by decide +kernel))) (by decide +kernel)
set_option maxRecDepth 100000 in
theorem q1008 : Cond.code ({ cls := "CallExplorerModel", name := "typeOf", desc := "(I)I" } : MethodName) prog_13_method_26_code (2 : Nat) (Option.some FieldType.int) ∈ zt := zin (List.mem_append_right _ (List.mem_of_getElem? (i := 1008) (rfl))) (by rfl)
theorem q1009 : Cond.methodLink "CallExplorerModel" (181 : Nat) ({ cls := "CallExplorerModel", name := "gives", desc := "(I)I" } : MethodName) ∈ zt := zin (List.mem_append_right _ (List.mem_of_getElem? (i := 1009) (by decide +kernel))) (by decide +kernel)
theorem q1011 : Cond.instanceMethod ({ cls := "CallExplorerModel", name := "gives", desc := "(I)I" } : MethodName) ∈ zt := zin (List.mem_append_right _ (List.mem_of_getElem? (i := 1011) (by decide +kernel))) (by decide +kernel)
set_option maxRecDepth 100000 in
theorem q1012 : Cond.code ({ cls := "CallExplorerModel", name := "gives", desc := "(I)I" } : MethodName) prog_13_method_10_code (3 : Nat) (Option.some FieldType.int) ∈ zt := zin (List.mem_append_right _ (List.mem_of_getElem? (i := 1012) (rfl))) (by rfl)
theorem q1013 : Cond.methodLink "CallExplorerModel" (138 : Nat) ({ cls := "CallExplorerModel", name := "is", desc := "(II)Z" } : MethodName) ∈ zt := zin (List.mem_append_right _ (List.mem_of_getElem? (i := 1013) (by decide +kernel))) (by decide +kernel)
theorem q1015 : Cond.instanceMethod ({ cls := "CallExplorerModel", name := "is", desc := "(II)Z" } : MethodName) ∈ zt := zin (List.mem_append_right _ (List.mem_of_getElem? (i := 1015) (by decide +kernel))) (by decide +kernel)
set_option maxRecDepth 100000 in
theorem q1016 : Cond.code ({ cls := "CallExplorerModel", name := "is", desc := "(II)Z" } : MethodName) prog_13_method_7_code (5 : Nat) (Option.some FieldType.boolean) ∈ zt := zin (List.mem_append_right _ (List.mem_of_getElem? (i := 1016) (rfl))) (by rfl)
theorem q1017 : Cond.methodLink "CallExplorerModel" (217 : Nat) ({ cls := "CallExplorerModel", name := "take", desc := "(III)V" } : MethodName) ∈ zt := zin (List.mem_append_right _ (List.mem_of_getElem? (i := 1017) (by decide +kernel))) (by decide +kernel)
theorem q1019 : Cond.instanceMethod ({ cls := "CallExplorerModel", name := "take", desc := "(III)V" } : MethodName) ∈ zt := zin (List.mem_append_right _ (List.mem_of_getElem? (i := 1019) (by decide +kernel))) (by decide +kernel)
set_option maxRecDepth 100000 in
theorem q1020 : Cond.code ({ cls := "CallExplorerModel", name := "take", desc := "(III)V" } : MethodName) prog_13_method_33_code (9 : Nat) (Option.none : Option FieldType) ∈ zt := zin (List.mem_append_right _ (List.mem_of_getElem? (i := 1020) (rfl))) (by rfl)
theorem q1021 : Cond.methodLink "CallExplorerModel" (184 : Nat) ({ cls := "CallExplorerModel", name := "copyFrom", desc := "(II)V" } : MethodName) ∈ zt := zin (List.mem_append_right _ (List.mem_of_getElem? (i := 1021) (by decide +kernel))) (by decide +kernel)
theorem q1023 : Cond.instanceMethod ({ cls := "CallExplorerModel", name := "copyFrom", desc := "(II)V" } : MethodName) ∈ zt := zin (List.mem_append_right _ (List.mem_of_getElem? (i := 1023) (by decide +kernel))) (by decide +kernel)
set_option maxRecDepth 100000 in
theorem q1024 : Cond.code ({ cls := "CallExplorerModel", name := "copyFrom", desc := "(II)V" } : MethodName) prog_13_method_23_code (4 : Nat) (Option.none : Option FieldType) ∈ zt := zin (List.mem_append_right _ (List.mem_of_getElem? (i := 1024) (rfl))) (by rfl)
theorem q1025 : Cond.methodLink "CallExplorerModel" (221 : Nat) ({ cls := "CallExplorerModel", name := "choose", desc := "(III)V" } : MethodName) ∈ zt := zin (List.mem_append_right _ (List.mem_of_getElem? (i := 1025) (by decide +kernel))) (by decide +kernel)
theorem q1027 : Cond.instanceMethod ({ cls := "CallExplorerModel", name := "choose", desc := "(III)V" } : MethodName) ∈ zt := zin (List.mem_append_right _ (List.mem_of_getElem? (i := 1027) (by decide +kernel))) (by decide +kernel)
set_option maxRecDepth 100000 in
theorem q1028 : Cond.code ({ cls := "CallExplorerModel", name := "choose", desc := "(III)V" } : MethodName) prog_13_method_34_code (4 : Nat) (Option.none : Option FieldType) ∈ zt := zin (List.mem_append_right _ (List.mem_of_getElem? (i := 1028) (rfl))) (by rfl)
theorem q1029 : Cond.methodLink "CallExplorerModel" (227 : Nat) ({ cls := "CallExplorerModel", name := "put", desc := "(I)V" } : MethodName) ∈ zt := zin (List.mem_append_right _ (List.mem_of_getElem? (i := 1029) (by decide +kernel))) (by decide +kernel)
theorem q1031 : Cond.instanceMethod ({ cls := "CallExplorerModel", name := "put", desc := "(I)V" } : MethodName) ∈ zt := zin (List.mem_append_right _ (List.mem_of_getElem? (i := 1031) (by decide +kernel))) (by decide +kernel)
set_option maxRecDepth 100000 in
theorem q1032 : Cond.code ({ cls := "CallExplorerModel", name := "put", desc := "(I)V" } : MethodName) prog_13_method_36_code (4 : Nat) (Option.none : Option FieldType) ∈ zt := zin (List.mem_append_right _ (List.mem_of_getElem? (i := 1032) (rfl))) (by rfl)
theorem q1033 : Cond.methodLink "CallExplorerModel" (230 : Nat) ({ cls := "CallExplorerModel", name := "known", desc := "()Z" } : MethodName) ∈ zt := zin (List.mem_append_right _ (List.mem_of_getElem? (i := 1033) (by decide +kernel))) (by decide +kernel)
theorem q1035 : Cond.instanceMethod ({ cls := "CallExplorerModel", name := "known", desc := "()Z" } : MethodName) ∈ zt := zin (List.mem_append_right _ (List.mem_of_getElem? (i := 1035) (by decide +kernel))) (by decide +kernel)
set_option maxRecDepth 100000 in
theorem q1036 : Cond.code ({ cls := "CallExplorerModel", name := "known", desc := "()Z" } : MethodName) prog_13_method_28_code (5 : Nat) (Option.some FieldType.boolean) ∈ zt := zin (List.mem_append_right _ (List.mem_of_getElem? (i := 1036) (rfl))) (by rfl)
theorem q1037 : Cond.methodLink "CallExplorerModel" (201 : Nat) ({ cls := "CallExplorerModel", name := "alike", desc := "(II)Z" } : MethodName) ∈ zt := zin (List.mem_append_right _ (List.mem_of_getElem? (i := 1037) (by decide +kernel))) (by decide +kernel)
theorem q1039 : Cond.instanceMethod ({ cls := "CallExplorerModel", name := "alike", desc := "(II)Z" } : MethodName) ∈ zt := zin (List.mem_append_right _ (List.mem_of_getElem? (i := 1039) (by decide +kernel))) (by decide +kernel)
set_option maxRecDepth 100000 in
theorem q1040 : Cond.code ({ cls := "CallExplorerModel", name := "alike", desc := "(II)Z" } : MethodName) prog_13_method_29_code (5 : Nat) (Option.some FieldType.boolean) ∈ zt := zin (List.mem_append_right _ (List.mem_of_getElem? (i := 1040) (rfl))) (by rfl)
theorem q1041 : Cond.methodLink "CallExplorerModel" (234 : Nat) ({ cls := "CallExplorerModel", name := "entered", desc := "()I" } : MethodName) ∈ zt := zin (List.mem_append_right _ (List.mem_of_getElem? (i := 1041) (by decide +kernel))) (by decide +kernel)
theorem q1043 : Cond.instanceMethod ({ cls := "CallExplorerModel", name := "entered", desc := "()I" } : MethodName) ∈ zt := zin (List.mem_append_right _ (List.mem_of_getElem? (i := 1043) (by decide +kernel))) (by decide +kernel)
set_option maxRecDepth 100000 in
theorem q1044 : Cond.code ({ cls := "CallExplorerModel", name := "entered", desc := "()I" } : MethodName) prog_13_method_38_code (2 : Nat) (Option.some FieldType.int) ∈ zt := zin (List.mem_append_right _ (List.mem_of_getElem? (i := 1044) (rfl))) (by rfl)
theorem q1045 : Cond.methodLink "CallExplorerModel" (237 : Nat) ({ cls := "CallExplorerModel", name := "store", desc := "(I)V" } : MethodName) ∈ zt := zin (List.mem_append_right _ (List.mem_of_getElem? (i := 1045) (by decide +kernel))) (by decide +kernel)
theorem q1047 : Cond.instanceMethod ({ cls := "CallExplorerModel", name := "store", desc := "(I)V" } : MethodName) ∈ zt := zin (List.mem_append_right _ (List.mem_of_getElem? (i := 1047) (by decide +kernel))) (by decide +kernel)
set_option maxRecDepth 100000 in
theorem q1048 : Cond.code ({ cls := "CallExplorerModel", name := "store", desc := "(I)V" } : MethodName) prog_13_method_25_code (5 : Nat) (Option.none : Option FieldType) ∈ zt := zin (List.mem_append_right _ (List.mem_of_getElem? (i := 1048) (rfl))) (by rfl)
theorem q1049 : Cond.methodLink "CallExplorerModel" (198 : Nat) ({ cls := "CallExplorerModel", name := "run", desc := "()V" } : MethodName) ∈ zt := zin (List.mem_append_right _ (List.mem_of_getElem? (i := 1049) (by decide +kernel))) (by decide +kernel)
theorem q1051 : Cond.instanceMethod ({ cls := "CallExplorerModel", name := "run", desc := "()V" } : MethodName) ∈ zt := zin (List.mem_append_right _ (List.mem_of_getElem? (i := 1051) (by decide +kernel))) (by decide +kernel)
set_option maxRecDepth 100000 in
theorem q1052 : Cond.code ({ cls := "CallExplorerModel", name := "run", desc := "()V" } : MethodName) prog_13_method_21_code (2 : Nat) (Option.none : Option FieldType) ∈ zt := zin (List.mem_append_right _ (List.mem_of_getElem? (i := 1052) (rfl))) (by rfl)
theorem q1053 : Cond.methodLink "CallExplorerModel" (159 : Nat) ({ cls := "CallExplorerModel", name := "perform", desc := "(I)I" } : MethodName) ∈ zt := zin (List.mem_append_right _ (List.mem_of_getElem? (i := 1053) (by decide +kernel))) (by decide +kernel)
theorem q1055 : Cond.instanceMethod ({ cls := "CallExplorerModel", name := "perform", desc := "(I)I" } : MethodName) ∈ zt := zin (List.mem_append_right _ (List.mem_of_getElem? (i := 1055) (by decide +kernel))) (by decide +kernel)
set_option maxRecDepth 100000 in
theorem q1056 : Cond.code ({ cls := "CallExplorerModel", name := "perform", desc := "(I)I" } : MethodName) prog_13_method_14_code (5 : Nat) (Option.some FieldType.int) ∈ zt := zin (List.mem_append_right _ (List.mem_of_getElem? (i := 1056) (rfl))) (by rfl)
theorem q1057 : Cond.methodLink "CallExplorerModel" (118 : Nat) ({ cls := "CallExplorerModel", name := "valueOf", desc := "(II)I" } : MethodName) ∈ zt := zin (List.mem_append_right _ (List.mem_of_getElem? (i := 1057) (by decide +kernel))) (by decide +kernel)
theorem q1059 : Cond.instanceMethod ({ cls := "CallExplorerModel", name := "valueOf", desc := "(II)I" } : MethodName) ∈ zt := zin (List.mem_append_right _ (List.mem_of_getElem? (i := 1059) (by decide +kernel))) (by decide +kernel)
set_option maxRecDepth 100000 in
theorem q1060 : Cond.code ({ cls := "CallExplorerModel", name := "valueOf", desc := "(II)I" } : MethodName) prog_13_method_12_code (4 : Nat) (Option.some FieldType.int) ∈ zt := zin (List.mem_append_right _ (List.mem_of_getElem? (i := 1060) (rfl))) (by rfl)
theorem q1061 : Cond.methodLink "CallExplorerModel" (126 : Nat) ({ cls := "CallExplorerModel", name := "fits", desc := "(J)Z" } : MethodName) ∈ zt := zin (List.mem_append_right _ (List.mem_of_getElem? (i := 1061) (by decide +kernel))) (by decide +kernel)
theorem q1062 : Cond.static ({ cls := "CallExplorerModel", name := "fits", desc := "(J)Z" } : MethodName) ∈ zt := zin (List.mem_append_right _ (List.mem_of_getElem? (i := 1062) (by decide +kernel))) (by decide +kernel)
set_option maxRecDepth 100000 in
theorem q1063 : Cond.code ({ cls := "CallExplorerModel", name := "fits", desc := "(J)Z" } : MethodName) prog_13_method_13_code (2 : Nat) (Option.some FieldType.boolean) ∈ zt := zin (List.mem_append_right _ (List.mem_of_getElem? (i := 1063) (rfl))) (by rfl)
theorem q1064 : Cond.constantLong "CallExplorerModel" (114 : Nat) (-100 : Int64) ∈ zt := zin (List.mem_append_right _ (List.mem_of_getElem? (i := 1064) (by decide +kernel))) (by decide +kernel)
theorem q1065 : Cond.constantLong "CallExplorerModel" (116 : Nat) (100 : Int64) ∈ zt := zin (List.mem_append_right _ (List.mem_of_getElem? (i := 1065) (by decide +kernel))) (by decide +kernel)
theorem q1066 : Cond.methodLink "CallExplorerModel" (130 : Nat) ({ cls := "CallExplorerModel", name := "made", desc := "(III)I" } : MethodName) ∈ zt := zin (List.mem_append_right _ (List.mem_of_getElem? (i := 1066) (by decide +kernel))) (by decide +kernel)
theorem q1068 : Cond.instanceMethod ({ cls := "CallExplorerModel", name := "made", desc := "(III)I" } : MethodName) ∈ zt := zin (List.mem_append_right _ (List.mem_of_getElem? (i := 1068) (by decide +kernel))) (by decide +kernel)
set_option maxRecDepth 100000 in
theorem q1069 : Cond.code ({ cls := "CallExplorerModel", name := "made", desc := "(III)I" } : MethodName) prog_13_method_11_code (4 : Nat) (Option.some FieldType.int) ∈ zt := zin (List.mem_append_right _ (List.mem_of_getElem? (i := 1069) (rfl))) (by rfl)
theorem q1070 : Cond.methodLink "CallExplorerModel" (134 : Nat) ({ cls := "CallExplorerModel", name := "reaches", desc := "(II)Z" } : MethodName) ∈ zt := zin (List.mem_append_right _ (List.mem_of_getElem? (i := 1070) (by decide +kernel))) (by decide +kernel)
theorem q1072 : Cond.instanceMethod ({ cls := "CallExplorerModel", name := "reaches", desc := "(II)Z" } : MethodName) ∈ zt := zin (List.mem_append_right _ (List.mem_of_getElem? (i := 1072) (by decide +kernel))) (by decide +kernel)
set_option maxRecDepth 100000 in
theorem q1073 : Cond.code ({ cls := "CallExplorerModel", name := "reaches", desc := "(II)Z" } : MethodName) prog_13_method_15_code (5 : Nat) (Option.some FieldType.boolean) ∈ zt := zin (List.mem_append_right _ (List.mem_of_getElem? (i := 1073) (rfl))) (by rfl)
theorem q1074 : Cond.methodLink "CallExplorerModel" (141 : Nat) ({ cls := "CallExplorerModel", name := "count", desc := "(I)I" } : MethodName) ∈ zt := zin (List.mem_append_right _ (List.mem_of_getElem? (i := 1074) (by decide +kernel))) (by decide +kernel)
theorem q1076 : Cond.instanceMethod ({ cls := "CallExplorerModel", name := "count", desc := "(I)I" } : MethodName) ∈ zt := zin (List.mem_append_right _ (List.mem_of_getElem? (i := 1076) (by decide +kernel))) (by decide +kernel)
set_option maxRecDepth 100000 in
theorem q1077 : Cond.code ({ cls := "CallExplorerModel", name := "count", desc := "(I)I" } : MethodName) prog_13_method_16_code (4 : Nat) (Option.some FieldType.int) ∈ zt := zin (List.mem_append_right _ (List.mem_of_getElem? (i := 1077) (rfl))) (by rfl)
theorem q1078 : Cond.methodLink "CallExplorerModel" (144 : Nat) ({ cls := "CallExplorerModel", name := "equal", desc := "(II)Z" } : MethodName) ∈ zt := zin (List.mem_append_right _ (List.mem_of_getElem? (i := 1078) (by decide +kernel))) (by decide +kernel)
theorem q1080 : Cond.instanceMethod ({ cls := "CallExplorerModel", name := "equal", desc := "(II)Z" } : MethodName) ∈ zt := zin (List.mem_append_right _ (List.mem_of_getElem? (i := 1080) (by decide +kernel))) (by decide +kernel)
set_option maxRecDepth 100000 in
theorem q1081 : Cond.code ({ cls := "CallExplorerModel", name := "equal", desc := "(II)Z" } : MethodName) prog_13_method_17_code (7 : Nat) (Option.some FieldType.boolean) ∈ zt := zin (List.mem_append_right _ (List.mem_of_getElem? (i := 1081) (rfl))) (by rfl)
theorem q1082 : Cond.methodLink "CallExplorerModel" (162 : Nat) ({ cls := "CallExplorerModel", name := "hadNull", desc := "(I)Z" } : MethodName) ∈ zt := zin (List.mem_append_right _ (List.mem_of_getElem? (i := 1082) (by decide +kernel))) (by decide +kernel)
theorem q1084 : Cond.instanceMethod ({ cls := "CallExplorerModel", name := "hadNull", desc := "(I)Z" } : MethodName) ∈ zt := zin (List.mem_append_right _ (List.mem_of_getElem? (i := 1084) (by decide +kernel))) (by decide +kernel)
set_option maxRecDepth 100000 in
theorem q1085 : Cond.code ({ cls := "CallExplorerModel", name := "hadNull", desc := "(I)Z" } : MethodName) prog_13_method_20_code (4 : Nat) (Option.some FieldType.boolean) ∈ zt := zin (List.mem_append_right _ (List.mem_of_getElem? (i := 1085) (rfl))) (by rfl)
theorem q1086 : Cond.methodLink "CallExplorerModel" (171 : Nat) ({ cls := "CallExplorerModel", name := "unsound", desc := "()I" } : MethodName) ∈ zt := zin (List.mem_append_right _ (List.mem_of_getElem? (i := 1086) (by decide +kernel))) (by decide +kernel)
theorem q1088 : Cond.instanceMethod ({ cls := "CallExplorerModel", name := "unsound", desc := "()I" } : MethodName) ∈ zt := zin (List.mem_append_right _ (List.mem_of_getElem? (i := 1088) (by decide +kernel))) (by decide +kernel)
set_option maxRecDepth 100000 in
theorem q1089 : Cond.code ({ cls := "CallExplorerModel", name := "unsound", desc := "()I" } : MethodName) prog_13_method_19_code (4 : Nat) (Option.some FieldType.int) ∈ zt := zin (List.mem_append_right _ (List.mem_of_getElem? (i := 1089) (rfl))) (by rfl)
theorem q1090 : Cond.methodLink "CallExplorerModel" (147 : Nat) ({ cls := "CallExplorerModel", name := "codeOf", desc := "(I)I" } : MethodName) ∈ zt := zin (List.mem_append_right _ (List.mem_of_getElem? (i := 1090) (by decide +kernel))) (by decide +kernel)
theorem q1092 : Cond.instanceMethod ({ cls := "CallExplorerModel", name := "codeOf", desc := "(I)I" } : MethodName) ∈ zt := zin (List.mem_append_right _ (List.mem_of_getElem? (i := 1092) (by decide +kernel))) (by decide +kernel)
set_option maxRecDepth 100000 in
theorem q1093 : Cond.code ({ cls := "CallExplorerModel", name := "codeOf", desc := "(I)I" } : MethodName) prog_13_method_18_code (2 : Nat) (Option.some FieldType.int) ∈ zt := zin (List.mem_append_right _ (List.mem_of_getElem? (i := 1093) (rfl))) (by rfl)
theorem q1094 : Cond.methodLink "CallExplorerModel" (175 : Nat) ({ cls := "CallExplorerModel", name := "form", desc := "()V" } : MethodName) ∈ zt := zin (List.mem_append_right _ (List.mem_of_getElem? (i := 1094) (by decide +kernel))) (by decide +kernel)
theorem q1096 : Cond.instanceMethod ({ cls := "CallExplorerModel", name := "form", desc := "()V" } : MethodName) ∈ zt := zin (List.mem_append_right _ (List.mem_of_getElem? (i := 1096) (by decide +kernel))) (by decide +kernel)
set_option maxRecDepth 100000 in
theorem q1097 : Cond.code ({ cls := "CallExplorerModel", name := "form", desc := "()V" } : MethodName) prog_13_method_22_code (3 : Nat) (Option.none : Option FieldType) ∈ zt := zin (List.mem_append_right _ (List.mem_of_getElem? (i := 1097) (rfl))) (by rfl)
theorem q1098 : Cond.methodLink "CallExplorerModel" (240 : Nat) ({ cls := "CallExplorerModel", name := "seen", desc := "()Z" } : MethodName) ∈ zt := zin (List.mem_append_right _ (List.mem_of_getElem? (i := 1098) (by decide +kernel))) (by decide +kernel)
theorem q1100 : Cond.instanceMethod ({ cls := "CallExplorerModel", name := "seen", desc := "()Z" } : MethodName) ∈ zt := zin (List.mem_append_right _ (List.mem_of_getElem? (i := 1100) (by decide +kernel))) (by decide +kernel)
set_option maxRecDepth 100000 in
theorem q1101 : Cond.code ({ cls := "CallExplorerModel", name := "seen", desc := "()Z" } : MethodName) prog_13_method_27_code (4 : Nat) (Option.some FieldType.boolean) ∈ zt := zin (List.mem_append_right _ (List.mem_of_getElem? (i := 1101) (rfl))) (by rfl)
theorem q1102 : Cond.methodLink "CallExplorerModel" (194 : Nat) ({ cls := "CallExplorerModel", name := "load", desc := "(I)V" } : MethodName) ∈ zt := zin (List.mem_append_right _ (List.mem_of_getElem? (i := 1102) (by decide +kernel))) (by decide +kernel)
theorem q1104 : Cond.instanceMethod ({ cls := "CallExplorerModel", name := "load", desc := "(I)V" } : MethodName) ∈ zt := zin (List.mem_append_right _ (List.mem_of_getElem? (i := 1104) (by decide +kernel))) (by decide +kernel)
set_option maxRecDepth 100000 in
theorem q1105 : Cond.code ({ cls := "CallExplorerModel", name := "load", desc := "(I)V" } : MethodName) prog_13_method_24_code (3 : Nat) (Option.none : Option FieldType) ∈ zt := zin (List.mem_append_right _ (List.mem_of_getElem? (i := 1105) (rfl))) (by rfl)
theorem q1110 : Cond.methodLink "CallExplorerModel" (243 : Nat) ({ cls := "CallExplorerModel", name := "step", desc := "()I" } : MethodName) ∈ zt := zin (List.mem_append_right _ (List.mem_of_getElem? (i := 1110) (by decide +kernel))) (by decide +kernel)
theorem q1115 : Cond.methodLink "CallExplorerModel" (249 : Nat) ({ cls := "CallExplorerModel", name := "simpler", desc := "(II)V" } : MethodName) ∈ zt := zin (List.mem_append_right _ (List.mem_of_getElem? (i := 1115) (by decide +kernel))) (by decide +kernel)
theorem q1117 : Cond.instanceMethod ({ cls := "CallExplorerModel", name := "simpler", desc := "(II)V" } : MethodName) ∈ zt := zin (List.mem_append_right _ (List.mem_of_getElem? (i := 1117) (by decide +kernel))) (by decide +kernel)
set_option maxRecDepth 100000 in
theorem q1118 : Cond.code ({ cls := "CallExplorerModel", name := "simpler", desc := "(II)V" } : MethodName) prog_13_method_43_code (5 : Nat) (Option.none : Option FieldType) ∈ zt := zin (List.mem_append_right _ (List.mem_of_getElem? (i := 1118) (rfl))) (by rfl)
theorem q1119 : Cond.methodLink "CallExplorerModel" (246 : Nat) ({ cls := "CallExplorerModel", name := "settle", desc := "(I)V" } : MethodName) ∈ zt := zin (List.mem_append_right _ (List.mem_of_getElem? (i := 1119) (by decide +kernel))) (by decide +kernel)
theorem q1121 : Cond.instanceMethod ({ cls := "CallExplorerModel", name := "settle", desc := "(I)V" } : MethodName) ∈ zt := zin (List.mem_append_right _ (List.mem_of_getElem? (i := 1121) (by decide +kernel))) (by decide +kernel)
set_option maxRecDepth 100000 in
theorem q1122 : Cond.code ({ cls := "CallExplorerModel", name := "settle", desc := "(I)V" } : MethodName) prog_13_method_42_code (2 : Nat) (Option.none : Option FieldType) ∈ zt := zin (List.mem_append_right _ (List.mem_of_getElem? (i := 1122) (rfl))) (by rfl)
theorem q1123 : Cond.methodLink "CallExplorerModel" (252 : Nat) ({ cls := "CallExplorerModel", name := "used", desc := "(I)Z" } : MethodName) ∈ zt := zin (List.mem_append_right _ (List.mem_of_getElem? (i := 1123) (by decide +kernel))) (by decide +kernel)
theorem q1125 : Cond.instanceMethod ({ cls := "CallExplorerModel", name := "used", desc := "(I)Z" } : MethodName) ∈ zt := zin (List.mem_append_right _ (List.mem_of_getElem? (i := 1125) (by decide +kernel))) (by decide +kernel)
set_option maxRecDepth 100000 in
theorem q1126 : Cond.code ({ cls := "CallExplorerModel", name := "used", desc := "(I)Z" } : MethodName) prog_13_method_40_code (4 : Nat) (Option.some FieldType.boolean) ∈ zt := zin (List.mem_append_right _ (List.mem_of_getElem? (i := 1126) (rfl))) (by rfl)
theorem q1127 : Cond.methodLink "CallExplorerModel" (255 : Nat) ({ cls := "CallExplorerModel", name := "without", desc := "(I)V" } : MethodName) ∈ zt := zin (List.mem_append_right _ (List.mem_of_getElem? (i := 1127) (by decide +kernel))) (by decide +kernel)
theorem q1129 : Cond.instanceMethod ({ cls := "CallExplorerModel", name := "without", desc := "(I)V" } : MethodName) ∈ zt := zin (List.mem_append_right _ (List.mem_of_getElem? (i := 1129) (by decide +kernel))) (by decide +kernel)
set_option maxRecDepth 100000 in
theorem q1130 : Cond.code ({ cls := "CallExplorerModel", name := "without", desc := "(I)V" } : MethodName) prog_13_method_41_code (4 : Nat) (Option.none : Option FieldType) ∈ zt := zin (List.mem_append_right _ (List.mem_of_getElem? (i := 1130) (rfl))) (by rfl)
theorem q1147 : Cond.methodLink "CallExplorerModel" (273 : Nat) ({ cls := "CallExplorerModel", name := "writeAll", desc := "(I)V" } : MethodName) ∈ zt := zin (List.mem_append_right _ (List.mem_of_getElem? (i := 1147) (by decide +kernel))) (by decide +kernel)
theorem q1149 : Cond.instanceMethod ({ cls := "CallExplorerModel", name := "writeAll", desc := "(I)V" } : MethodName) ∈ zt := zin (List.mem_append_right _ (List.mem_of_getElem? (i := 1149) (by decide +kernel))) (by decide +kernel)
set_option maxRecDepth 100000 in
theorem q1150 : Cond.code ({ cls := "CallExplorerModel", name := "writeAll", desc := "(I)V" } : MethodName) prog_13_method_50_code (5 : Nat) (Option.none : Option FieldType) ∈ zt := zin (List.mem_append_right _ (List.mem_of_getElem? (i := 1150) (rfl))) (by rfl)
theorem q1151 : Cond.methodLink "CallExplorerModel" (261 : Nat) ({ cls := "CallExplorerModel", name := "write", desc := "(I)V" } : MethodName) ∈ zt := zin (List.mem_append_right _ (List.mem_of_getElem? (i := 1151) (by decide +kernel))) (by decide +kernel)
theorem q1153 : Cond.instanceMethod ({ cls := "CallExplorerModel", name := "write", desc := "(I)V" } : MethodName) ∈ zt := zin (List.mem_append_right _ (List.mem_of_getElem? (i := 1153) (by decide +kernel))) (by decide +kernel)
set_option maxRecDepth 100000 in
theorem q1154 : Cond.code ({ cls := "CallExplorerModel", name := "write", desc := "(I)V" } : MethodName) prog_13_method_48_code (2 : Nat) (Option.none : Option FieldType) ∈ zt := zin (List.mem_append_right _ (List.mem_of_getElem? (i := 1154) (rfl))) (by rfl)
theorem q1155 : Cond.methodLink "CallExplorerModel" (270 : Nat) ({ cls := "CallExplorerModel", name := "writeNumber", desc := "(I)V" } : MethodName) ∈ zt := zin (List.mem_append_right _ (List.mem_of_getElem? (i := 1155) (by decide +kernel))) (by decide +kernel)
theorem q1157 : Cond.instanceMethod ({ cls := "CallExplorerModel", name := "writeNumber", desc := "(I)V" } : MethodName) ∈ zt := zin (List.mem_append_right _ (List.mem_of_getElem? (i := 1157) (by decide +kernel))) (by decide +kernel)
set_option maxRecDepth 100000 in
theorem q1158 : Cond.code ({ cls := "CallExplorerModel", name := "writeNumber", desc := "(I)V" } : MethodName) prog_13_method_49_code (6 : Nat) (Option.none : Option FieldType) ∈ zt := zin (List.mem_append_right _ (List.mem_of_getElem? (i := 1158) (rfl))) (by rfl)
theorem q1159 : Cond.constantLong "CallExplorerModel" (264 : Nat) (9 : Int64) ∈ zt := zin (List.mem_append_right _ (List.mem_of_getElem? (i := 1159) (by decide +kernel))) (by decide +kernel)
theorem q1160 : Cond.constantLong "CallExplorerModel" (266 : Nat) (10 : Int64) ∈ zt := zin (List.mem_append_right _ (List.mem_of_getElem? (i := 1160) (by decide +kernel))) (by decide +kernel)
theorem q1161 : Cond.constantLong "CallExplorerModel" (268 : Nat) (48 : Int64) ∈ zt := zin (List.mem_append_right _ (List.mem_of_getElem? (i := 1161) (by decide +kernel))) (by decide +kernel)
theorem q1166 : Cond.constantLong "CallExplorerModel" (279 : Nat) (255 : Int64) ∈ zt := zin (List.mem_append_right _ (List.mem_of_getElem? (i := 1166) (by decide +kernel))) (by decide +kernel)
theorem q1171 : Cond.methodLink "CallExplorerModel" (288 : Nat) ({ cls := "CallExplorerModel", name := "peek", desc := "()I" } : MethodName) ∈ zt := zin (List.mem_append_right _ (List.mem_of_getElem? (i := 1171) (by decide +kernel))) (by decide +kernel)
theorem q1173 : Cond.instanceMethod ({ cls := "CallExplorerModel", name := "peek", desc := "()I" } : MethodName) ∈ zt := zin (List.mem_append_right _ (List.mem_of_getElem? (i := 1173) (by decide +kernel))) (by decide +kernel)
set_option maxRecDepth 100000 in
theorem q1174 : Cond.code ({ cls := "CallExplorerModel", name := "peek", desc := "()I" } : MethodName) prog_13_method_53_code (1 : Nat) (Option.some FieldType.int) ∈ zt := zin (List.mem_append_right _ (List.mem_of_getElem? (i := 1174) (rfl))) (by rfl)
theorem q1175 : Cond.methodLink "CallExplorerModel" (304 : Nat) ({ cls := "CallExplorerModel", name := "readStatement", desc := "()V" } : MethodName) ∈ zt := zin (List.mem_append_right _ (List.mem_of_getElem? (i := 1175) (by decide +kernel))) (by decide +kernel)
theorem q1177 : Cond.instanceMethod ({ cls := "CallExplorerModel", name := "readStatement", desc := "()V" } : MethodName) ∈ zt := zin (List.mem_append_right _ (List.mem_of_getElem? (i := 1177) (by decide +kernel))) (by decide +kernel)
set_option maxRecDepth 100000 in
theorem q1178 : Cond.code ({ cls := "CallExplorerModel", name := "readStatement", desc := "()V" } : MethodName) prog_13_method_58_code (3 : Nat) (Option.none : Option FieldType) ∈ zt := zin (List.mem_append_right _ (List.mem_of_getElem? (i := 1178) (rfl))) (by rfl)
theorem q1179 : Cond.methodLink "CallExplorerModel" (298 : Nat) ({ cls := "CallExplorerModel", name := "expect", desc := "(I)V" } : MethodName) ∈ zt := zin (List.mem_append_right _ (List.mem_of_getElem? (i := 1179) (by decide +kernel))) (by decide +kernel)
theorem q1181 : Cond.instanceMethod ({ cls := "CallExplorerModel", name := "expect", desc := "(I)V" } : MethodName) ∈ zt := zin (List.mem_append_right _ (List.mem_of_getElem? (i := 1181) (by decide +kernel))) (by decide +kernel)
set_option maxRecDepth 100000 in
theorem q1182 : Cond.code ({ cls := "CallExplorerModel", name := "expect", desc := "(I)V" } : MethodName) prog_13_method_54_code (2 : Nat) (Option.none : Option FieldType) ∈ zt := zin (List.mem_append_right _ (List.mem_of_getElem? (i := 1182) (rfl))) (by rfl)
theorem q1183 : Cond.methodLink "CallExplorerModel" (301 : Nat) ({ cls := "CallExplorerModel", name := "readArgument", desc := "(II)V" } : MethodName) ∈ zt := zin (List.mem_append_right _ (List.mem_of_getElem? (i := 1183) (by decide +kernel))) (by decide +kernel)
theorem q1185 : Cond.instanceMethod ({ cls := "CallExplorerModel", name := "readArgument", desc := "(II)V" } : MethodName) ∈ zt := zin (List.mem_append_right _ (List.mem_of_getElem? (i := 1185) (by decide +kernel))) (by decide +kernel)
set_option maxRecDepth 100000 in
theorem q1186 : Cond.code ({ cls := "CallExplorerModel", name := "readArgument", desc := "(II)V" } : MethodName) prog_13_method_57_code (5 : Nat) (Option.none : Option FieldType) ∈ zt := zin (List.mem_append_right _ (List.mem_of_getElem? (i := 1186) (rfl))) (by rfl)
theorem q1187 : Cond.methodLink "CallExplorerModel" (294 : Nat) ({ cls := "CallExplorerModel", name := "number", desc := "(Z)I" } : MethodName) ∈ zt := zin (List.mem_append_right _ (List.mem_of_getElem? (i := 1187) (by decide +kernel))) (by decide +kernel)
theorem q1189 : Cond.instanceMethod ({ cls := "CallExplorerModel", name := "number", desc := "(Z)I" } : MethodName) ∈ zt := zin (List.mem_append_right _ (List.mem_of_getElem? (i := 1189) (by decide +kernel))) (by decide +kernel)
set_option maxRecDepth 100000 in
theorem q1190 : Cond.code ({ cls := "CallExplorerModel", name := "number", desc := "(Z)I" } : MethodName) prog_13_method_56_code (9 : Nat) (Option.some FieldType.int) ∈ zt := zin (List.mem_append_right _ (List.mem_of_getElem? (i := 1190) (rfl))) (by rfl)
theorem q1191 : Cond.methodLink "CallExplorerModel" (291 : Nat) ({ cls := "CallExplorerModel", name := "digit", desc := "(I)Z" } : MethodName) ∈ zt := zin (List.mem_append_right _ (List.mem_of_getElem? (i := 1191) (by decide +kernel))) (by decide +kernel)
theorem q1192 : Cond.static ({ cls := "CallExplorerModel", name := "digit", desc := "(I)Z" } : MethodName) ∈ zt := zin (List.mem_append_right _ (List.mem_of_getElem? (i := 1192) (by decide +kernel))) (by decide +kernel)
set_option maxRecDepth 100000 in
theorem q1193 : Cond.code ({ cls := "CallExplorerModel", name := "digit", desc := "(I)Z" } : MethodName) prog_13_method_55_code (1 : Nat) (Option.some FieldType.boolean) ∈ zt := zin (List.mem_append_right _ (List.mem_of_getElem? (i := 1193) (rfl))) (by rfl)
theorem q1194 : Cond.methodLink "CallExplorerModel" (307 : Nat) ({ cls := "CallExplorerModel", name := "rightEnd", desc := "()Z" } : MethodName) ∈ zt := zin (List.mem_append_right _ (List.mem_of_getElem? (i := 1194) (by decide +kernel))) (by decide +kernel)
theorem q1196 : Cond.instanceMethod ({ cls := "CallExplorerModel", name := "rightEnd", desc := "()Z" } : MethodName) ∈ zt := zin (List.mem_append_right _ (List.mem_of_getElem? (i := 1196) (by decide +kernel))) (by decide +kernel)
set_option maxRecDepth 100000 in
theorem q1197 : Cond.code ({ cls := "CallExplorerModel", name := "rightEnd", desc := "()Z" } : MethodName) prog_13_method_59_code (4 : Nat) (Option.some FieldType.boolean) ∈ zt := zin (List.mem_append_right _ (List.mem_of_getElem? (i := 1197) (rfl))) (by rfl)
theorem caBook_54 : zCal "CallExplorer$Book" 54 yEntry_hasShapeOf "CallExplorer$Entry" bEntry_hasShapeOf 3 (some .boolean) 1 := ⟨q573, q570, q571, q572, q13, rfl, by decide, by decide, by decide +kernel⟩
theorem caBook_61 : zCal "CallExplorer$Book" 61 ySequence_same "CallExplorer$Sequence" bSequence_same 3 (some .boolean) 1 := ⟨q464, q461, q462, q463, q7, rfl, by decide, by decide, by decide +kernel⟩
theorem caBook_68 : zCal "CallExplorer$Book" 68 yCatalog_is "CallExplorer$Catalog" bCatalog_is 5 (some .boolean) 2 := ⟨q403, q400, q401, q402, q2, rfl, by decide, by decide, by decide +kernel⟩
theorem caCatalog_40 : zCal "CallExplorer$Catalog" 40 yCatalog_isClass "CallExplorer$Catalog" bCatalog_isClass 2 (some .boolean) 1 := ⟨q328, q325, q327, qp0, q2, rfl, by decide, by decide, by decide +kernel⟩
theorem caCatalog_44 : zCal "CallExplorer$Catalog" 44 yCatalog_hasPartner "CallExplorer$Catalog" bCatalog_hasPartner 2 (some .boolean) 1 := ⟨q340, q337, q339, qp1, q2, rfl, by decide, by decide, by decide +kernel⟩
theorem caCatalog_50 : zCal "CallExplorer$Catalog" 50 yCatalog_typeOf "CallExplorer$Catalog" bCatalog_typeOf 4 (some .int) 3 := ⟨q350, q347, q349, qp2, q2, rfl, by decide, by decide, by decide +kernel⟩
theorem caGrower_101 : zCal "CallExplorer$Grower" 101 yGrower_chooseObject "CallExplorer$Grower" bGrower_chooseObject 3 (some .int) 2 := ⟨q438, q435, q437, qp9, q6, rfl, by decide, by decide, by decide +kernel⟩
theorem caGrower_104 : zCal "CallExplorer$Grower" 104 yBook_listFresh "CallExplorer$Book" bBook_listFresh 4 (some .int) 1 := ⟨q399, q396, q397, q398, q3, rfl, by decide, by decide, by decide +kernel⟩
theorem caGrower_107 : zCal "CallExplorer$Grower" 107 yGrower_take "CallExplorer$Grower" bGrower_take 5 (some .int) 2 := ⟨q407, q404, q406, qp7, q6, rfl, by decide, by decide, by decide +kernel⟩
theorem caGrower_110 : zCal "CallExplorer$Grower" 110 yGrower_firstFits "CallExplorer$Grower" bGrower_firstFits 2 (some .boolean) 1 := ⟨q442, q439, q441, qp10, q6, rfl, by decide, by decide, by decide +kernel⟩
theorem caGrower_117 : zCal "CallExplorer$Grower" 117 ySequence_operationOf "CallExplorer$Sequence" bSequence_operationOf 2 (some .int) 1 := ⟨q446, q443, q444, q445, q7, rfl, by decide, by decide, by decide +kernel⟩
theorem caGrower_120 : zCal "CallExplorer$Grower" 120 yCatalog_is "CallExplorer$Catalog" bCatalog_is 5 (some .boolean) 2 := ⟨q403, q447, q401, q402, q2, rfl, by decide, by decide, by decide +kernel⟩
theorem caGrower_127 : zCal "CallExplorer$Grower" 127 yBook_get "CallExplorer$Book" bBook_get 2 (some ((.object "CallExplorer$Entry"))) 1 := ⟨q411, q408, q409, q410, q3, rfl, by decide, by decide, by decide +kernel⟩
theorem caGrower_137 : zCal "CallExplorer$Grower" 137 ySequence_append "CallExplorer$Sequence" bSequence_append 3 none 1 := ⟨q415, q412, q413, q414, q7, rfl, by decide, by decide, by decide +kernel⟩
theorem caGrower_140 : zCal "CallExplorer$Grower" 140 ySequence_push "CallExplorer$Sequence" bSequence_push 3 (some .int) 1 := ⟨q455, q452, q453, q454, q7, rfl, by decide, by decide, by decide +kernel⟩
theorem caGrower_143 : zCal "CallExplorer$Grower" 143 ySequence_setArgument "CallExplorer$Sequence" bSequence_setArgument 5 none 4 := ⟨q434, q456, q432, q433, q7, rfl, by decide, by decide, by decide +kernel⟩
theorem caGrower_59 : zCal "CallExplorer$Grower" 59 yGrower_random "CallExplorer$Grower" bGrower_random 2 (some .int) 1 := ⟨q374, q371, q373, qp3, q6, rfl, by decide, by decide, by decide +kernel⟩
theorem caGrower_94 : zCal "CallExplorer$Grower" 94 yGrower_choose "CallExplorer$Grower" bGrower_choose 4 (some .int) 3 := ⟨q391, q388, q390, qp5, q6, rfl, by decide, by decide, by decide +kernel⟩
theorem caGrower_98 : zCal "CallExplorer$Grower" 98 yGrower_chooseNumber "CallExplorer$Grower" bGrower_chooseNumber 2 (some .int) 1 := ⟨q395, q392, q394, qp6, q6, rfl, by decide, by decide, by decide +kernel⟩
theorem caHeap_34 : zCal "CallExplorer$Heap" 34 yCatalog_is "CallExplorer$Catalog" bCatalog_is 5 (some .boolean) 2 := ⟨q403, q535, q401, q402, q2, rfl, by decide, by decide, by decide +kernel⟩
theorem caHeap_41 : zCal "CallExplorer$Heap" 41 yHeap_equal "CallExplorer$Heap" bHeap_equal 7 (some .boolean) 2 := ⟨q534, q552, q532, q533, q5, rfl, by decide, by decide, by decide +kernel⟩
theorem caHeap_44 : zCal "CallExplorer$Heap" 44 yHeap_faultOfPair "CallExplorer$Heap" bHeap_faultOfPair 5 (some .int) 2 := ⟨q556, q553, q555, qp25, q5, rfl, by decide, by decide, by decide +kernel⟩
theorem caHeap_48 : zCal "CallExplorer$Heap" 48 yHeap_code "CallExplorer$Heap" bHeap_code 2 (some .int) 1 := ⟨q560, q557, q559, qp26, q5, rfl, by decide, by decide, by decide +kernel⟩
theorem caMod_104 : zCal "CallExplorerModel" 104 yMod_isClass "CallExplorerModel" bMod_isClass 2 (some .boolean) 1 := ⟨q969, q966, q968, qp49, q11, rfl, by decide, by decide, by decide +kernel⟩
theorem caMod_108 : zCas "CallExplorerModel" 108 yMod_hasD bMod_hasD 1 (some .boolean) 1 := ⟨q972, q970, q971, q11, rfl, by decide, by decide, by decide +kernel⟩
theorem caMod_118 : zCal "CallExplorerModel" 118 yMod_valueOf "CallExplorerModel" bMod_valueOf 4 (some .int) 2 := ⟨q1060, q1057, q1059, qp68, q11, rfl, by decide, by decide, by decide +kernel⟩
theorem caMod_122 : zCas "CallExplorerModel" 122 yMod_arity bMod_arity 1 (some .int) 1 := ⟨q988, q986, q987, q11, rfl, by decide, by decide, by decide +kernel⟩
theorem caMod_126 : zCas "CallExplorerModel" 126 yMod_fits bMod_fits 2 (some .boolean) 1 := ⟨q1063, q1061, q1062, q11, rfl, by decide, by decide, by decide +kernel⟩
theorem caMod_130 : zCal "CallExplorerModel" 130 yMod_made "CallExplorerModel" bMod_made 4 (some .int) 3 := ⟨q1069, q1066, q1068, qp69, q11, rfl, by decide, by decide, by decide +kernel⟩
theorem caMod_134 : zCal "CallExplorerModel" 134 yMod_reaches "CallExplorerModel" bMod_reaches 5 (some .boolean) 2 := ⟨q1073, q1070, q1072, qp70, q11, rfl, by decide, by decide, by decide +kernel⟩
theorem caMod_138 : zCal "CallExplorerModel" 138 yMod_is "CallExplorerModel" bMod_is 5 (some .boolean) 2 := ⟨q1016, q1013, q1015, qp57, q11, rfl, by decide, by decide, by decide +kernel⟩
theorem caMod_141 : zCal "CallExplorerModel" 141 yMod_count "CallExplorerModel" bMod_count 4 (some .int) 1 := ⟨q1077, q1074, q1076, qp71, q11, rfl, by decide, by decide, by decide +kernel⟩
theorem caMod_144 : zCal "CallExplorerModel" 144 yMod_equal "CallExplorerModel" bMod_equal 7 (some .boolean) 2 := ⟨q1081, q1078, q1080, qp72, q11, rfl, by decide, by decide, by decide +kernel⟩
theorem caMod_147 : zCal "CallExplorerModel" 147 yMod_codeOf "CallExplorerModel" bMod_codeOf 2 (some .int) 1 := ⟨q1093, q1090, q1092, qp75, q11, rfl, by decide, by decide, by decide +kernel⟩
theorem caMod_150 : zCal "CallExplorerModel" 150 yMod_wants "CallExplorerModel" bMod_wants 4 (some .int) 2 := ⟨q992, q989, q991, qp51, q11, rfl, by decide, by decide, by decide +kernel⟩
theorem caMod_159 : zCal "CallExplorerModel" 159 yMod_perform "CallExplorerModel" bMod_perform 5 (some .int) 1 := ⟨q1056, q1053, q1055, qp67, q11, rfl, by decide, by decide, by decide +kernel⟩
theorem caMod_162 : zCal "CallExplorerModel" 162 yMod_hadNull "CallExplorerModel" bMod_hadNull 4 (some .boolean) 1 := ⟨q1085, q1082, q1084, qp73, q11, rfl, by decide, by decide, by decide +kernel⟩
theorem caMod_171 : zCal "CallExplorerModel" 171 yMod_unsound "CallExplorerModel" bMod_unsound 4 (some .int) 0 := ⟨q1089, q1086, q1088, qp74, q11, rfl, by decide, by decide, by decide +kernel⟩
theorem caMod_175 : zCal "CallExplorerModel" 175 yMod_form "CallExplorerModel" bMod_form 3 none 0 := ⟨q1097, q1094, q1096, qp76, q11, rfl, by decide, by decide, by decide +kernel⟩
theorem caMod_181 : zCal "CallExplorerModel" 181 yMod_gives "CallExplorerModel" bMod_gives 3 (some .int) 1 := ⟨q1012, q1009, q1011, qp56, q11, rfl, by decide, by decide, by decide +kernel⟩
theorem caMod_184 : zCal "CallExplorerModel" 184 yMod_copyFrom "CallExplorerModel" bMod_copyFrom 4 none 2 := ⟨q1024, q1021, q1023, qp59, q11, rfl, by decide, by decide, by decide +kernel⟩
theorem caMod_194 : zCal "CallExplorerModel" 194 yMod_load "CallExplorerModel" bMod_load 3 none 1 := ⟨q1105, q1102, q1104, qp78, q11, rfl, by decide, by decide, by decide +kernel⟩
theorem caMod_198 : zCal "CallExplorerModel" 198 yMod_run "CallExplorerModel" bMod_run 2 none 0 := ⟨q1052, q1049, q1051, qp66, q11, rfl, by decide, by decide, by decide +kernel⟩
theorem caMod_201 : zCal "CallExplorerModel" 201 yMod_alike "CallExplorerModel" bMod_alike 5 (some .boolean) 2 := ⟨q1040, q1037, q1039, qp63, q11, rfl, by decide, by decide, by decide +kernel⟩
theorem caMod_205 : zCal "CallExplorerModel" 205 yMod_typeOf "CallExplorerModel" bMod_typeOf 2 (some .int) 1 := ⟨q1008, q1005, q1007, qp55, q11, rfl, by decide, by decide, by decide +kernel⟩
theorem caMod_208 : zCal "CallExplorerModel" 208 yMod_offers "CallExplorerModel" bMod_offers 3 (some .boolean) 2 := ⟨q1004, q1001, q1003, qp54, q11, rfl, by decide, by decide, by decide +kernel⟩
theorem caMod_211 : zCal "CallExplorerModel" 211 yMod_offered "CallExplorerModel" bMod_offered 4 (some .int) 1 := ⟨q1000, q997, q999, qp53, q11, rfl, by decide, by decide, by decide +kernel⟩
theorem caMod_214 : zCal "CallExplorerModel" 214 yMod_random "CallExplorerModel" bMod_random 2 (some .int) 1 := ⟨q984, q981, q983, qp50, q11, rfl, by decide, by decide, by decide +kernel⟩
theorem caMod_217 : zCal "CallExplorerModel" 217 yMod_take "CallExplorerModel" bMod_take 9 none 3 := ⟨q1020, q1017, q1019, qp58, q11, rfl, by decide, by decide, by decide +kernel⟩
theorem caMod_221 : zCal "CallExplorerModel" 221 yMod_choose "CallExplorerModel" bMod_choose 4 none 3 := ⟨q1028, q1025, q1027, qp60, q11, rfl, by decide, by decide, by decide +kernel⟩
theorem caMod_224 : zCal "CallExplorerModel" 224 yMod_chosen "CallExplorerModel" bMod_chosen 5 (some .int) 2 := ⟨q996, q993, q995, qp52, q11, rfl, by decide, by decide, by decide +kernel⟩
theorem caMod_227 : zCal "CallExplorerModel" 227 yMod_put "CallExplorerModel" bMod_put 4 none 1 := ⟨q1032, q1029, q1031, qp61, q11, rfl, by decide, by decide, by decide +kernel⟩
theorem caMod_230 : zCal "CallExplorerModel" 230 yMod_known "CallExplorerModel" bMod_known 5 (some .boolean) 0 := ⟨q1036, q1033, q1035, qp62, q11, rfl, by decide, by decide, by decide +kernel⟩
theorem caMod_234 : zCal "CallExplorerModel" 234 yMod_entered "CallExplorerModel" bMod_entered 2 (some .int) 0 := ⟨q1044, q1041, q1043, qp64, q11, rfl, by decide, by decide, by decide +kernel⟩
theorem caMod_237 : zCal "CallExplorerModel" 237 yMod_store "CallExplorerModel" bMod_store 5 none 1 := ⟨q1048, q1045, q1047, qp65, q11, rfl, by decide, by decide, by decide +kernel⟩
theorem caMod_240 : zCal "CallExplorerModel" 240 yMod_seen "CallExplorerModel" bMod_seen 4 (some .boolean) 0 := ⟨q1101, q1098, q1100, qp77, q11, rfl, by decide, by decide, by decide +kernel⟩
theorem caMod_243 : zCal "CallExplorerModel" 243 yMod_step "CallExplorerModel" bMod_step 4 (some .int) 0 := ⟨q980, q1110, q978, q979, q11, rfl, by decide, by decide, by decide +kernel⟩
theorem caMod_246 : zCal "CallExplorerModel" 246 yMod_settle "CallExplorerModel" bMod_settle 2 none 1 := ⟨q1122, q1119, q1121, qp80, q11, rfl, by decide, by decide, by decide +kernel⟩
theorem caMod_249 : zCal "CallExplorerModel" 249 yMod_simpler "CallExplorerModel" bMod_simpler 5 none 2 := ⟨q1118, q1115, q1117, qp79, q11, rfl, by decide, by decide, by decide +kernel⟩
theorem caMod_252 : zCal "CallExplorerModel" 252 yMod_used "CallExplorerModel" bMod_used 4 (some .boolean) 1 := ⟨q1126, q1123, q1125, qp81, q11, rfl, by decide, by decide, by decide +kernel⟩
theorem caMod_255 : zCal "CallExplorerModel" 255 yMod_without "CallExplorerModel" bMod_without 4 none 1 := ⟨q1130, q1127, q1129, qp82, q11, rfl, by decide, by decide, by decide +kernel⟩
theorem caMod_261 : zCal "CallExplorerModel" 261 yMod_write "CallExplorerModel" bMod_write 2 none 1 := ⟨q1154, q1151, q1153, qp84, q11, rfl, by decide, by decide, by decide +kernel⟩
theorem caMod_270 : zCal "CallExplorerModel" 270 yMod_writeNumber "CallExplorerModel" bMod_writeNumber 6 none 1 := ⟨q1158, q1155, q1157, qp85, q11, rfl, by decide, by decide, by decide +kernel⟩
theorem caMod_273 : zCal "CallExplorerModel" 273 yMod_writeAll "CallExplorerModel" bMod_writeAll 5 none 1 := ⟨q1150, q1147, q1149, qp83, q11, rfl, by decide, by decide, by decide +kernel⟩
theorem caMod_288 : zCal "CallExplorerModel" 288 yMod_peek "CallExplorerModel" bMod_peek 1 (some .int) 0 := ⟨q1174, q1171, q1173, qp86, q11, rfl, by decide, by decide, by decide +kernel⟩
theorem caMod_291 : zCas "CallExplorerModel" 291 yMod_digit bMod_digit 1 (some .boolean) 1 := ⟨q1193, q1191, q1192, q11, rfl, by decide, by decide, by decide +kernel⟩
theorem caMod_294 : zCal "CallExplorerModel" 294 yMod_number "CallExplorerModel" bMod_number 9 (some .int) 1 := ⟨q1190, q1187, q1189, qp90, q11, rfl, by decide, by decide, by decide +kernel⟩
theorem caMod_298 : zCal "CallExplorerModel" 298 yMod_expect "CallExplorerModel" bMod_expect 2 none 1 := ⟨q1182, q1179, q1181, qp88, q11, rfl, by decide, by decide, by decide +kernel⟩
theorem caMod_301 : zCal "CallExplorerModel" 301 yMod_readArgument "CallExplorerModel" bMod_readArgument 5 none 2 := ⟨q1186, q1183, q1185, qp89, q11, rfl, by decide, by decide, by decide +kernel⟩
theorem caMod_304 : zCal "CallExplorerModel" 304 yMod_readStatement "CallExplorerModel" bMod_readStatement 3 none 0 := ⟨q1178, q1175, q1177, qp87, q11, rfl, by decide, by decide, by decide +kernel⟩
theorem caMod_307 : zCal "CallExplorerModel" 307 yMod_rightEnd "CallExplorerModel" bMod_rightEnd 4 (some .boolean) 0 := ⟨q1197, q1194, q1196, qp91, q11, rfl, by decide, by decide, by decide +kernel⟩
theorem caReader_102 : zCal "CallExplorer$Reader" 102 ySequence_operationOf "CallExplorer$Sequence" bSequence_operationOf 2 (some .int) 1 := ⟨q446, q781, q444, q445, q7, rfl, by decide, by decide, by decide +kernel⟩
theorem caReader_105 : zCal "CallExplorer$Reader" 105 yReader_readVariable "CallExplorer$Reader" bReader_readVariable 4 (some .boolean) 3 := ⟨q786, q783, q785, qp43, q10, rfl, by decide, by decide, by decide +kernel⟩
theorem caReader_109 : zCal "CallExplorer$Reader" 109 ySequence_setArgument "CallExplorer$Sequence" bSequence_setArgument 5 none 4 := ⟨q434, q796, q432, q433, q7, rfl, by decide, by decide, by decide +kernel⟩
theorem caReader_113 : zCal "CallExplorer$Reader" 113 yReader_readNumber "CallExplorer$Reader" bReader_readNumber 6 (some .boolean) 0 := ⟨q794, q791, q793, qp45, q10, rfl, by decide, by decide, by decide +kernel⟩
theorem caReader_119 : zCal "CallExplorer$Reader" 119 yReader_isAtDigit "CallExplorer$Reader" bReader_isAtDigit 1 (some .boolean) 0 := ⟨q790, q787, q789, qp44, q10, rfl, by decide, by decide, by decide +kernel⟩
theorem caReader_126 : zCal "CallExplorer$Reader" 126 yCatalog_is "CallExplorer$Catalog" bCatalog_is 5 (some .boolean) 2 := ⟨q403, q797, q401, q402, q2, rfl, by decide, by decide, by decide +kernel⟩
theorem caReader_131 : zCal "CallExplorer$Reader" 131 yReader_readDetail "CallExplorer$Reader" bReader_readDetail 2 (some .boolean) 1 := ⟨q805, q802, q804, qp47, q10, rfl, by decide, by decide, by decide +kernel⟩
theorem caReader_135 : zCal "CallExplorer$Reader" 135 yReader_readResult "CallExplorer$Reader" bReader_readResult 2 (some .boolean) 0 := ⟨q809, q806, q808, qp48, q10, rfl, by decide, by decide, by decide +kernel⟩
theorem caReader_30 : zCal "CallExplorer$Reader" 30 yReader_countBytes "CallExplorer$Reader" bReader_countBytes 4 (some .int) 1 := ⟨q745, q742, q744, qp36, q10, rfl, by decide, by decide, by decide +kernel⟩
theorem caReader_34 : zCal "CallExplorer$Reader" 34 yReader_byteOf "CallExplorer$Reader" bReader_byteOf 4 (some .int) 2 := ⟨q749, q746, q748, qp37, q10, rfl, by decide, by decide, by decide +kernel⟩
theorem caReader_43 : zCal "CallExplorer$Reader" 43 ySequence_clear "CallExplorer$Sequence" bSequence_clear 1 none 0 := ⟨q379, q759, q377, q378, q7, rfl, by decide, by decide, by decide +kernel⟩
theorem caReader_46 : zCal "CallExplorer$Reader" 46 yReader_isAtEnd "CallExplorer$Reader" bReader_isAtEnd 2 (some .boolean) 0 := ⟨q763, q760, q762, qp38, q10, rfl, by decide, by decide, by decide +kernel⟩
theorem caReader_50 : zCal "CallExplorer$Reader" 50 yReader_readCall "CallExplorer$Reader" bReader_readCall 3 (some .boolean) 0 := ⟨q771, q768, q770, qp40, q10, rfl, by decide, by decide, by decide +kernel⟩
theorem caReader_56 : zCal "CallExplorer$Reader" 56 yReader_readEnd "CallExplorer$Reader" bReader_readEnd 1 (some .boolean) 0 := ⟨q801, q798, q800, qp46, q10, rfl, by decide, by decide, by decide +kernel⟩
theorem caReader_77 : zCal "CallExplorer$Reader" 77 yReader_peek "CallExplorer$Reader" bReader_peek 1 (some .char) 0 := ⟨q767, q764, q766, qp39, q10, rfl, by decide, by decide, by decide +kernel⟩
theorem caReader_86 : zCal "CallExplorer$Reader" 86 ySequence_push "CallExplorer$Sequence" bSequence_push 3 (some .int) 1 := ⟨q455, q772, q453, q454, q7, rfl, by decide, by decide, by decide +kernel⟩
theorem caReader_90 : zCal "CallExplorer$Reader" 90 yReader_accept "CallExplorer$Reader" bReader_accept 2 (some .boolean) 1 := ⟨q776, q773, q775, qp41, q10, rfl, by decide, by decide, by decide +kernel⟩
theorem caReader_94 : zCal "CallExplorer$Reader" 94 yReader_readArgument "CallExplorer$Reader" bReader_readArgument 5 (some .boolean) 2 := ⟨q780, q777, q779, qp42, q10, rfl, by decide, by decide, by decide +kernel⟩
theorem caReader_98 : zCal "CallExplorer$Reader" 98 yCatalog_argumentType "CallExplorer$Catalog" bCatalog_argumentType 3 (some .int) 2 := ⟨q383, q782, q381, q382, q2, rfl, by decide, by decide, by decide +kernel⟩
theorem caRunner_101 : zCal "CallExplorer$Runner" 101 yRunner_make "CallExplorer$Runner" bRunner_make 4 (some .int) 3 := ⟨q491, q488, q490, qp15, q4, rfl, by decide, by decide, by decide +kernel⟩
theorem caRunner_108 : zCal "CallExplorer$Runner" 108 yHeap_make "CallExplorer$Heap" bHeap_make 5 (some .int) 3 := ⟨q501, q498, q499, q500, q5, rfl, by decide, by decide, by decide +kernel⟩
theorem caRunner_109 : zCal "CallExplorer$Runner" 109 yRunner_give "CallExplorer$Runner" bRunner_give 3 (some .int) 2 := ⟨q505, q502, q504, qp17, q4, rfl, by decide, by decide, by decide +kernel⟩
theorem caRunner_112 : zCal "CallExplorer$Runner" 112 yRunner_add "CallExplorer$Runner" bRunner_add 6 (some .int) 3 := ⟨q509, q506, q508, qp18, q4, rfl, by decide, by decide, by decide +kernel⟩
theorem caRunner_115 : zCal "CallExplorer$Runner" 115 yRunner_link "CallExplorer$Runner" bRunner_link 4 (some .int) 3 := ⟨q513, q510, q512, qp19, q4, rfl, by decide, by decide, by decide +kernel⟩
theorem caRunner_118 : zCal "CallExplorer$Runner" 118 yRunner_getNext "CallExplorer$Runner" bRunner_getNext 5 (some .int) 3 := ⟨q521, q518, q520, qp20, q4, rfl, by decide, by decide, by decide +kernel⟩
theorem caRunner_121 : zCal "CallExplorer$Runner" 121 yRunner_getNextValue "CallExplorer$Runner" bRunner_getNextValue 4 (some .int) 2 := ⟨q526, q523, q525, qp21, q4, rfl, by decide, by decide, by decide +kernel⟩
theorem caRunner_124 : zCal "CallExplorer$Runner" 124 yHeap_chainLength "CallExplorer$Heap" bHeap_chainLength 5 (some .int) 1 := ⟨q530, q527, q528, q529, q5, rfl, by decide, by decide, by decide +kernel⟩
theorem caRunner_127 : zCal "CallExplorer$Runner" 127 yHeap_equal "CallExplorer$Heap" bHeap_equal 7 (some .boolean) 2 := ⟨q534, q531, q532, q533, q5, rfl, by decide, by decide, by decide +kernel⟩
theorem caRunner_131 : zCal "CallExplorer$Runner" 131 yRunner_canBeValue "CallExplorer$Runner" bRunner_canBeValue 3 (some .boolean) 1 := ⟨q495, q492, q494, qp16, q4, rfl, by decide, by decide, by decide +kernel⟩
theorem caRunner_135 : zCal "CallExplorer$Runner" 135 yHeap_reaches "CallExplorer$Heap" bHeap_reaches 5 (some .boolean) 2 := ⟨q517, q514, q515, q516, q5, rfl, by decide, by decide, by decide +kernel⟩
theorem caRunner_144 : zCal "CallExplorer$Runner" 144 yCatalog_is "CallExplorer$Catalog" bCatalog_is 5 (some .boolean) 2 := ⟨q403, q522, q401, q402, q2, rfl, by decide, by decide, by decide +kernel⟩
theorem caRunner_151 : zCal "CallExplorer$Runner" 151 yRunner_keepRow "CallExplorer$Runner" bRunner_keepRow 4 none 1 := ⟨q547, q544, q546, qp24, q4, rfl, by decide, by decide, by decide +kernel⟩
theorem caRunner_49 : zCal "CallExplorer$Runner" 49 yRunner_execute "CallExplorer$Runner" bRunner_execute 6 (some .int) 2 := ⟨q472, q469, q471, qp12, q4, rfl, by decide, by decide, by decide +kernel⟩
theorem caRunner_53 : zCal "CallExplorer$Runner" 53 yRunner_endWithTrouble "CallExplorer$Runner" bRunner_endWithTrouble 5 none 3 := ⟨q539, q536, q538, qp22, q4, rfl, by decide, by decide, by decide +kernel⟩
theorem caRunner_57 : zCal "CallExplorer$Runner" 57 yRunner_keepResult "CallExplorer$Runner" bRunner_keepResult 3 none 1 := ⟨q543, q540, q542, qp23, q4, rfl, by decide, by decide, by decide +kernel⟩
theorem caRunner_61 : zCal "CallExplorer$Runner" 61 yHeap_findFault "CallExplorer$Heap" bHeap_findFault 4 (some .int) 0 := ⟨q551, q548, q549, q550, q5, rfl, by decide, by decide, by decide +kernel⟩
theorem caRunner_71 : zCal "CallExplorer$Runner" 71 yRunner_isNull "CallExplorer$Runner" bRunner_isNull 5 (some .boolean) 3 := ⟨q476, q473, q475, qp13, q4, rfl, by decide, by decide, by decide +kernel⟩
theorem caRunner_75 : zCal "CallExplorer$Runner" 75 ySequence_operationOf "CallExplorer$Sequence" bSequence_operationOf 2 (some .int) 1 := ⟨q446, q477, q444, q445, q7, rfl, by decide, by decide, by decide +kernel⟩
theorem caRunner_79 : zCal "CallExplorer$Runner" 79 yCatalog_argumentType "CallExplorer$Catalog" bCatalog_argumentType 3 (some .int) 2 := ⟨q383, q478, q381, q382, q2, rfl, by decide, by decide, by decide +kernel⟩
theorem caRunner_85 : zCal "CallExplorer$Runner" 85 yRunner_argumentValue "CallExplorer$Runner" bRunner_argumentValue 5 (some .int) 3 := ⟨q482, q479, q481, qp14, q4, rfl, by decide, by decide, by decide +kernel⟩
theorem caRunner_89 : zCal "CallExplorer$Runner" 89 ySequence_content "CallExplorer$Sequence" bSequence_content 3 (some .int) 2 := ⟨q430, q483, q428, q429, q7, rfl, by decide, by decide, by decide +kernel⟩
theorem caRunner_92 : zCal "CallExplorer$Runner" 92 ySequence_form "CallExplorer$Sequence" bSequence_form 3 (some .int) 2 := ⟨q487, q484, q485, q486, q7, rfl, by decide, by decide, by decide +kernel⟩
theorem caSequence_19 : zCal "CallExplorer$Sequence" 19 ySequence_setArgument "CallExplorer$Sequence" bSequence_setArgument 5 none 4 := ⟨q434, q431, q432, q433, q7, rfl, by decide, by decide, by decide +kernel⟩
theorem caSequence_29 : zCal "CallExplorer$Sequence" 29 ySequence_moveVariables "CallExplorer$Sequence" bSequence_moveVariables 6 none 3 := ⟨q422, q419, q421, qp8, q7, rfl, by decide, by decide, by decide +kernel⟩
theorem caSequence_33 : zCal "CallExplorer$Sequence" 33 ySequence_isVariable "CallExplorer$Sequence" bSequence_isVariable 3 (some .boolean) 2 := ⟨q426, q423, q424, q425, q7, rfl, by decide, by decide, by decide +kernel⟩
theorem caSequence_37 : zCal "CallExplorer$Sequence" 37 ySequence_content "CallExplorer$Sequence" bSequence_content 3 (some .int) 2 := ⟨q430, q427, q428, q429, q7, rfl, by decide, by decide, by decide +kernel⟩
theorem caShortener_35 : zCal "CallExplorer$Shortener" 35 ySequence_isVariable "CallExplorer$Sequence" bSequence_isVariable 3 (some .boolean) 2 := ⟨q426, q651, q424, q425, q7, rfl, by decide, by decide, by decide +kernel⟩
theorem caShortener_39 : zCal "CallExplorer$Shortener" 39 yShortener_lowerInTrial "CallExplorer$Shortener" bShortener_lowerInTrial 7 (some .boolean) 3 := ⟨q655, q652, q654, qp28, q8, rfl, by decide, by decide, by decide +kernel⟩
theorem caShortener_43 : zCal "CallExplorer$Shortener" 43 yShortener_keepIfSame "CallExplorer$Shortener" bShortener_keepIfSame 2 none 1 := ⟨q665, q662, q664, qp29, q8, rfl, by decide, by decide, by decide +kernel⟩
theorem caShortener_47 : zCal "CallExplorer$Shortener" 47 ySequence_operationOf "CallExplorer$Sequence" bSequence_operationOf 2 (some .int) 1 := ⟨q446, q656, q444, q445, q7, rfl, by decide, by decide, by decide +kernel⟩
theorem caShortener_51 : zCal "CallExplorer$Shortener" 51 yCatalog_argumentType "CallExplorer$Catalog" bCatalog_argumentType 3 (some .int) 2 := ⟨q383, q657, q381, q382, q2, rfl, by decide, by decide, by decide +kernel⟩
theorem caShortener_57 : zCal "CallExplorer$Shortener" 57 ySequence_copy "CallExplorer$Sequence" bSequence_copy 2 none 1 := ⟨q584, q658, q582, q583, q7, rfl, by decide, by decide, by decide +kernel⟩
theorem caShortener_61 : zCal "CallExplorer$Shortener" 61 ySequence_setArgument "CallExplorer$Sequence" bSequence_setArgument 5 none 4 := ⟨q434, q659, q432, q433, q7, rfl, by decide, by decide, by decide +kernel⟩
theorem caShortener_65 : zCal "CallExplorer$Shortener" 65 ySequence_content "CallExplorer$Sequence" bSequence_content 3 (some .int) 2 := ⟨q430, q660, q428, q429, q7, rfl, by decide, by decide, by decide +kernel⟩
theorem caShortener_72 : zCal "CallExplorer$Shortener" 72 yCatalog_is "CallExplorer$Catalog" bCatalog_is 5 (some .boolean) 2 := ⟨q403, q661, q401, q402, q2, rfl, by decide, by decide, by decide +kernel⟩
theorem caShortener_75 : zCal "CallExplorer$Shortener" 75 ySequence_usesLater "CallExplorer$Sequence" bSequence_usesLater 4 (some .boolean) 1 := ⟨q674, q671, q672, q673, q7, rfl, by decide, by decide, by decide +kernel⟩
theorem caShortener_79 : zCal "CallExplorer$Shortener" 79 ySequence_remove "CallExplorer$Sequence" bSequence_remove 3 none 1 := ⟨q678, q675, q676, q677, q7, rfl, by decide, by decide, by decide +kernel⟩
theorem caShortener_83 : zCal "CallExplorer$Shortener" 83 ySequence_form "CallExplorer$Sequence" bSequence_form 3 (some .int) 2 := ⟨q487, q683, q485, q486, q7, rfl, by decide, by decide, by decide +kernel⟩
theorem caShortener_86 : zCal "CallExplorer$Shortener" 86 yRunner_run "CallExplorer$Runner" bRunner_run 4 none 1 := ⟨q468, q666, q466, q467, q4, rfl, by decide, by decide, by decide +kernel⟩
theorem caTop_122 : zCal "CallExplorer" 122 yWriter_write "CallExplorer$Writer" bWriter_write 3 none 1 := ⟨q703, q700, q701, q702, q9, rfl, by decide, by decide, by decide +kernel⟩
theorem caTop_132 : zCal "CallExplorer" 132 yReader_addToDraft "CallExplorer$Reader" bReader_addToDraft 5 (some .boolean) 1 := ⟨q741, q738, q739, q740, q10, rfl, by decide, by decide, by decide +kernel⟩
theorem caTop_136 : zCal "CallExplorer" 136 yReader_read "CallExplorer$Reader" bReader_read 2 (some .boolean) 0 := ⟨q758, q755, q756, q757, q10, rfl, by decide, by decide, by decide +kernel⟩
theorem caTop_141 : zCal "CallExplorer" 141 yRunner_run "CallExplorer$Runner" bRunner_run 4 none 1 := ⟨q468, q810, q466, q467, q4, rfl, by decide, by decide, by decide +kernel⟩
theorem caTop_145 : zCal "CallExplorer" 145 yReader_foretold "CallExplorer$Reader" bReader_foretold 2 (some .boolean) 1 := ⟨q814, q811, q812, q813, q10, rfl, by decide, by decide, by decide +kernel⟩
theorem caTop_64 : zCal "CallExplorer" 64 yCatalog_addClass "CallExplorer$Catalog" bCatalog_addClass 5 (some .int) 3 := ⟨q324, q321, q322, q323, q2, rfl, by decide, by decide, by decide +kernel⟩
theorem caTop_68 : zCal "CallExplorer" 68 yCatalog_addOperation "CallExplorer$Catalog" bCatalog_addOperation 4 (some .int) 3 := ⟨q336, q333, q334, q335, q2, rfl, by decide, by decide, by decide +kernel⟩
theorem caTop_71 : zCal "CallExplorer" 71 yGrower_addLiteral "CallExplorer$Grower" bGrower_addLiteral 3 (some .int) 1 := ⟨q358, q355, q356, q357, q6, rfl, by decide, by decide, by decide +kernel⟩
theorem caTop_79 : zCal "CallExplorer" 79 yBook_get "CallExplorer$Book" bBook_get 2 (some ((.object "CallExplorer$Entry"))) 1 := ⟨q411, q642, q409, q410, q3, rfl, by decide, by decide, by decide +kernel⟩
theorem caTop_92 : zCal "CallExplorer" 92 yShortener_lowerVariables "CallExplorer$Shortener" bShortener_lowerVariables 5 none 1 := ⟨q650, q647, q648, q649, q8, rfl, by decide, by decide, by decide +kernel⟩
theorem caTop_96 : zCal "CallExplorer" 96 yShortener_dropStatements "CallExplorer$Shortener" bShortener_dropStatements 3 none 1 := ⟨q670, q667, q668, q669, q8, rfl, by decide, by decide, by decide +kernel⟩
theorem caTop_99 : zCal "CallExplorer" 99 yShortener_zeroLiterals "CallExplorer$Shortener" bShortener_zeroLiterals 5 none 1 := ⟨q682, q679, q680, q681, q8, rfl, by decide, by decide, by decide +kernel⟩
theorem caWriter_30 : zCal "CallExplorer$Writer" 30 yWriter_writeCall "CallExplorer$Writer" bWriter_writeCall 4 none 2 := ⟨q707, q704, q706, qp30, q9, rfl, by decide, by decide, by decide +kernel⟩
theorem caWriter_34 : zCal "CallExplorer$Writer" 34 yWriter_writeEnd "CallExplorer$Writer" bWriter_writeEnd 2 none 1 := ⟨q729, q726, q728, qp34, q9, rfl, by decide, by decide, by decide +kernel⟩
theorem caWriter_38 : zCal "CallExplorer$Writer" 38 ySequence_operationOf "CallExplorer$Sequence" bSequence_operationOf 2 (some .int) 1 := ⟨q446, q708, q444, q445, q7, rfl, by decide, by decide, by decide +kernel⟩
theorem caWriter_42 : zCal "CallExplorer$Writer" 42 yWriter_put "CallExplorer$Writer" bWriter_put 2 none 1 := ⟨q712, q709, q711, qp31, q9, rfl, by decide, by decide, by decide +kernel⟩
theorem caWriter_46 : zCal "CallExplorer$Writer" 46 ySequence_form "CallExplorer$Sequence" bSequence_form 3 (some .int) 2 := ⟨q487, q713, q485, q486, q7, rfl, by decide, by decide, by decide +kernel⟩
theorem caWriter_50 : zCal "CallExplorer$Writer" 50 ySequence_content "CallExplorer$Sequence" bSequence_content 3 (some .int) 2 := ⟨q430, q714, q428, q429, q7, rfl, by decide, by decide, by decide +kernel⟩
theorem caWriter_53 : zCal "CallExplorer$Writer" 53 yWriter_writeArgument "CallExplorer$Writer" bWriter_writeArgument 3 none 2 := ⟨q718, q715, q717, qp32, q9, rfl, by decide, by decide, by decide +kernel⟩
theorem caWriter_57 : zCal "CallExplorer$Writer" 57 yWriter_writeNumber "CallExplorer$Writer" bWriter_writeNumber 7 none 1 := ⟨q722, q719, q721, qp33, q9, rfl, by decide, by decide, by decide +kernel⟩
theorem caWriter_67 : zCal "CallExplorer$Writer" 67 yWriter_writeResult "CallExplorer$Writer" bWriter_writeResult 2 none 1 := ⟨q733, q730, q732, qp35, q9, rfl, by decide, by decide, by decide +kernel⟩
