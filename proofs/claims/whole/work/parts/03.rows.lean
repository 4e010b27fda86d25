/-! the worlds of this proof: objects by numbers, their ints in one memory (zM: number of the object, slot), their shape a function (zSh); rows over them -/
abbrev zM : Type := Nat → Nat → Int32
abbrev zSh : Type := Nat → (Nat → Int32) → va_E
def zu (h : zM) (o k : Nat) (v : Int32) : zM := va_up h o (upd (h o) k v)
def zW (N : Nat) (ad : Nat → Nat) (F : zSh) (h : zM) : va_W := (List.range N).map (fun o => (ad o, F o (h o)))
theorem zW_len {N : Nat} {ad : Nat → Nat} {F : zSh} {h : zM} : (zW N ad F h).length = N := by simp [zW]
theorem zW_at {N : Nat} {ad : Nat → Nat} {F : zSh} {h : zM} {o : Nat} (ho : o < N) : (zW N ad F h)[o]? = some (ad o, F o (h o)) := by
  unfold zW
  rw [List.getElem?_map, List.getElem?_range ho]
  rfl
theorem zW_up {N : Nat} {ad : Nat → Nat} {F : zSh} {h : zM} {o : Nat} (ho : o < N) (g : Nat → Int32) : (zW N ad F h).set o (ad o, F o g) = zW N ad F (va_up h o g) := by
  apply List.ext_getElem?
  intro k
  by_cases hk : k = o
  · subst hk
    rw [List.getElem?_set_self (by rw [zW_len]; exact ho), zW_at ho]
    simp [va_up]
  · rw [List.getElem?_set_ne (Ne.symm hk)]
    by_cases hl : k < N
    · rw [zW_at hl, zW_at hl]
      simp [va_up, hk]
    · rw [List.getElem?_eq_none (by rw [zW_len]; omega), List.getElem?_eq_none (by rw [zW_len]; omega)]
def zJ (A : Nat → Prop) (N : Nat) (ad : Nat → Nat) : Prop := (∀ o o' : Nat, o < N → o' < N → ad o = ad o' → o = o') ∧ ∀ o : Nat, o < N → A (ad o)
theorem zW_in {N : Nat} {ad : Nat → Nat} {F : zSh} {h : zM} {i : Nat} {q : Nat × va_E} (hi : (zW N ad F h)[i]? = some q) : i < N ∧ q = (ad i, F i (h i)) := by
  have hl : i < N := by have := (List.getElem?_eq_some_iff.mp hi).1; rwa [zW_len] at this
  rw [zW_at hl] at hi
  exact ⟨hl, (Option.some.inj hi).symm⟩
theorem zD {A : Nat → Prop} {N : Nat} {ad : Nat → Nat} {F : zSh} {h : zM} (hJ : zJ A N ad) : va_D A (zW N ad F h) := by
  refine ⟨fun i j x y hi hj hxy => ?_, fun k q hk => ?_⟩
  · obtain ⟨h1, rfl⟩ := zW_in hi
    obtain ⟨h2, rfl⟩ := zW_in hj
    exact hJ.1 i j h1 h2 hxy
  · obtain ⟨h1, rfl⟩ := zW_in hk
    exact hJ.2 k h1
/-! the class's tables of roles and tens, and the words on nest mates: facts of the state -/
def zt1 : Nat → Int32 := fun j => ([0, 2, 1, 1, 1, 1, 1, 1, 1, 1] : List Int32).getD j 0
def zt2 : Nat → Int32 := fun j => ([-1, -1, -1, 0, 2, -1, 0, -1, -1, 2] : List Int32).getD j 0
def zt3 : Nat → Int32 := fun j => ([1, 1, 0, 1, 1, 2, 0, 0, 0, 0] : List Int32).getD j 0
def zt4 : Nat → Int32 := fun j => ([1000000000, 100000000, 10000000, 1000000, 100000, 10000, 1000, 100, 10, 1] : List Int32).getD j 0
def zTb (nm : String) (f : Nat → Int32) (A : Nat → Prop) (U : State) (H : Heap) : Prop := ∃ t : Nat, va_Z "CallExplorer" nm "[I" (.ref t) A U H ∧ va_T .int t 10 (fun j => .int (f j)) A U H
theorem zTb.moved {nm : String} {f : Nat → Int32} {A : Nat → Prop} {u U : State} {H : Heap} (hvm : u.vm.Alike U.vm) (h : zTb nm f A u H) : zTb nm f A U H := by
  obtain ⟨t, h1, h2⟩ := h
  exact ⟨t, h1.moved hvm, h2.moved hvm⟩
theorem zTb.kept {nm : String} {f : Nat → Int32} {A : Nat → Prop} {U : State} {H H1 : Heap} (h : zTb nm f A U H) (hq : ∀ a : Nat, a < H.size → ¬ A a → H1[a]? = H[a]?) : zTb nm f A U H1 := by
  obtain ⟨t, h1, h2⟩ := h
  exact ⟨t, h1.kept hq, h2.kept hq⟩
theorem zTb.narrow {nm : String} {f : Nat → Int32} {A B : Nat → Prop} {U : State} {H : Heap} (h : zTb nm f A U H) (hAB : ∀ q, B q → A q) : zTb nm f B U H := by
  obtain ⟨t, h1, h2⟩ := h
  exact ⟨t, h1.narrow hAB, h2.narrow hAB⟩
def zTab (A : Nat → Prop) (U : State) (H : Heap) : Prop := zTb "FIRST_ROLES" zt1 A U H ∧ zTb "SECOND_ROLES" zt2 A U H ∧ zTb "RESULT_ROLES" zt3 A U H ∧ zTb "TENS" zt4 A U H
theorem zTab.moved {A : Nat → Prop} {u U : State} {H : Heap} (hvm : u.vm.Alike U.vm) (h : zTab A u H) : zTab A U H := ⟨h.1.moved hvm, h.2.1.moved hvm, h.2.2.1.moved hvm, h.2.2.2.moved hvm⟩
theorem zTab.kept {A : Nat → Prop} {U : State} {H H1 : Heap} (h : zTab A U H) (hq : ∀ a : Nat, a < H.size → ¬ A a → H1[a]? = H[a]?) : zTab A U H1 := ⟨h.1.kept hq, h.2.1.kept hq, h.2.2.1.kept hq, h.2.2.2.kept hq⟩
theorem zTab.narrow {A B : Nat → Prop} {U : State} {H : Heap} (h : zTab A U H) (hAB : ∀ q, B q → A q) : zTab B U H := ⟨h.1.narrow hAB, h.2.1.narrow hAB, h.2.2.1.narrow hAB, h.2.2.2.narrow hAB⟩
def znF : List (String × Nat × String × String × String × String) := [("CallExplorer$Catalog", 47, "CallExplorer", "FIRST_ROLES", "[I", "CallExplorer"), ("CallExplorer$Catalog", 54, "CallExplorer", "SECOND_ROLES", "[I", "CallExplorer"), ("CallExplorer$Catalog", 57, "CallExplorer", "RESULT_ROLES", "[I", "CallExplorer"), ("CallExplorer$Writer", 76, "CallExplorer", "TENS", "[I", "CallExplorer")]
def znM : List (String × Nat × MethodName × String) := [("CallExplorer", 9, ⟨"CallExplorer$Catalog", "<init>", "()V"⟩, "CallExplorer"), ("CallExplorer$Grower", 11, ⟨"CallExplorer$Sequence", "<init>", "()V"⟩, "CallExplorer"), ("CallExplorer$Shortener", 11, ⟨"CallExplorer$Sequence", "<init>", "()V"⟩, "CallExplorer"), ("CallExplorer", 52, ⟨"CallExplorer$Writer", "<init>", "()V"⟩, "CallExplorer"), ("CallExplorer$Reader", 17, ⟨"CallExplorer$Sequence", "<init>", "()V"⟩, "CallExplorer"), ("CallExplorer$Entry", 9, ⟨"CallExplorer$Sequence", "<init>", "()V"⟩, "CallExplorer")]
def zNe (U : State) : Prop := (∀ q ∈ znF, va_Nw (.fieldLinkNest q.1 q.2.1 q.2.2.1 q.2.2.2.1 q.2.2.2.2.1 q.2.2.2.2.2) U) ∧ (∀ q ∈ znM, va_Nw (.methodLinkNest q.1 q.2.1 q.2.2.1 q.2.2.2) U) ∧ va_AO "CallExplorer$Entry" U ∧ va_Nw (.castable "[I" "java/lang/Cloneable") U
theorem zNe.warm {s U : State} (hW : s.WarmedH U.vm) (h : zNe s) : zNe U := ⟨fun q hq => (h.1 q hq).warmF hW, fun q hq => (h.2.1 q hq).warmM hW, h.2.2.1.moved hW.alike, h.2.2.2.warmC hW⟩
theorem zNe.same {s U : State} (hv : s.vm = U.vm) (h : zNe s) : zNe U := ⟨fun q hq => (h.1 q hq).same rfl hv, fun q hq => (h.2.1 q hq).same rfl hv, h.2.2.1.moved (by rw [hv]; exact Vm.Alike.refl _), h.2.2.2.same rfl hv⟩
def zPre (D : va_G) (tys : List (ClassId × FieldType)) (N : Nat) (ad : Nat → Nat) (F : zSh) (A : Nat → Prop) (h : zM) (U : State) : Prop := va_P D zcl (zW N ad F h) U.heap ∧ va_K D zcl tys U ∧ zTab A U U.heap ∧ zNe U
def zPst (D : va_G) (tys : List (ClassId × FieldType)) (N : Nat) (ad : Nat → Nat) (F : zSh) (h : zM) (t : State) : Prop := va_P D zcl (zW N ad F h) t.heap ∧ va_K D zcl tys t
abbrev zS (p : Program) (m : MethodId) (c : Code) (cc : ByteArray) (nL : Nat) (s : State) (args : Array Value) (own : String) : Prop := CallFix p m c cc nL s args zt own
/-- a loop: as often as n says -/
def zl {σ : Type} (S : (σ → Prop) → σ → Prop) : Nat → σ → Prop
  | 0 => fun _ => False
  | n + 1 => fun x => S (zl S n) x
def zL {σ : Type} (S : (σ → Prop) → σ → Prop) (x : σ) : Prop := ∃ n, zl S n x
theorem zl_0 {σ : Type} {S : (σ → Prop) → σ → Prop} {x : σ} (h : zl S 0 x) : False := h
theorem zl_s {σ : Type} {S : (σ → Prop) → σ → Prop} {n : Nat} {x : σ} (h : zl S (n + 1) x) : S (zl S n) x := h
theorem zL_rule {σ : Type} {S : (σ → Prop) → σ → Prop} (I : σ → Prop) (μ : σ → Nat) (hs : ∀ (x : σ) (L : σ → Prop), I x → (∀ y, I y → μ y < μ x → L y) → S L x) (x : σ) (hx : I x) : zL S x := by
  have key : ∀ n x, μ x < n → I x → zl S n x := by
    intro n
    induction n with
    | zero => intro x h; exact absurd h (Nat.not_lt_zero _)
    | succ n ih => intro x h hI; exact hs x _ hI (fun y hy hm => ih y (by omega) hy)
  exact ⟨μ x + 1, key _ x (Nat.lt_succ_self _) hx⟩
def zCal (own : String) (index : Nat) (y : MethodName) (C : String) (b : ByteArray) (mL : Nat) (ret : Option FieldType) (n : Nat) : Prop :=
  Cond.code y b mL ret ∈ zt ∧ Cond.methodLink own index y ∈ zt ∧ Cond.instanceMethod y ∈ zt ∧ Cond.selects C y y ∈ zt ∧ Cond.initialized C ∈ zt ∧ (y.cls = C ∧ y.cls ≠ "java/lang/invoke/MethodHandle" ∧ y.cls ≠ "java/lang/invoke/VarHandle" ∧ (parseMethodDescriptor y.desc).map (fun d => d.parameters.length) = some n)
def zCas (own : String) (index : Nat) (y : MethodName) (b : ByteArray) (mL : Nat) (ret : Option FieldType) (n : Nat) : Prop :=
  Cond.code y b mL ret ∈ zt ∧ Cond.methodLink own index y ∈ zt ∧ Cond.static y ∈ zt ∧ Cond.initialized own ∈ zt ∧ (y.cls = own ∧ y.cls ≠ "java/lang/invoke/MethodHandle" ∧ y.cls ≠ "java/lang/invoke/VarHandle" ∧ (parseMethodDescriptor y.desc).map (fun d => d.parameters.length) = some n)
section ZR
variable {p : Program} {l : Launch} {e : Env} {R : Room} {s : State} {m : MethodId} {args : Array Value} {below : List Frame} {meth : Method} {c : Code} {H : Heap} {locs : List Loc} {cells slots : Nat} {Q : State → Prop}
variable {cc : ByteArray} {pc nL : Nat} {ls : Array Slot} {rest : List Value} {D : va_G} {A : Nat → Prop} {tys : List (ClassId × FieldType)} {H0 : Heap} {own : String} {N : Nat} {ad : Nat → Nat} {F : zSh} {h : zM}
theorem zr_get (S : zS p m c cc nL s args own) (hK : va_K D zcl tys s) (hP : va_P D zcl (zW N ad F h) H) {o ci k index : Nat} {C nm ds : String} {fin : Bool} {ty : FieldType} {fs : List Value} {v : Value} (ho : o < N) (hF : F o (h o) = .inr (ci, fs)) (hf : zFld ci k C nm ds fin ty) (hlink : Cond.fieldLink own index C nm ds ∈ zt) (hv : fs[k]? = some v) (hdg : decode cc pc = .ok (.getfield index, 3))
    (kk : W p l e R s m args below meth c H locs cells slots Q (F0 m (pc + 3) ls (v :: rest))) : W p l e R s m args below meth c H locs cells slots Q (F0 m pc ls (.ref (ad o) :: rest)) := by
  obtain ⟨T, N0, ty0, hc, hin, hty, hnm, hk, hT, hd⟩ := hf
  exact va_get (T := T) (N := N0) (ref := C) S.1 S.2.1 S.2.2.2.2 hin S.2.2.2.1 hK hP o (by rw [zW_at ho, hF]) hc k hk (by rw [hT]; exact S.2.2.2.2 _ hlink) (fun x hx => by rw [hT] at hx ⊢; exact hx) hv hdg kk
theorem zr_put (S : zS p m c cc nL s args own) (hK : va_K D zcl tys s) (hJ : zJ A N ad) (hP : va_P D zcl (zW N ad F h) H) (hS : va_S A H0 H locs) {o ci k index : Nat} {C nm ds : String} {ty : FieldType} {fs : List Value} {v : Int32} (ho : o < N) (hF : F o (h o) = .inr (ci, fs)) (hf : zFld ci k C nm ds false ty) (hlink : Cond.fieldLink own index C nm ds ∈ zt) (hn : narrow ty (.int v) = .int v) (hfit : fits ty (.int v) = true) (hl : k < fs.length) (hF2 : F o (upd (h o) k v) = .inr (ci, fs.set k (.int v))) (hdg : decode cc pc = .ok (.putfield index, 3))
    (kk : ∀ (h1 : zM) (H1 : Heap) (locs1 : List Loc), h1 = zu h o k v → va_P D zcl (zW N ad F h1) H1 → va_S A H0 H1 locs1 → W p l e R s m args below meth c H1 locs1 cells slots Q (F0 m (pc + 3) ls rest)) : W p l e R s m args below meth c H locs cells slots Q (F0 m pc ls (.int v :: .ref (ad o) :: rest)) := by
  obtain ⟨T, N0, ty0, hc, hin, hty, hnm, hk, hT, hd⟩ := hf
  refine va_put (T := T) (N := N0) (ref := C) (ty := ty) S.1 S.2.1 S.2.2.2.2 hin ty0 hty hnm S.2.2.2.1 hK hP (zD hJ) hS o (by rw [zW_at ho, hF]) hc k hk (by rw [hT]; exact S.2.2.2.2 _ hlink) (fun x hx => by rw [hT] at hx ⊢; exact hx) (by rw [hT]) (by rw [hT]; exact hd) hn hfit hl hdg (fun H1 locs1 hP1 _ hS1 => kk _ H1 locs1 rfl ?_ hS1)
  rw [← hF2, zW_up ho] at hP1
  exact hP1
theorem zr_ald (S : zS p m c cc nL s args own) (hK : va_K D zcl tys s) (hP : va_P D zcl (zW N ad F h) H) {o n : Nat} {cA : ClassId} (ho : o < N) (hF : F o (h o) = .inl (cA, n, .inl (h o))) (t0 : Nat) (ht : tys[t0]? = some (cA, .int)) {i : Int32} (hin : vp_in i n) (hdg : decode cc pc = .ok (.iaload, 1))
    (kk : W p l e R s m args below meth c H locs cells slots Q (F0 m (pc + 1) ls (.int (h o i.toNatClampNeg) :: rest))) : W p l e R s m args below meth c H locs cells slots Q (F0 m pc ls (.int i :: .ref (ad o) :: rest)) :=
  va_iald S.1 S.2.1 hK hP o t0 (by rw [zW_at ho, hF]) ht hin hdg kk
theorem zr_cld (S : zS p m c cc nL s args own) (hK : va_K D zcl tys s) (hP : va_P D zcl (zW N ad F h) H) {o n : Nat} {cA : ClassId} (ho : o < N) (hF : F o (h o) = .inl (cA, n, .inl (h o))) (t0 : Nat) (ht : tys[t0]? = some (cA, .char)) {i : Int32} (hin : vp_in i n) (hdg : decode cc pc = .ok (.caload, 1))
    (kk : W p l e R s m args below meth c H locs cells slots Q (F0 m (pc + 1) ls (.int (h o i.toNatClampNeg) :: rest))) : W p l e R s m args below meth c H locs cells slots Q (F0 m pc ls (.int i :: .ref (ad o) :: rest)) :=
  va_cald S.1 S.2.1 hK hP o t0 (by rw [zW_at ho, hF]) ht hin hdg kk
theorem zr_ast (S : zS p m c cc nL s args own) (hK : va_K D zcl tys s) (hJ : zJ A N ad) (hP : va_P D zcl (zW N ad F h) H) (hS : va_S A H0 H locs) {o n : Nat} {cA : ClassId} (ho : o < N) (hF : ∀ g, F o g = .inl (cA, n, .inl g)) (t0 : Nat) (ht : tys[t0]? = some (cA, .int)) {i x : Int32} (hin : vp_in i n) (hdg : decode cc pc = .ok (.iastore, 1))
    (kk : ∀ (h1 : zM) (H1 : Heap) (locs1 : List Loc), h1 = zu h o i.toNatClampNeg x → va_P D zcl (zW N ad F h1) H1 → va_S A H0 H1 locs1 → W p l e R s m args below meth c H1 locs1 cells slots Q (F0 m (pc + 1) ls rest)) : W p l e R s m args below meth c H locs cells slots Q (F0 m pc ls (.int x :: .int i :: .ref (ad o) :: rest)) := by
  refine va_iast S.1 S.2.1 hK hP (zD hJ) hS o t0 (by rw [zW_at ho, hF]) ht hin hdg (fun H1 locs1 hP1 _ hS1 => kk _ H1 locs1 rfl ?_ hS1)
  rw [← hF, zW_up ho] at hP1
  exact hP1
theorem zr_cst (S : zS p m c cc nL s args own) (hK : va_K D zcl tys s) (hJ : zJ A N ad) (hP : va_P D zcl (zW N ad F h) H) (hS : va_S A H0 H locs) {o n : Nat} {cA : ClassId} (ho : o < N) (hF : ∀ g, F o g = .inl (cA, n, .inl g)) (t0 : Nat) (ht : tys[t0]? = some (cA, .char)) {i x : Int32} (hin : vp_in i n) (hdg : decode cc pc = .ok (.castore, 1))
    (kk : ∀ (h1 : zM) (H1 : Heap) (locs1 : List Loc), h1 = zu h o i.toNatClampNeg (vp_nar .char x) → va_P D zcl (zW N ad F h1) H1 → va_S A H0 H1 locs1 → W p l e R s m args below meth c H1 locs1 cells slots Q (F0 m (pc + 1) ls rest)) : W p l e R s m args below meth c H locs cells slots Q (F0 m pc ls (.int x :: .int i :: .ref (ad o) :: rest)) := by
  refine va_cast S.1 S.2.1 hK hP (zD hJ) hS o t0 (by rw [zW_at ho, hF]) ht hin hdg (fun H1 locs1 hP1 _ hS1 => kk _ H1 locs1 rfl ?_ hS1)
  rw [← hF, zW_up ho] at hP1
  exact hP1
theorem zr_len (S : zS p m c cc nL s args own) (hK : va_K D zcl tys s) (hP : va_P D zcl (zW N ad F h) H) {o n : Nat} {cA : ClassId} {ty : FieldType} (ho : o < N) (hF : F o (h o) = .inl (cA, n, .inl (h o))) (t0 : Nat) (ht : tys[t0]? = some (cA, ty)) (hdg : decode cc pc = .ok (.arraylength, 1))
    (kk : W p l e R s m args below meth c H locs cells slots Q (F0 m (pc + 1) ls (.int (nI n) :: rest))) : W p l e R s m args below meth c H locs cells slots Q (F0 m pc ls (.ref (ad o) :: rest)) :=
  va_alen (x := (n, .inl (h o))) (v := nI n) S.1 S.2.1 hK hP o t0 (by rw [zW_at ho, hF]) ht rfl hdg kk
theorem zr_copy (S : zS p m c cc nL s args own) (hls : ls.size = nL) (hK : va_K D zcl tys s) (hJ : zJ A N ad) (hP : va_P D zcl (zW N ad F h) H) (hS : va_S A H0 H locs) {o0 o1 n0 n1 index : Nat} {cA : ClassId} (ho0 : o0 < N) (hF0 : F o0 (h o0) = .inl (cA, n0, .inl (h o0))) (ho1 : o1 < N) (hF1 : ∀ g, F o1 g = .inl (cA, n1, .inl g)) (t0 : Nat) (ht : tys[t0]? = some (cA, .int))
    (hlink : Cond.methodLink own index arraycopyName ∈ zt) (hnat : Cond.native arraycopyName ∈ zt) (hstat : Cond.static arraycopyName ∈ zt) (hini : Cond.initialized "java/lang/System" ∈ zt)
    {sp dp n : Int32} (h1 : ¬ sp < 0) (h2 : ¬ dp < 0) (h3 : ¬ n < 0) (h4 : sp.toNatClampNeg + n.toNatClampNeg ≤ n0) (h5 : dp.toNatClampNeg + n.toNatClampNeg ≤ n1) (hframes : 1 ≤ R.frames) (hlocals : (rest.map fun v => v.category).sum + (nativeFrameWords "java/lang/System" "arraycopy" 5 + 11) ≤ R.locals) (hdg : decode cc pc = .ok (.invokestatic index, 3))
    (kk : ∀ (h1 : zM) (H1 : Heap) (locs1 : List Loc), h1 = va_up h o1 (va_cpy (h o0) (h o1) sp.toNatClampNeg dp.toNatClampNeg n.toNatClampNeg) → va_P D zcl (zW N ad F h1) H1 → va_S A H0 H1 locs1 → W p l e R s m args below meth c H1 locs1 cells slots Q (F0 m (pc + 3) ls rest)) : W p l e R s m args below meth c H locs cells slots Q (F0 m pc ls (.int n :: .int dp :: .ref (ad o1) :: .int sp :: .ref (ad o0) :: rest)) := by
  refine va_copyi S.1 S.2.1 (by rw [hls]; exact S.2.2.1) S.2.2.2.1 (S.2.2.2.2 _ hlink) (S.2.2.2.2 _ hnat) (S.2.2.2.2 _ hstat) (S.2.2.2.2 _ hini) hK hP (zD hJ) hS o0 o1 t0 t0 (by rw [zW_at ho0, hF0]) (by rw [zW_at ho1, hF1]) ht ht rfl h1 h2 h3 h4 h5 (fun _ _ => rfl) hframes hlocals hdg (fun H1 locs1 hP1 _ hS1 => kk _ H1 locs1 rfl ?_ hS1)
  rw [← hF1, zW_up ho1] at hP1
  exact hP1
theorem zr_gets (S : zS p m c cc nL s args own) (hN : zNe s) (hS : va_S A s.heap H locs) {t index : Nat} {nm : String} (hZ : va_Z "CallExplorer" nm "[I" (.ref t) A s s.heap) (hq : (own, index, "CallExplorer", nm, "[I", "CallExplorer") ∈ znF) (hdg : decode cc pc = .ok (.getstatic index, 3))
    (kk : W p l e R s m args below meth c H locs cells slots Q (F0 m (pc + 3) ls (.ref t :: rest))) : W p l e R s m args below meth c H locs cells slots Q (F0 m pc ls rest) :=
  va_getsN S.1 S.2.1 hZ hS S.2.2.2.1 (va_Nw.use rfl (hN.1 _ hq)) (fun _ h => h) hdg kk
theorem zr_tld (S : zS p m c cc nL s args own) (hS : va_S A s.heap H locs) {t : Nat} {f : Nat → Int32} (hT : va_T .int t 10 (fun j => .int (f j)) A s s.heap) {i : Int32} (hin : vp_in i 10) (hdg : decode cc pc = .ok (.iaload, 1))
    (kk : W p l e R s m args below meth c H locs cells slots Q (F0 m (pc + 1) ls (.int (f i.toNatClampNeg) :: rest))) : W p l e R s m args below meth c H locs cells slots Q (F0 m pc ls (.int i :: .ref t :: rest)) :=
  va_ti S.1 S.2.1 hT hS hin rfl hdg kk
theorem zr_tln (S : zS p m c cc nL s args own) (hS : va_S A s.heap H locs) {t : Nat} {f : Nat → Int32} (hT : va_T .int t 10 (fun j => .int (f j)) A s s.heap) (hdg : decode cc pc = .ok (.arraylength, 1))
    (kk : W p l e R s m args below meth c H locs cells slots Q (F0 m (pc + 1) ls (.int 10 :: rest))) : W p l e R s m args below meth c H locs cells slots Q (F0 m pc ls (.ref t :: rest)) :=
  va_tlen S.1 S.2.1 hT hS rfl hdg kk
theorem zr_row (S : zS p m c cc nL s args own) (hK : va_K D zcl tys s) (hP : va_P D zcl (zW N ad F h) H) {o n r : Nat} {cA : ClassId} {C : String} {f : Nat → Option Nat} (ho : o < N) (hF : F o (h o) = .inl (cA, n, .inr (.inr (.inr (.inr f))))) (t0 : Nat) (ht : tys[t0]? = some (cA, .object C)) {i : Int32} (hin : vp_in i n) (hf : f i.toNatClampNeg = some r) (hdg : decode cc pc = .ok (.aaload, 1))
    (kk : W p l e R s m args below meth c H locs cells slots Q (F0 m (pc + 1) ls (.ref r :: rest))) : W p l e R s m args below meth c H locs cells slots Q (F0 m pc ls (.int i :: .ref (ad o) :: rest)) :=
  va_aldq S.1 S.2.1 hK hP o t0 (by rw [zW_at ho, hF]) ht hin hdg (by rw [hf]; exact kk)
variable {index mL n mc ms : Nat} {y : MethodName} {C : String} {b : ByteArray} {ret : Option FieldType} {rm : Room} {As st0 : List Value} {Qc : Array Value → State → Outcome → State → Prop}
theorem zCw (hts : ∀ w ∈ zt, w.before args s = true) (hc : zCal own index y C b mL ret n) (hR : rm.frames + 1 ≤ R.frames ∧ 8 + (mL + 11) + rm.locals ≤ R.locals) (h0 : rm.cells = mc) (h1 : rm.slots = ms) : CallW R s args own C index y b mL ret (.code y b mL ret :: zt) rm mc ms n := by
  obtain ⟨a1, a2, a3, a4, a5, hd⟩ := hc
  refine cwV n hts (fun w hw => ?_) rfl h0 h1 hd hR
  have hm : w ∈ zt := by
    rcases List.mem_append.mp hw with h | h
    · simp only [List.mem_cons, List.not_mem_nil, or_false] at h
      rcases h with rfl | rfl | rfl | rfl <;> assumption
    · rcases List.mem_cons.mp h with rfl | h
      · exact a1
      · exact h
  exact ⟨hm, zgood w hm⟩
theorem zCws (hts : ∀ w ∈ zt, w.before args s = true) (hc : zCas own index y b mL ret n) (hR : rm.frames + 1 ≤ R.frames ∧ 8 + (mL + 11) + rm.locals ≤ R.locals) (h0 : rm.cells = mc) (h1 : rm.slots = ms) : CallB R s args own index y b mL ret (.code y b mL ret :: zt) rm mc ms n ∧ (Cond.static y).before args s = true := by
  obtain ⟨a1, a2, a3, a4, hd⟩ := hc
  refine cwS n hts (fun w hw => ?_) rfl h0 h1 hd hR
  have hm : w ∈ zt := by
    rcases List.mem_append.mp hw with h | h
    · simp only [List.mem_cons, List.not_mem_nil, or_false] at h
      rcases h with rfl | rfl | rfl <;> assumption
    · rcases List.mem_cons.mp h with rfl | h
      · exact a1
      · exact h
  exact ⟨hm, zgood w hm⟩
theorem zBlind {av : List Value} : FrameBlind (va_Pc av (zPre D tys N ad F A h)) := fun a U g mk q => by
  obtain ⟨q0, qP, qK, qT, qN⟩ := q
  exact ⟨q0, qP, va_K.moved (u := U) (U := U.calling g mk a) (Vm.Alike.refl U.vm) qK, zTab.moved (u := U) (U := U.calling g mk a) (Vm.Alike.refl U.vm) qT, qN.same rfl⟩
theorem zPre_at (hK : va_K D zcl tys s) (hT : zTab A s s.heap) (hN : zNe s) (hP : va_P D zcl (zW N ad F h) H) (hS : va_S A s.heap H locs) {av : List Value} : ∀ U : State, U.heap = H → s.WarmedH U.vm → va_Pc av (zPre D tys N ad F A h) av.toArray U := fun U hU hW =>
  ⟨rfl, by rw [hU]; exact hP, va_K.moved hW.alike hK, by rw [hU]; exact (hT.kept hS.2.1).moved hW.alike, hN.warm hW⟩
theorem zr_V (S : zS p m c cc nL s args own) (hK : va_K D zcl tys s) (hT : zTab A s s.heap) (hN : zNe s) (hP : va_P D zcl (zW N ad F h) H) (hS : va_S A s.heap H locs) {o ci N0 : Nat} {T : u_T} {fs : List Value} (ho : o < N) (hF : F o (h o) = .inr (ci, fs)) (hcl : zcl[ci]? = some (C, T, N0)) (hM : Met l y (.code y b mL ret :: zt) rm (va_Pc (.ref (ad o) :: As) (zPre D tys N ad F A h)) Qc 0 0 A) (hc : zCal own index y C b mL ret n) (hR : rm.frames + 1 ≤ R.frames ∧ 8 + (mL + 11) + rm.locals ≤ R.locals) (h0 : rm.cells = 0 ∧ rm.slots = 0) (hn : As.length = n) (hsz : ls.size = nL) (hst : st0 = As.reverse ++ .ref (ad o) :: rest) (hW : (rest.map fun v => v.category).sum ≤ 8) (hdg : decode cc pc = .ok (.invokevirtual index, 3)) : va_Run p l e R s m args below meth c H locs 0 0 0 0 (F0 m pc ls st0) rest (Qc (Value.ref (ad o) :: As).toArray) A :=
  va_runV S hM (zCw S.2.2.2.2 hc hR h0.1 h0.2) ⟨zBlind, va_recv hK hP hcl (q0 := o) (by rw [zW_at ho, hF]), zPre_at hK hT hN hP hS⟩ rfl hn hsz hst (lv_room (rest := st0) hW) hdg ⟨Nat.zero_le _, Nat.zero_le _⟩
theorem zr_T (S : zS p m c cc nL s args own) (hK : va_K D zcl tys s) (hT : zTab A s s.heap) (hN : zNe s) (hP : va_P D zcl (zW N ad F h) H) (hS : va_S A s.heap H locs) (hM : Met l y (.code y b mL ret :: zt) rm (va_Pc As (zPre D tys N ad F A h)) Qc 0 0 A) (hc : zCas own index y b mL ret n) (hR : rm.frames + 1 ≤ R.frames ∧ 8 + (mL + 11) + rm.locals ≤ R.locals) (h0 : rm.cells = 0 ∧ rm.slots = 0) (hn : As.length = n) (hsz : ls.size = nL) (hst : st0 = As.reverse ++ rest) (hW : (rest.map fun v => v.category).sum ≤ 8) (hdg : decode cc pc = .ok (.invokestatic index, 3)) : va_Run p l e R s m args below meth c H locs 0 0 0 0 (F0 m pc ls st0) rest (Qc As.toArray) A :=
  va_runS S hM (zCws S.2.2.2.2 hc hR h0.1 h0.2) ⟨zBlind, zPre_at hK hT hN hP hS⟩ rfl hn hsz hst (lv_room (rest := st0) hW) hdg ⟨Nat.zero_le _, Nat.zero_le _⟩
variable {a0 : Array Value}
theorem zr_i {post : Int32 → zM → Prop} (hr : va_Run p l e R s m args below meth c H locs 0 0 0 0 (F0 m pc ls st0) rest (va_Qi post (zPst D tys N ad F) A a0) A) (hS : va_S A H0 H locs)
    (kk : ∀ (r : Int32) (h1 : zM) (H1 : Heap) (locs1 : List Loc), post r h1 → va_P D zcl (zW N ad F h1) H1 → va_S A H0 H1 locs1 → W p l e R s m args below meth c H1 locs1 0 0 Q (F0 m (pc + 3) ls (.int r :: rest))) : W p l e R s m args below meth c H locs 0 0 Q (F0 m pc ls st0) :=
  va_calli hr hS (fun _ _ h => h) (fun _ h => h) (fun r u t H1 locs1 ht _ hp hB _ _ hS1 => kk r u H1 locs1 hp (by rw [← ht]; exact hB.1) hS1)
theorem zr_v {post : zM → Prop} (hr : va_Run p l e R s m args below meth c H locs 0 0 0 0 (F0 m pc ls st0) rest (va_Qv post (zPst D tys N ad F) A a0) A) (hS : va_S A H0 H locs)
    (kk : ∀ (h1 : zM) (H1 : Heap) (locs1 : List Loc), post h1 → va_P D zcl (zW N ad F h1) H1 → va_S A H0 H1 locs1 → W p l e R s m args below meth c H1 locs1 0 0 Q (F0 m (pc + 3) ls rest)) : W p l e R s m args below meth c H locs 0 0 Q (F0 m pc ls st0) :=
  va_callv hr hS (fun _ _ h => h) (fun _ h => h) (fun u t H1 locs1 ht _ hp hB _ _ hS1 => kk u H1 locs1 hp (by rw [← ht]; exact hB.1) hS1)
theorem zr_e {ad2 : Nat → Nat} {post : Option Nat → zM → Prop} (hr : va_Run p l e R s m args below meth c H locs 0 0 0 0 (F0 m pc ls st0) rest (va_Qe ad2 post (zPst D tys N ad F) A a0) A) (hS : va_S A H0 H locs)
    (k0 : ∀ (h1 : zM) (H1 : Heap) (locs1 : List Loc), post none h1 → va_P D zcl (zW N ad F h1) H1 → va_S A H0 H1 locs1 → W p l e R s m args below meth c H1 locs1 0 0 Q (F0 m (pc + 3) ls (.null :: rest)))
    (k1 : ∀ (j : Nat) (h1 : zM) (H1 : Heap) (locs1 : List Loc), post (some j) h1 → va_P D zcl (zW N ad F h1) H1 → va_S A H0 H1 locs1 → W p l e R s m args below meth c H1 locs1 0 0 Q (F0 m (pc + 3) ls (.ref (ad2 j) :: rest))) : W p l e R s m args below meth c H locs 0 0 Q (F0 m pc ls st0) :=
  va_calle hr hS (fun _ _ h => h) (fun _ h => h) (fun r u t H1 locs1 ht _ hp hB _ _ hS1 => by
    cases r with
    | none => exact k0 u H1 locs1 hp (by rw [← ht]; exact hB.1) hS1
    | some j => exact k1 j u H1 locs1 hp (by rw [← ht]; exact hB.1) hS1)
/-! the ends -/
abbrev zQi (post : Int32 → zM → Prop) (D : va_G) (tys : List (ClassId × FieldType)) (N : Nat) (ad : Nat → Nat) (F : zSh) (A : Nat → Prop) (below : List Frame) (args : Array Value) (s : State) : State → Prop := MQ below (va_Qi post (zPst D tys N ad F) A) args s 0 0 A
abbrev zQv (post : zM → Prop) (D : va_G) (tys : List (ClassId × FieldType)) (N : Nat) (ad : Nat → Nat) (F : zSh) (A : Nat → Prop) (below : List Frame) (args : Array Value) (s : State) : State → Prop := MQ below (va_Qv post (zPst D tys N ad F) A) args s 0 0 A
abbrev zQe (ad2 : Nat → Nat) (post : Option Nat → zM → Prop) (D : va_G) (tys : List (ClassId × FieldType)) (N : Nat) (ad : Nat → Nat) (F : zSh) (A : Nat → Prop) (below : List Frame) (args : Array Value) (s : State) : State → Prop := MQ below (va_Qe ad2 post (zPst D tys N ad F) A) args s 0 0 A
theorem zr_iret {post : Int32 → zM → Prop} {v : Int32} {ty : FieldType} (S : zS p m c cc nL s args own) (hr : meth.sig.returnType = some ty) (hlk : meth.locks = false) (hK : va_K D zcl tys s) (hP : va_P D zcl (zW N ad F h) H) (hS : va_S A s.heap H locs) (hn : narrow ty (.int v) = .int v) (hw : post v h) (hdg : decode cc pc = .ok (.ireturn, 1)) : W p l e R s m args below meth c H locs 0 0 (zQi post D tys N ad F A below args s) (F0 m pc ls [.int v]) :=
  W.zret S.1 S.2.1 hr hn (fun t ht hW => ⟨⟨v, h, rfl, hw, by rw [ht]; exact hP, va_K.moved hW.alike hK⟩, hS.F ht⟩) hS.2.2 hdg hlk
theorem zr_vret {post : zM → Prop} (S : zS p m c cc nL s args own) (hr : meth.sig.returnType = none) (hlk : meth.locks = false) (hK : va_K D zcl tys s) (hP : va_P D zcl (zW N ad F h) H) (hS : va_S A s.heap H locs) (hw : post h) (hdg : decode cc pc = .ok (.return_, 1)) : W p l e R s m args below meth c H locs 0 0 (zQv post D tys N ad F A below args s) (F0 m pc ls []) :=
  W.vret S.1 S.2.1 hr (fun t ht hW => ⟨⟨h, rfl, hw, by rw [ht]; exact hP, va_K.moved hW.alike hK⟩, hS.F ht⟩) hS.2.2 hdg hlk
theorem zr_eret {ad2 : Nat → Nat} {post : Option Nat → zM → Prop} {rt : FieldType} (S : zS p m c cc nL s args own) (hr : meth.sig.returnType = some rt) (hrt : (∃ n, rt = .object n) ∨ ∃ t, rt = .array t) (hlk : meth.locks = false) (hK : va_K D zcl tys s) (hP : va_P D zcl (zW N ad F h) H) (hS : va_S A s.heap H locs) {r : Option Nat} {v : Value} (hv : va_re ad2 r = v) (hw : post r h) (hdg : decode cc pc = .ok (.areturn, 1)) : W p l e R s m args below meth c H locs 0 0 (zQe ad2 post D tys N ad F A below args s) (F0 m pc ls [v]) := by
  subst hv
  refine W.aret S.1 S.2.1 hr hrt ?_ (fun t ht hW => ⟨⟨r, h, rfl, hw, by rw [ht]; exact hP, va_K.moved hW.alike hK⟩, hS.F ht⟩) hS.2.2 hdg hlk
  cases r with
  | none => exact Or.inl rfl
  | some j => exact Or.inr ⟨_, rfl⟩
/-! worlds that are lists (constructors) -/
variable {ws : va_W} {a : Nat}
theorem zn_get (S : zS p m c cc nL s args own) (hK : va_K D zcl tys s) (hP : va_P D zcl ws H) (q0 : Nat) {ci k : Nat} {C nm ds : String} {fin : Bool} {ty : FieldType} {fs : List Value} {v : Value} (he : ws[q0]? = some (a, .inr (ci, fs))) (hf : zFld ci k C nm ds fin ty) (hlink : Cond.fieldLink own index C nm ds ∈ zt) (hv : fs[k]? = some v) (hdg : decode cc pc = .ok (.getfield index, 3))
    (kk : W p l e R s m args below meth c H locs cells slots Q (F0 m (pc + 3) ls (v :: rest))) : W p l e R s m args below meth c H locs cells slots Q (F0 m pc ls (.ref a :: rest)) := by
  obtain ⟨T, N0, ty0, hc, hin, hty, hnm, hk, hT, hd⟩ := hf
  exact va_get (T := T) (N := N0) (ref := C) S.1 S.2.1 S.2.2.2.2 hin S.2.2.2.1 hK hP q0 he hc k hk (by rw [hT]; exact S.2.2.2.2 _ hlink) (fun x hx => by rw [hT] at hx ⊢; exact hx) hv hdg kk
theorem zn_put (S : zS p m c cc nL s args own) (hK : va_K D zcl tys s) (hP : va_P D zcl ws H) (hD : va_D A ws) (hS : va_S A H0 H locs) (q0 : Nat) {ci k : Nat} {C nm ds : String} {ty : FieldType} {fs : List Value} {v : Value} (he : ws[q0]? = some (a, .inr (ci, fs))) (hf : zFld ci k C nm ds false ty) (hlink : Cond.fieldLink own index C nm ds ∈ zt) (hn : narrow ty v = v) (hfit : fits ty v = true) (hl : k < fs.length) (hdg : decode cc pc = .ok (.putfield index, 3))
    (kk : ∀ (H1 : Heap) (locs1 : List Loc), va_P D zcl (ws.set q0 (a, .inr (ci, fs.set k v))) H1 → va_D A (ws.set q0 (a, .inr (ci, fs.set k v))) → va_S A H0 H1 locs1 → W p l e R s m args below meth c H1 locs1 cells slots Q (F0 m (pc + 3) ls rest)) : W p l e R s m args below meth c H locs cells slots Q (F0 m pc ls (v :: .ref a :: rest)) := by
  obtain ⟨T, N0, ty0, hc, hin, hty, hnm, hk, hT, hd⟩ := hf
  exact va_put (T := T) (N := N0) (ref := C) (ty := ty) S.1 S.2.1 S.2.2.2.2 hin ty0 hty hnm S.2.2.2.1 hK hP hD hS q0 he hc k hk (by rw [hT]; exact S.2.2.2.2 _ hlink) (fun x hx => by rw [hT] at hx ⊢; exact hx) (by rw [hT]) (by rw [hT]; exact hd) hn hfit hl hdg kk
theorem zn_putF (S : zS p m c cc nL s args own) (hin2 : meth.name = "<init>") (hK : va_K D zcl tys s) (hP : va_P D zcl ws H) (hD : va_D A ws) (hS : va_S A H0 H locs) (q0 : Nat) {ci k : Nat} {C nm ds : String} {ty : FieldType} {fs : List Value} {v : Value} (he : ws[q0]? = some (a, .inr (ci, fs))) (hf : zFld ci k C nm ds true ty) (hC : C = own) (hlink : Cond.fieldLink own index C nm ds ∈ zt) (hn : narrow ty v = v) (hfit : fits ty v = true) (hl : k < fs.length) (hdg : decode cc pc = .ok (.putfield index, 3))
    (kk : ∀ (H1 : Heap) (locs1 : List Loc), va_P D zcl (ws.set q0 (a, .inr (ci, fs.set k v))) H1 → va_D A (ws.set q0 (a, .inr (ci, fs.set k v))) → va_S A H0 H1 locs1 → W p l e R s m args below meth c H1 locs1 cells slots Q (F0 m (pc + 3) ls rest)) : W p l e R s m args below meth c H locs cells slots Q (F0 m pc ls (v :: .ref a :: rest)) := by
  obtain ⟨T, N0, ty0, hc, hin, hty, hnm, hk, hT, hd⟩ := hf
  exact va_putF (T := T) (N := N0) (ref := C) (ty := ty) S.1 S.2.1 S.2.2.2.2 hin ty0 hty hnm S.2.2.2.1 hK hP hD hS q0 he hc k hk (by rw [hT]; exact S.2.2.2.2 _ hlink) (fun x hx => by rw [hT] at hx ⊢; exact hx) (by rw [hT]) hin2 (by rw [hT]; exact hC) (by rw [hT]; exact hd) hn hfit hl hdg kk
theorem zn_same {cA cB : ClassId} {ty : FieldType} (h1 : va_RA s cA ty) (h2 : va_RA s cB ty) : cA = cB := by
  cases ty with
  | object C =>
    obtain ⟨_, _, _, _, _, e1⟩ := h1
    obtain ⟨_, _, _, _, _, e2⟩ := h2
    exact Option.some.inj (e1.symm.trans e2)
  | _ => exact Option.some.inj (h1.symm.trans h2)
theorem zn_newa (S : zS p m c cc nL s args own) {atype : ArrayType} {ty : FieldType} (hw : Cond.arrayClass ty ∈ zt) (hty : newarray.typeOf atype = ty) (hK : va_K D zcl tys s) (hP : va_P D zcl ws H) (hD : va_D A ws) (hS : va_S A H0 H locs) (hA : ∀ q, H0.size ≤ q → A q) (t0 : Nat) {cI : ClassId} (ht : tys[t0]? = some (cI, ty)) {n : Int32} (N' : Nat) (hdf : defaultValue ty = .int 0) (hn : ¬ n < 0) (hN : n.toNatClampNeg = N') (hbytes : N' * componentBytes ty ≤ 536870912) (hcells : cells + 1 ≤ R.cells) (hslots : slots + N' ≤ R.slots) (hdg : decode cc pc = .ok (.newarray atype, 2))
    (kk : ∀ (q : Nat) (H1 : Heap), va_P D zcl (ws ++ [(q, .inl (cI, N', .inl (fun _ => 0)))]) H1 → va_D A (ws ++ [(q, .inl (cI, N', .inl (fun _ => 0)))]) → va_S A H0 H1 locs →
      W p l e R s m args below meth c H1 locs (cells + 1) (slots + N') Q (F0 m (pc + 2) ls (.ref q :: rest))) : W p l e R s m args below meth c H locs cells slots Q (F0 m pc ls (.int n :: rest)) := by
  refine va_newa (a0 := (N', .inl (fun _ => 0))) S.1 S.2.1 (by rw [hty]; exact S.2.2.2.2 _ hw) hty hK hP hD hS hA (fun cA => by rw [hdf]; rfl) hn hN hbytes hcells hslots hdg (fun q cA H1 hK1 hP1 hD1 hS1 => ?_)
  have e : cA = cI := zn_same (s := s) (hK1.2 tys.length (cA, ty) (by rw [List.getElem?_append_right (Nat.le_refl _)]; simp)).2 (hK.2 t0 _ ht).2
  subst e
  exact kk q H1 hP1 hD1 hS1
theorem zn_newq (S : zS p m c cc nL s args own) {C : String} (hlink : Cond.classLink own index C ∈ zt) (hover : va_AO C s) (hK : va_K D zcl tys s) (hP : va_P D zcl ws H) (hD : va_D A ws) (hS : va_S A H0 H locs) (hA : ∀ q, H0.size ≤ q → A q) (t0 : Nat) {cI : ClassId} (ht : tys[t0]? = some (cI, .object C)) {n : Int32} (N' : Nat) (hn : ¬ n < 0) (hN : n.toNatClampNeg = N') (hbytes : N' * 4 ≤ 536870912) (hcells : cells + 1 ≤ R.cells) (hslots : slots + N' ≤ R.slots) (hdg : decode cc pc = .ok (.anewarray index, 3))
    (kk : ∀ (q : Nat) (H1 : Heap), va_P D zcl (ws ++ [(q, .inl (cI, N', .inr (.inr (.inr (.inr (fun _ => none))))))]) H1 → va_D A (ws ++ [(q, .inl (cI, N', .inr (.inr (.inr (.inr (fun _ => none))))))]) → va_S A H0 H1 locs →
      W p l e R s m args below meth c H1 locs (cells + 1) (slots + N') Q (F0 m (pc + 3) ls (.ref q :: rest))) : W p l e R s m args below meth c H locs cells slots Q (F0 m pc ls (.int n :: rest)) := by
  refine va_newq S.1 S.2.1 S.2.2.2.1 (S.2.2.2.2 _ hlink) hover hK hP hD hS hA hn hN hbytes hcells hslots hdg (fun q cA H1 hK1 hP1 hD1 hS1 => ?_)
  have e : cA = cI := zn_same (s := s) (hK1.2 tys.length (cA, .object C) (by rw [List.getElem?_append_right (Nat.le_refl _)]; simp)).2 (hK.2 t0 _ ht).2
  subst e
  exact kk q H1 hP1 hD1 hS1
theorem zn_new (S : zS p m c cc nL s args own) {C : String} {T : u_T} {N0 : Nat} {ci : Nat} (hc : zcl[ci]? = some (C, T, N0)) (hin : ∀ w ∈ u_ws C T N0, w ∈ zt) (ty : Nat → FieldType) (hty : ∀ k, k < N0 → parseFieldDescriptor (T k).2.2.1 = some (ty k)) (hlink : Cond.classLink own index C ∈ zt) (hinst : Cond.instantiable C N0 ∈ zt) (hini : Cond.initialized C ∈ zt) (hK : va_K D zcl tys s) (hP : va_P D zcl ws H) (hD : va_D A ws) (hS : va_S A H0 H locs) (hA : ∀ q, H0.size ≤ q → A q) {fs : List Value} (hfs : ∀ j, j < N0 → defaultValue (ty j) = vp_V fs j) (hcells : cells + 1 ≤ R.cells) (hslots : slots + N0 ≤ R.slots) (hdg : decode cc pc = .ok (.new index, 3))
    (kk : ∀ (q : Nat) (H1 : Heap), va_P D zcl (ws ++ [(q, .inr (ci, fs))]) H1 → va_D A (ws ++ [(q, .inr (ci, fs))]) → va_S A H0 H1 locs →
      W p l e R s m args below meth c H1 locs (cells + 1) (slots + N0) Q (F0 m (pc + 3) ls (.ref q :: rest))) : W p l e R s m args below meth c H locs cells slots Q (F0 m pc ls rest) :=
  va_new S.1 S.2.1 S.2.2.2.2 hin ty hty S.2.2.2.1 (S.2.2.2.2 _ hlink) (S.2.2.2.2 _ hinst) (S.2.2.2.2 _ hini) hK hP hD hS hA hc hfs hcells hslots hdg kk
theorem zn_obj (S : zS p m c cc nL s args own) (hls : ls.size = nL) (hlink : Cond.methodLink own index Lib.objectInit ∈ zt) (h1 : Cond.instanceMethod Lib.objectInit ∈ zt) (h2 : Cond.code Lib.objectInit ⟨#[0xb1]⟩ 1 none ∈ zt) (hf : 1 ≤ R.frames) (hl : (rest.map fun v => v.category).sum + 12 ≤ R.locals) (hdg : decode cc pc = .ok (.invokespecial index, 3))
    (kk : W p l e R s m args below meth c H locs cells slots Q (F0 m (pc + 3) ls rest)) : W p l e R s m args below meth c H locs cells slots Q (F0 m pc ls (.ref a :: rest)) :=
  W.objInit S.1 S.2.1 S.2.2.2.1 (S.2.2.2.2 _ hlink) (S.2.2.2.2 _ h1) (S.2.2.2.2 _ h2) rfl (by rw [S.2.2.1]; exact hls) rfl hdg hf (by show 2 * 0 + _ + 12 ≤ _; omega) kk
/-- what a constructor's contract takes: its own cell, blank -/
def zKp (D : va_G) (tys : List (ClassId × FieldType)) (sz : Nat) (w : va_W) (U : State) : Prop := U.heap.size = sz ∧ va_P D zcl w U.heap ∧ va_K D zcl tys U ∧ va_D (fun _ => True) w ∧ zNe U
theorem zKp_blind {av : List Value} {sz : Nat} : FrameBlind (va_Pc av (zKp D tys sz ws)) := fun a U g mk q => by
  obtain ⟨q0, q1, qP, qK, qD, qN⟩ := q
  exact ⟨q0, q1, qP, va_K.moved (u := U) (U := U.calling g mk a) (Vm.Alike.refl U.vm) qK, qD, qN.same rfl⟩
theorem zKp_at (hK : va_K D zcl tys s) (hN : zNe s) (hP : va_P D zcl ws H) (hD : va_D A ws) {av : List Value} : ∀ U : State, U.heap = H → s.WarmedH U.vm → va_Pc av (zKp D tys H.size ws) av.toArray U := fun U hU hW =>
  ⟨rfl, by rw [hU], by rw [hU]; exact hP, va_K.moved hW.alike hK, hD.weaken (fun _ _ _ _ => trivial), hN.warm hW⟩
theorem zIn {z : MethodName} {bz : ByteArray} {mz : Nat} {rz : Option FieldType} (h : Cond.code z bz mz rz ∈ zt) : GoodIn zt (.code z bz mz rz :: zt) := fun w hw => by
  have hm : w ∈ zt := by
    rcases List.mem_cons.mp hw with rfl | hw
    · exact h
    · exact hw
  exact ⟨hm, zgood w hm⟩
theorem zn_I (S : zS p m c cc nL s args own) (hK : va_K D zcl tys s) (hN : zNe s) (hP : va_P D zcl ws H) (hD : va_D A ws) (hM : Met l y (.code y b mL none :: zt) rm (va_Pc (.ref a :: As) (zKp D tys H.size ws)) Qc mc ms (va_A ws H.size)) (hcode : Cond.code y b mL none ∈ zt) (hlink : Cond.methodLink own index y ∈ zt) (hinst : Cond.instanceMethod y ∈ zt) (hini : Cond.initialized y.cls ∈ zt) (hy : y.name = "<init>") (hd : y.cls ≠ "java/lang/invoke/MethodHandle" ∧ y.cls ≠ "java/lang/invoke/VarHandle" ∧ (parseMethodDescriptor y.desc).map (fun d => d.parameters.length) = some n) (hR : rm.frames + 1 ≤ R.frames ∧ 8 + (mL + 11) + rm.locals ≤ R.locals) (h0 : rm.cells = mc ∧ rm.slots = ms) (hn : As.length = n) (hsz : ls.size = nL) (hst : st0 = As.reverse ++ .ref a :: rest) (hW : (rest.map fun v => v.category).sum ≤ 8) (hdg : decode cc pc = .ok (.invokespecial index, 3)) (hf : cells + mc ≤ R.cells ∧ slots + ms ≤ R.slots) : va_Run p l e R s m args below meth c H locs cells slots mc ms (F0 m pc ls st0) rest (Qc (Value.ref a :: As).toArray) (va_A ws H.size) :=
  va_runI S hM (cwI n S.2.2.2.2 (zIn hcode) rfl h0.1 h0.2 (S.2.2.2.2 _ hini) (S.2.2.2.2 _ hlink) (S.2.2.2.2 _ hinst) hy hd hR) ⟨zKp_blind, zKp_at hK hN hP hD⟩ rfl hn hsz hst (lv_room (rest := st0) hW) hdg hf
theorem zn_IN (S : zS p m c cc nL s args own) (hK : va_K D zcl tys s) (hN : zNe s) (hP : va_P D zcl ws H) (hD : va_D A ws) (hM : Met l y (.code y b mL none :: zt) rm (va_Pc (.ref a :: As) (zKp D tys H.size ws)) Qc mc ms (va_A ws H.size)) (hcode : Cond.code y b mL none ∈ zt) {host : String} (hlink : (own, index, y, host) ∈ znM) (hinst : Cond.instanceMethod y ∈ zt) (hini : Cond.initialized y.cls ∈ zt) (hy : y.name = "<init>") (hd : y.cls ≠ "java/lang/invoke/MethodHandle" ∧ y.cls ≠ "java/lang/invoke/VarHandle" ∧ (parseMethodDescriptor y.desc).map (fun d => d.parameters.length) = some n) (hR : rm.frames + 1 ≤ R.frames ∧ 8 + (mL + 11) + rm.locals ≤ R.locals) (h0 : rm.cells = mc ∧ rm.slots = ms) (hn : As.length = n) (hsz : ls.size = nL) (hst : st0 = As.reverse ++ .ref a :: rest) (hW : (rest.map fun v => v.category).sum ≤ 8) (hdg : decode cc pc = .ok (.invokespecial index, 3)) (hf : cells + mc ≤ R.cells ∧ slots + ms ≤ R.slots) : va_Run p l e R s m args below meth c H locs cells slots mc ms (F0 m pc ls st0) rest (Qc (Value.ref a :: As).toArray) (va_A ws H.size) :=
  va_runIN S hM ⟨va_cnB n S.2.2.2.2 (zIn hcode) rfl h0.1 h0.2 (hN.2.1 _ hlink) (S.2.2.2.2 _ hini) hd hR, hy, S.2.2.2.2 _ hinst⟩ ⟨zKp_blind, zKp_at hK hN hP hD⟩ rfl hn hsz hst (lv_room (rest := st0) hW) hdg hf
end ZR
