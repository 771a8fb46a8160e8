/-! the walk's own judgement: W with its frame and its sizes inside; locals as a list; a decode row that names the next place -/
abbrev CX : Type := Program × Launch × Env × Room × State × MethodId × Array Value × List Frame × Method × Code
def WG (x : CX) (A : Nat → Prop) (Q : State → Prop) (H : Heap) (cells slots : Nat) (pc : Nat) (ls : List Slot) (st : List Value) : Prop :=
  match x with
  | (p, l, e, R, s, m, args, below, meth, c) => ∀ locs : List Loc, va_S A s.heap H locs → H.size = s.heap.size + cells → W p l e R s m args below meth c H locs cells slots Q (F0 m pc ls.toArray st)
/-- class numbers: of the classes, of the arrays' classes -/
abbrev DD : Type := va_G × (Nat → ClassId)
def tysOf (D : DD) : List (ClassId × FieldType) := [(D.2 0, .char), (D.2 1, .int), (D.2 2, .object RX5), (D.2 3, .object RX0), (D.2 4, .object RX3)]
def isNest : Cond → Bool
  | .fieldLinkNest _ _ _ _ _ _ => true
  | .methodLinkNest _ _ _ _ => true
  | _ => false
/-- the tables' words that a warmed state keeps -/
def lwt : List Cond := lw_tbl.filter (fun w => goodWord w || isNest w)
theorem wd_of {w : Cond} (i : Nat) (h : lw_tbl[i]? = some w) (h2 : (goodWord w || isNest w) = true) : w ∈ lwt := List.mem_filter.mpr ⟨List.mem_of_getElem? h, h2⟩
def KK (D : DD) (U : State) : Prop := va_K D.1 vwCl (tysOf D) U ∧ (∀ w ∈ lwt, w.before #[] U = true) ∧ va_AO RX5 U ∧ va_AO RX0 U ∧ va_AO RX3 U
theorem tbl_good {w : Cond} (h : w ∈ lwt) : (goodWord w || isNest w) = true := (List.mem_filter.mp h).2
theorem kk_warm {D : DD} {s U : State} (hW : s.WarmedH U.vm) (h : KK D s) : KK D U := by
  refine ⟨va_K.moved hW.alike h.1, fun w hw => ?_, va_AO.moved hW.alike h.2.2.1, va_AO.moved hW.alike h.2.2.2.1, va_AO.moved hW.alike h.2.2.2.2⟩
  have h1 := tbl_good hw
  rcases Bool.or_eq_true _ _ ▸ h1 with h2 | h2
  · exact word_at hW (good_of_word h2) (h.2.1 w hw)
  · cases w <;> first | exact va_Nw.warmF hW (h.2.1 _ hw) | exact va_Nw.warmM hW (h.2.1 _ hw) | cases h2
theorem kk_args {D : DD} {s : State} (h : KK D s) (args : Array Value) : ∀ w ∈ lwt, w.before args s = true := by
  intro w hw
  have h1 := tbl_good hw
  rcases Bool.or_eq_true _ _ ▸ h1 with h2 | h2
  · exact word_at (State.WarmedH.refl s) (good_of_word h2) (h.2.1 w hw)
  · cases w <;> first | exact va_Nw.use rfl (h.2.1 _ hw) | cases h2
def Cx (x : CX) (own : String) (cc : ByteArray) (nL : Nat) (D : DD) (ret : Option FieldType) (rm : Room) : Prop :=
  match x with
  | (p, _, _, R, s, m, _, _, meth, c) => p.tables.exec = Jvm.exec ∧ c.code = cc ∧ c.maxLocals = nL ∧ s.vm.findClass own = some m.cls ∧ KK D s ∧ meth.sig.returnType = ret ∧ meth.locks = false ∧ R = rm
def dec (cc : ByteArray) (pc : Nat) (i : Instr) (k n : Nat) : Prop := decode cc pc = .ok (i, k) ∧ pc + k = n
def decJ (cc : ByteArray) (pc : Nat) (i : Int → Instr) (k n tgt : Nat) : Prop := ∃ off : Int, decode cc pc = .ok (i off, k) ∧ pc + k = n ∧ (pc : Int) + off = (tgt : Int)
section RW
variable {x : CX} {own : String} {cc : ByteArray} {nL : Nat} {D : DD} {ret : Option FieldType} {rm : Room} {A : Nat → Prop} {Q : State → Prop} {H : Heap} {cs sl pc n tgt : Nat} {ls : List Slot} {rest : List Value}
theorem r_iconst (C : Cx x own cc nL D ret rm) {k : Int} (d : dec cc pc (.iconst k) 1 n) (v : Int32) (hv : Int32.ofInt k = v) (kk : WG x A Q H cs sl n ls (.int v :: rest)) : WG x A Q H cs sl pc ls rest := by
  obtain ⟨p, l, e, R, s, m, args, below, meth, c⟩ := x
  obtain ⟨d, rfl⟩ := d
  intro locs hS hz
  exact lv_iconst C.1 C.2.1 d hv (kk locs hS hz)
theorem r_bipush (C : Cx x own cc nL D ret rm) {k : Int} (d : dec cc pc (.bipush k) 2 n) (v : Int32) (hv : (Int8.ofInt k).toInt32 = v) (kk : WG x A Q H cs sl n ls (.int v :: rest)) : WG x A Q H cs sl pc ls rest := by
  obtain ⟨p, l, e, R, s, m, args, below, meth, c⟩ := x
  obtain ⟨d, rfl⟩ := d
  intro locs hS hz
  exact lv_bipush C.1 C.2.1 d hv (kk locs hS hz)
theorem r_sipush (C : Cx x own cc nL D ret rm) {k : Int} (d : dec cc pc (.sipush k) 3 n) (v : Int32) (hv : (Int16.ofInt k).toInt32 = v) (kk : WG x A Q H cs sl n ls (.int v :: rest)) : WG x A Q H cs sl pc ls rest := by
  obtain ⟨p, l, e, R, s, m, args, below, meth, c⟩ := x
  obtain ⟨d, rfl⟩ := d
  intro locs hS hz
  exact lv_sipush C.1 C.2.1 d hv (kk locs hS hz)
theorem r_iload_n (C : Cx x own cc nL D ret rm) {k : Fin 4} (d : dec cc pc (.iload_n k) 1 n) {v : Int32} (hl : ls[(k : Nat)]? = some (.val (.int v))) (kk : WG x A Q H cs sl n ls (.int v :: rest)) : WG x A Q H cs sl pc ls rest := by
  obtain ⟨p, l, e, R, s, m, args, below, meth, c⟩ := x
  obtain ⟨d, rfl⟩ := d
  intro locs hS hz
  exact lv_iload_n C.1 C.2.1 d rfl (by rw [List.getElem?_toArray]; exact hl) (kk locs hS hz)
theorem r_iload (C : Cx x own cc nL D ret rm) {k : Nat} (d : dec cc pc (.iload k) 2 n) {v : Int32} (hl : ls[k]? = some (.val (.int v))) (kk : WG x A Q H cs sl n ls (.int v :: rest)) : WG x A Q H cs sl pc ls rest := by
  obtain ⟨p, l, e, R, s, m, args, below, meth, c⟩ := x
  obtain ⟨d, rfl⟩ := d
  intro locs hS hz
  exact lv_iload C.1 C.2.1 d (by rw [List.getElem?_toArray]; exact hl) (kk locs hS hz)
theorem r_lload (C : Cx x own cc nL D ret rm) {k : Nat} (d : dec cc pc (.lload k) 2 n) {v : Int64} (hl : ls[k]? = some (.val (.long v))) (kk : WG x A Q H cs sl n ls (.long v :: rest)) : WG x A Q H cs sl pc ls rest := by
  obtain ⟨p, l, e, R, s, m, args, below, meth, c⟩ := x
  obtain ⟨d, rfl⟩ := d
  intro locs hS hz
  exact lv_lload C.1 C.2.1 d (by rw [List.getElem?_toArray]; exact hl) (kk locs hS hz)
theorem r_aload_n (C : Cx x own cc nL D ret rm) {k : Fin 4} (d : dec cc pc (.aload_n k) 1 n) {v : Nat} (hl : ls[(k : Nat)]? = some (.val (.ref v))) (kk : WG x A Q H cs sl n ls (.ref v :: rest)) : WG x A Q H cs sl pc ls rest := by
  obtain ⟨p, l, e, R, s, m, args, below, meth, c⟩ := x
  obtain ⟨d, rfl⟩ := d
  intro locs hS hz
  exact lv_aload_n C.1 C.2.1 d rfl (by rw [List.getElem?_toArray]; exact hl) (kk locs hS hz)
theorem r_aload (C : Cx x own cc nL D ret rm) {k : Nat} (d : dec cc pc (.aload k) 2 n) {v : Nat} (hl : ls[k]? = some (.val (.ref v))) (kk : WG x A Q H cs sl n ls (.ref v :: rest)) : WG x A Q H cs sl pc ls rest := by
  obtain ⟨p, l, e, R, s, m, args, below, meth, c⟩ := x
  obtain ⟨d, rfl⟩ := d
  intro locs hS hz
  exact lv_aload C.1 C.2.1 d (by rw [List.getElem?_toArray]; exact hl) (kk locs hS hz)
theorem r_aload_nN (C : Cx x own cc nL D ret rm) {k : Fin 4} (d : dec cc pc (.aload_n k) 1 n) (hl : ls[(k : Nat)]? = some (.val .null)) (kk : WG x A Q H cs sl n ls (.null :: rest)) : WG x A Q H cs sl pc ls rest := by
  obtain ⟨p, l, e, R, s, m, args, below, meth, c⟩ := x
  obtain ⟨d, rfl⟩ := d
  have hl' : ls.toArray[(k : Nat)]? = some (.val .null) := by rw [List.getElem?_toArray]; exact hl
  intro locs hS hz T hT X
  obtain ⟨t, a, b⟩ := kk locs hS hz T hT X
  refine ⟨t, ?_, b⟩
  jvm_step X.here [X.here.top, C.1, C.2.1, d, hl']
  exact ⟨rfl, a⟩
theorem r_aloadN (C : Cx x own cc nL D ret rm) {k : Nat} (d : dec cc pc (.aload k) 2 n) (hl : ls[k]? = some (.val .null)) (kk : WG x A Q H cs sl n ls (.null :: rest)) : WG x A Q H cs sl pc ls rest := by
  obtain ⟨p, l, e, R, s, m, args, below, meth, c⟩ := x
  obtain ⟨d, rfl⟩ := d
  have hl' : ls.toArray[k]? = some (.val .null) := by rw [List.getElem?_toArray]; exact hl
  intro locs hS hz T hT X
  obtain ⟨t, a, b⟩ := kk locs hS hz T hT X
  refine ⟨t, ?_, b⟩
  jvm_step X.here [X.here.top, C.1, C.2.1, d, hl']
  exact ⟨rfl, a⟩
def slot1 (z : Slot) : Prop := match z with | .second => False | .val old => old.category = 1 | .unset => True
theorem st_set {z : Slot} {i : Nat} {v : Value} (hl : ls[i]? = some z) (hz : slot1 z) (hv : v.category = 1) : storeLocals ls.toArray i v = some (ls.set i (.val v)).toArray := by
  have h : ls.toArray[i]? = some z := by rw [List.getElem?_toArray]; exact hl
  cases z with
  | second => exact hz.elim
  | val old => rw [storeLocals_cat1 h hv hz]; simp
  | unset => rw [storeLocals_cat1 h hv trivial]; simp
theorem r_istore_n (C : Cx x own cc nL D ret rm) {k : Fin 4} (d : dec cc pc (.istore_n k) 1 n) {v : Int32} {z : Slot} (hl : ls[(k : Nat)]? = some z) (hz : slot1 z) {ls' : List Slot} (he : ls.set k (.val (.int v)) = ls') (kk : WG x A Q H cs sl n ls' rest) : WG x A Q H cs sl pc ls (.int v :: rest) := by
  obtain ⟨p, l, e, R, s, m, args, below, meth, c⟩ := x
  obtain ⟨d, rfl⟩ := d
  subst he
  have e' := st_set (v := .int v) hl hz rfl
  intro locs hS hz T hT X
  obtain ⟨t, a, b⟩ := kk locs hS hz T hT X
  refine ⟨t, ?_, b⟩
  jvm_step X.here [X.here.top, ↓top_set X.here.top, C.1, C.2.1, d, e']
  exact a
theorem r_istore (C : Cx x own cc nL D ret rm) {k : Nat} (d : dec cc pc (.istore k) 2 n) {v : Int32} {z : Slot} (hl : ls[k]? = some z) (hz : slot1 z) {ls' : List Slot} (he : ls.set k (.val (.int v)) = ls') (kk : WG x A Q H cs sl n ls' rest) : WG x A Q H cs sl pc ls (.int v :: rest) := by
  obtain ⟨p, l, e, R, s, m, args, below, meth, c⟩ := x
  obtain ⟨d, rfl⟩ := d
  subst he
  have e' := st_set (v := .int v) hl hz rfl
  intro locs hS hz T hT X
  obtain ⟨t, a, b⟩ := kk locs hS hz T hT X
  refine ⟨t, ?_, b⟩
  jvm_step X.here [X.here.top, ↓top_set X.here.top, C.1, C.2.1, d, e']
  exact a
theorem r_astore_n (C : Cx x own cc nL D ret rm) {k : Fin 4} (d : dec cc pc (.astore_n k) 1 n) {v : Nat} {z : Slot} (hl : ls[(k : Nat)]? = some z) (hz : slot1 z) {ls' : List Slot} (he : ls.set k (.val (.ref v)) = ls') (kk : WG x A Q H cs sl n ls' rest) : WG x A Q H cs sl pc ls (.ref v :: rest) := by
  obtain ⟨p, l, e, R, s, m, args, below, meth, c⟩ := x
  obtain ⟨d, rfl⟩ := d
  subst he
  have e' := st_set (v := .ref v) hl hz rfl
  intro locs hS hz T hT X
  obtain ⟨t, a, b⟩ := kk locs hS hz T hT X
  refine ⟨t, ?_, b⟩
  jvm_step X.here [X.here.top, ↓top_set X.here.top, C.1, C.2.1, d, e']
  exact ⟨rfl, a⟩
theorem r_astore (C : Cx x own cc nL D ret rm) {k : Nat} (d : dec cc pc (.astore k) 2 n) {v : Nat} {z : Slot} (hl : ls[k]? = some z) (hz : slot1 z) {ls' : List Slot} (he : ls.set k (.val (.ref v)) = ls') (kk : WG x A Q H cs sl n ls' rest) : WG x A Q H cs sl pc ls (.ref v :: rest) := by
  obtain ⟨p, l, e, R, s, m, args, below, meth, c⟩ := x
  obtain ⟨d, rfl⟩ := d
  subst he
  have e' := st_set (v := .ref v) hl hz rfl
  intro locs hS hz T hT X
  obtain ⟨t, a, b⟩ := kk locs hS hz T hT X
  refine ⟨t, ?_, b⟩
  jvm_step X.here [X.here.top, ↓top_set X.here.top, C.1, C.2.1, d, e']
  exact ⟨rfl, a⟩
theorem r_astore_nN (C : Cx x own cc nL D ret rm) {k : Fin 4} (d : dec cc pc (.astore_n k) 1 n) {z : Slot} (hl : ls[(k : Nat)]? = some z) (hz : slot1 z) {ls' : List Slot} (he : ls.set k (.val .null) = ls') (kk : WG x A Q H cs sl n ls' rest) : WG x A Q H cs sl pc ls (.null :: rest) := by
  obtain ⟨p, l, e, R, s, m, args, below, meth, c⟩ := x
  obtain ⟨d, rfl⟩ := d
  subst he
  have e' := st_set (v := .null) hl hz rfl
  intro locs hS hz T hT X
  obtain ⟨t, a, b⟩ := kk locs hS hz T hT X
  refine ⟨t, ?_, b⟩
  jvm_step X.here [X.here.top, ↓top_set X.here.top, C.1, C.2.1, d, e']
  exact ⟨rfl, a⟩
theorem r_astoreN (C : Cx x own cc nL D ret rm) {k : Nat} (d : dec cc pc (.astore k) 2 n) {z : Slot} (hl : ls[k]? = some z) (hz : slot1 z) {ls' : List Slot} (he : ls.set k (.val .null) = ls') (kk : WG x A Q H cs sl n ls' rest) : WG x A Q H cs sl pc ls (.null :: rest) := by
  obtain ⟨p, l, e, R, s, m, args, below, meth, c⟩ := x
  obtain ⟨d, rfl⟩ := d
  subst he
  have e' := st_set (v := .null) hl hz rfl
  intro locs hS hz T hT X
  obtain ⟨t, a, b⟩ := kk locs hS hz T hT X
  refine ⟨t, ?_, b⟩
  jvm_step X.here [X.here.top, ↓top_set X.here.top, C.1, C.2.1, d, e']
  exact ⟨rfl, a⟩
theorem r_lstore (C : Cx x own cc nL D ret rm) {k : Nat} (d : dec cc pc (.lstore k) 2 n) {v : Int64} {ls' : List Slot} (he : storeLocals ls.toArray k (.long v) = some ls'.toArray) (kk : WG x A Q H cs sl n ls' rest) : WG x A Q H cs sl pc ls (.long v :: rest) := by
  obtain ⟨p, l, e, R, s, m, args, below, meth, c⟩ := x
  obtain ⟨d, rfl⟩ := d
  intro locs hS hz T hT X
  obtain ⟨t, a, b⟩ := kk locs hS hz T hT X
  refine ⟨t, ?_, b⟩
  jvm_step X.here [X.here.top, ↓top_set X.here.top, C.1, C.2.1, d, he]
  exact a
theorem r_iinc (C : Cx x own cc nL D ret rm) {k : Nat} {j : Int} (d : dec cc pc (.iinc k j) 3 n) {y : Int32} (v : Int32) (hl : ls[k]? = some (.val (.int y))) (hv : y + Int32.ofInt j = v) {ls' : List Slot} (he : ls.set k (.val (.int v)) = ls') (kk : WG x A Q H cs sl n ls' rest) : WG x A Q H cs sl pc ls rest := by
  obtain ⟨p, l, e, R, s, m, args, below, meth, c⟩ := x
  obtain ⟨d, rfl⟩ := d
  subst he
  subst hv
  have e' := st_set (v := .int (y + Int32.ofInt j)) hl rfl rfl
  have hg : ls.toArray[k]? = some (.val (.int y)) := by rw [List.getElem?_toArray]; exact hl
  intro locs hS hz T hT X
  obtain ⟨t, a, b⟩ := kk locs hS hz T hT X
  refine ⟨t, ?_, b⟩
  jvm_step X.here [X.here.top, ↓top_set X.here.top, C.1, C.2.1, d, hg, e']
  exact a
theorem r_iadd (C : Cx x own cc nL D ret rm) {a b : Int32} (d : dec cc pc .iadd 1 n) (kk : WG x A Q H cs sl n ls (.int (a + b) :: rest)) : WG x A Q H cs sl pc ls (.int b :: .int a :: rest) := by
  obtain ⟨p, l, e, R, s, m, args, below, meth, c⟩ := x
  obtain ⟨d, rfl⟩ := d
  intro locs hS hz
  exact lv_iadd C.1 C.2.1 d (kk locs hS hz)
theorem r_isub (C : Cx x own cc nL D ret rm) {a b : Int32} (d : dec cc pc .isub 1 n) (kk : WG x A Q H cs sl n ls (.int (a - b) :: rest)) : WG x A Q H cs sl pc ls (.int b :: .int a :: rest) := by
  obtain ⟨p, l, e, R, s, m, args, below, meth, c⟩ := x
  obtain ⟨d, rfl⟩ := d
  intro locs hS hz
  exact lv_isub C.1 C.2.1 d (kk locs hS hz)
theorem r_imul (C : Cx x own cc nL D ret rm) {a b : Int32} (d : dec cc pc .imul 1 n) (kk : WG x A Q H cs sl n ls (.int (a * b) :: rest)) : WG x A Q H cs sl pc ls (.int b :: .int a :: rest) := by
  obtain ⟨p, l, e, R, s, m, args, below, meth, c⟩ := x
  obtain ⟨d, rfl⟩ := d
  intro locs hS hz
  exact lv_imul C.1 C.2.1 d (kk locs hS hz)
theorem r_iand (C : Cx x own cc nL D ret rm) {a b : Int32} (d : dec cc pc .iand 1 n) (kk : WG x A Q H cs sl n ls (.int (a &&& b) :: rest)) : WG x A Q H cs sl pc ls (.int b :: .int a :: rest) := by
  obtain ⟨p, l, e, R, s, m, args, below, meth, c⟩ := x
  obtain ⟨d, rfl⟩ := d
  intro locs hS hz
  exact lv_iand C.1 C.2.1 d (kk locs hS hz)
theorem r_ior (C : Cx x own cc nL D ret rm) {a b : Int32} (d : dec cc pc .ior 1 n) (kk : WG x A Q H cs sl n ls (.int (a ||| b) :: rest)) : WG x A Q H cs sl pc ls (.int b :: .int a :: rest) := by
  obtain ⟨p, l, e, R, s, m, args, below, meth, c⟩ := x
  obtain ⟨d, rfl⟩ := d
  intro locs hS hz
  exact lv_ior C.1 C.2.1 d (kk locs hS hz)
theorem r_idiv (C : Cx x own cc nL D ret rm) {a b : Int32} (d : dec cc pc .idiv 1 n) (hne : ¬ b = 0) (kk : WG x A Q H cs sl n ls (.int (a / b) :: rest)) : WG x A Q H cs sl pc ls (.int b :: .int a :: rest) := by
  obtain ⟨p, l, e, R, s, m, args, below, meth, c⟩ := x
  obtain ⟨d, rfl⟩ := d
  intro locs hS hz
  exact lv_idiv C.1 C.2.1 d hne (kk locs hS hz)
theorem r_irem (C : Cx x own cc nL D ret rm) {a b : Int32} (d : dec cc pc .irem 1 n) (hne : ¬ b = 0) (kk : WG x A Q H cs sl n ls (.int (a - a / b * b) :: rest)) : WG x A Q H cs sl pc ls (.int b :: .int a :: rest) := by
  obtain ⟨p, l, e, R, s, m, args, below, meth, c⟩ := x
  obtain ⟨d, rfl⟩ := d
  intro locs hS hz
  exact lv_irem C.1 C.2.1 d hne (kk locs hS hz)
theorem r_ishl (C : Cx x own cc nL D ret rm) {a b : Int32} (d : dec cc pc .ishl 1 n) (kk : WG x A Q H cs sl n ls (.int (a <<< (b &&& 31)) :: rest)) : WG x A Q H cs sl pc ls (.int b :: .int a :: rest) := by
  obtain ⟨p, l, e, R, s, m, args, below, meth, c⟩ := x
  obtain ⟨d, rfl⟩ := d
  intro locs hS hz
  exact lv_ishl C.1 C.2.1 d (kk locs hS hz)
theorem r_ishr (C : Cx x own cc nL D ret rm) {a b : Int32} (d : dec cc pc .ishr 1 n) (kk : WG x A Q H cs sl n ls (.int (a >>> (b &&& 31)) :: rest)) : WG x A Q H cs sl pc ls (.int b :: .int a :: rest) := by
  obtain ⟨p, l, e, R, s, m, args, below, meth, c⟩ := x
  obtain ⟨d, rfl⟩ := d
  intro locs hS hz
  exact lv_ishr C.1 C.2.1 d (kk locs hS hz)
theorem r_ladd (C : Cx x own cc nL D ret rm) {a b : Int64} (d : dec cc pc .ladd 1 n) (kk : WG x A Q H cs sl n ls (.long (a + b) :: rest)) : WG x A Q H cs sl pc ls (.long b :: .long a :: rest) := by
  obtain ⟨p, l, e, R, s, m, args, below, meth, c⟩ := x
  obtain ⟨d, rfl⟩ := d
  intro locs hS hz
  exact lv_ladd C.1 C.2.1 d (kk locs hS hz)
theorem r_lmul (C : Cx x own cc nL D ret rm) {a b : Int64} (d : dec cc pc .lmul 1 n) (kk : WG x A Q H cs sl n ls (.long (a * b) :: rest)) : WG x A Q H cs sl pc ls (.long b :: .long a :: rest) := by
  obtain ⟨p, l, e, R, s, m, args, below, meth, c⟩ := x
  obtain ⟨d, rfl⟩ := d
  intro locs hS hz
  exact lv_lmul C.1 C.2.1 d (kk locs hS hz)
theorem r_ldiv (C : Cx x own cc nL D ret rm) {a b : Int64} (d : dec cc pc .ldiv 1 n) (hne : ¬ b = 0) (kk : WG x A Q H cs sl n ls (.long (a / b) :: rest)) : WG x A Q H cs sl pc ls (.long b :: .long a :: rest) := by
  obtain ⟨p, l, e, R, s, m, args, below, meth, c⟩ := x
  obtain ⟨d, rfl⟩ := d
  intro locs hS hz
  exact lv_ldiv C.1 C.2.1 d hne (kk locs hS hz)
theorem r_lrem (C : Cx x own cc nL D ret rm) {a b : Int64} (d : dec cc pc .lrem 1 n) (hne : ¬ b = 0) (kk : WG x A Q H cs sl n ls (.long (a - a / b * b) :: rest)) : WG x A Q H cs sl pc ls (.long b :: .long a :: rest) := by
  obtain ⟨p, l, e, R, s, m, args, below, meth, c⟩ := x
  obtain ⟨d, rfl⟩ := d
  intro locs hS hz
  exact lv_lrem C.1 C.2.1 d hne (kk locs hS hz)
theorem r_i2l (C : Cx x own cc nL D ret rm) {a : Int32} (d : dec cc pc .i2l 1 n) (kk : WG x A Q H cs sl n ls (.long a.toInt64 :: rest)) : WG x A Q H cs sl pc ls (.int a :: rest) := by
  obtain ⟨p, l, e, R, s, m, args, below, meth, c⟩ := x
  obtain ⟨d, rfl⟩ := d
  intro locs hS hz
  exact lv_i2l C.1 C.2.1 d rfl (kk locs hS hz)
theorem r_l2i (C : Cx x own cc nL D ret rm) {a : Int64} (d : dec cc pc .l2i 1 n) (kk : WG x A Q H cs sl n ls (.int a.toInt32 :: rest)) : WG x A Q H cs sl pc ls (.long a :: rest) := by
  obtain ⟨p, l, e, R, s, m, args, below, meth, c⟩ := x
  obtain ⟨d, rfl⟩ := d
  intro locs hS hz
  exact lv_l2i C.1 C.2.1 d rfl (kk locs hS hz)
theorem r_i2c (C : Cx x own cc nL D ret rm) {a : Int32} (d : dec cc pc .i2c 1 n) (kk : WG x A Q H cs sl n ls (.int (a.toUInt32 % 65536).toInt32 :: rest)) : WG x A Q H cs sl pc ls (.int a :: rest) := by
  obtain ⟨p, l, e, R, s, m, args, below, meth, c⟩ := x
  obtain ⟨d, rfl⟩ := d
  intro locs hS hz
  exact lv_i2c C.1 C.2.1 d rfl (kk locs hS hz)
theorem r_lconst1 (C : Cx x own cc nL D ret rm) (d : dec cc pc (.lconst 1) 1 n) (kk : WG x A Q H cs sl n ls (.long 1 :: rest)) : WG x A Q H cs sl pc ls (rest) := by
  obtain ⟨p, l, e, R, s, m, args, below, meth, c⟩ := x
  obtain ⟨d, rfl⟩ := d
  intro locs hS hz
  exact lv_lconst C.1 C.2.1 d rfl (kk locs hS hz)
theorem r_dup (C : Cx x own cc nL D ret rm) {a : Value} (d : dec cc pc .dup 1 n) (ha : a.category = 1) (kk : WG x A Q H cs sl n ls (a :: a :: rest)) : WG x A Q H cs sl pc ls (a :: rest) := by
  obtain ⟨p, l, e, R, s, m, args, below, meth, c⟩ := x
  obtain ⟨d, rfl⟩ := d
  intro locs hS hz
  exact lv_dup C.1 C.2.1 d ha (kk locs hS hz)
theorem r_dup2 (C : Cx x own cc nL D ret rm) {a b : Value} (d : dec cc pc .dup2 1 n) (ha : a.category = 1) (hb : b.category = 1) (kk : WG x A Q H cs sl n ls (a :: b :: a :: b :: rest)) : WG x A Q H cs sl pc ls (a :: b :: rest) := by
  obtain ⟨p, l, e, R, s, m, args, below, meth, c⟩ := x
  obtain ⟨d, rfl⟩ := d
  intro locs hS hz
  exact lv_dup2_11 C.1 C.2.1 d ha hb (kk locs hS hz)
theorem r_dup2l (C : Cx x own cc nL D ret rm) {a : Int64} (d : dec cc pc .dup2 1 n) (kk : WG x A Q H cs sl n ls (.long a :: .long a :: rest)) : WG x A Q H cs sl pc ls (.long a :: rest) := by
  obtain ⟨p, l, e, R, s, m, args, below, meth, c⟩ := x
  obtain ⟨d, rfl⟩ := d
  intro locs hS hz
  exact lv_dup2_2 C.1 C.2.1 d rfl (kk locs hS hz)
theorem r_pop (C : Cx x own cc nL D ret rm) {a : Value} (d : dec cc pc .pop 1 n) (ha : a.category = 1) (kk : WG x A Q H cs sl n ls (rest)) : WG x A Q H cs sl pc ls (a :: rest) := by
  obtain ⟨p, l, e, R, s, m, args, below, meth, c⟩ := x
  obtain ⟨d, rfl⟩ := d
  intro locs hS hz
  exact lv_pop C.1 C.2.1 d ha (kk locs hS hz)
theorem r_if_eq (C : Cx x own cc nL D ret rm) {a : Int32} (d : decJ cc pc (.ifCond .eq) 3 n tgt) (kt : a = 0 → WG x A Q H cs sl tgt ls rest) (kf : ¬ (a = 0) → WG x A Q H cs sl n ls rest) : WG x A Q H cs sl pc ls (.int a :: rest) := by
  obtain ⟨p, l, e, R, s, m, args, below, meth, c⟩ := x
  obtain ⟨off, d, rfl, ht⟩ := d
  intro locs hS hz
  exact lv_if_eq C.1 C.2.1 d ht (fun h => kt h locs hS hz) (fun h => kf h locs hS hz)
theorem r_ic_eq (C : Cx x own cc nL D ret rm) {a b : Int32} (d : decJ cc pc (.if_icmp .eq) 3 n tgt) (kt : a = b → WG x A Q H cs sl tgt ls rest) (kf : ¬ (a = b) → WG x A Q H cs sl n ls rest) : WG x A Q H cs sl pc ls (.int b :: .int a :: rest) := by
  obtain ⟨p, l, e, R, s, m, args, below, meth, c⟩ := x
  obtain ⟨off, d, rfl, ht⟩ := d
  intro locs hS hz
  exact lv_icmp_eq C.1 C.2.1 d ht (fun h => kt h locs hS hz) (fun h => kf h locs hS hz)
theorem r_if_ne (C : Cx x own cc nL D ret rm) {a : Int32} (d : decJ cc pc (.ifCond .ne) 3 n tgt) (kt : ¬ a = 0 → WG x A Q H cs sl tgt ls rest) (kf : a = 0 → WG x A Q H cs sl n ls rest) : WG x A Q H cs sl pc ls (.int a :: rest) := by
  obtain ⟨p, l, e, R, s, m, args, below, meth, c⟩ := x
  obtain ⟨off, d, rfl, ht⟩ := d
  intro locs hS hz
  exact lv_if_ne C.1 C.2.1 d ht (fun h => kt h locs hS hz) (fun h => kf h locs hS hz)
theorem r_ic_ne (C : Cx x own cc nL D ret rm) {a b : Int32} (d : decJ cc pc (.if_icmp .ne) 3 n tgt) (kt : ¬ a = b → WG x A Q H cs sl tgt ls rest) (kf : a = b → WG x A Q H cs sl n ls rest) : WG x A Q H cs sl pc ls (.int b :: .int a :: rest) := by
  obtain ⟨p, l, e, R, s, m, args, below, meth, c⟩ := x
  obtain ⟨off, d, rfl, ht⟩ := d
  intro locs hS hz
  exact lv_icmp_ne C.1 C.2.1 d ht (fun h => kt h locs hS hz) (fun h => kf h locs hS hz)
theorem r_if_lt (C : Cx x own cc nL D ret rm) {a : Int32} (d : decJ cc pc (.ifCond .lt) 3 n tgt) (kt : a < 0 → WG x A Q H cs sl tgt ls rest) (kf : ¬ (a < 0) → WG x A Q H cs sl n ls rest) : WG x A Q H cs sl pc ls (.int a :: rest) := by
  obtain ⟨p, l, e, R, s, m, args, below, meth, c⟩ := x
  obtain ⟨off, d, rfl, ht⟩ := d
  intro locs hS hz
  exact lv_if_lt C.1 C.2.1 d ht (fun h => kt h locs hS hz) (fun h => kf h locs hS hz)
theorem r_ic_lt (C : Cx x own cc nL D ret rm) {a b : Int32} (d : decJ cc pc (.if_icmp .lt) 3 n tgt) (kt : a < b → WG x A Q H cs sl tgt ls rest) (kf : ¬ (a < b) → WG x A Q H cs sl n ls rest) : WG x A Q H cs sl pc ls (.int b :: .int a :: rest) := by
  obtain ⟨p, l, e, R, s, m, args, below, meth, c⟩ := x
  obtain ⟨off, d, rfl, ht⟩ := d
  intro locs hS hz
  exact lv_icmp_lt C.1 C.2.1 d ht (fun h => kt h locs hS hz) (fun h => kf h locs hS hz)
theorem r_if_ge (C : Cx x own cc nL D ret rm) {a : Int32} (d : decJ cc pc (.ifCond .ge) 3 n tgt) (kt : 0 ≤ a → WG x A Q H cs sl tgt ls rest) (kf : ¬ (0 ≤ a) → WG x A Q H cs sl n ls rest) : WG x A Q H cs sl pc ls (.int a :: rest) := by
  obtain ⟨p, l, e, R, s, m, args, below, meth, c⟩ := x
  obtain ⟨off, d, rfl, ht⟩ := d
  intro locs hS hz
  exact lv_if_ge C.1 C.2.1 d ht (fun h => kt h locs hS hz) (fun h => kf h locs hS hz)
theorem r_ic_ge (C : Cx x own cc nL D ret rm) {a b : Int32} (d : decJ cc pc (.if_icmp .ge) 3 n tgt) (kt : b ≤ a → WG x A Q H cs sl tgt ls rest) (kf : ¬ (b ≤ a) → WG x A Q H cs sl n ls rest) : WG x A Q H cs sl pc ls (.int b :: .int a :: rest) := by
  obtain ⟨p, l, e, R, s, m, args, below, meth, c⟩ := x
  obtain ⟨off, d, rfl, ht⟩ := d
  intro locs hS hz
  exact lv_icmp_ge C.1 C.2.1 d ht (fun h => kt h locs hS hz) (fun h => kf h locs hS hz)
theorem r_if_gt (C : Cx x own cc nL D ret rm) {a : Int32} (d : decJ cc pc (.ifCond .gt) 3 n tgt) (kt : 0 < a → WG x A Q H cs sl tgt ls rest) (kf : ¬ (0 < a) → WG x A Q H cs sl n ls rest) : WG x A Q H cs sl pc ls (.int a :: rest) := by
  obtain ⟨p, l, e, R, s, m, args, below, meth, c⟩ := x
  obtain ⟨off, d, rfl, ht⟩ := d
  intro locs hS hz
  exact lv_if_gt C.1 C.2.1 d ht (fun h => kt h locs hS hz) (fun h => kf h locs hS hz)
theorem r_ic_gt (C : Cx x own cc nL D ret rm) {a b : Int32} (d : decJ cc pc (.if_icmp .gt) 3 n tgt) (kt : b < a → WG x A Q H cs sl tgt ls rest) (kf : ¬ (b < a) → WG x A Q H cs sl n ls rest) : WG x A Q H cs sl pc ls (.int b :: .int a :: rest) := by
  obtain ⟨p, l, e, R, s, m, args, below, meth, c⟩ := x
  obtain ⟨off, d, rfl, ht⟩ := d
  intro locs hS hz
  exact lv_icmp_gt C.1 C.2.1 d ht (fun h => kt h locs hS hz) (fun h => kf h locs hS hz)
theorem r_if_le (C : Cx x own cc nL D ret rm) {a : Int32} (d : decJ cc pc (.ifCond .le) 3 n tgt) (kt : a ≤ 0 → WG x A Q H cs sl tgt ls rest) (kf : ¬ (a ≤ 0) → WG x A Q H cs sl n ls rest) : WG x A Q H cs sl pc ls (.int a :: rest) := by
  obtain ⟨p, l, e, R, s, m, args, below, meth, c⟩ := x
  obtain ⟨off, d, rfl, ht⟩ := d
  intro locs hS hz
  exact lv_if_le C.1 C.2.1 d ht (fun h => kt h locs hS hz) (fun h => kf h locs hS hz)
theorem r_ic_le (C : Cx x own cc nL D ret rm) {a b : Int32} (d : decJ cc pc (.if_icmp .le) 3 n tgt) (kt : a ≤ b → WG x A Q H cs sl tgt ls rest) (kf : ¬ (a ≤ b) → WG x A Q H cs sl n ls rest) : WG x A Q H cs sl pc ls (.int b :: .int a :: rest) := by
  obtain ⟨p, l, e, R, s, m, args, below, meth, c⟩ := x
  obtain ⟨off, d, rfl, ht⟩ := d
  intro locs hS hz
  exact lv_icmp_le C.1 C.2.1 d ht (fun h => kt h locs hS hz) (fun h => kf h locs hS hz)
theorem r_goto (C : Cx x own cc nL D ret rm) (d : decJ cc pc .goto 3 n tgt) (kk : WG x A Q H cs sl tgt ls rest) : WG x A Q H cs sl pc ls rest := by
  obtain ⟨p, l, e, R, s, m, args, below, meth, c⟩ := x
  obtain ⟨off, d, rfl, ht⟩ := d
  intro locs hS hz
  exact lv_goto C.1 C.2.1 d ht (kk locs hS hz)
theorem r_ifnonnull (C : Cx x own cc nL D ret rm) {a : Nat} (d : decJ cc pc .ifnonnull 3 n tgt) (kk : WG x A Q H cs sl tgt ls rest) : WG x A Q H cs sl pc ls (.ref a :: rest) := by
  obtain ⟨p, l, e, R, s, m, args, below, meth, c⟩ := x
  obtain ⟨off, d, rfl, ht⟩ := d
  intro locs hS hz
  exact lv_ifnonnull C.1 C.2.1 d ht (kk locs hS hz)
theorem r_ifnonnullN (C : Cx x own cc nL D ret rm) (d : decJ cc pc .ifnonnull 3 n tgt) (kk : WG x A Q H cs sl n ls rest) : WG x A Q H cs sl pc ls (.null :: rest) := by
  obtain ⟨p, l, e, R, s, m, args, below, meth, c⟩ := x
  obtain ⟨off, d, rfl, ht⟩ := d
  intro locs hS hz
  exact lv_ifnonnullN C.1 C.2.1 d (kk locs hS hz)
theorem r_ifnull (C : Cx x own cc nL D ret rm) {a : Nat} (d : decJ cc pc .ifnull 3 n tgt) (kk : WG x A Q H cs sl n ls rest) : WG x A Q H cs sl pc ls (.ref a :: rest) := by
  obtain ⟨p, l, e, R, s, m, args, below, meth, c⟩ := x
  obtain ⟨off, d, rfl, ht⟩ := d
  intro locs hS hz
  exact lv_ifnull C.1 C.2.1 d (kk locs hS hz)
theorem r_ifnullN (C : Cx x own cc nL D ret rm) (d : decJ cc pc .ifnull 3 n tgt) (kk : WG x A Q H cs sl tgt ls rest) : WG x A Q H cs sl pc ls (.null :: rest) := by
  obtain ⟨p, l, e, R, s, m, args, below, meth, c⟩ := x
  obtain ⟨off, d, rfl, ht⟩ := d
  intro locs hS hz
  exact lv_ifnullN C.1 C.2.1 d ht (kk locs hS hz)
theorem r_aconst_null (C : Cx x own cc nL D ret rm) (d : dec cc pc .aconst_null 1 n) (kk : WG x A Q H cs sl n ls (.null :: rest)) : WG x A Q H cs sl pc ls rest := by
  obtain ⟨p, l, e, R, s, m, args, below, meth, c⟩ := x
  obtain ⟨d, rfl⟩ := d
  intro locs hS hz T hT X
  obtain ⟨t, a, b⟩ := kk locs hS hz T hT X
  refine ⟨t, ?_, b⟩
  jvm_step X.here [X.here.top, C.1, C.2.1, d]
  exact a
theorem r_ldc2 (C : Cx x own cc nL D ret rm) {idx : Nat} {v : Int64} (d : dec cc pc (.ldc2_w idx) 3 n) (hw : Cond.constantLong own idx v ∈ lwt) (kk : WG x A Q H cs sl n ls (.long v :: rest)) : WG x A Q H cs sl pc ls rest := by
  obtain ⟨p, l, e, R, s, m, args, below, meth, c⟩ := x
  obtain ⟨d, rfl⟩ := d
  intro locs hS hz
  exact lv_ldc2 C.1 C.2.1 C.2.2.2.1 (kk_args C.2.2.2.2.1 args _ hw) d (kk locs hS hz)
end RW
