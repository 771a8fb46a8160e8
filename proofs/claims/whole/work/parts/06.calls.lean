/-! arrays, Math, returns, contracts, calls -/
theorem frame0 {A' : Nat → Prop} {H H1 : Heap} (hz : H1.size = H.size + 0) (hq : ∀ q, q < H.size → ¬ A' q → H1[q]? = H[q]?) : ∀ q, ¬ A' q → H1[q]? = H[q]? := by
  intro q hA
  by_cases h : q < H.size
  · exact hq q h hA
  · rw [Array.getElem?_eq_none (by omega), Array.getElem?_eq_none (by omega)]
section RA
variable {x : CX} {own : String} {cc : ByteArray} {nL : Nat} {D : DD} {ret : Option FieldType} {rm : Room} {A : Nat → Prop} {Q : State → Prop} {H : Heap} {cs sl pc n tgt : Nat} {ls : List Slot} {rest : List Value} {ks : List (Nat × Nat)} {o : Nat} {R : Nat → Nat → Int32}
theorem one_P {G : va_G} {a : Nat} {e : va_E} {H : Heap} (h : va_at G vwCl (a, e) H) : va_P G vwCl [(a, e)] H := by
  intro i q hq
  have : i = 0 := by
    have := (List.getElem?_eq_some_iff.mp hq).1
    simpa using this
  subst this
  cases hq
  exact h
theorem r_alen (C : Cx x own cc nL D ret rm) {a k m t : Nat} (hb : blk D ks o R H) (hk : ks[k]? = some (t, m)) (ha : a = o + k) (N : Nat) (hN : (t = 8 ∧ m = N) ∨ (t = 9 ∧ m = N) ∨ (t = 10 ∧ N = 6) ∨ (t = 11 ∧ N = 3) ∨ (t = 12 ∧ m = N)) (d : dec cc pc .arraylength 1 n) (kk : WG x A Q H cs sl n ls (.int (nI N) :: rest)) : WG x A Q H cs sl pc ls (.ref a :: rest) := by
  subst ha
  obtain ⟨p, l, e, R0, s, m0, args, below, meth, c⟩ := x
  obtain ⟨d, rfl⟩ := d
  have h0 := hb k _ hk
  intro locs hS hz
  rcases hN with ⟨rfl, rfl⟩ | ⟨rfl, rfl⟩ | ⟨rfl, rfl⟩ | ⟨rfl, rfl⟩ | ⟨rfl, rfl⟩
  · exact va_alen C.1 C.2.1 C.2.2.2.2.1.1 (one_P (cel_8.mp h0)) 0 1 rfl rfl rfl d (kk locs hS hz)
  · exact va_alen C.1 C.2.1 C.2.2.2.2.1.1 (one_P (cel_9.mp h0)) 0 0 rfl rfl rfl d (kk locs hS hz)
  · exact va_alen C.1 C.2.1 C.2.2.2.2.1.1 (one_P (cel_10.mp h0)) 0 2 rfl rfl rfl d (kk locs hS hz)
  · exact va_alen C.1 C.2.1 C.2.2.2.2.1.1 (one_P (cel_11.mp h0)) 0 3 rfl rfl rfl d (kk locs hS hz)
  · exact va_alen C.1 C.2.1 C.2.2.2.2.1.1 (one_P (cel_12.mp h0)) 0 4 rfl rfl rfl d (kk locs hS hz)
theorem r_iald (C : Cx x own cc nL D ret rm) {a k m : Nat} {i : Int32} (hb : blk D ks o R H) (hk : ks[k]? = some (8, m)) (ha : a = o + k) (hin : vp_in i m) {j : Nat} (hj : i.toNatClampNeg = j) (d : dec cc pc .iaload 1 n) (kk : WG x A Q H cs sl n ls (.int (R k j) :: rest)) : WG x A Q H cs sl pc ls (.int i :: .ref a :: rest) := by
  subst ha; subst hj
  obtain ⟨p, l, e, R0, s, m0, args, below, meth, c⟩ := x
  obtain ⟨d, rfl⟩ := d
  have h0 := hb k _ hk
  intro locs hS hz
  exact va_iald C.1 C.2.1 C.2.2.2.2.1.1 (one_P (cel_8.mp h0)) 0 1 rfl rfl hin d (kk locs hS hz)
theorem r_cald (C : Cx x own cc nL D ret rm) {a k m : Nat} {i : Int32} (hb : blk D ks o R H) (hk : ks[k]? = some (9, m)) (ha : a = o + k) (hin : vp_in i m) {j : Nat} (hj : i.toNatClampNeg = j) (d : dec cc pc .caload 1 n) (kk : WG x A Q H cs sl n ls (.int (R k j) :: rest)) : WG x A Q H cs sl pc ls (.int i :: .ref a :: rest) := by
  subst ha; subst hj
  obtain ⟨p, l, e, R0, s, m0, args, below, meth, c⟩ := x
  obtain ⟨d, rfl⟩ := d
  have h0 := hb k _ hk
  intro locs hS hz
  exact va_cald C.1 C.2.1 C.2.2.2.2.1.1 (one_P (cel_9.mp h0)) 0 0 rfl rfl hin d (kk locs hS hz)
theorem r_aaldT (C : Cx x own cc nL D ret rm) {a k m : Nat} {i : Int32} (hb : blk D ks o R H) (hk : ks[k]? = some (10, m)) (ha : a = o + k) (hin : vp_in i 6) {j : Nat} (hj : i.toNatClampNeg = j) (d : dec cc pc .aaload 1 n) (kk : WG x A Q H cs sl n ls (.ref (a + 2 + j) :: rest)) : WG x A Q H cs sl pc ls (.int i :: .ref a :: rest) := by
  subst ha; subst hj
  obtain ⟨p, l, e, R0, s, m0, args, below, meth, c⟩ := x
  obtain ⟨d, rfl⟩ := d
  have h0 := hb k _ hk
  intro locs hS hz
  exact va_aldq C.1 C.2.1 C.2.2.2.2.1.1 (one_P (cel_10.mp h0)) 0 2 rfl rfl hin d (kk locs hS hz)
theorem r_aaldC (C : Cx x own cc nL D ret rm) {a k m : Nat} {i : Int32} (hb : blk D ks o R H) (hk : ks[k]? = some (11, m)) (ha : a = o + k) (hin : vp_in i 3) {j : Nat} (hj : i.toNatClampNeg = j) (d : dec cc pc .aaload 1 n) (kk : WG x A Q H cs sl n ls (.ref (a + 7 + 2 * j) :: rest)) : WG x A Q H cs sl pc ls (.int i :: .ref a :: rest) := by
  subst ha; subst hj
  obtain ⟨p, l, e, R0, s, m0, args, below, meth, c⟩ := x
  obtain ⟨d, rfl⟩ := d
  have h0 := hb k _ hk
  intro locs hS hz
  exact va_aldq C.1 C.2.1 C.2.2.2.2.1.1 (one_P (cel_11.mp h0)) 0 3 rfl rfl hin d (kk locs hS hz)
theorem r_aaldS (C : Cx x own cc nL D ret rm) {a k m : Nat} {i : Int32} (hb : blk D ks o R H) (hk : ks[k]? = some (12, m)) (ha : a = o + k) (hin : vp_in i m) {j : Nat} (hj : i.toNatClampNeg = j) (d : dec cc pc .aaload 1 n) (kk : WG x A Q H cs sl n ls (.ref (a + 1 + 15 * (R k j).toNatClampNeg) :: rest)) : WG x A Q H cs sl pc ls (.int i :: .ref a :: rest) := by
  subst ha; subst hj
  obtain ⟨p, l, e, R0, s, m0, args, below, meth, c⟩ := x
  obtain ⟨d, rfl⟩ := d
  have h0 := hb k _ hk
  intro locs hS hz
  exact va_aldq C.1 C.2.1 C.2.2.2.2.1.1 (one_P (cel_12.mp h0)) 0 4 rfl rfl hin d (kk locs hS hz)
theorem r_iast (C : Cx x own cc nL D ret rm) {a k m : Nat} {i z : Int32} (hb : blk D ks o R H) (hk : ks[k]? = some (8, m)) (ha : a = o + k) (hA : A a) (hin : vp_in i m) {j : Nat} (hj : i.toNatClampNeg = j) (d : dec cc pc .iastore 1 n) (kk : ∀ H1 : Heap, blk D ks o (pt R k j z) H1 → (∀ q, q ≠ a → H1[q]? = H[q]?) → WG x A Q H1 cs sl n ls rest) : WG x A Q H cs sl pc ls (.int z :: .int i :: .ref a :: rest) := by
  subst ha; subst hj
  obtain ⟨p, l, e, R0, s, m0, args, below, meth, c⟩ := x
  obtain ⟨d, rfl⟩ := d
  have h0 := hb k _ hk
  intro locs hS hz
  refine W.iast C.1 C.2.1 (cel_8.mp h0) ((C.2.2.2.2.1.1.2 1 _ rfl).1 m (fun j => .int (R k j))) (fun q => by cases q) (by show ¬ (i < 0 ∨ (arrV _ _ _).slots.size ≤ _); rw [arrV_size]; exact hin) rfl rfl d fun H1 e1 e2 e3 => ?_
  refine kk H1 (blk_put hb hk ?_ e3) e3 _ (hS.put e2 e3 hA) (by rw [e2]; exact hz)
  show H1[o + k]? = some (vp_cell _ _)
  rw [e1, vp_cell_i, vp_cell_i, arrV_store]
  congr 2
  funext j
  by_cases hj : j = i.toNatClampNeg
  · subst hj; simp [updV, upd]
  · simp [updV, upd, hj]
theorem r_cast (C : Cx x own cc nL D ret rm) {a k m : Nat} {i z : Int32} (hb : blk D ks o R H) (hk : ks[k]? = some (9, m)) (ha : a = o + k) (hA : A a) (hin : vp_in i m) {j : Nat} (hj : i.toNatClampNeg = j) (d : dec cc pc .castore 1 n) (kk : ∀ H1 : Heap, blk D ks o (pt R k j (vp_nar .char z)) H1 → (∀ q, q ≠ a → H1[q]? = H[q]?) → WG x A Q H1 cs sl n ls rest) : WG x A Q H cs sl pc ls (.int z :: .int i :: .ref a :: rest) := by
  subst ha; subst hj
  obtain ⟨p, l, e, R0, s, m0, args, below, meth, c⟩ := x
  obtain ⟨d, rfl⟩ := d
  have h0 := hb k _ hk
  intro locs hS hz
  refine W.cast C.1 C.2.1 (cel_9.mp h0) ((C.2.2.2.2.1.1.2 0 _ rfl).1 m (fun j => .int (R k j))) (fun q => by cases q) (by show ¬ (i < 0 ∨ (arrV _ _ _).slots.size ≤ _); rw [arrV_size]; exact hin) rfl rfl d fun H1 e1 e2 e3 => ?_
  refine kk H1 (blk_put hb hk ?_ e3) e3 _ (hS.put e2 e3 hA) (by rw [e2]; exact hz)
  show H1[o + k]? = some (vp_cell _ _)
  rw [e1, vp_cell_i, vp_cell_i, arrV_store]
  congr 2
  funext j
  by_cases hj : j = i.toNatClampNeg
  · subst hj; simp [updV, upd]; rfl
  · simp [updV, upd, hj]
/-- a shelf's row of rivers: the river of the place w is put at the place j -/
theorem r_aastS (C : Cx x own cc nL D ret rm) {a k m b : Nat} {i w : Int32} (hb : blk D ks o R H) (hk : ks[k]? = some (12, m)) (ha : a = o + k) (hA : A a) (hin : vp_in i m) {j : Nat} (hj : i.toNatClampNeg = j) {k2 : Nat} (hk2 : ks[k2]? = some (3, 0)) (hb2 : b = o + k2) (hw : b = a + 1 + 15 * w.toNatClampNeg) (d : dec cc pc .aastore 1 n) (kk : ∀ H1 : Heap, blk D ks o (pt R k j w) H1 → (∀ q, q ≠ a → H1[q]? = H[q]?) → WG x A Q H1 cs sl n ls rest) : WG x A Q H cs sl pc ls (.ref b :: .int i :: .ref a :: rest) := by
  subst ha; subst hj; subst hb2
  obtain ⟨p, l, e, R0, s, m0, args, below, meth, c⟩ := x
  obtain ⟨d, rfl⟩ := d
  have h0 := hb k _ hk
  have hr := hb k2 _ hk2
  intro locs hS hz
  have hlt : i.toNatClampNeg < m := Nat.not_le.mp fun q => hin (Or.inr q)
  have h0' : ¬ i < 0 := fun q => hin (Or.inl q)
  obtain ⟨r', hr', cellV, g1, g2, g3, -⟩ := hr.1
  have hcls := (C.2.2.2.2.1.1.1 3 (RX3, TX3, 4) rfl).2
  obtain ⟨kA, comp, k1, k2', k3, -⟩ := (C.2.2.2.2.1.1.2 4 (D.2 4, .object RX3) rfl).2
  have hcomp : comp = D.1.1 3 := Option.some.inj (k3.symm.trans hcls.1)
  subst hcomp
  obtain ⟨kC, hkC, -⟩ := hcls.2
  refine W.aast C.1 C.2.1 (cel_12.mp h0) (fun q h => by cases h) (fun h => by cases h) k1 k2' rfl hkC ⟨h0', by show _ < (arrV _ _ _).slots.size; rw [arrV_size]; exact hlt⟩ g1 (fun q h => by rw [g3] at h; cases h) (by rw [g2]; exact hkC) (by rw [g2]; exact va_assign hcls) rfl rfl d fun H1 e1 e2 e3 => ?_
  refine kk H1 (blk_put hb hk (cel_12.mpr ?_) e3) e3 _ (hS.put e2 e3 hA) (by rw [e2]; exact hz)
  show H1[o + k]? = some (vp_cell _ _)
  rw [e1, vp_cell_q, vp_cell_q, arrV_store]
  congr 2
  funext q
  by_cases hq : q = i.toNatClampNeg
  · subst hq; simp [updV, upd, va_rf, hw]
  · simp [updV, upd, hq]
/-- Math.max, Math.min through the pool's row idx -/
def MW (own : String) (idx : Nat) (y : MethodName) (b : ByteArray) : Prop := Cond.methodLink own idx y ∈ lwt ∧ Cond.static y ∈ lwt ∧ Cond.initialized "java/lang/Math" ∈ lwt ∧ Cond.code y b 2 (some .int) ∈ lwt
theorem r_mmax (C : Cx x own cc nL D ret rm) {idx : Nat} (w : MW own idx Lib.Math.max.name Lib.Math.max.code) (hl : ls.length = nL) (hR : 1 ≤ rm.frames ∧ (rest.map fun v => v.category).sum + 13 ≤ rm.locals ∧ cs ≤ rm.cells ∧ sl ≤ rm.slots) {a b : Int32} (d : dec cc pc (.invokestatic idx) 3 n) (kk : WG x A Q H cs sl n ls (.int (imax a b) :: rest)) : WG x A Q H cs sl pc ls (.int b :: .int a :: rest) := by
  obtain ⟨p, l, e, R0, s, m0, args, below, meth, c⟩ := x
  obtain ⟨d, rfl⟩ := d
  have hts := kk_args C.2.2.2.2.1 args
  have hR' := C.2.2.2.2.2.2.2
  subst hR'
  intro locs hS hz
  exact va_mmax C.1 C.2.1 (by rw [C.2.2.1, List.size_toArray]; exact hl.symm) C.2.2.2.1 (hts _ w.1) (hts _ w.2.1) (hts _ w.2.2.1) (hts _ w.2.2.2) hR.1 hR.2.1 hR.2.2.1 hR.2.2.2 d (kk locs hS hz)
theorem r_mmin (C : Cx x own cc nL D ret rm) {idx : Nat} (w : MW own idx Lib.Math.min.name Lib.Math.min.code) (hl : ls.length = nL) (hR : 1 ≤ rm.frames ∧ (rest.map fun v => v.category).sum + 13 ≤ rm.locals ∧ cs ≤ rm.cells ∧ sl ≤ rm.slots) {a b : Int32} (d : dec cc pc (.invokestatic idx) 3 n) (kk : WG x A Q H cs sl n ls (.int (imin a b) :: rest)) : WG x A Q H cs sl pc ls (.int b :: .int a :: rest) := by
  obtain ⟨p, l, e, R0, s, m0, args, below, meth, c⟩ := x
  obtain ⟨d, rfl⟩ := d
  have hts := kk_args C.2.2.2.2.1 args
  have hR' := C.2.2.2.2.2.2.2
  subst hR'
  intro locs hS hz
  exact va_mmin C.1 C.2.1 (by rw [C.2.2.1, List.size_toArray]; exact hl.symm) C.2.2.2.1 (hts _ w.1) (hts _ w.2.1) (hts _ w.2.2.1) (hts _ w.2.2.2) hR.1 hR.2.1 hR.2.2.1 hR.2.2.2 d (kk locs hS hz)
/-- a contract -/
def MtP (D : DD) (av : List Value) (P : Heap → Prop) : Array Value → State → Prop := fun v U => v = av.toArray ∧ P U.heap ∧ KK D U
def MtQ (post : Option Value → Heap → Prop) (A : Nat → Prop) (mc : Nat) : Array Value → State → Outcome → State → Prop := fun _ st oc t => ∃ v, oc = .returned v ∧ post v t.heap ∧ t.heap.size = st.heap.size + mc ∧ ∀ q, q < st.heap.size → ¬ A q → t.heap[q]? = st.heap[q]?
def Mt (l : Launch) (D : DD) (y : MethodName) (b : ByteArray) (nL : Nat) (ret : Option FieldType) (fr lo mc ms : Nat) (av : List Value) (P : Heap → Prop) (post : Option Value → Heap → Prop) (A : Nat → Prop) : Prop :=
  Met l y [Cond.code y b nL ret] { frames := fr, cells := mc, slots := ms, locals := lo } (MtP D av P) (MtQ post A mc) mc ms A
def Fin (x : CX) (post : Option Value → Heap → Prop) (A : Nat → Prop) (mc ms : Nat) : State → Prop :=
  match x with
  | (_, _, _, _, s, _, args, below, _, _) => MQ below (MtQ post A mc) args s mc ms A
theorem mt_of {l : Launch} {y : MethodName} {b : ByteArray} {fr lo mc ms : Nat} {av : List Value} {P : Heap → Prop} {post : Option Value → Heap → Prop} (hown : y.cls = own) (hy : plainName y.cls = true) (hls : lg_sl av ++ List.replicate (nL - (lg_sl av).length) .unset = ls)
    (body : ∀ (x : CX) (H : Heap), Cx x own b nL D ret { frames := fr, cells := mc, slots := ms, locals := lo } → P H → WG x A (Fin x post A mc ms) H 0 0 0 ls []) : Mt l D y b nL ret fr lo mc ms av P post A := by
  subst hown; subst hls
  refine Met.ofW (cc := b) (maxL := nL) (ret := ret) hy rfl ?_
  intro p e s m args below meth c s₁ B hml hv
  obtain ⟨rfl, hP, hK⟩ := hv
  have h := body (p, l, e, _, s, m, av.toArray, below, meth, c) s.heap ⟨B.exec, B.bytes, hml, findClass_of_methodNamed B.named, hK, B.returns, B.notSynchronized, rfl⟩ hP [] va_S.rf rfl
  rw [lg_entry_eq]
  exact h
theorem r_iret (C : Cx x own cc nL D (some .int) rm) {post : Option Value → Heap → Prop} {v : Int32} (d : dec cc pc .ireturn 1 n) (hp : post (some (.int v)) H) : WG x A (Fin x post A cs sl) H cs sl pc ls [.int v] := by
  obtain ⟨p, l, e, R0, s, m0, args, below, meth, c⟩ := x
  obtain ⟨d, rfl⟩ := d
  intro locs hS hz
  exact W.iret C.1 C.2.1 C.2.2.2.2.2.1 (fun t ht _ => ⟨_, rfl, by rw [ht]; exact hp, by rw [ht]; exact hz, fun q h1 h2 => by rw [ht]; exact hS.2.1 q h1 h2⟩) hS.2.2 d (hlocks := C.2.2.2.2.2.2.1)
theorem r_zret (C : Cx x own cc nL D (some .boolean) rm) {post : Option Value → Heap → Prop} {v : Int32} (d : dec cc pc .ireturn 1 n) (hv : bl v) (hp : post (some (.int v)) H) : WG x A (Fin x post A cs sl) H cs sl pc ls [.int v] := by
  obtain ⟨p, l, e, R0, s, m0, args, below, meth, c⟩ := x
  obtain ⟨d, rfl⟩ := d
  intro locs hS hz
  exact W.zret C.1 C.2.1 C.2.2.2.2.2.1 (bl_nar hv).1 (fun t ht _ => ⟨_, rfl, by rw [ht]; exact hp, by rw [ht]; exact hz, fun q h1 h2 => by rw [ht]; exact hS.2.1 q h1 h2⟩) hS.2.2 d (hlocks := C.2.2.2.2.2.2.1)
theorem r_vret (C : Cx x own cc nL D none rm) {post : Option Value → Heap → Prop} (d : dec cc pc .return_ 1 n) (hp : post none H) : WG x A (Fin x post A cs sl) H cs sl pc ls [] := by
  obtain ⟨p, l, e, R0, s, m0, args, below, meth, c⟩ := x
  obtain ⟨d, rfl⟩ := d
  intro locs hS hz
  exact W.vret C.1 C.2.1 C.2.2.2.2.2.1 (fun t ht _ => ⟨_, rfl, by rw [ht]; exact hp, by rw [ht]; exact hz, fun q h1 h2 => by rw [ht]; exact hS.2.1 q h1 h2⟩) hS.2.2 d (hlocks := C.2.2.2.2.2.2.1)
theorem r_aret {cn : FieldType} (C : Cx x own cc nL D (some cn) rm) (hcn : (∃ k, cn = .object k) ∨ ∃ t, cn = .array t) {post : Option Value → Heap → Prop} {v : Nat} (d : dec cc pc .areturn 1 n) (hp : post (some (.ref v)) H) : WG x A (Fin x post A cs sl) H cs sl pc ls [.ref v] := by
  obtain ⟨p, l, e, R0, s, m0, args, below, meth, c⟩ := x
  obtain ⟨d, rfl⟩ := d
  intro locs hS hz
  exact W.aret C.1 C.2.1 C.2.2.2.2.2.1 hcn (Or.inr ⟨_, rfl⟩) (fun t ht _ => ⟨_, rfl, by rw [ht]; exact hp, by rw [ht]; exact hz, fun q h1 h2 => by rw [ht]; exact hS.2.1 q h1 h2⟩) hS.2.2 d (hlocks := C.2.2.2.2.2.2.1)
theorem r_aretN {cn : FieldType} (C : Cx x own cc nL D (some cn) rm) (hcn : (∃ k, cn = .object k) ∨ ∃ t, cn = .array t) {post : Option Value → Heap → Prop} (d : dec cc pc .areturn 1 n) (hp : post (some .null) H) : WG x A (Fin x post A cs sl) H cs sl pc ls [.null] := by
  obtain ⟨p, l, e, R0, s, m0, args, below, meth, c⟩ := x
  obtain ⟨d, rfl⟩ := d
  intro locs hS hz
  exact W.aret C.1 C.2.1 C.2.2.2.2.2.1 hcn (Or.inl rfl) (fun t ht _ => ⟨_, rfl, by rw [ht]; exact hp, by rw [ht]; exact hz, fun q h1 h2 => by rw [ht]; exact hS.2.1 q h1 h2⟩) hS.2.2 d (hlocks := C.2.2.2.2.2.2.1)
def psh (v : Option Value) (st : List Value) : List Value := match v with | some z => z :: st | none => st
/-- a call's words: of an instance's method, of a static one -/
def CW (own : String) (idx : Nat) (y : MethodName) (b : ByteArray) (nL : Nat) (ret : Option FieldType) (k : Nat) : Prop :=
  Cond.code y b nL ret ∈ lwt ∧ Cond.initialized y.cls ∈ lwt ∧ (y.cls ≠ "java/lang/invoke/MethodHandle" ∧ y.cls ≠ "java/lang/invoke/VarHandle" ∧ (parseMethodDescriptor y.desc).map (fun d => d.parameters.length) = some k) ∧ goodWord (Cond.code y b nL ret) = true ∧ (Cond.methodLink own idx y ∈ lwt ∨ ∃ host, Cond.methodLinkNest own idx y host ∈ lwt)
def CWV (own : String) (idx : Nat) (y : MethodName) (b : ByteArray) (nL : Nat) (ret : Option FieldType) (k t : Nat) : Prop :=
  CW own idx y b nL ret k ∧ Cond.instanceMethod y ∈ lwt ∧ Cond.selects y.cls y y ∈ lwt ∧ ∃ q : vw_C, vwCl[t]? = some q ∧ q.1 = y.cls
def CWS (own : String) (idx : Nat) (y : MethodName) (b : ByteArray) (nL : Nat) (ret : Option FieldType) (k : Nat) : Prop :=
  CW own idx y b nL ret k ∧ Cond.static y ∈ lwt
theorem cb_of {R : Room} {s : State} {args : Array Value} {idx : Nat} {y : MethodName} {b : ByteArray} {nL : Nat} {ret : Option FieldType} {k fr lo mc ms : Nat} (hK : KK D s) (w : CW own idx y b nL ret k) (hl : Cond.methodLink own idx y ∈ lwt) (hR : fr + 1 ≤ R.frames ∧ 8 + (nL + 11) + lo ≤ R.locals) : CallB R s args own idx y b nL ret [Cond.code y b nL ret] { frames := fr, cells := mc, slots := ms, locals := lo } mc ms k := by
  have hts := kk_args hK args
  refine callB_of k (Ts := lwt) hts (fun w' hw' => ?_) rfl rfl rfl (hts _ w.2.1) (hts _ hl) w.2.2.1 hR
  cases List.mem_singleton.mp hw'
  exact ⟨w.1, good_of_word w.2.2.2.1⟩
theorem cn_of {R : Room} {s : State} {args : Array Value} {idx : Nat} {y : MethodName} {b : ByteArray} {nL : Nat} {ret : Option FieldType} {k fr lo mc ms : Nat} {host : String} (hK : KK D s) (w : CW own idx y b nL ret k) (hl : Cond.methodLinkNest own idx y host ∈ lwt) (hR : fr + 1 ≤ R.frames ∧ 8 + (nL + 11) + lo ≤ R.locals) : va_CN R s args own idx y host b nL ret [Cond.code y b nL ret] { frames := fr, cells := mc, slots := ms, locals := lo } mc ms k := by
  have hts := kk_args hK args
  refine va_cnB k (Ts := lwt) hts (fun w' hw' => ?_) rfl rfl rfl (hK.2.1 _ hl) (hts _ w.2.1) w.2.2.1 hR
  cases List.mem_singleton.mp hw'
  exact ⟨w.1, good_of_word w.2.2.2.1⟩
theorem mtP_blind {av : List Value} {P : Heap → Prop} : FrameBlind (MtP D av P) := fun a U g mk ⟨h1, h2, h3⟩ => ⟨h1, h2, kk_warm (s := U) (U := U.calling g mk a) (State.WarmedH.refl U) h3⟩
/-- behind a call -/
theorem r_goes {idx : Nat} {post : Option Value → Heap → Prop} {A' : Nat → Prop} {mc ms : Nat} {st : List Value} {a : Array Value}
    (hA : ∀ q, A' q → A q)
    (kk : ∀ v H1, post v H1 → H1.size = H.size + mc → (∀ q, q < H.size → ¬ A' q → H1[q]? = H[q]?) → WG x A Q H1 (cs + mc) (sl + ms) (pc + 3) ls (psh v rest))
    (hr : match x with | (p, l, e, R, s, m, args, below, meth, c) => ∀ locs, va_Run p l e R s m args below meth c H locs cs sl mc ms (F0 m pc ls.toArray st) rest (MtQ post A' mc a) A') : WG x A Q H cs sl pc ls st := by
  obtain ⟨p, l, e, R0, s, m0, args, below, meth, c⟩ := x
  intro locs hS hz T hT X
  obtain ⟨v, st₀, t, T', L, h0, X', hL, e1, e2, ⟨v', hv, hp, hz1, hk⟩, stp⟩ := hr locs T hT X
  cases hv
  rw [h0] at hz1 hk
  have hS' : va_S A s.heap T'.heap (locs ++ L) := ⟨by rw [e1, hz1]; exact Nat.le_trans hS.1 (Nat.le_add_right _ _), fun q h1 h2 => by rw [e1, hk q (Nat.lt_of_lt_of_le h1 hS.1) (fun z => h2 (hA q z))]; exact hS.2.1 q h1 h2, fun q hq => by
    rcases List.mem_append.mp hq with h | h
    · exact hS.2.2 q h
    · exact hA _ (hL q h)⟩
  obtain ⟨t2, a1, b1⟩ := kk v T'.heap (by rw [e1]; exact hp) (by rw [e1]; exact hz1) (fun q h1 h2 => by rw [e1]; exact hk q h1 h2) (locs ++ L) hS' (by rw [e1, hz1, hz]; omega) T' rfl X'
  refine ⟨t2, stp t2 ?_, b1⟩
  have hps : v.toList ++ rest = psh v rest := by cases v <;> rfl
  show Steps _ _ _ (T'.setTop { method := m0, pc := pc + 3, locals := ls.toArray, stack := v.toList ++ rest, locked := none }) t2
  rw [hps]
  exact a1
theorem r_callV (C : Cx x own cc nL D ret rm) {idx t k' fr lo mc ms nL' : Nat} {y : MethodName} {b : ByteArray} {ret' : Option FieldType} (w : CWV own idx y b nL' ret' k' t) {a : Nat} {As st : List Value} {P : Heap → Prop} {post : Option Value → Heap → Prop} {A' : Nat → Prop} (M : ∀ l, Mt l D y b nL' ret' fr lo mc ms (.ref a :: As) P post A')
    {k : Nat} (hb : blk D ks o R H) (hk : ks[k]? = some (t, 0)) (ha : a = o + k) (ht : celO t)
    (hP : P H) (hA : ∀ q, A' q → A q) (hst : st = As.reverse ++ .ref a :: rest) (hn : As.length = k') (hl : ls.length = nL) (hre : (rest.map fun v => v.category).sum ≤ 8) (hR : fr + 1 ≤ rm.frames ∧ 8 + (nL' + 11) + lo ≤ rm.locals ∧ cs + mc ≤ rm.cells ∧ sl + ms ≤ rm.slots) (d : dec cc pc (.invokevirtual idx) 3 n)
    (kk : ∀ v H1, post v H1 → H1.size = H.size + mc → (∀ q, q < H.size → ¬ A' q → H1[q]? = H[q]?) → WG x A Q H1 (cs + mc) (sl + ms) n ls (psh v rest)) : WG x A Q H cs sl pc ls st := by
  subst ha; subst hst
  obtain ⟨d, rfl⟩ := d
  refine r_goes (idx := idx) (a := (Value.ref (o + k) :: As).toArray) (post := post) (A' := A') hA kk ?_
  obtain ⟨p, l, e, R0, s, m0, args, below, meth, c⟩ := x
  intro locs
  obtain ⟨w, wi, ws, q, hq, hqc⟩ := w
  have hts := kk_args C.2.2.2.2.1 args
  have hR' := C.2.2.2.2.2.2.2
  subst hR'
  have h0 := hb k _ hk
  rw [ht] at h0
  have hrecv : ∃ cell : Cell, H[o + k]? = some cell ∧ cell.vm.isStatics = false ∧ s.vm.findClass y.cls = some cell.cls := by
    rw [← hqc]
    exact va_recv C.2.2.2.2.1.1 (one_P h0.1) (ci := t) (q0 := 0) hq rfl
  have hF : CallFix p m0 c cc nL s args lwt own := ⟨C.1, C.2.1, C.2.2.1, C.2.2.2.1, hts⟩
  have hpre : PreV s H y.cls (o + k) (MtP D (.ref (o + k) :: As) P) As := ⟨mtP_blind, hrecv, fun U hU hW => ⟨rfl, by rw [hU]; exact hP, kk_warm hW C.2.2.2.2.1⟩⟩
  have hsz : ls.toArray.size = nL := by rw [List.size_toArray]; exact hl
  have hre' : 2 * (F0 m0 pc ls.toArray (As.reverse ++ .ref (o + k) :: rest)).monitorRoom + (rest.map fun v => v.category).sum ≤ 8 := lv_room hre
  rcases w.2.2.2.2 with hlk | ⟨host, hlk⟩
  · exact va_runV hF (M l) ⟨cb_of C.2.2.2.2.1 w hlk ⟨hR.1, hR.2.1⟩, hts _ wi, hts _ ws⟩ hpre rfl hn hsz rfl hre' d ⟨hR.2.2.1, hR.2.2.2⟩
  · exact va_runVN hF (M l) ⟨cn_of C.2.2.2.2.1 w hlk ⟨hR.1, hR.2.1⟩, hts _ wi, hts _ ws⟩ hpre rfl hn hsz rfl hre' d ⟨hR.2.2.1, hR.2.2.2⟩
theorem r_callS (C : Cx x own cc nL D ret rm) {idx k' fr lo mc ms nL' : Nat} {y : MethodName} {b : ByteArray} {ret' : Option FieldType} (w : CWS own idx y b nL' ret' k') {As st : List Value} {P : Heap → Prop} {post : Option Value → Heap → Prop} {A' : Nat → Prop} (M : ∀ l, Mt l D y b nL' ret' fr lo mc ms As P post A')
    (hP : P H) (hA : ∀ q, A' q → A q) (hst : st = As.reverse ++ rest) (hn : As.length = k') (hl : ls.length = nL) (hre : (rest.map fun v => v.category).sum ≤ 8) (hR : fr + 1 ≤ rm.frames ∧ 8 + (nL' + 11) + lo ≤ rm.locals ∧ cs + mc ≤ rm.cells ∧ sl + ms ≤ rm.slots) (d : dec cc pc (.invokestatic idx) 3 n)
    (kk : ∀ v H1, post v H1 → H1.size = H.size + mc → (∀ q, q < H.size → ¬ A' q → H1[q]? = H[q]?) → WG x A Q H1 (cs + mc) (sl + ms) n ls (psh v rest)) : WG x A Q H cs sl pc ls st := by
  subst hst
  obtain ⟨d, rfl⟩ := d
  refine r_goes (idx := idx) (a := As.toArray) (post := post) (A' := A') hA kk ?_
  obtain ⟨p, l, e, R0, s, m0, args, below, meth, c⟩ := x
  intro locs
  obtain ⟨w, wst⟩ := w
  have hts := kk_args C.2.2.2.2.1 args
  have hR' := C.2.2.2.2.2.2.2
  subst hR'
  have hF : CallFix p m0 c cc nL s args lwt own := ⟨C.1, C.2.1, C.2.2.1, C.2.2.2.1, hts⟩
  have hpre : PreS s H (MtP D As P) As := ⟨mtP_blind, fun U hU hW => ⟨rfl, by rw [hU]; exact hP, kk_warm hW C.2.2.2.2.1⟩⟩
  have hsz : ls.toArray.size = nL := by rw [List.size_toArray]; exact hl
  have hre' : 2 * (F0 m0 pc ls.toArray (As.reverse ++ rest)).monitorRoom + (rest.map fun v => v.category).sum ≤ 8 := lv_room hre
  rcases w.2.2.2.2 with hlk | ⟨host, hlk⟩
  · exact va_runS hF (M l) ⟨cb_of C.2.2.2.2.1 w hlk ⟨hR.1, hR.2.1⟩, hts _ wst⟩ hpre rfl hn hsz rfl hre' d ⟨hR.2.2.1, hR.2.2.2⟩
  · exact va_runSN hF (M l) ⟨cn_of C.2.2.2.2.1 w hlk ⟨hR.1, hR.2.1⟩, hts _ wst, trivial⟩ hpre rfl hn hsz rfl hre' d ⟨hR.2.2.1, hR.2.2.2⟩
theorem r_callV0 (C : Cx x own cc nL D ret rm) {idx t k' fr lo nL' : Nat} {y : MethodName} {b : ByteArray} {ret' : Option FieldType} (w : CWV own idx y b nL' ret' k' t) {a : Nat} {As st : List Value} {P : Heap → Prop} {post : Option Value → Heap → Prop} {A' : Nat → Prop} (M : ∀ l, Mt l D y b nL' ret' fr lo 0 0 (.ref a :: As) P post A')
    {k : Nat} (hb : blk D ks o R H) (hk : ks[k]? = some (t, 0)) (ha : a = o + k) (ht : celO t)
    (hP : P H) (hA : ∀ q, A' q → A q) (hst : st = As.reverse ++ .ref a :: rest) (hn : As.length = k') (hl : ls.length = nL) (hre : (rest.map fun v => v.category).sum ≤ 8) (hR : fr + 1 ≤ rm.frames ∧ 8 + (nL' + 11) + lo ≤ rm.locals ∧ cs ≤ rm.cells ∧ sl ≤ rm.slots) (d : dec cc pc (.invokevirtual idx) 3 n)
    (kk : ∀ v H1, post v H1 → (∀ q, ¬ A' q → H1[q]? = H[q]?) → WG x A Q H1 cs sl n ls (psh v rest)) : WG x A Q H cs sl pc ls st :=
  r_callV C w M hb hk ha ht hP hA hst hn hl hre hR d fun v H1 hp hz hq => kk v H1 hp (frame0 hz hq)
theorem r_callS0 (C : Cx x own cc nL D ret rm) {idx k' fr lo nL' : Nat} {y : MethodName} {b : ByteArray} {ret' : Option FieldType} (w : CWS own idx y b nL' ret' k') {As st : List Value} {P : Heap → Prop} {post : Option Value → Heap → Prop} {A' : Nat → Prop} (M : ∀ l, Mt l D y b nL' ret' fr lo 0 0 As P post A')
    (hP : P H) (hA : ∀ q, A' q → A q) (hst : st = As.reverse ++ rest) (hn : As.length = k') (hl : ls.length = nL) (hre : (rest.map fun v => v.category).sum ≤ 8) (hR : fr + 1 ≤ rm.frames ∧ 8 + (nL' + 11) + lo ≤ rm.locals ∧ cs ≤ rm.cells ∧ sl ≤ rm.slots) (d : dec cc pc (.invokestatic idx) 3 n)
    (kk : ∀ v H1, post v H1 → (∀ q, ¬ A' q → H1[q]? = H[q]?) → WG x A Q H1 cs sl n ls (psh v rest)) : WG x A Q H cs sl pc ls st :=
  r_callS C w M hP hA hst hn hl hre hR d fun v H1 hp hz hq => kk v H1 hp (frame0 hz hq)
theorem r_tswI (C : Cx x own cc nL D ret rm) {dflt lo hi : Int} {offs : Array Int} {len : Nat} {z c : Int32} {off : Int} (d : decode cc pc = .ok (.tableswitch dflt lo hi offs, len)) (h : z = c) (h1 : ¬ c.toInt < lo) (h2 : ¬ hi < c.toInt) (ho : offs[(c.toInt - lo).toNat]? = some off) (htg : (pc : Int) + off = (tgt : Int)) (kk : WG x A Q H cs sl tgt ls rest) : WG x A Q H cs sl pc ls (.int z :: rest) := by
  subst h
  obtain ⟨p, l, e, R0, s, m0, args, below, meth, c0⟩ := x
  intro locs hS hz
  exact lv_tableIn C.1 C.2.1 d h1 h2 ho htg (kk locs hS hz)
theorem r_tswO (C : Cx x own cc nL D ret rm) {dflt lo hi : Int} {offs : Array Int} {len : Nat} {z : Int32} (d : decode cc pc = .ok (.tableswitch dflt lo hi offs, len)) (h : z.toInt < lo ∨ hi < z.toInt) (htg : (pc : Int) + dflt = (tgt : Int)) (kk : WG x A Q H cs sl tgt ls rest) : WG x A Q H cs sl pc ls (.int z :: rest) := by
  obtain ⟨p, l, e, R0, s, m0, args, below, meth, c0⟩ := x
  intro locs hS hz
  exact lv_tableOut C.1 C.2.1 d h htg (kk locs hS hz)
theorem r_iaddN (C : Cx x own cc nL D ret rm) {a b : Int32} (d : dec cc pc .iadd 1 n) {na nb : Nat} (ha : a = nI na) (hb : b = nI nb) {nc : Nat} (hc : na + nb = nc) (kk : WG x A Q H cs sl n ls (.int (nI nc) :: rest)) : WG x A Q H cs sl pc ls (.int b :: .int a :: rest) := by
  subst ha; subst hb; subst hc
  refine r_iadd C d ?_
  rw [nI_add]
  exact kk
theorem r_imulN (C : Cx x own cc nL D ret rm) {a b : Int32} (d : dec cc pc .imul 1 n) {na nb : Nat} (ha : a = nI na) (hb : b = nI nb) {nc : Nat} (hc : na * nb = nc) (kk : WG x A Q H cs sl n ls (.int (nI nc) :: rest)) : WG x A Q H cs sl pc ls (.int b :: .int a :: rest) := by
  subst ha; subst hb; subst hc
  refine r_imul C d ?_
  rw [pk_mul]
  exact kk
end RA
