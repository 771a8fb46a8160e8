/-! making: new objects and arrays, final fields, constructors' calls -/
def raw (D : DD) (t a : Nat) (fs : List Value) (H : Heap) : Prop := va_at D.1 vwCl (a, .inr (t, fs)) H
theorem raw_kept {D : DD} {t a : Nat} {fs : List Value} {H H1 : Heap} (h : raw D t a fs H) (hq : H1[a]? = H[a]?) : raw D t a fs H1 := va_at.kept h hq
theorem raw_lt {D : DD} {t a : Nat} {fs : List Value} {H : Heap} (h : raw D t a fs H) : a < H.size := va_at.lt h
def xn (x : CX) (n : String) : Prop := match x with | (_, _, _, _, _, _, _, _, meth, _) => meth.name = n
/-- new: the class of the place t through the pool's row idx -/
def NW (own : String) (idx t N : Nat) (fs : List Value) : Prop := ∃ (C : String) (T : u_T) (ty : Nat → FieldType), vwCl[t]? = some (C, T, N) ∧ (∀ w ∈ u_ws C T N, w ∈ lwt) ∧ (∀ k, k < N → parseFieldDescriptor (T k).2.2.1 = some (ty k)) ∧ Cond.classLink own idx C ∈ lwt ∧ Cond.instantiable C N ∈ lwt ∧ Cond.initialized C ∈ lwt ∧ ∀ j, j < N → defaultValue (ty j) = vp_V fs j
/-- a final field's words -/
def FQ (own : String) (idx t j : Nat) : Prop := ∃ (C : String) (T : u_T) (N : Nat) (ty0 : Nat → FieldType) (ty : FieldType), vwCl[t]? = some (C, T, N) ∧ (∀ w ∈ u_ws C T N, w ∈ lwt) ∧ (∀ k, k < N → parseFieldDescriptor (T k).2.2.1 = some (ty0 k)) ∧ (∀ a, a < N → ∀ b, b < N → a ≠ b → (T a).2.1 ≠ (T b).2.1) ∧ j < N ∧ (T j).1 = C ∧ own = C ∧ Cond.fieldLink own idx C (T j).2.1 (T j).2.2.1 ∈ lwt ∧ (T j).2.2.2 = true ∧ parseFieldDescriptor (T j).2.2.1 = some ty ∧ ∀ b : Nat, narrow ty (.ref b) = .ref b ∧ fits ty (.ref b) = true
def OI (own : String) (idx : Nat) : Prop := Cond.methodLink own idx Lib.objectInit ∈ lwt ∧ Cond.instanceMethod Lib.objectInit ∈ lwt ∧ Cond.code Lib.objectInit ⟨#[0xb1]⟩ 1 none ∈ lwt
def CWI (own : String) (idx : Nat) (y : MethodName) (b : ByteArray) (nL k : Nat) : Prop := CW own idx y b nL none k ∧ y.name = "<init>" ∧ Cond.instanceMethod y ∈ lwt
section RN
variable {x : CX} {own : String} {cc : ByteArray} {nL : Nat} {D : DD} {ret : Option FieldType} {rm : Room} {A : Nat → Prop} {Q : State → Prop} {H : Heap} {cs sl pc n tgt : Nat} {ls : List Slot} {rest : List Value}
theorem mtI_of {l : Launch} {y : MethodName} {b : ByteArray} {fr lo mc ms : Nat} {av : List Value} {P : Heap → Prop} {post : Option Value → Heap → Prop} (hown : y.cls = own) (hy : plainName y.cls = true) (hls : lg_sl av ++ List.replicate (nL - (lg_sl av).length) .unset = ls)
    (body : ∀ (x : CX) (H : Heap), Cx x own b nL D ret { frames := fr, cells := mc, slots := ms, locals := lo } → xn x y.name → P H → WG x A (Fin x post A mc ms) H 0 0 0 ls []) : Mt l D y b nL ret fr lo mc ms av P post A := by
  subst hown; subst hls
  refine Met.ofW (cc := b) (maxL := nL) (ret := ret) hy rfl ?_
  intro p e s m args below meth c s₁ B hml hv
  obtain ⟨rfl, hP, hK⟩ := hv
  have h := body (p, l, e, _, s, m, av.toArray, below, meth, c) s.heap ⟨B.exec, B.bytes, hml, findClass_of_methodNamed B.named, hK, B.returns, B.notSynchronized, rfl⟩ ((name_of_methodNamed B.named B.method).1) hP [] va_S.rf rfl
  rw [lg_entry_eq]
  exact h
theorem r_newO (C : Cx x own cc nL D ret rm) {idx t N : Nat} {fs : List Value} (nw : NW own idx t N fs) (hR : cs + 1 ≤ rm.cells ∧ sl + N ≤ rm.slots) (d : dec cc pc (.new idx) 3 n) {h : Nat} (hh : H.size = h)
    (kk : ∀ H1 : Heap, raw D t h fs H1 → H1.size = h + 1 → (∀ q, q < h → H1[q]? = H[q]?) → WG x A Q H1 (cs + 1) (sl + N) n ls (.ref h :: rest)) : WG x A Q H cs sl pc ls rest := by
  subst hh
  obtain ⟨p, l, e, R0, s, m, args, below, meth, c⟩ := x
  obtain ⟨d, rfl⟩ := d
  obtain ⟨C0, T, ty, hc, hin, hty, hl, hi, hini, hfs⟩ := nw
  have hts := kk_args C.2.2.2.2.1 args
  have hR' := C.2.2.2.2.2.2.2
  subst hR'
  intro locs hS hz
  have hKn := C.2.2.2.2.1.1.1 t _ hc
  refine W.newcK C.1 C.2.1 C.2.2.2.1 (hts _ hl) (hts _ hi) (hts _ hini) rfl d hR.1 hR.2 hKn.2.1 rfl fun H1 kC hkC e1 z1 o1 => ?_
  exact kk H1 ⟨_, hc, (u_born ty hts hin hKn hkC e1 hty).to hfs⟩ z1 o1 locs ⟨Nat.le_trans hS.1 (by omega), fun q h1 h2 => (o1 q (Nat.lt_of_lt_of_le h1 hS.1)).trans (hS.2.1 q h1 h2), hS.2.2⟩ (by rw [z1, hz]; omega)
theorem r_newI (C : Cx x own cc nL D ret rm) (hw : Cond.arrayClass .int ∈ lwt) {v : Int32} {N : Nat} (hv : ¬ v < 0) (hN : v.toNatClampNeg = N) (hb : N * 4 ≤ 536870912) (hR : cs + 1 ≤ rm.cells ∧ sl + N ≤ rm.slots) (d : dec cc pc (.newarray .int) 2 n) {h : Nat} (hh : H.size = h)
    (kk : ∀ H1 : Heap, cel D (8, N) h (fun _ => 0) H1 → H1.size = h + 1 → (∀ q, q < h → H1[q]? = H[q]?) → WG x A Q H1 (cs + 1) (sl + N) n ls (.ref h :: rest)) : WG x A Q H cs sl pc ls (.int v :: rest) := by
  subst hh
  obtain ⟨p, l, e, R0, s, m, args, below, meth, c⟩ := x
  obtain ⟨d, rfl⟩ := d
  have hts := kk_args C.2.2.2.2.1 args
  have hR' := C.2.2.2.2.2.2.2
  subst hR'
  intro locs hS hz
  refine va_newaK (atype := .int) C.1 C.2.1 (hts _ hw) rfl d rfl hv hN hb hR.1 hR.2 rfl fun H1 cA e1 z1 o1 hAr hNm => ?_
  have hcA : cA = D.2 1 := Option.some.inj (hNm.symm.trans (C.2.2.2.2.1.1.2 1 (D.2 1, .int) rfl).2)
  subst hcA
  exact kk H1 (cel_8.mpr e1) z1 o1 locs ⟨Nat.le_trans hS.1 (by omega), fun q h1 h2 => (o1 q (Nat.lt_of_lt_of_le h1 hS.1)).trans (hS.2.1 q h1 h2), hS.2.2⟩ (by rw [z1, hz]; omega)
theorem r_newC (C : Cx x own cc nL D ret rm) (hw : Cond.arrayClass .char ∈ lwt) {v : Int32} {N : Nat} (hv : ¬ v < 0) (hN : v.toNatClampNeg = N) (hb : N * 2 ≤ 536870912) (hR : cs + 1 ≤ rm.cells ∧ sl + N ≤ rm.slots) (d : dec cc pc (.newarray .char) 2 n) {h : Nat} (hh : H.size = h)
    (kk : ∀ H1 : Heap, cel D (9, N) h (fun _ => 0) H1 → H1.size = h + 1 → (∀ q, q < h → H1[q]? = H[q]?) → WG x A Q H1 (cs + 1) (sl + N) n ls (.ref h :: rest)) : WG x A Q H cs sl pc ls (.int v :: rest) := by
  subst hh
  obtain ⟨p, l, e, R0, s, m, args, below, meth, c⟩ := x
  obtain ⟨d, rfl⟩ := d
  have hts := kk_args C.2.2.2.2.1 args
  have hR' := C.2.2.2.2.2.2.2
  subst hR'
  intro locs hS hz
  refine va_newaK (atype := .char) C.1 C.2.1 (hts _ hw) rfl d rfl hv hN hb hR.1 hR.2 rfl fun H1 cA e1 z1 o1 hAr hNm => ?_
  have hcA : cA = D.2 0 := Option.some.inj (hNm.symm.trans (C.2.2.2.2.1.1.2 0 (D.2 0, .char) rfl).2)
  subst hcA
  exact kk H1 (cel_9.mpr e1) z1 o1 locs ⟨Nat.le_trans hS.1 (by omega), fun q h1 h2 => (o1 q (Nat.lt_of_lt_of_le h1 hS.1)).trans (hS.2.1 q h1 h2), hS.2.2⟩ (by rw [z1, hz]; omega)
/-- a row of references, as it is being filled; k: its class's place among the arrays' classes -/
def rawq (D : DD) (k a N : Nat) (f : Nat → Option Nat) (H : Heap) : Prop := va_at D.1 vwCl (a, .inl (D.2 k, N, .inr (.inr (.inr (.inr f))))) H
theorem rawq_kept {D : DD} {k a N : Nat} {f : Nat → Option Nat} {H H1 : Heap} (h : rawq D k a N f H) (hq : H1[a]? = H[a]?) : rawq D k a N f H1 := va_at.kept h hq
theorem rawq_to {D : DD} {k a N : Nat} {f g : Nat → Option Nat} {H : Heap} (h : rawq D k a N f H) (hfg : ∀ j, j < N → f j = g j) : rawq D k a N g H := by
  have e : vp_cell (D.2 k) (N, .inr (.inr (.inr (.inr f)))) = vp_cell (D.2 k) (N, .inr (.inr (.inr (.inr g)))) := by
    rw [vp_cell_q, vp_cell_q]
    unfold arrV
    congr 2
    funext j
    show va_rf (f j.val) = va_rf (g j.val)
    rw [hfg j.val j.isLt]
  show H[a]? = some (vp_cell (D.2 k) (N, .inr (.inr (.inr (.inr g)))))
  rw [← e]
  exact h
theorem r_newQ (C : Cx x own cc nL D ret rm) {idx k N : Nat} {Cn : String} (hl : Cond.classLink own idx Cn ∈ lwt) (hk : (k = 2 ∧ Cn = RX5) ∨ (k = 3 ∧ Cn = RX0) ∨ (k = 4 ∧ Cn = RX3)) {v : Int32} (hv : ¬ v < 0) (hN : v.toNatClampNeg = N) (hb : N * 4 ≤ 536870912) (hR : cs + 1 ≤ rm.cells ∧ sl + N ≤ rm.slots) (d : dec cc pc (.anewarray idx) 3 n) {h : Nat} (hh : H.size = h)
    (kk : ∀ H1 : Heap, rawq D k h N (fun _ => none) H1 → H1.size = h + 1 → (∀ q, q < h → H1[q]? = H[q]?) → WG x A Q H1 (cs + 1) (sl + N) n ls (.ref h :: rest)) : WG x A Q H cs sl pc ls (.int v :: rest) := by
  subst hh; subst hN
  obtain ⟨p, l, e, R0, s, m, args, below, meth, c⟩ := x
  obtain ⟨d, rfl⟩ := d
  have hts := kk_args C.2.2.2.2.1 args
  have hR' := C.2.2.2.2.2.2.2
  subst hR'
  have hov : va_AO Cn s := by
    rcases hk with ⟨-, rfl⟩ | ⟨-, rfl⟩ | ⟨-, rfl⟩
    · exact C.2.2.2.2.1.2.2.1
    · exact C.2.2.2.2.1.2.2.2.1
    · exact C.2.2.2.2.1.2.2.2.2
  have hty : (tysOf D)[k]? = some (D.2 k, .object Cn) := by rcases hk with ⟨rfl, rfl⟩ | ⟨rfl, rfl⟩ | ⟨rfl, rfl⟩ <;> rfl
  obtain ⟨-, kA', comp', g1, g2, g3, g4⟩ := C.2.2.2.2.1.1.2 k _ hty
  intro locs hS hz
  refine W.anew C.1 C.2.1 C.2.2.2.1 (hts _ hl) (va_AO.use hov) rfl d rfl hv hb hR.1 hR.2 fun cA kA comp f1 f2 f3 f4 => ?_
  have hcA : cA = D.2 k := Option.some.inj (f1.symm.trans g4)
  subst hcA
  generalize hH1 : H.push ({ cls := D.2 k, slots := Array.replicate v.toNatClampNeg .null, vm := .none } : Cell) = H1
  have z1 : H1.size = H.size + 1 := by rw [← hH1, Array.size_push]
  have e1 : H1[H.size]? = some (arrV (D.2 k) v.toNatClampNeg (fun _ => .null)) := by rw [← hH1, Array.getElem?_push_size, ← arrV_new]
  have o1 : ∀ q : Nat, q < H.size → H1[q]? = H[q]? := fun q hq => by rw [← hH1, Array.getElem?_push, if_neg (Nat.ne_of_lt hq)]
  exact kk H1 e1 z1 o1 locs ⟨Nat.le_trans hS.1 (by omega), fun q h1 h2 => (o1 q (Nat.lt_of_lt_of_le h1 hS.1)).trans (hS.2.1 q h1 h2), hS.2.2⟩ (by rw [z1, hz]; omega)
theorem r_putQ (C : Cx x own cc nL D ret rm) (hi : xn x "<init>") {idx t j a b : Nat} {fs : List Value} (hr : raw D t a fs H) (hA : A a) (fq : FQ own idx t j) (hl : j < fs.length) (d : dec cc pc (.putfield idx) 3 n) {fs' : List Value} (hf : fs.set j (.ref b) = fs') (kk : ∀ H1 : Heap, raw D t a fs' H1 → H1.size = H.size → (∀ q, q ≠ a → H1[q]? = H[q]?) → WG x A Q H1 cs sl n ls rest) : WG x A Q H cs sl pc ls (.ref b :: .ref a :: rest) := by
  subst hf
  obtain ⟨p, l, e, R0, s, m, args, below, meth, c⟩ := x
  obtain ⟨d, rfl⟩ := d
  obtain ⟨C0, T, N, ty0, ty, hc, hin, hty, hnm, hj, ho, hoC, hlink, hfin, hd, hnf⟩ := fq
  have hts := kk_args C.2.2.2.2.1 args
  intro locs hS hz
  have hap := va_apart (own := own) hts hin ty0 hty hnm C.2.2.2.2.1.1 hc
  obtain ⟨r, h1, cell, q1, q2, q3, q4⟩ := hr
  have hr : r = (C0, T, N) := Option.some.inj (h1.symm.trans hc)
  subst hr
  obtain ⟨hSl, hfc, kC, hkC, hkind⟩ := C.2.2.2.2.1.1.1 t _ hc
  obtain ⟨cf, kf, fi, f, hfi, hsl⟩ := hSl j hj
  have hlay := hts _ (hin _ (u_in_lay hj))
  unfold u_lay at hlay
  rw [if_pos hfin] at hlay
  have hst := (u_facts hfc hkC (u_lays hts hin hj) hfi).1
  have hcf : m.cls = cf := by
    obtain ⟨_, _, c', _, _, _, -, -, hf', -, -, -, hown2, -⟩ := Cond.laysFinal_spec hlay
    have e1 : c' = cf := by have := hfi.symm.trans hf'; simp at this; exact this.1.symm
    rw [ho, ← hoC] at hown2
    rw [← e1]; exact Option.some.inj (C.2.2.2.1.symm.trans hown2)
  have h6 := u_fits hfc hkC hkind (Or.inr hlay) hfi hd (hnf b).1 (hnf b).2
  rw [ho] at hfi
  refine W.putFinK C.1 C.2.1 C.2.2.2.1 (hts _ hlink) hfi hst hcf hi (by rw [q2]; exact h6) q1 q3 (by rw [hsl]; exact k2_hasslot (q4 j hj)) rfl rfl d fun H' e1 e2 e3 => ?_
  rw [hsl] at e1
  refine kk H' ⟨_, hc, ?_⟩ e2 e3 _ (hS.put e2 e3 hA) (by rw [e2]; exact hz)
  exact t_OB.to (V := updV (vp_V fs) j (.ref b)) ⟨_, e1, q2, q3, t_set q4 hap hj _⟩ (fun i _ => vp_updV_set hl _ i)
/-- a field of an object that is being made is read -/
theorem r_getQ (C : Cx x own cc nL D ret rm) {idx t j a : Nat} {fs : List Value} (hr : raw D t a fs H) (fw : FW own idx t j) {z : Value} (hv : fs[j]? = some z) (d : dec cc pc (.getfield idx) 3 n) (kk : WG x A Q H cs sl n ls (z :: rest)) : WG x A Q H cs sl pc ls (.ref a :: rest) := by
  obtain ⟨p, l, e, R0, s, m, args, below, meth, c⟩ := x
  obtain ⟨d, rfl⟩ := d
  obtain ⟨C0, T, N, hc, hin, hj, ho, hlink⟩ := fw
  have hts := kk_args C.2.2.2.2.1 args
  intro locs hS hz
  rcases hlink with hl | ⟨host, hl⟩
  · exact va_get (T := T) (N := N) C.1 C.2.1 hts hin C.2.2.2.1 C.2.2.2.2.1.1 (one_P hr) 0 rfl hc j hj (hts _ hl) (fun _ h => by rw [ho] at h; exact h) hv d (kk locs hS hz)
  · exact va_getN (T := T) (N := N) C.1 C.2.1 hts hin C.2.2.2.1 C.2.2.2.2.1.1 (one_P hr) 0 rfl hc j hj (hts _ hl) (fun _ h => by rw [ho] at h; exact h) hv d (kk locs hS hz)
theorem r_alenQ (C : Cx x own cc nL D ret rm) {k a N : Nat} {f : Nat → Option Nat} (hr : rawq D k a N f H) (hk : k = 2 ∨ k = 3 ∨ k = 4) (d : dec cc pc .arraylength 1 n) (kk : WG x A Q H cs sl n ls (.int (nI N) :: rest)) : WG x A Q H cs sl pc ls (.ref a :: rest) := by
  obtain ⟨p, l, e, R0, s, m, args, below, meth, c⟩ := x
  obtain ⟨d, rfl⟩ := d
  intro locs hS hz
  rcases hk with rfl | rfl | rfl
  · exact va_alen C.1 C.2.1 C.2.2.2.2.1.1 (one_P hr) 0 2 rfl rfl rfl d (kk locs hS hz)
  · exact va_alen C.1 C.2.1 C.2.2.2.2.1.1 (one_P hr) 0 3 rfl rfl rfl d (kk locs hS hz)
  · exact va_alen C.1 C.2.1 C.2.2.2.2.1.1 (one_P hr) 0 4 rfl rfl rfl d (kk locs hS hz)
/-- an object of the row's class is put into a row of references -/
theorem r_aastQ (C : Cx x own cc nL D ret rm) {k t a N b i : Nat} {z : Int32} {f : Nat → Option Nat} {fs : List Value} (hr : rawq D k a N f H) (ho : raw D t b fs H) (hk : (k = 2 ∧ t = 5) ∨ (k = 3 ∧ t = 0) ∨ (k = 4 ∧ t = 3)) (hA : A a) (hz : z = nI i) (hi : i < N) (hN : N < 2 ^ 31) (d : dec cc pc .aastore 1 n)
    (kk : ∀ H1 : Heap, rawq D k a N (va_up f i (some b)) H1 → H1.size = H.size → (∀ q, q ≠ a → H1[q]? = H[q]?) → WG x A Q H1 cs sl n ls rest) : WG x A Q H cs sl pc ls (.ref b :: .int z :: .ref a :: rest) := by
  subst hz
  obtain ⟨p, l, e, R0, s, m0, args, below, meth, c⟩ := x
  obtain ⟨d, rfl⟩ := d
  have hcl : (nI i).toNatClampNeg = i := nI_clamp (by omega)
  obtain ⟨Cn, T, M, hc, hty⟩ : ∃ (Cn : String) (T : u_T) (M : Nat), vwCl[t]? = some (Cn, T, M) ∧ (tysOf D)[k]? = some (D.2 k, .object Cn) := by
    rcases hk with ⟨rfl, rfl⟩ | ⟨rfl, rfl⟩ | ⟨rfl, rfl⟩
    · exact ⟨RX5, TX5, 8, rfl, rfl⟩
    · exact ⟨RX0, TX0, 6, rfl, rfl⟩
    · exact ⟨RX3, TX3, 4, rfl, rfl⟩
  intro locs hS hz
  have h0' : ¬ nI i < 0 := nI_pos (by omega)
  obtain ⟨r', hr', cellV, g1, g2, g3, -⟩ := ho
  have hcls := (C.2.2.2.2.1.1.1 t _ hc).2
  obtain ⟨hArr, kA, comp, k1, k2', k3, -⟩ := C.2.2.2.2.1.1.2 k _ hty
  have hcomp : comp = D.1.1 t := Option.some.inj (k3.symm.trans hcls.1)
  subst hcomp
  obtain ⟨kC, hkC, -⟩ := hcls.2
  refine W.aast C.1 C.2.1 hr (fun q h => by cases h) (fun h => by cases h) k1 k2' rfl hkC ⟨h0', by show _ < (arrV _ _ _).slots.size; rw [arrV_size, hcl]; exact hi⟩ g1 (fun q h => by rw [g3] at h; cases h) (by rw [g2]; exact hkC) (by rw [g2]; exact va_assign hcls) rfl rfl d fun H1 e1 e2 e3 => ?_
  refine kk H1 ?_ e2 e3 _ (hS.put e2 e3 hA) (by rw [e2]; exact hz)
  show H1[a]? = some (vp_cell _ _)
  rw [e1, vp_cell_q, vp_cell_q, arrV_store]
  congr 2
  funext q
  rw [hcl]
  by_cases hq : q = i
  · subst hq; simp [updV, va_up, va_rf]
  · simp [updV, va_up, hq]
theorem r_objInit (C : Cx x own cc nL D ret rm) {idx a : Nat} (w : OI own idx) (hl : ls.length = nL) (hR : 1 ≤ rm.frames ∧ (rest.map fun v => v.category).sum + 12 ≤ rm.locals) (d : dec cc pc (.invokespecial idx) 3 n) (kk : WG x A Q H cs sl n ls rest) : WG x A Q H cs sl pc ls (.ref a :: rest) := by
  obtain ⟨p, l, e, R0, s, m, args, below, meth, c⟩ := x
  obtain ⟨d, rfl⟩ := d
  have hts := kk_args C.2.2.2.2.1 args
  have hR' := C.2.2.2.2.2.2.2
  subst hR'
  intro locs hS hz
  refine W.objInit C.1 C.2.1 C.2.2.2.1 (hts _ w.1) (hts _ w.2.1) (hts _ w.2.2) (g := F0 m pc ls.toArray (.ref a :: rest)) rfl (by show ls.toArray.size = _; rw [C.2.2.1, List.size_toArray]; exact hl) rfl d hR.1 (by show 2 * 0 + _ + 12 ≤ _; omega) (kk locs hS hz)
theorem r_callI (C : Cx x own cc nL D ret rm) {idx k' fr lo mc ms nL' : Nat} {y : MethodName} {b : ByteArray} (w : CWI own idx y b nL' k') {a : Nat} {As st : List Value} {P : Heap → Prop} {post : Option Value → Heap → Prop} {A' : Nat → Prop} (M : ∀ l, Mt l D y b nL' none fr lo mc ms (.ref a :: As) P post A')
    (hP : P H) (hA : ∀ q, A' q → A q) (hst : st = As.reverse ++ .ref a :: rest) (hn : As.length = k') (hl : ls.length = nL) (hre : (rest.map fun v => v.category).sum ≤ 8) (hR : fr + 1 ≤ rm.frames ∧ 8 + (nL' + 11) + lo ≤ rm.locals ∧ cs + mc ≤ rm.cells ∧ sl + ms ≤ rm.slots) (d : dec cc pc (.invokespecial idx) 3 n)
    (kk : ∀ v H1, post v H1 → H1.size = H.size + mc → (∀ q, q < H.size → ¬ A' q → H1[q]? = H[q]?) → WG x A Q H1 (cs + mc) (sl + ms) n ls (psh v rest)) : WG x A Q H cs sl pc ls st := by
  subst hst
  obtain ⟨d, rfl⟩ := d
  refine r_goes (idx := idx) (a := (Value.ref a :: As).toArray) (post := post) (A' := A') hA kk ?_
  obtain ⟨p, l, e, R0, s, m0, args, below, meth, c⟩ := x
  intro locs
  obtain ⟨w, wn, wi⟩ := w
  have hts := kk_args C.2.2.2.2.1 args
  have hR' := C.2.2.2.2.2.2.2
  subst hR'
  have hF : CallFix p m0 c cc nL s args lwt own := ⟨C.1, C.2.1, C.2.2.1, C.2.2.2.1, hts⟩
  have hpre : PreS s H (MtP D (.ref a :: As) P) (.ref a :: As) := ⟨mtP_blind, fun U hU hW => ⟨rfl, by rw [hU]; exact hP, kk_warm hW C.2.2.2.2.1⟩⟩
  have hsz : ls.toArray.size = nL := by rw [List.size_toArray]; exact hl
  have hre' : 2 * (F0 m0 pc ls.toArray (As.reverse ++ .ref a :: rest)).monitorRoom + (rest.map fun v => v.category).sum ≤ 8 := lv_room hre
  rcases w.2.2.2.2 with hlk | ⟨host, hlk⟩
  · exact va_runI hF (M l) ⟨cb_of C.2.2.2.2.1 w hlk ⟨hR.1, hR.2.1⟩, wn, hts _ wi⟩ hpre rfl hn hsz rfl hre' d ⟨hR.2.2.1, hR.2.2.2⟩
  · exact va_runIN hF (M l) ⟨cn_of C.2.2.2.2.1 w hlk ⟨hR.1, hR.2.1⟩, wn, hts _ wi⟩ hpre rfl hn hsz rfl hre' d ⟨hR.2.2.1, hR.2.2.2⟩
end RN
