/-! the JDK's String at the one constant: toCharArray, length -/
def txt : String := "t0,60,8,2;t1,40,10,4;t2,30,5,0;t0,80,12,1;c20,15;c12,25;w1,1;w2,2;w3,3;"
def txb : List Int32 := [116, 48, 44, 54, 48, 44, 56, 44, 50, 59, 116, 49, 44, 52, 48, 44, 49, 48, 44, 52, 59, 116, 50, 44, 51, 48, 44, 53, 44, 48, 59, 116, 48, 44, 56, 48, 44, 49, 50, 44, 49, 59, 99, 50, 48, 44, 49, 53, 59, 99, 49, 50, 44, 50, 53, 59, 119, 49, 44, 49, 59, 119, 50, 44, 50, 59, 119, 51, 44, 51, 59]
def SX (B : Nat) (aK aV : Nat → Nat) (U : State) (H : Heap) : Prop := vk_R RX6 63 txt (aK 0) U ∧ va_Z RJ0 "COMPACT_STRINGS" "Z" (.int 1) (fun a => B ≤ a) U H ∧ vk_S 1 [71] [txb] aK aV (fun a => B ≤ a) U H
theorem SX.warm {B : Nat} {aK aV : Nat → Nat} {s U : State} {H : Heap} (hW : s.WarmedH U.vm) (h : SX B aK aV s H) : SX B aK aV U H := ⟨h.1.warm hW, va_Z.moved hW.alike h.2.1, vk_S.moved hW.alike h.2.2⟩
theorem SX.kept {B : Nat} {aK aV : Nat → Nat} {U : State} {H H1 : Heap} (h : SX B aK aV U H) (hq : ∀ a : Nat, a < H.size → ¬ B ≤ a → H1[a]? = H[a]?) : SX B aK aV U H1 := ⟨h.1, h.2.1.kept hq, h.2.2.kept hq⟩
def XS (x : CX) (B : Nat) (aK aV : Nat → Nat) : Prop := match x with | (_, _, _, _, s, _, _, _, _, _) => SX B aK aV s s.heap
def MtPX (D : DD) (B : Nat) (aK aV : Nat → Nat) (av : List Value) (P : Heap → Prop) : Array Value → State → Prop := fun v U => (v = av.toArray ∧ P U.heap ∧ KK D U) ∧ SX B aK aV U U.heap
def MtX (B : Nat) (aK aV : Nat → Nat) (l : Launch) (D : DD) (y : MethodName) (b : ByteArray) (nL : Nat) (ret : Option FieldType) (fr lo mc ms : Nat) (av : List Value) (P : Heap → Prop) (post : Option Value → Heap → Prop) (A : Nat → Prop) : Prop :=
  Met l y [Cond.code y b nL ret] { frames := fr, cells := mc, slots := ms, locals := lo } (MtPX D B aK aV av P) (MtQ post A mc) mc ms A
theorem mtPX_blind {D : DD} {B : Nat} {aK aV : Nat → Nat} {av : List Value} {P : Heap → Prop} : FrameBlind (MtPX D B aK aV av P) := fun a U g mk ⟨⟨h1, h2, h3⟩, h4⟩ => ⟨⟨h1, h2, kk_warm (s := U) (U := U.calling g mk a) (State.WarmedH.refl U) h3⟩, SX.warm (s := U) (U := U.calling g mk a) (State.WarmedH.refl U) h4⟩
/-- a String's method: its words -/
def CWJ (own : String) (idx : Nat) (y : MethodName) (b : ByteArray) (nL : Nat) (ret : Option FieldType) (k : Nat) : Prop :=
  CW own idx y b nL ret k ∧ Cond.instanceMethod y ∈ lwt ∧ Cond.selects y.cls y y ∈ lwt
section RS
variable {x : CX} {own : String} {cc : ByteArray} {nL : Nat} {D : DD} {ret : Option FieldType} {rm : Room} {A : Nat → Prop} {Q : State → Prop} {H : Heap} {cs sl pc n tgt : Nat} {ls : List Slot} {rest : List Value} {B : Nat} {aK aV : Nat → Nat}
theorem mtX_of {l : Launch} {y : MethodName} {b : ByteArray} {fr lo mc ms : Nat} {av : List Value} {P : Heap → Prop} {post : Option Value → Heap → Prop} (hown : y.cls = own) (hy : plainName y.cls = true) (hls : lg_sl av ++ List.replicate (nL - (lg_sl av).length) .unset = ls)
    (body : ∀ (x : CX) (H : Heap), Cx x own b nL D ret { frames := fr, cells := mc, slots := ms, locals := lo } → xn x y.name → XS x B aK aV → P H → WG x A (Fin x post A mc ms) H 0 0 0 ls []) : MtX B aK aV l D y b nL ret fr lo mc ms av P post A := by
  subst hown; subst hls
  refine Met.ofW (cc := b) (maxL := nL) (ret := ret) hy rfl ?_
  intro p e s m args below meth c s₁ Bd hml hv
  obtain ⟨⟨rfl, hP, hK⟩, hX⟩ := hv
  have h := body (p, l, e, _, s, m, av.toArray, below, meth, c) s.heap ⟨Bd.exec, Bd.bytes, hml, findClass_of_methodNamed Bd.named, hK, Bd.returns, Bd.notSynchronized, rfl⟩ ((name_of_methodNamed Bd.named Bd.method).1) hX hP [] va_S.rf rfl
  rw [lg_entry_eq]
  exact h
theorem r_ldcS (C : Cx x RX6 cc nL D ret rm) (X : XS x B aK aV) (d : dec cc pc (.ldc 63) 2 n) (kk : WG x A Q H cs sl n ls (.ref (aK 0) :: rest)) : WG x A Q H cs sl pc ls rest := by
  obtain ⟨p, l, e, R0, s, m, args, below, meth, c⟩ := x
  obtain ⟨d, rfl⟩ := d
  intro locs hS hz
  exact va_ldcS C.1 C.2.1 C.2.2.2.1 X.1 d (kk locs hS hz)
theorem r_getCS (C : Cx x RJ0 cc nL D ret rm) (X : XS x B aK aV) (hA : ∀ q, A q → B ≤ q) (d : dec cc pc (.getstatic 38) 3 n) (kk : WG x A Q H cs sl n ls (.int 1 :: rest)) : WG x A Q H cs sl pc ls rest := by
  obtain ⟨p, l, e, R0, s, m, args, below, meth, c⟩ := x
  obtain ⟨d, rfl⟩ := d
  intro locs hS hz
  exact va_gets C.1 C.2.1 (X.2.1.narrow hA) hS C.2.2.2.1 (kk_args C.2.2.2.2.1 args _ (wd_of 220 (by decide +kernel) (by decide +kernel))) (fun _ h => h) d (kk locs hS hz)
theorem r_getCd (C : Cx x RJ0 cc nL D ret rm) (X : XS x B aK aV) (hA : ∀ q, A q → B ≤ q) (d : dec cc pc (.getfield 15) 3 n) (kk : WG x A Q H cs sl n ls (.int 0 :: rest)) : WG x A Q H cs sl pc ls (.ref (aK 0) :: rest) := by
  obtain ⟨p, l, e, R0, s, m, args, below, meth, c⟩ := x
  obtain ⟨d, rfl⟩ := d
  intro locs hS hz
  exact vk_getf C.1 C.2.1 ((X.2.2.1 0 (by decide)).2.1.narrow hA) hS C.2.2.2.1 (kk_args C.2.2.2.2.1 args _ (wd_of 991 (by decide +kernel) (by decide +kernel))) (fun _ h => h) d (kk locs hS hz)
theorem r_getVl (C : Cx x RJ0 cc nL D ret rm) (X : XS x B aK aV) (hA : ∀ q, A q → B ≤ q) (d : dec cc pc (.getfield 9) 3 n) (kk : WG x A Q H cs sl n ls (.ref (aV 0) :: rest)) : WG x A Q H cs sl pc ls (.ref (aK 0) :: rest) := by
  obtain ⟨p, l, e, R0, s, m, args, below, meth, c⟩ := x
  obtain ⟨d, rfl⟩ := d
  intro locs hS hz
  exact vk_getf C.1 C.2.1 ((X.2.2.1 0 (by decide)).2.2.1.narrow hA) hS C.2.2.2.1 (kk_args C.2.2.2.2.1 args _ (wd_of 992 (by decide +kernel) (by decide +kernel))) (fun _ h => h) d (kk locs hS hz)
theorem r_tlen (C : Cx x own cc nL D ret rm) (X : XS x B aK aV) (hA : ∀ q, A q → B ≤ q) (d : dec cc pc .arraylength 1 n) (kk : WG x A Q H cs sl n ls (.int 71 :: rest)) : WG x A Q H cs sl pc ls (.ref (aV 0) :: rest) := by
  obtain ⟨p, l, e, R0, s, m, args, below, meth, c⟩ := x
  obtain ⟨d, rfl⟩ := d
  intro locs hS hz
  exact va_tlen C.1 C.2.1 ((X.2.2.1 0 (by decide)).2.2.2.narrow hA) hS (by decide) d (kk locs hS hz)
theorem r_tb (C : Cx x own cc nL D ret rm) (X : XS x B aK aV) (hA : ∀ q, A q → B ≤ q) {i : Nat} (hi : i < 71) (d : dec cc pc .baload 1 n) (kk : WG x A Q H cs sl n ls (.int (txb.getD i 0) :: rest)) : WG x A Q H cs sl pc ls (.int (nI i) :: .ref (aV 0) :: rest) := by
  obtain ⟨p, l, e, R0, s, m, args, below, meth, c⟩ := x
  obtain ⟨d, rfl⟩ := d
  intro locs hS hz
  have hc : (nI i).toNatClampNeg = i := nI_clamp (by omega)
  exact va_tb C.1 C.2.1 ((X.2.2.1 0 (by decide)).2.2.2.narrow hA) hS (fun q => by rcases q with q | q; exact nI_pos (by omega) q; rw [hc] at q; exact absurd q (Nat.not_le.mpr hi)) (by rw [hc]; rfl) d (kk locs hS hz)
theorem r_bret (C : Cx x own cc nL D (some .byte) rm) {post : Option Value → Heap → Prop} {v : Int32} (d : dec cc pc .ireturn 1 n) (hv : narrow .byte (.int v) = .int v) (hp : post (some (.int v)) H) : WG x A (Fin x post A cs sl) H cs sl pc ls [.int v] := by
  obtain ⟨p, l, e, R0, s, m0, args, below, meth, c⟩ := x
  obtain ⟨d, rfl⟩ := d
  intro locs hS hz
  exact W.zret C.1 C.2.1 C.2.2.2.2.2.1 hv (fun t ht _ => ⟨_, rfl, by rw [ht]; exact hp, by rw [ht]; exact hz, fun q h1 h2 => by rw [ht]; exact hS.2.1 q h1 h2⟩) hS.2.2 d (hlocks := C.2.2.2.2.2.2.1)
theorem sx_at {s : State} {H : Heap} {locs : List Loc} (X : SX B aK aV s s.heap) (hA : ∀ q, A q → B ≤ q) (hS : va_S A s.heap H locs) {U : State} (hU : U.heap = H) (hW : s.WarmedH U.vm) : SX B aK aV U U.heap := by
  refine SX.warm hW (SX.kept X fun a h1 h2 => ?_)
  rw [hU]
  exact hS.2.1 a h1 (fun h => h2 (hA a h))
/-- behind a call, where the frames stand -/
theorem r_goes2 {idx : Nat} {post : Option Value → Heap → Prop} {A' : Nat → Prop} {mc ms : Nat} {st : List Value} {a : Array Value}
    (hA : ∀ q, A' q → A q)
    (kk : ∀ v H1, post v H1 → H1.size = H.size + mc → (∀ q, q < H.size → ¬ A' q → H1[q]? = H[q]?) → WG x A Q H1 (cs + mc) (sl + ms) (pc + 3) ls (psh v rest))
    (hr : match x with | (p, l, e, R, s, m, args, below, meth, c) => ∀ locs, va_S A s.heap H locs → va_Run p l e R s m args below meth c H locs cs sl mc ms (F0 m pc ls.toArray st) rest (MtQ post A' mc a) A') : WG x A Q H cs sl pc ls st := by
  obtain ⟨p, l, e, R0, s, m0, args, below, meth, c⟩ := x
  intro locs hS hz T hT X
  obtain ⟨v, st₀, t, T', L, h0, X', hL, e1, e2, ⟨v', hv, hp, hz1, hk⟩, stp⟩ := hr locs hS T hT X
  cases hv
  rw [h0] at hz1 hk
  have hS' : va_S A s.heap T'.heap (locs ++ L) := ⟨by rw [e1, hz1]; exact Nat.le_trans hS.1 (Nat.le_add_right _ _), fun q h1 h2 => by rw [e1, hk q (Nat.lt_of_lt_of_le h1 hS.1) (fun z => h2 (hA q z))]; exact hS.2.1 q h1 h2, fun q hq => by
    rcases List.mem_append.mp hq with h | h
    · exact hS.2.2 q h
    · exact hA _ (hL q h)⟩
  obtain ⟨t2, a1, b1⟩ := kk v T'.heap (by rw [e1]; exact hp) (by rw [e1]; exact hz1) (fun q h1 h2 => by rw [e1]; exact hk q h1 h2) (locs ++ L) hS' (by rw [e1, hz1, hz]; omega) T' rfl X'
  refine ⟨t2, stp t2 ?_, b1⟩
  have hps : v.toList ++ rest = psh v rest := by cases v <;> rfl
  show Steps _ _ _ (T'.setTop { method := m0, pc := pc + 3, locals := ls.toArray, stack := v.toList ++ rest, locked := none }) t2
  rw [hps]
  exact a1
theorem r_callSX (C : Cx x own cc nL D ret rm) (X : XS x B aK aV) (hB : ∀ q, A q → B ≤ q) {idx k' fr lo mc ms nL' : Nat} {y : MethodName} {b : ByteArray} {ret' : Option FieldType} (w : CWS own idx y b nL' ret' k') {As st : List Value} {P : Heap → Prop} {post : Option Value → Heap → Prop} {A' : Nat → Prop} (M : ∀ l, MtX B aK aV l D y b nL' ret' fr lo mc ms As P post A')
    (hP : P H) (hA : ∀ q, A' q → A q) (hst : st = As.reverse ++ rest) (hn : As.length = k') (hl : ls.length = nL) (hre : (rest.map fun v => v.category).sum ≤ 8) (hR : fr + 1 ≤ rm.frames ∧ 8 + (nL' + 11) + lo ≤ rm.locals ∧ cs + mc ≤ rm.cells ∧ sl + ms ≤ rm.slots) (d : dec cc pc (.invokestatic idx) 3 n)
    (kk : ∀ v H1, post v H1 → H1.size = H.size + mc → (∀ q, q < H.size → ¬ A' q → H1[q]? = H[q]?) → WG x A Q H1 (cs + mc) (sl + ms) n ls (psh v rest)) : WG x A Q H cs sl pc ls st := by
  subst hst
  obtain ⟨d, rfl⟩ := d
  refine r_goes2 (idx := idx) (a := As.toArray) (post := post) (A' := A') hA kk ?_
  obtain ⟨p, l, e, R0, s, m0, args, below, meth, c⟩ := x
  intro locs hS
  obtain ⟨w, wst⟩ := w
  have hts := kk_args C.2.2.2.2.1 args
  have hR' := C.2.2.2.2.2.2.2
  subst hR'
  have hF : CallFix p m0 c cc nL s args lwt own := ⟨C.1, C.2.1, C.2.2.1, C.2.2.2.1, hts⟩
  have hpre : PreS s H (MtPX D B aK aV As P) As := ⟨mtPX_blind, fun U hU hW => ⟨⟨rfl, by rw [hU]; exact hP, kk_warm hW C.2.2.2.2.1⟩, sx_at X hB hS hU hW⟩⟩
  have hsz : ls.toArray.size = nL := by rw [List.size_toArray]; exact hl
  have hre' : 2 * (F0 m0 pc ls.toArray (As.reverse ++ rest)).monitorRoom + (rest.map fun v => v.category).sum ≤ 8 := lv_room hre
  rcases w.2.2.2.2 with hlk | ⟨host, hlk⟩
  · exact va_runS hF (M l) ⟨cb_of C.2.2.2.2.1 w hlk ⟨hR.1, hR.2.1⟩, hts _ wst⟩ hpre rfl hn hsz rfl hre' d ⟨hR.2.2.1, hR.2.2.2⟩
  · exact va_runSN hF (M l) ⟨cn_of C.2.2.2.2.1 w hlk ⟨hR.1, hR.2.1⟩, hts _ wst, trivial⟩ hpre rfl hn hsz rfl hre' d ⟨hR.2.2.1, hR.2.2.2⟩
theorem r_callJX (C : Cx x own cc nL D ret rm) (X : XS x B aK aV) (hB : ∀ q, A q → B ≤ q) {idx k' fr lo mc ms nL' : Nat} {y : MethodName} {b : ByteArray} {ret' : Option FieldType} (w : CWJ own idx y b nL' ret' k') (hy : y.cls = RJ0) {As st : List Value} {P : Heap → Prop} {post : Option Value → Heap → Prop} {A' : Nat → Prop} (M : ∀ l, MtX B aK aV l D y b nL' ret' fr lo mc ms (.ref (aK 0) :: As) P post A')
    (hP : P H) (hA : ∀ q, A' q → A q) (hst : st = As.reverse ++ .ref (aK 0) :: rest) (hn : As.length = k') (hl : ls.length = nL) (hre : (rest.map fun v => v.category).sum ≤ 8) (hR : fr + 1 ≤ rm.frames ∧ 8 + (nL' + 11) + lo ≤ rm.locals ∧ cs + mc ≤ rm.cells ∧ sl + ms ≤ rm.slots) (d : dec cc pc (.invokevirtual idx) 3 n)
    (kk : ∀ v H1, post v H1 → H1.size = H.size + mc → (∀ q, q < H.size → ¬ A' q → H1[q]? = H[q]?) → WG x A Q H1 (cs + mc) (sl + ms) n ls (psh v rest)) : WG x A Q H cs sl pc ls st := by
  subst hst
  obtain ⟨d, rfl⟩ := d
  refine r_goes2 (idx := idx) (a := (Value.ref (aK 0) :: As).toArray) (post := post) (A' := A') hA kk ?_
  obtain ⟨p, l, e, R0, s, m0, args, below, meth, c⟩ := x
  intro locs hS
  obtain ⟨w, wi, ws⟩ := w
  have hts := kk_args C.2.2.2.2.1 args
  have hR' := C.2.2.2.2.2.2.2
  subst hR'
  have hrecv : ∃ cell : Cell, H[aK 0]? = some cell ∧ cell.vm.isStatics = false ∧ s.vm.findClass y.cls = some cell.cls := by
    rw [hy]
    obtain ⟨cell, h1, h2, h3, -⟩ := ((X.2.2.1 0 (by decide)).1.narrow hB).kept hS.2.1
    exact ⟨cell, h1, h2, h3⟩
  have hF : CallFix p m0 c cc nL s args lwt own := ⟨C.1, C.2.1, C.2.2.1, C.2.2.2.1, hts⟩
  have hpre : PreV s H y.cls (aK 0) (MtPX D B aK aV (.ref (aK 0) :: As) P) As := ⟨mtPX_blind, hrecv, fun U hU hW => ⟨⟨rfl, by rw [hU]; exact hP, kk_warm hW C.2.2.2.2.1⟩, sx_at X hB hS hU hW⟩⟩
  have hsz : ls.toArray.size = nL := by rw [List.size_toArray]; exact hl
  have hre' : 2 * (F0 m0 pc ls.toArray (As.reverse ++ .ref (aK 0) :: rest)).monitorRoom + (rest.map fun v => v.category).sum ≤ 8 := lv_room hre
  rcases w.2.2.2.2 with hlk | ⟨host, hlk⟩
  · exact va_runV hF (M l) ⟨cb_of C.2.2.2.2.1 w hlk ⟨hR.1, hR.2.1⟩, hts _ wi, hts _ ws⟩ hpre rfl hn hsz rfl hre' d ⟨hR.2.2.1, hR.2.2.2⟩
  · exact va_runVN hF (M l) ⟨cn_of C.2.2.2.2.1 w hlk ⟨hR.1, hR.2.1⟩, hts _ wi, hts _ ws⟩ hpre rfl hn hsz rfl hre' d ⟨hR.2.2.1, hR.2.2.2⟩
theorem r_callIX (C : Cx x own cc nL D ret rm) (X : XS x B aK aV) (hB : ∀ q, A q → B ≤ q) {idx k' fr lo mc ms nL' : Nat} {y : MethodName} {b : ByteArray} (w : CWI own idx y b nL' k') {a : Nat} {As st : List Value} {P : Heap → Prop} {post : Option Value → Heap → Prop} {A' : Nat → Prop} (M : ∀ l, MtX B aK aV l D y b nL' none fr lo mc ms (.ref a :: As) P post A')
    (hP : P H) (hA : ∀ q, A' q → A q) (hst : st = As.reverse ++ .ref a :: rest) (hn : As.length = k') (hl : ls.length = nL) (hre : (rest.map fun v => v.category).sum ≤ 8) (hR : fr + 1 ≤ rm.frames ∧ 8 + (nL' + 11) + lo ≤ rm.locals ∧ cs + mc ≤ rm.cells ∧ sl + ms ≤ rm.slots) (d : dec cc pc (.invokespecial idx) 3 n)
    (kk : ∀ v H1, post v H1 → H1.size = H.size + mc → (∀ q, q < H.size → ¬ A' q → H1[q]? = H[q]?) → WG x A Q H1 (cs + mc) (sl + ms) n ls (psh v rest)) : WG x A Q H cs sl pc ls st := by
  subst hst
  obtain ⟨d, rfl⟩ := d
  refine r_goes2 (idx := idx) (a := (Value.ref a :: As).toArray) (post := post) (A' := A') hA kk ?_
  obtain ⟨p, l, e, R0, s, m0, args, below, meth, c⟩ := x
  intro locs hS
  obtain ⟨w, wn, wi⟩ := w
  have hts := kk_args C.2.2.2.2.1 args
  have hR' := C.2.2.2.2.2.2.2
  subst hR'
  have hF : CallFix p m0 c cc nL s args lwt own := ⟨C.1, C.2.1, C.2.2.1, C.2.2.2.1, hts⟩
  have hpre : PreS s H (MtPX D B aK aV (.ref a :: As) P) (.ref a :: As) := ⟨mtPX_blind, fun U hU hW => ⟨⟨rfl, by rw [hU]; exact hP, kk_warm hW C.2.2.2.2.1⟩, sx_at X hB hS hU hW⟩⟩
  have hsz : ls.toArray.size = nL := by rw [List.size_toArray]; exact hl
  have hre' : 2 * (F0 m0 pc ls.toArray (As.reverse ++ .ref a :: rest)).monitorRoom + (rest.map fun v => v.category).sum ≤ 8 := lv_room hre
  rcases w.2.2.2.2 with hlk | ⟨host, hlk⟩
  · exact va_runI hF (M l) ⟨cb_of C.2.2.2.2.1 w hlk ⟨hR.1, hR.2.1⟩, wn, hts _ wi⟩ hpre rfl hn hsz rfl hre' d ⟨hR.2.2.1, hR.2.2.2⟩
  · exact va_runIN hF (M l) ⟨cn_of C.2.2.2.2.1 w hlk ⟨hR.1, hR.2.1⟩, wn, hts _ wi⟩ hpre rfl hn hsz rfl hre' d ⟨hR.2.2.1, hR.2.2.2⟩
end RS
theorem dJ0_length_8abf5_0 : dec cJ0_length_8abf5 0 (.aload_n 0) 1 1 := ⟨by decide +kernel, rfl⟩
theorem dJ0_length_8abf5_1 : dec cJ0_length_8abf5 1 (.getfield 9) 3 4 := ⟨by decide +kernel, rfl⟩
theorem dJ0_length_8abf5_4 : dec cJ0_length_8abf5 4 .arraylength 1 5 := ⟨by decide +kernel, rfl⟩
theorem dJ0_length_8abf5_5 : dec cJ0_length_8abf5 5 (.aload_n 0) 1 6 := ⟨by decide +kernel, rfl⟩
theorem dJ0_length_8abf5_6 : dec cJ0_length_8abf5 6 (.invokevirtual 335) 3 9 := ⟨by decide +kernel, rfl⟩
theorem dJ0_length_8abf5_9 : dec cJ0_length_8abf5 9 .ishr 1 10 := ⟨by decide +kernel, rfl⟩
theorem dJ0_length_8abf5_10 : dec cJ0_length_8abf5 10 .ireturn 1 11 := ⟨by decide +kernel, rfl⟩
theorem dJ0_toCharArray_70df3_0 : dec cJ0_toCharArray_70df3 0 (.aload_n 0) 1 1 := ⟨by decide +kernel, rfl⟩
theorem dJ0_toCharArray_70df3_1 : dec cJ0_toCharArray_70df3 1 (.invokevirtual 492) 3 4 := ⟨by decide +kernel, rfl⟩
theorem dJ0_toCharArray_70df3_4 : decJ cJ0_toCharArray_70df3 4 (.ifCond .eq) 3 7 17 := ⟨13, by decide +kernel, rfl, rfl⟩
theorem dJ0_toCharArray_70df3_7 : dec cJ0_toCharArray_70df3 7 (.aload_n 0) 1 8 := ⟨by decide +kernel, rfl⟩
theorem dJ0_toCharArray_70df3_8 : dec cJ0_toCharArray_70df3 8 (.getfield 9) 3 11 := ⟨by decide +kernel, rfl⟩
theorem dJ0_toCharArray_70df3_11 : dec cJ0_toCharArray_70df3 11 (.invokestatic 299) 3 14 := ⟨by decide +kernel, rfl⟩
theorem dJ0_toCharArray_70df3_14 : decJ cJ0_toCharArray_70df3 14 .goto 3 17 24 := ⟨10, by decide +kernel, rfl, rfl⟩
theorem dJ0_toCharArray_70df3_17 : dec cJ0_toCharArray_70df3 17 (.aload_n 0) 1 18 := ⟨by decide +kernel, rfl⟩
theorem dJ0_toCharArray_70df3_18 : dec cJ0_toCharArray_70df3 18 (.getfield 9) 3 21 := ⟨by decide +kernel, rfl⟩
theorem dJ0_toCharArray_70df3_21 : dec cJ0_toCharArray_70df3 21 (.invokestatic 303) 3 24 := ⟨by decide +kernel, rfl⟩
theorem dJ0_toCharArray_70df3_24 : dec cJ0_toCharArray_70df3 24 .areturn 1 25 := ⟨by decide +kernel, rfl⟩
theorem dJ0_coder_7d493_0 : dec cJ0_coder_7d493 0 (.getstatic 38) 3 3 := ⟨by decide +kernel, rfl⟩
theorem dJ0_coder_7d493_3 : decJ cJ0_coder_7d493 3 (.ifCond .eq) 3 6 13 := ⟨10, by decide +kernel, rfl, rfl⟩
theorem dJ0_coder_7d493_6 : dec cJ0_coder_7d493 6 (.aload_n 0) 1 7 := ⟨by decide +kernel, rfl⟩
theorem dJ0_coder_7d493_7 : dec cJ0_coder_7d493 7 (.getfield 15) 3 10 := ⟨by decide +kernel, rfl⟩
theorem dJ0_coder_7d493_10 : decJ cJ0_coder_7d493 10 .goto 3 13 14 := ⟨4, by decide +kernel, rfl, rfl⟩
theorem dJ0_coder_7d493_13 : dec cJ0_coder_7d493 13 (.iconst 1) 1 14 := ⟨by decide +kernel, rfl⟩
theorem dJ0_coder_7d493_14 : dec cJ0_coder_7d493 14 .ireturn 1 15 := ⟨by decide +kernel, rfl⟩
theorem dJ0_isLatin1_aae02_0 : dec cJ0_isLatin1_aae02 0 (.getstatic 38) 3 3 := ⟨by decide +kernel, rfl⟩
theorem dJ0_isLatin1_aae02_3 : decJ cJ0_isLatin1_aae02 3 (.ifCond .eq) 3 6 17 := ⟨14, by decide +kernel, rfl, rfl⟩
theorem dJ0_isLatin1_aae02_6 : dec cJ0_isLatin1_aae02 6 (.aload_n 0) 1 7 := ⟨by decide +kernel, rfl⟩
theorem dJ0_isLatin1_aae02_7 : dec cJ0_isLatin1_aae02 7 (.getfield 15) 3 10 := ⟨by decide +kernel, rfl⟩
theorem dJ0_isLatin1_aae02_10 : decJ cJ0_isLatin1_aae02 10 (.ifCond .ne) 3 13 17 := ⟨7, by decide +kernel, rfl, rfl⟩
theorem dJ0_isLatin1_aae02_13 : dec cJ0_isLatin1_aae02 13 (.iconst 1) 1 14 := ⟨by decide +kernel, rfl⟩
theorem dJ0_isLatin1_aae02_14 : decJ cJ0_isLatin1_aae02 14 .goto 3 17 18 := ⟨4, by decide +kernel, rfl, rfl⟩
theorem dJ0_isLatin1_aae02_17 : dec cJ0_isLatin1_aae02 17 (.iconst 0) 1 18 := ⟨by decide +kernel, rfl⟩
theorem dJ0_isLatin1_aae02_18 : dec cJ0_isLatin1_aae02 18 .ireturn 1 19 := ⟨by decide +kernel, rfl⟩
theorem dJ1_toChars_9d188_0 : dec cJ1_toChars_9d188 0 (.aload_n 0) 1 1 := ⟨by decide +kernel, rfl⟩
theorem dJ1_toChars_9d188_1 : dec cJ1_toChars_9d188 1 .arraylength 1 2 := ⟨by decide +kernel, rfl⟩
theorem dJ1_toChars_9d188_2 : dec cJ1_toChars_9d188 2 (.newarray .char) 2 4 := ⟨by decide +kernel, rfl⟩
theorem dJ1_toChars_9d188_4 : dec cJ1_toChars_9d188 4 (.astore_n 1) 1 5 := ⟨by decide +kernel, rfl⟩
theorem dJ1_toChars_9d188_5 : dec cJ1_toChars_9d188 5 (.aload_n 0) 1 6 := ⟨by decide +kernel, rfl⟩
theorem dJ1_toChars_9d188_6 : dec cJ1_toChars_9d188 6 (.iconst 0) 1 7 := ⟨by decide +kernel, rfl⟩
theorem dJ1_toChars_9d188_7 : dec cJ1_toChars_9d188 7 (.aload_n 1) 1 8 := ⟨by decide +kernel, rfl⟩
theorem dJ1_toChars_9d188_8 : dec cJ1_toChars_9d188 8 (.iconst 0) 1 9 := ⟨by decide +kernel, rfl⟩
theorem dJ1_toChars_9d188_9 : dec cJ1_toChars_9d188 9 (.aload_n 0) 1 10 := ⟨by decide +kernel, rfl⟩
theorem dJ1_toChars_9d188_10 : dec cJ1_toChars_9d188 10 .arraylength 1 11 := ⟨by decide +kernel, rfl⟩
theorem dJ1_toChars_9d188_11 : dec cJ1_toChars_9d188 11 (.invokestatic 13) 3 14 := ⟨by decide +kernel, rfl⟩
theorem dJ1_toChars_9d188_14 : dec cJ1_toChars_9d188 14 (.aload_n 1) 1 15 := ⟨by decide +kernel, rfl⟩
theorem dJ1_toChars_9d188_15 : dec cJ1_toChars_9d188 15 .areturn 1 16 := ⟨by decide +kernel, rfl⟩
theorem dJ1_inflate_03870_0 : dec cJ1_inflate_03870 0 (.iconst 0) 1 1 := ⟨by decide +kernel, rfl⟩
theorem dJ1_inflate_03870_1 : dec cJ1_inflate_03870 1 (.istore 5) 2 3 := ⟨by decide +kernel, rfl⟩
theorem dJ1_inflate_03870_3 : dec cJ1_inflate_03870 3 (.iload 5) 2 5 := ⟨by decide +kernel, rfl⟩
theorem dJ1_inflate_03870_5 : dec cJ1_inflate_03870 5 (.iload 4) 2 7 := ⟨by decide +kernel, rfl⟩
theorem dJ1_inflate_03870_7 : decJ cJ1_inflate_03870 7 (.if_icmp .ge) 3 10 33 := ⟨26, by decide +kernel, rfl, rfl⟩
theorem dJ1_inflate_03870_10 : dec cJ1_inflate_03870 10 (.aload_n 2) 1 11 := ⟨by decide +kernel, rfl⟩
theorem dJ1_inflate_03870_11 : dec cJ1_inflate_03870 11 (.iload_n 3) 1 12 := ⟨by decide +kernel, rfl⟩
theorem dJ1_inflate_03870_12 : dec cJ1_inflate_03870 12 (.iinc 3 1) 3 15 := ⟨by decide +kernel, rfl⟩
theorem dJ1_inflate_03870_15 : dec cJ1_inflate_03870 15 (.aload_n 0) 1 16 := ⟨by decide +kernel, rfl⟩
theorem dJ1_inflate_03870_16 : dec cJ1_inflate_03870 16 (.iload_n 1) 1 17 := ⟨by decide +kernel, rfl⟩
theorem dJ1_inflate_03870_17 : dec cJ1_inflate_03870 17 (.iinc 1 1) 3 20 := ⟨by decide +kernel, rfl⟩
theorem dJ1_inflate_03870_20 : dec cJ1_inflate_03870 20 .baload 1 21 := ⟨by decide +kernel, rfl⟩
theorem dJ1_inflate_03870_21 : dec cJ1_inflate_03870 21 (.sipush 255) 3 24 := ⟨by decide +kernel, rfl⟩
theorem dJ1_inflate_03870_24 : dec cJ1_inflate_03870 24 .iand 1 25 := ⟨by decide +kernel, rfl⟩
theorem dJ1_inflate_03870_25 : dec cJ1_inflate_03870 25 .i2c 1 26 := ⟨by decide +kernel, rfl⟩
theorem dJ1_inflate_03870_26 : dec cJ1_inflate_03870 26 .castore 1 27 := ⟨by decide +kernel, rfl⟩
theorem dJ1_inflate_03870_27 : dec cJ1_inflate_03870 27 (.iinc 5 1) 3 30 := ⟨by decide +kernel, rfl⟩
theorem dJ1_inflate_03870_30 : decJ cJ1_inflate_03870 30 .goto 3 33 3 := ⟨-27, by decide +kernel, rfl, rfl⟩
theorem dJ1_inflate_03870_33 : dec cJ1_inflate_03870 33 .return_ 1 34 := ⟨by decide +kernel, rfl⟩
theorem cw_X6_65 : CWJ RX6 65 yJ0_toCharArray_70df3 cJ0_toCharArray_70df3 1 (some (.array .char)) 0 := ⟨⟨wd_of 215 (by decide +kernel) (by decide +kernel), wd_of 76 (by decide +kernel) (by decide +kernel), by decide +kernel, by decide +kernel, Or.inl (wd_of 212 (by decide +kernel) (by decide +kernel))⟩, wd_of 213 (by decide +kernel) (by decide +kernel), wd_of 214 (by decide +kernel) (by decide +kernel)⟩
theorem cw_X6_71 : CWJ RX6 71 yJ0_length_8abf5 cJ0_length_8abf5 1 (some .int) 0 := ⟨⟨wd_of 260 (by decide +kernel) (by decide +kernel), wd_of 76 (by decide +kernel) (by decide +kernel), by decide +kernel, by decide +kernel, Or.inl (wd_of 257 (by decide +kernel) (by decide +kernel))⟩, wd_of 258 (by decide +kernel) (by decide +kernel), wd_of 259 (by decide +kernel) (by decide +kernel)⟩
theorem cw_J0_492 : CWJ RJ0 492 yJ0_isLatin1_aae02 cJ0_isLatin1_aae02 1 (some .boolean) 0 := ⟨⟨wd_of 219 (by decide +kernel) (by decide +kernel), wd_of 76 (by decide +kernel) (by decide +kernel), by decide +kernel, by decide +kernel, Or.inl (wd_of 216 (by decide +kernel) (by decide +kernel))⟩, wd_of 217 (by decide +kernel) (by decide +kernel), wd_of 218 (by decide +kernel) (by decide +kernel)⟩
theorem cw_J0_335 : CWJ RJ0 335 yJ0_coder_7d493 cJ0_coder_7d493 1 (some .byte) 0 := ⟨⟨wd_of 264 (by decide +kernel) (by decide +kernel), wd_of 76 (by decide +kernel) (by decide +kernel), by decide +kernel, by decide +kernel, Or.inl (wd_of 261 (by decide +kernel) (by decide +kernel))⟩, wd_of 262 (by decide +kernel) (by decide +kernel), wd_of 263 (by decide +kernel) (by decide +kernel)⟩
theorem cw_J0_299 : CWS RJ0 299 yJ1_toChars_9d188 cJ1_toChars_9d188 2 (some (.array .char)) 1 := ⟨⟨wd_of 224 (by decide +kernel) (by decide +kernel), wd_of 77 (by decide +kernel) (by decide +kernel), by decide +kernel, by decide +kernel, Or.inl (wd_of 222 (by decide +kernel) (by decide +kernel))⟩, wd_of 223 (by decide +kernel) (by decide +kernel)⟩
theorem cw_J1_13 : CWS RJ1 13 yJ1_inflate_03870 cJ1_inflate_03870 6 none 5 := ⟨⟨wd_of 227 (by decide +kernel) (by decide +kernel), wd_of 77 (by decide +kernel) (by decide +kernel), by decide +kernel, by decide +kernel, Or.inl (wd_of 225 (by decide +kernel) (by decide +kernel))⟩, wd_of 226 (by decide +kernel) (by decide +kernel)⟩
theorem cel9_to {D : DD} {N a : Nat} {v w : Nat → Int32} {H : Heap} (h : cel D (9, N) a v H) (e : ∀ j, j < N → v j = w j) : cel D (9, N) a w H := by
  have ee : vp_cell (D.2 0) (N, .inl v) = vp_cell (D.2 0) (N, .inl w) := by
    rw [vp_cell_i, vp_cell_i]
    unfold arrV
    congr 2
    funext j
    show Value.int (v j.val) = Value.int (w j.val)
    rw [e j.val j.isLt]
  show H[a]? = some (vp_cell (D.2 0) (N, .inl w))
  rw [← ee]
  exact h
def TX : Nat → Nat → Int32 := fun _ j => txb.getD j 0
theorem txb_ok : ∀ j, j < 71 → vp_nar .char (((txb.getD j 0 &&& 255).toUInt32 % 65536).toInt32) = txb.getD j 0 := by decide +kernel
set_option maxRecDepth 100000 in
theorem c_J0_isLatin1 (B : Nat) (aK aV : Nat → Nat) (l : Launch) (D : DD) : MtX B aK aV l D yJ0_isLatin1_aae02 cJ0_isLatin1_aae02 1 (some .boolean) 0 0 0 0 [.ref (aK 0)] (fun _ => True) (fun v _ => v = some (.int 1)) fp0 := by
  refine mtX_of (own := RJ0) (ls := [.val (.ref (aK 0))]) rfl (by decide +kernel) rfl ?_
  intro x H C hi X hP
  refine r_getCS C X (fun q h => h.elim) dJ0_isLatin1_aae02_0 ?_
  refine r_if_eq C dJ0_isLatin1_aae02_3 (fun h => by exact absurd h (by decide)) (fun _ => ?_)
  refine r_aload_n C dJ0_isLatin1_aae02_6 rfl ?_
  refine r_getCd C X (fun q h => h.elim) dJ0_isLatin1_aae02_7 ?_
  refine r_if_ne C dJ0_isLatin1_aae02_10 (fun h => by exact absurd rfl h) (fun _ => ?_)
  refine r_iconst C dJ0_isLatin1_aae02_13 (1 : Int32) (by decide) ?_
  refine r_goto C dJ0_isLatin1_aae02_14 ?_
  exact r_zret C dJ0_isLatin1_aae02_18 (Or.inr rfl) rfl
set_option maxRecDepth 100000 in
theorem c_J0_coder (B : Nat) (aK aV : Nat → Nat) (l : Launch) (D : DD) : MtX B aK aV l D yJ0_coder_7d493 cJ0_coder_7d493 1 (some .byte) 0 0 0 0 [.ref (aK 0)] (fun _ => True) (fun v _ => v = some (.int 0)) fp0 := by
  refine mtX_of (own := RJ0) (ls := [.val (.ref (aK 0))]) rfl (by decide +kernel) rfl ?_
  intro x H C hi X hP
  refine r_getCS C X (fun q h => h.elim) dJ0_coder_7d493_0 ?_
  refine r_if_eq C dJ0_coder_7d493_3 (fun h => by exact absurd h (by decide)) (fun _ => ?_)
  refine r_aload_n C dJ0_coder_7d493_6 rfl ?_
  refine r_getCd C X (fun q h => h.elim) dJ0_coder_7d493_7 ?_
  refine r_goto C dJ0_coder_7d493_10 ?_
  exact r_bret C dJ0_coder_7d493_14 (by decide) rfl
set_option maxRecDepth 100000 in
theorem c_J0_length (B : Nat) (aK aV : Nat → Nat) (l : Launch) (D : DD) : MtX B aK aV l D yJ0_length_8abf5 cJ0_length_8abf5 1 (some .int) 1 20 0 0 [.ref (aK 0)] (fun _ => True) (fun v _ => v = some (.int 71)) fp0 := by
  refine mtX_of (own := RJ0) (ls := [.val (.ref (aK 0))]) rfl (by decide +kernel) rfl ?_
  intro x H C hi X hP
  refine r_aload_n C dJ0_length_8abf5_0 rfl ?_
  refine r_getVl C X (fun q h => h.elim) dJ0_length_8abf5_1 ?_
  refine r_tlen C X (fun q h => h.elim) dJ0_length_8abf5_4 ?_
  refine r_aload_n C dJ0_length_8abf5_5 rfl ?_
  refine r_callJX C X (fun q h => h.elim) cw_J0_335 rfl (fun l => c_J0_coder B aK aV l D) (rest := [.int 71]) trivial (fun q h => h) rfl rfl rfl (Nat.le_of_ble_eq_true rfl) ⟨Nat.le_of_ble_eq_true rfl, Nat.le_of_ble_eq_true rfl, Nat.le_refl 0, Nat.le_refl 0⟩ dJ0_length_8abf5_6 (fun v H1 hv hz1 hq1 => ?_)
  subst hv
  dsimp only [psh]
  refine r_ishr C dJ0_length_8abf5_9 ?_
  exact r_iret C dJ0_length_8abf5_10 (by decide)
set_option maxHeartbeats 4000000 in
set_option maxRecDepth 100000 in
theorem c_J1_inflate (B : Nat) (aK aV : Nat → Nat) (l : Launch) (D : DD) (h : Nat) (hB : B ≤ h) : MtX B aK aV l D yJ1_inflate_03870 cJ1_inflate_03870 6 none 0 0 0 0 [.ref (aV 0), .int 0, .ref h, .int 0, .int 71] (fun H => blk D (ksCh 71) h Z0 H) (fun v H => v = none ∧ blk D (ksCh 71) h TX H) (fp1 h 1) := by
  refine mtX_of (own := RJ1) (ls := [.val (.ref (aV 0)), .val (.int 0), .val (.ref h), .val (.int 0), .val (.int 71), .unset]) rfl (by decide +kernel) rfl ?_
  intro x H C hi X hP
  have hA : ∀ q, fp1 h 1 q → B ≤ q := fun q hq => by unfold fp1 at hq; omega
  refine r_iconst C dJ1_inflate_03870_0 (0 : Int32) (by decide) ?_
  refine r_istore C dJ1_inflate_03870_1 (ls' := [.val (.ref (aV 0)), .val (.int 0), .val (.ref h), .val (.int 0), .val (.int 71), .val (.int 0)]) rfl trivial rfl ?_
  have key : ∀ (n i : Nat) (R : Nat → Nat → Int32) (H : Heap), i + n = 71 → (∀ j, j < i → R 0 j = TX 0 j) → blk D (ksCh 71) h R H → WG x (fp1 h 1) (Fin x (fun v H => v = none ∧ blk D (ksCh 71) h TX H) (fp1 h 1) 0 0) H 0 0 3 [.val (.ref (aV 0)), .val (.int (nI i)), .val (.ref h), .val (.int (nI i)), .val (.int 71), .val (.int (nI i))] [] := by
    intro n
    induction n with
    | zero =>
      intro i R H hn hR hb
      have hi : i = 71 := by omega
      subst hi
      refine r_iload C dJ1_inflate_03870_3 rfl ?_
      refine r_iload C dJ1_inflate_03870_5 rfl ?_
      refine r_ic_ge C dJ1_inflate_03870_7 (fun _ => ?_) (fun hh => by exact absurd (show (71 : Int32) ≤ nI 71 by decide) hh)
      refine r_vret C dJ1_inflate_03870_33 ⟨rfl, ?_⟩
      intro k K hk
      cases k with
      | succ k => cases hk
      | zero =>
        have h1 := hb 0 K hk
        cases hk
        exact cel9_to h1 hR
    | succ n ih =>
      intro i R H hn hR hb
      refine r_iload C dJ1_inflate_03870_3 rfl ?_
      refine r_iload C dJ1_inflate_03870_5 rfl ?_
      refine r_ic_ge C dJ1_inflate_03870_7 (fun hh => by exact absurd hh (nI_ge (a := i) (b := 71) (by omega) (by omega))) (fun _ => ?_)
      refine r_aload_n C dJ1_inflate_03870_10 rfl ?_
      refine r_iload_n C dJ1_inflate_03870_11 rfl ?_
      refine r_iinc C dJ1_inflate_03870_12 (nI (i + 1)) rfl (nI_inc i rfl) (ls' := [.val (.ref (aV 0)), .val (.int (nI i)), .val (.ref h), .val (.int (nI (i + 1))), .val (.int 71), .val (.int (nI i))]) rfl ?_
      refine r_aload_n C dJ1_inflate_03870_15 rfl ?_
      refine r_iload_n C dJ1_inflate_03870_16 rfl ?_
      refine r_iinc C dJ1_inflate_03870_17 (nI (i + 1)) rfl (nI_inc i rfl) (ls' := [.val (.ref (aV 0)), .val (.int (nI (i + 1))), .val (.ref h), .val (.int (nI (i + 1))), .val (.int 71), .val (.int (nI i))]) rfl ?_
      refine r_tb C X hA (i := i) (by omega) dJ1_inflate_03870_20 ?_
      refine r_sipush C dJ1_inflate_03870_21 (255 : Int32) (by decide) ?_
      refine r_iand C dJ1_inflate_03870_24 ?_
      refine r_i2c C dJ1_inflate_03870_25 ?_
      have hc : (nI i).toNatClampNeg = i := nI_clamp (by omega)
      refine r_cast C hb (k := 0) rfl rfl (by unfold fp1; omega) (fun q => by rcases q with q | q; exact nI_pos (by omega) q; rw [hc] at q; exact absurd q (by omega)) hc dJ1_inflate_03870_26 (fun H1 hb1 hq1 => ?_)
      refine r_iinc C dJ1_inflate_03870_27 (nI (i + 1)) rfl (nI_inc i rfl) (ls' := [.val (.ref (aV 0)), .val (.int (nI (i + 1))), .val (.ref h), .val (.int (nI (i + 1))), .val (.int 71), .val (.int (nI (i + 1)))]) rfl ?_
      refine r_goto C dJ1_inflate_03870_30 ?_
      refine ih (i + 1) _ H1 (by omega) (fun j hj => ?_) hb1
      rw [pt_eq]
      by_cases hji : j = i
      · subst hji
        simp only [upd, if_true]
        exact txb_ok j (by omega)
      · simp only [upd, if_neg hji]
        exact hR j (by omega)
  exact key 71 0 Z0 H rfl (fun j hj => absurd hj (by omega)) hP
