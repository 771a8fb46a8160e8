/-! the law's start: classes' numbers, the one constant, the two constructors, the loop -/
theorem tbl_of {w : Cond} (h : w ∈ lwt) : w ∈ lw_tbl := (List.mem_filter.mp h).1
theorem kk_word {s : State} {args : Array Value} (hts : ∀ w ∈ lw_tbl, w.before args s = true) : ∀ w ∈ lwt, w.before #[] s = true := by
  intro w hw
  have h1 := tbl_good hw
  rcases Bool.or_eq_true _ _ ▸ h1 with h2 | h2
  · exact word_at (State.WarmedH.refl s) (good_of_word h2) (hts w (tbl_of hw))
  · cases w <;> first | exact va_Nw.of rfl (hts _ (tbl_of hw)) | cases h2
theorem arr_obj {s : State} {args : Array Value} {C : String} (h : (Cond.arrayOver (.object C)).before args s = true) : ∃ cA : ClassId, ArrOfT s cA (.object C) ∧ va_RA s cA (.object C) := by
  obtain ⟨comp, c, k, h1, h2, h3, h4, h5⟩ := Cond.arrayOver_spec h
  exact ⟨c, fun n z => ⟨fun k h => (by cases h), k, h3, comp, h4⟩, k, comp, h3, h4, h1, h5⟩
theorem arr_int {s : State} {args : Array Value} (h : (Cond.arrayClass .int).before args s = true) : ∃ cA : ClassId, ArrOfT s cA .int ∧ va_RA s cA .int := by
  obtain ⟨c, k, comp, h1, h2, h3⟩ := Cond.arrayClass_spec h
  exact ⟨c, fun n z => ⟨fun k h => (by cases h), k, h2, comp, h3⟩, h1⟩
theorem arr_char {s : State} {args : Array Value} (h : (Cond.arrayClass .char).before args s = true) : ∃ cA : ClassId, ArrOfT s cA .char ∧ va_RA s cA .char := by
  obtain ⟨c, k, comp, h1, h2, h3⟩ := Cond.arrayClass_spec h
  exact ⟨c, fun n z => ⟨fun k h => (by cases h), k, h2, comp, h3⟩, h1⟩
set_option maxRecDepth 100000 in
theorem kk_start {s : State} {args : Array Value} (hts : ∀ w ∈ lw_tbl, w.before args s = true) : ∃ D : DD, KK D s := by
  obtain ⟨c0, i0, k0⟩ := u_known (C := RX0) (T := TX0) (N := 6) (n := 6) hts (fun w h => tbl_of (inX0 w h)) (hts (.instantiable RX0 6) (by decide +kernel))
  obtain ⟨c1, i1, k1⟩ := u_known (C := RX1) (T := TX1) (N := 4) (n := 4) hts (fun w h => tbl_of (inX1 w h)) (hts (.instantiable RX1 4) (by decide +kernel))
  obtain ⟨c2, i2, k2⟩ := u_known (C := RX2) (T := TX2) (N := 1) (n := 1) hts (fun w h => tbl_of (inX2 w h)) (hts (.instantiable RX2 1) (by decide +kernel))
  obtain ⟨c3, i3, k3⟩ := u_known (C := RX3) (T := TX3) (N := 4) (n := 4) hts (fun w h => tbl_of (inX3 w h)) (hts (.instantiable RX3 4) (by decide +kernel))
  obtain ⟨c4, i4, k4⟩ := u_known (C := RX4) (T := TX4) (N := 2) (n := 2) hts (fun w h => tbl_of (inX4 w h)) (hts (.instantiable RX4 2) (by decide +kernel))
  obtain ⟨c5, i5, k5⟩ := u_known (C := RX5) (T := TX5) (N := 8) (n := 8) hts (fun w h => tbl_of (inX5 w h)) (hts (.instantiable RX5 8) (by decide +kernel))
  obtain ⟨c6, i6, k6⟩ := u_known (C := RX6) (T := TX6) (N := 11) (n := 11) hts (fun w h => tbl_of (inX6 w h)) (hts (.instantiable RX6 11) (by decide +kernel))
  obtain ⟨c7, i7, k7⟩ := u_known (C := RX7) (T := TX7) (N := 26) (n := 26) hts (fun w h => tbl_of (inX7 w h)) (hts (.instantiable RX7 26) (by decide +kernel))
  have wT := hts (.arrayOver (.object RX5)) (by decide +kernel)
  have wC := hts (.arrayOver (.object RX0)) (by decide +kernel)
  have wR := hts (.arrayOver (.object RX3)) (by decide +kernel)
  obtain ⟨a0, p0⟩ := arr_char (hts (.arrayClass .char) (by decide +kernel))
  obtain ⟨a1, p1⟩ := arr_int (hts (.arrayClass .int) (by decide +kernel))
  obtain ⟨a2, p2⟩ := arr_obj wT
  obtain ⟨a3, p3⟩ := arr_obj wC
  obtain ⟨a4, p4⟩ := arr_obj wR
  refine ⟨((fun k => match k with | 0 => c0 | 1 => c1 | 2 => c2 | 3 => c3 | 4 => c4 | 5 => c5 | 6 => c6 | _ => c7, fun k => match k with | 0 => i0 | 1 => i1 | 2 => i2 | 3 => i3 | 4 => i4 | 5 => i5 | 6 => i6 | _ => i7), fun k => match k with | 0 => a0 | 1 => a1 | 2 => a2 | 3 => a3 | _ => a4), ⟨?_, ?_⟩, kk_word hts, va_AO.of wT, va_AO.of wC, va_AO.of wR⟩
  · intro k q hq
    match k, hq with
    | 0, hq => cases hq; exact k0
    | 1, hq => cases hq; exact k1
    | 2, hq => cases hq; exact k2
    | 3, hq => cases hq; exact k3
    | 4, hq => cases hq; exact k4
    | 5, hq => cases hq; exact k5
    | 6, hq => cases hq; exact k6
    | 7, hq => cases hq; exact k7
    | k + 8, hq => cases hq
  · intro k q hq
    match k, hq with
    | 0, hq => cases hq; exact p0
    | 1, hq => cases hq; exact p1
    | 2, hq => cases hq; exact p2
    | 3, hq => cases hq; exact p3
    | 4, hq => cases hq; exact p4
    | k + 5, hq => cases hq
def tmS : Nat → Term := fun _ => .string "PaidToGoAway" 63
set_option maxRecDepth 100000 in
set_option maxHeartbeats 4000000 in
theorem sx_start {s : State} {b : Nat} (hts : ∀ w ∈ lw_tbl, w.before #[Value.ref b] s = true) (hgv : (Jvm.Cond.and given_1 narrow_1).before #[Value.ref b] s = true) : ∃ aK aV : Nat → Nat, SX s.heap.size aK aV s s.heap := by
  have hs := flat_of_before _ hgv
  have hA : ∀ a : Nat, a < s.heap.size → ¬ (fun a => s.heap.size ≤ a) a := fun a h => Nat.not_le.mpr h
  have hz := va_Zof (C := RJ0) (n := "COMPACT_STRINGS") (d := "Z") (v := .int 1) (A := fun a => s.heap.size ≤ a) (hts (.laysStatic RJ0 "COMPACT_STRINGS" "Z") (by decide +kernel)) (hts (.initialized RJ0) (by decide +kernel)) (va_eqi (hs (.eq (.static RJ0 "COMPACT_STRINGS" "Z") (.int 1)) (by decide +kernel))) hA
  have hel : ∀ j : Nat, j < 71 → (Cond.eq (.elem (.field (tmS 0) "java/lang/String" "value" "[B") (.int (Int32.ofNat j))) (.int (txb.getD j 0))).before #[Value.ref b] s = true := fun j hj => hs _ (by revert hj; revert j; decide +kernel)
  have h0 : ∀ {P : Nat → Prop}, P 0 → ∀ i : Nat, i < 1 → P i := fun {P} h i hi => by
    have : i = 0 := by omega
    subst this
    exact h
  obtain ⟨aK, aV, h1, h2⟩ := vk_Sof (args := #[Value.ref b]) (s := s) (N := 1) (tm := tmS) (len := [71]) (byt := [txb]) (A := fun a => s.heap.size ≤ a) (h0 (P := fun i => ([71] : List Nat).getD i 0 < 2 ^ 31) (by decide))
    (fun _ _ => hs (.exactly (.string "PaidToGoAway" 63) "java/lang/String") (by decide +kernel))
    (fun _ _ => hs (.eq (.field (.string "PaidToGoAway" 63) "java/lang/String" "coder" "B") (.int 0)) (by decide +kernel))
    (fun _ _ => hs (.arrayOf (.field (.string "PaidToGoAway" 63) "java/lang/String" "value" "[B") .byte) (by decide +kernel))
    (h0 (P := fun i => (Cond.eq (.length (.field (tmS i) "java/lang/String" "value" "[B")) (.int (Int32.ofNat (([71] : List Nat).getD i 0)))).before #[Value.ref b] s = true) (hs (.eq (.length (.field (.string "PaidToGoAway" 63) "java/lang/String" "value" "[B")) (.int 71)) (by decide +kernel)))
    (h0 (P := fun i => ∀ j : Nat, j < ([71] : List Nat).getD i 0 → (Cond.eq (.elem (.field (tmS i) "java/lang/String" "value" "[B") (.int (Int32.ofNat j))) (.int ((([txb] : List (List Int32)).getD i []).getD j 0))).before #[Value.ref b] s = true) hel)
    (fun i j hi hj hij => absurd (show i = j by omega) hij) hA
  exact ⟨aK, aV, vk_R.of (hts (.stringRef "PaidToGoAway" 63 txt) (by decide +kernel)) (h2 0 (by decide)), hz, h1⟩
set_option maxHeartbeats 4000000 in
set_option maxRecDepth 100000 in
theorem start_of {Inv : (Nat → Nat → Int32) → (Nat → Nat → Int32) → Prop} (S : Sim Inv) (hI : Inv R6 M8) {p : Program} {e : Env} {s : State} {m : MethodId} {below : List Frame} {meth : Method} {c : Code} (l : Launch) {b L : Nat} {xs : Nat → Int32} (hL : L ≤ 256) (C0 : lw_At p s m meth c b L xs) : W p l e room_1 s m #[Value.ref b] below meth c s.heap [] 0 0 (lw_Z below #[Value.ref b] s) (entryFrame m ([Value.ref b] : List Value).toArray 4) := by
  obtain ⟨hx, hb, hr, hml, hown, hts, hX, hbl, hlocks, hgv⟩ := id C0
  obtain ⟨D, hK⟩ := kk_start hts
  obtain ⟨aK, aV, hSX⟩ := sx_start hts hgv
  obtain ⟨B, hB⟩ : ∃ B, B = s.heap.size := ⟨_, rfl⟩
  have hbA : ¬ (fun q : Nat => B ≤ q) b := by rw [hB]; exact Nat.not_le.mpr hbl
  have C : Cx (p, l, e, room_1, s, m, #[Value.ref b], below, meth, c) RL cL_law 4 D ret room_1 := ⟨hx, hb, hml, hown, hK, hr, hlocks, rfl⟩
  have X : XS (p, l, e, room_1, s, m, #[Value.ref b], below, meth, c) B aK aV := by rw [hB]; exact hSX
  have Y : SC (p, l, e, room_1, s, m, #[Value.ref b], below, meth, c) b L xs := ⟨hX, hbl⟩
  rw [lg_entry_eq]
  have key : WG (p, l, e, room_1, s, m, #[Value.ref b], below, meth, c) (fun q => B ≤ q) (lw_Z below #[Value.ref b] s) s.heap 0 0 0 [.val (.ref b), .unset, .unset, .unset] [] := by
    refine r_newO C nw_L_7 ⟨by decide +kernel, by decide +kernel⟩ dL_law_0 hB.symm (fun H1 hr1 hz1 hq1 => ?_)
    refine r_dup C dL_law_3 rfl ?_
    refine r_callIX C X (fun q hq => hq) ci_L_9 (fun l => c_X6_init B aK aV l D B (Nat.le_refl B)) (rest := [.ref B]) ⟨hr1, hz1⟩ (fun q hq => by unfold fp1 at hq; omega) rfl rfl rfl (Nat.le_of_ble_eq_true rfl) ⟨by decide +kernel, by decide +kernel, by decide +kernel, by decide +kernel⟩ dL_law_4 (fun v H2 hv hz2 hq2 => ?_)
    obtain ⟨rfl, hb2⟩ := hv
    have hz2' : H2.size = B + 215 := by rw [hz2, hz1]
    dsimp only [psh]
    refine r_astore_n C dL_law_7 (ls' := [.val (.ref b), .val (.ref B), .unset, .unset]) rfl trivial rfl ?_
    refine r_newO C nw_L_10 ⟨by decide +kernel, by decide +kernel⟩ dL_law_8 hz2' (fun H3 hr3 hz3 hq3 => ?_)
    have hb3 := blk_kept hb2 (n := 215) rfl (fun q h1 h2 => hq3 q (by omega))
    refine r_dup C dL_law_11 rfl ?_
    refine r_callI C ci_L_12 (fun l => c_X7_init l D (B + 215)) (rest := [.ref (B + 215)]) ⟨hr3, hz3⟩ (fun q hq => by unfold fp1 at hq; omega) rfl rfl rfl (Nat.le_of_ble_eq_true rfl) ⟨by decide +kernel, by decide +kernel, by decide +kernel, by decide +kernel⟩ dL_law_12 (fun v H4 hv hz4 hq4 => ?_)
    obtain ⟨rfl, hb4⟩ := hv
    have hb5 := blk_kept hb3 (n := 215) rfl (fun q h1 h2 => hq4 q (by omega) (by unfold fp1; omega))
    dsimp only [psh]
    refine r_astore_n C dL_law_15 (ls' := [.val (.ref b), .val (.ref B), .val (.ref (B + 215)), .unset]) rfl trivial rfl ?_
    refine r_iconst C dL_law_16 (0 : Int32) (by decide) ?_
    refine r_istore_n C dL_law_17 (ls' := LSl b B (B + 215) 0) rfl trivial rfl ?_
    refine law_loop S C Y hbA (fun q hq => by unfold fp1 at hq; omega) (fun q hq => by unfold fp1 at hq; omega) (Nat.le_refl _) hL (by decide +kernel) (by decide +kernel) (by decide +kernel) (by decide +kernel) ?_ (L + 1) 0 H4 R6 M8 (by omega) (by omega) hI hb5 hb4
    intro H9 i
    refine r_iconst C dL_law_980 (1 : Int32) (by decide) ?_
    intro locs hS hz
    refine va_forget (fun q hq => by rw [← hB]; exact hS.2.2 q hq) ?_
    refine W.widen (k := 600000) (n := 7302250) (by decide +kernel) (by decide +kernel) ?_
    exact lw_ret hx hb hr hlocks dL_law_981.1
  exact key [] va_S.rf rfl
