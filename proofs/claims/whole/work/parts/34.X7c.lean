def d_X7_isRow_L15 (R_tx : Nat → Nat → Int32) (Rm : Nat → Nat → Int32) : Nat → (Nat → Nat → Int32) → Int32 → (Nat → Nat → Int32) × Int32
  | 0, Rm2, v => (Rm2, v)
  | n21 + 1, Rm2, v =>
    if (nI ((Rm 0 2).toNatClampNeg + 2)) ≤ (Rm2 0 2) then
      (Rm2, v)
    else
      lt (d_X7_letterAt Rm2 R_tx (Rm2 0 2)) fun u35 =>
      lt (d_X7_in u35 (48 : Int32) (57 : Int32)) fun u42 =>
      if u42 = 0 then
        (Rm2, v)
      else
        lt (d_X7_letterAt Rm2 R_tx (Rm2 0 2)) fun u55 =>
        d_X7_isRow_L15 R_tx Rm n21 (pt Rm2 0 2 (nI ((Rm2 0 2).toNatClampNeg + 1))) (nI (((10 * v.toNatClampNeg) + u35.toNatClampNeg) - 48))
def d_X7_isRow_L2 (R_tx : Nat → Nat → Int32) (size : Int32) : Nat → (Nat → Nat → Int32) → (Nat → Nat → Int32) → Nat → (Int32 × (Nat → Nat → Int32) × (Nat → Nat → Int32)) ⊕ ((Nat → Nat → Int32) × (Nat → Nat → Int32))
  | 0, Rm, Rn, _ => .inr (Rm, Rn)
  | n1 + 1, Rm, Rn, n =>
    if size ≤ (nI n) then
      .inr (Rm, Rn)
    else
      lt (d_X7_isRow_L15 R_tx Rm 3 Rm (0 : Int32)) fun s69 =>
      if (s69.1 0 2) = (Rm 0 2) then
        .inl ((0 : Int32), s69.1, Rn)
      else
        lt (d_X7_letterAt s69.1 R_tx (s69.1 0 2)) fun u79 =>
        if (nI n) = (size - (1 : Int32)) then
          if u79 = (59 : Int32) then
            d_X7_isRow_L2 R_tx size n1 (pt s69.1 0 2 (nI ((s69.1 0 2).toNatClampNeg + 1))) (pt Rn 0 n s69.2) (n + 1)
          else
            .inl ((0 : Int32), s69.1, Rn)
        else
          if u79 = (44 : Int32) then
            d_X7_isRow_L2 R_tx size n1 (pt s69.1 0 2 (nI ((s69.1 0 2).toNatClampNeg + 1))) (pt Rn 0 n s69.2) (n + 1)
          else
            .inl ((0 : Int32), s69.1, Rn)
def d_X7_isRow (R_m : Nat → Nat → Int32) (R_tx : Nat → Nat → Int32) (R_nu : Nat → Nat → Int32) (size : Int32) : Int32 × (Nat → Nat → Int32) × (Nat → Nat → Int32) :=
  sc (d_X7_isRow_L2 R_tx size 5 R_m R_nu 0) (fun r => r) fun w112 =>
  ((1 : Int32), w112.1, w112.2)
set_option maxHeartbeats 4000000 in
set_option maxRecDepth 100000 in
theorem c_X7_isRow (l : Launch) (D : DD) (o_m : Nat) (R_m : Nat → Nat → Int32) (R_tx : Nat → Nat → Int32) (R_nu : Nat → Nat → Int32) (size : Int32) (h0 : R_m 0 0 = nI (R_m 0 0).toNatClampNeg) (b0 : (R_m 0 0).toNatClampNeg ≤ 200) (h2 : R_m 0 2 = nI (R_m 0 2).toNatClampNeg) (b2p : (R_m 0 2).toNatClampNeg ≤ 600) (hsize : size = nI size.toNatClampNeg) (hlsize : size.toNatClampNeg ≤ 4) (res : Int32 × (Nat → Nat → Int32) × (Nat → Nat → Int32)) (hres : res = d_X7_isRow R_m R_tx R_nu size) : Mt l D yX7_isRow cX7_isRow 5 (some .boolean) 1 22 0 0 [.ref o_m, .int size] (fun H => blk D ksM0 o_m R_m H ∧ blk D (ksI 200) (o_m + 1) R_tx H ∧ blk D (ksI 4) (o_m + 2) R_nu H) (fun v H => v = some (.int res.1) ∧ bl res.1 ∧ blk D ksM0 o_m res.2.1 H ∧ blk D (ksI 4) (o_m + 2) res.2.2 H ∧ (∀ j, j ≠ 2 → res.2.1 0 j = R_m 0 j) ∧ (res.2.1 0 2 = nI (res.2.1 0 2).toNatClampNeg ∧ (R_m 0 2).toNatClampNeg ≤ (res.2.1 0 2).toNatClampNeg ∧ (res.2.1 0 2).toNatClampNeg ≤ (R_m 0 2).toNatClampNeg + 12) ∧ (¬ res.1 = 0 → ∀ j, j < size.toNatClampNeg → res.2.2 0 j = nI (res.2.2 0 j).toNatClampNeg ∧ (res.2.2 0 j).toNatClampNeg ≤ 99)) (fp2 o_m 1 (o_m + 2) 1) := by
  refine mt_of (own := RX7) (ls := [.val (.ref o_m), .val (.int size), .unset, .unset, .unset]) rfl (by decide +kernel) rfl ?_
  intro x H C hP
  obtain ⟨hb_m, hb_tx, hb_nu⟩ := hP
  refine r_iconst C dX7_isRow_0 (0 : Int32) (by decide) ?_
  refine r_istore_n C dX7_isRow_1 (ls' := [.val (.ref o_m), .val (.int size), .val (.int (0 : Int32)), .unset, .unset]) rfl trivial rfl ?_
  have d_X7_isRow_L2_w : ∀ (n1 : Nat) (Rm : Nat → Nat → Int32) (Rn : Nat → Nat → Int32) (n : Nat) (H10 : Heap) (z5 : Slot) (_ : slot1 z5) (z6 : Slot) (_ : slot1 z6), True → (n ≤ size.toNatClampNeg) → (∀ j, j ≠ 2 → Rm 0 j = R_m 0 j) → (Rm 0 2 = nI (Rm 0 2).toNatClampNeg) → ((R_m 0 2).toNatClampNeg ≤ (Rm 0 2).toNatClampNeg) → ((Rm 0 2).toNatClampNeg ≤ (R_m 0 2).toNatClampNeg + 3 * n) → (∀ j, j < n → Rn 0 j = nI (Rn 0 j).toNatClampNeg ∧ (Rn 0 j).toNatClampNeg ≤ 99) → (size.toNatClampNeg - n < n1) → blk D ksM0 o_m Rm H10 → blk D (ksI 200) (o_m + 1) R_tx H10 → blk D (ksI 4) (o_m + 2) Rn H10 → ∀ s3 : (Int32 × (Nat → Nat → Int32) × (Nat → Nat → Int32)) ⊕ ((Nat → Nat → Int32) × (Nat → Nat → Int32)), s3 = d_X7_isRow_L2 R_tx size n1 Rm Rn n → (∀ r, s3 = .inl r → res = r) → (∀ (w11 : (Nat → Nat → Int32) × (Nat → Nat → Int32)) (H' : Heap) (z12 : Slot) (_ : slot1 z12) (z13 : Slot) (_ : slot1 z13) (z14 : Slot) (_ : slot1 z14), s3 = .inr w11 → ((∀ j, j ≠ 2 → w11.1 0 j = R_m 0 j) ∧ w11.1 0 2 = nI (w11.1 0 2).toNatClampNeg ∧ (R_m 0 2).toNatClampNeg ≤ (w11.1 0 2).toNatClampNeg ∧ (w11.1 0 2).toNatClampNeg ≤ (R_m 0 2).toNatClampNeg + 12 ∧ ∀ j, j < size.toNatClampNeg → w11.2 0 j = nI (w11.2 0 j).toNatClampNeg ∧ (w11.2 0 j).toNatClampNeg ≤ 99) → blk D ksM0 o_m w11.1 H' → blk D (ksI 200) (o_m + 1) R_tx H' → blk D (ksI 4) (o_m + 2) w11.2 H' → WG x (fp2 o_m 1 (o_m + 2) 1) (Fin x (fun v H => v = some (.int res.1) ∧ bl res.1 ∧ blk D ksM0 o_m res.2.1 H ∧ blk D (ksI 4) (o_m + 2) res.2.2 H ∧ (∀ j, j ≠ 2 → res.2.1 0 j = R_m 0 j) ∧ (res.2.1 0 2 = nI (res.2.1 0 2).toNatClampNeg ∧ (R_m 0 2).toNatClampNeg ≤ (res.2.1 0 2).toNatClampNeg ∧ (res.2.1 0 2).toNatClampNeg ≤ (R_m 0 2).toNatClampNeg + 12) ∧ (¬ res.1 = 0 → ∀ j, j < size.toNatClampNeg → res.2.2 0 j = nI (res.2.2 0 j).toNatClampNeg ∧ (res.2.2 0 j).toNatClampNeg ≤ 99)) (fp2 o_m 1 (o_m + 2) 1) 0 0) H' 0 0 133 [.val (.ref o_m), .val (.int size), z12, z13, z14] []) → WG x (fp2 o_m 1 (o_m + 2) 1) (Fin x (fun v H => v = some (.int res.1) ∧ bl res.1 ∧ blk D ksM0 o_m res.2.1 H ∧ blk D (ksI 4) (o_m + 2) res.2.2 H ∧ (∀ j, j ≠ 2 → res.2.1 0 j = R_m 0 j) ∧ (res.2.1 0 2 = nI (res.2.1 0 2).toNatClampNeg ∧ (R_m 0 2).toNatClampNeg ≤ (res.2.1 0 2).toNatClampNeg ∧ (res.2.1 0 2).toNatClampNeg ≤ (R_m 0 2).toNatClampNeg + 12) ∧ (¬ res.1 = 0 → ∀ j, j < size.toNatClampNeg → res.2.2 0 j = nI (res.2.2 0 j).toNatClampNeg ∧ (res.2.2 0 j).toNatClampNeg ≤ 99)) (fp2 o_m 1 (o_m + 2) 1) 0 0) H10 0 0 2 [.val (.ref o_m), .val (.int size), .val (.int (nI n)), z5, z6] [] := by
    intro n1
    induction n1 with
    | zero => intro Rm Rn n H10 z5 hz5 z6 hz6 _ hn hfr hpos hpb hpb2 hnum hm15; exact absurd hm15 (Nat.not_lt_zero _)
    | succ n1 ih2 =>
      intro Rm Rn n H10 z5 hz5 z6 hz6 _ hn hfr hpos hpb hpb2 hnum hm15 hb7 hb8 hb9 s3 hs3 hr16 kx4
      refine r_iload_n C dX7_isRow_2 rfl ?_
      refine r_iload_n C dX7_isRow_3 rfl ?_
      refine r_ic_ge C dX7_isRow_4 (fun c17 => ?_) (fun c17 => ?_)
      · skip
        have f18 : (size.toNatClampNeg ≤ n) := nf_leI (by omega) (by omega) hsize rfl c17
        have e19 : s3 = .inr (Rm, Rn) := by rw [hs3, d_X7_isRow_L2]; try exact (if_pos c17).trans (rfl)
        exact kx4 (Rm, Rn) _ (.val (.int (nI n))) rfl z5 hz5 z6 hz6 e19 ⟨hfr, hpos, (show (R_m 0 2).toNatClampNeg ≤ (Rm 0 2).toNatClampNeg by omega), (show (Rm 0 2).toNatClampNeg ≤ (R_m 0 2).toNatClampNeg + 12 by omega), fun j hj => hnum j (by omega)⟩ hb7 hb8 hb9
      · skip
        have f20 : ¬ (size.toNatClampNeg ≤ n) := nf_leIn (by omega) (by omega) hsize rfl c17
        refine r_iconst C dX7_isRow_7 (0 : Int32) (by decide) ?_
        refine r_istore_n C dX7_isRow_8 (ls' := [.val (.ref o_m), .val (.int size), .val (.int (nI n)), .val (.int (0 : Int32)), z6]) rfl hz5 rfl ?_
        refine r_aload_n C dX7_isRow_9 rfl ?_
        refine r_get C hb7 (k := 0) rfl rfl celO_7 fw_X7_74 (z := .int (Rm 0 2)) rfl dX7_isRow_10 ?_
        refine r_istore C dX7_isRow_13 (ls' := [.val (.ref o_m), .val (.int size), .val (.int (nI n)), .val (.int (0 : Int32)), .val (.int (Rm 0 2))]) rfl hz6 rfl ?_
        have q25 := cl_n (x := (0 : Int32)) (n := 0) rfl (by omega)
        have d_X7_isRow_L15_w : ∀ (n21 : Nat) (Rm2 : Nat → Nat → Int32) (v : Int32) (H29 : Heap), True → (v = nI v.toNatClampNeg) → (∀ j, j ≠ 2 → Rm2 0 j = R_m 0 j) → (Rm2 0 2 = nI (Rm2 0 2).toNatClampNeg) → ((Rm 0 2).toNatClampNeg ≤ (Rm2 0 2).toNatClampNeg) → ((Rm2 0 2).toNatClampNeg ≤ (Rm 0 2).toNatClampNeg + 2) → ((Rm2 0 2).toNatClampNeg = (Rm 0 2).toNatClampNeg → v.toNatClampNeg = 0) → ((Rm2 0 2).toNatClampNeg ≤ (Rm 0 2).toNatClampNeg + 1 → v.toNatClampNeg ≤ 9) → (v.toNatClampNeg ≤ 99) → ((Rm 0 2).toNatClampNeg + 2 - (Rm2 0 2).toNatClampNeg < n21) → blk D ksM0 o_m Rm2 H29 → blk D (ksI 200) (o_m + 1) R_tx H29 → blk D (ksI 4) (o_m + 2) Rn H29 → ∀ s23 : (Nat → Nat → Int32) × Int32, s23 = d_X7_isRow_L15 R_tx Rm n21 Rm2 v → (∀ (H' : Heap), True → ((∀ j, j ≠ 2 → s23.1 0 j = R_m 0 j) ∧ s23.1 0 2 = nI (s23.1 0 2).toNatClampNeg ∧ (Rm 0 2).toNatClampNeg ≤ (s23.1 0 2).toNatClampNeg ∧ (s23.1 0 2).toNatClampNeg ≤ (Rm 0 2).toNatClampNeg + 2 ∧ s23.2 = nI (s23.2).toNatClampNeg ∧ (s23.2).toNatClampNeg ≤ 99) → blk D ksM0 o_m s23.1 H' → blk D (ksI 200) (o_m + 1) R_tx H' → blk D (ksI 4) (o_m + 2) Rn H' → WG x (fp2 o_m 1 (o_m + 2) 1) (Fin x (fun v H => v = some (.int res.1) ∧ bl res.1 ∧ blk D ksM0 o_m res.2.1 H ∧ blk D (ksI 4) (o_m + 2) res.2.2 H ∧ (∀ j, j ≠ 2 → res.2.1 0 j = R_m 0 j) ∧ (res.2.1 0 2 = nI (res.2.1 0 2).toNatClampNeg ∧ (R_m 0 2).toNatClampNeg ≤ (res.2.1 0 2).toNatClampNeg ∧ (res.2.1 0 2).toNatClampNeg ≤ (R_m 0 2).toNatClampNeg + 12) ∧ (¬ res.1 = 0 → ∀ j, j < size.toNatClampNeg → res.2.2 0 j = nI (res.2.2 0 j).toNatClampNeg ∧ (res.2.2 0 j).toNatClampNeg ≤ 99)) (fp2 o_m 1 (o_m + 2) 1) 0 0) H' 0 0 74 [.val (.ref o_m), .val (.int size), .val (.int (nI n)), .val (.int s23.2), .val (.int (Rm 0 2))] []) → WG x (fp2 o_m 1 (o_m + 2) 1) (Fin x (fun v H => v = some (.int res.1) ∧ bl res.1 ∧ blk D ksM0 o_m res.2.1 H ∧ blk D (ksI 4) (o_m + 2) res.2.2 H ∧ (∀ j, j ≠ 2 → res.2.1 0 j = R_m 0 j) ∧ (res.2.1 0 2 = nI (res.2.1 0 2).toNatClampNeg ∧ (R_m 0 2).toNatClampNeg ≤ (res.2.1 0 2).toNatClampNeg ∧ (res.2.1 0 2).toNatClampNeg ≤ (R_m 0 2).toNatClampNeg + 12) ∧ (¬ res.1 = 0 → ∀ j, j < size.toNatClampNeg → res.2.2 0 j = nI (res.2.2 0 j).toNatClampNeg ∧ (res.2.2 0 j).toNatClampNeg ≤ 99)) (fp2 o_m 1 (o_m + 2) 1) 0 0) H29 0 0 15 [.val (.ref o_m), .val (.int size), .val (.int (nI n)), .val (.int v), .val (.int (Rm 0 2))] [] := by
          intro n21
          induction n21 with
          | zero => intro Rm2 v H29  _ hn_v hfr2 hpos2 hpl hpu hv0 hv1 hv2 hm30; exact absurd hm30 (Nat.not_lt_zero _)
          | succ n21 ih22 =>
            intro Rm2 v H29  _ hn_v hfr2 hpos2 hpl hpu hv0 hv1 hv2 hm30 hb26 hb27 hb28 s23 hs23  kx24
            refine r_aload_n C dX7_isRow_15 rfl ?_
            refine r_get C hb26 (k := 0) rfl rfl celO_7 fw_X7_74 (z := .int (Rm2 0 2)) rfl dX7_isRow_16 ?_
            refine r_iload C dX7_isRow_19 rfl ?_
            refine r_iconst C dX7_isRow_21 (2 : Int32) (by decide) ?_
            refine r_iaddN C dX7_isRow_22 (na := (Rm 0 2).toNatClampNeg) (nb := 2) hpos rfl (nc := ((Rm 0 2).toNatClampNeg + 2)) rfl ?_
            refine r_ic_ge C dX7_isRow_23 (fun c31 => ?_) (fun c31 => ?_)
            · skip
              have f32 : (((Rm 0 2).toNatClampNeg + 2) ≤ (Rm2 0 2).toNatClampNeg) := nf_leI (by omega) (by omega) rfl hpos2 c31
              have e33 : s23 = (Rm2, v) := by rw [hs23, d_X7_isRow_L15]; try exact (if_pos c31).trans (rfl)
              rw [e33] at kx24
              exact kx24 _  trivial ⟨hfr2, hpos2, hpl, hpu, hn_v, hv2⟩ hb26 hb27 hb28
            · skip
              have f34 : ¬ (((Rm 0 2).toNatClampNeg + 2) ≤ (Rm2 0 2).toNatClampNeg) := nf_leIn (by omega) (by omega) rfl hpos2 c31
              refine r_aload_n C dX7_isRow_26 rfl ?_
              refine r_aload_n C dX7_isRow_27 rfl ?_
              refine r_get C hb26 (k := 0) rfl rfl celO_7 fw_X7_74 (z := .int (Rm2 0 2)) rfl dX7_isRow_28 ?_
              obtain ⟨u35, hu35⟩ : ∃ r, r = d_X7_letterAt Rm2 R_tx (Rm2 0 2) := ⟨_, rfl⟩
              refine r_callV0 C cw_X7_77 (fun l => c_X7_letterAt l D o_m Rm2 R_tx (Rm2 0 2) (nnat (a := (R_m 0 0).toNatClampNeg) ((hfr2 0 (by decide)).trans h0) (by omega)) (show (Rm2 0 0).toNatClampNeg ≤ 200 by rw [cl_n (n := (R_m 0 0).toNatClampNeg) ((hfr2 0 (by decide)).trans h0) (by omega)]; omega) hpos2 (by omega) u35 hu35) (rest := []) hb26 (k := 0) rfl rfl celO_7 ⟨hb26, hb27⟩ (fun q h => h.elim) rfl rfl rfl (Nat.le_of_ble_eq_true rfl) ⟨Nat.le_of_ble_eq_true rfl, Nat.le_of_ble_eq_true rfl, Nat.le_refl 0, Nat.le_refl 0⟩ dX7_isRow_31 (fun v H36 hp37 hq38 => ?_)
              subst hp37
              have hb39 := blk_kept hb26 (n := 1) rfl (fun q h1 h2 => hq38 q (fun h => h))
              have hb40 := blk_kept hb27 (n := 1) rfl (fun q h1 h2 => hq38 q (fun h => h))
              have hb41 := blk_kept hb28 (n := 1) rfl (fun q h1 h2 => hq38 q (fun h => h))
              dsimp only [psh]
              refine r_bipush C dX7_isRow_34 (48 : Int32) (by decide) ?_
              refine r_bipush C dX7_isRow_36 (57 : Int32) (by decide) ?_
              obtain ⟨u42, hu42⟩ : ∃ r, r = d_X7_in u35 (48 : Int32) (57 : Int32) := ⟨_, rfl⟩
              refine r_callS0 C cw_X7_67 (fun l => c_X7_in l D u35 (48 : Int32) (57 : Int32) u42 hu42) (rest := []) trivial (fun q h => h.elim) rfl rfl rfl (Nat.le_of_ble_eq_true rfl) ⟨Nat.le_of_ble_eq_true rfl, Nat.le_of_ble_eq_true rfl, Nat.le_refl 0, Nat.le_refl 0⟩ dX7_isRow_38 (fun v H43 hp44 hq45 => ?_)
              obtain ⟨rfl, hl46⟩ := hp44
              have hb47 := blk_kept hb39 (n := 1) rfl (fun q h1 h2 => hq45 q (fun h => h))
              have hb48 := blk_kept hb40 (n := 1) rfl (fun q h1 h2 => hq45 q (fun h => h))
              have hb49 := blk_kept hb41 (n := 1) rfl (fun q h1 h2 => hq45 q (fun h => h))
              dsimp only [psh]
              refine r_if_eq C dX7_isRow_41 (fun c50 => ?_) (fun c50 => ?_)
              · skip
                have e51 : s23 = (Rm2, v) := by rw [hs23, d_X7_isRow_L15]; try exact (if_neg c31).trans ((lt_eq hu35).trans ((lt_eq hu42).trans ((if_pos c50).trans (rfl))))
                rw [e51] at kx24
                exact kx24 _  trivial ⟨hfr2, hpos2, hpl, hpu, hn_v, hv2⟩ hb47 hb48 hb49
              · skip
                obtain ⟨hn52, hn53⟩ := X7_in_nat (M := 57) hu42 c50 (by decide) rfl (by decide)
                have hn54 : 48 ≤ u35.toNatClampNeg := x_geN (X7_in_lo hu42 c50) hn52 (by decide)
                refine r_bipush C dX7_isRow_44 (10 : Int32) (by decide) ?_
                refine r_iload_n C dX7_isRow_46 rfl ?_
                refine r_imulN C dX7_isRow_47 (na := 10) (nb := v.toNatClampNeg) rfl hn_v (nc := (10 * v.toNatClampNeg)) rfl ?_
                refine r_aload_n C dX7_isRow_48 rfl ?_
                refine r_aload_n C dX7_isRow_49 rfl ?_
                refine r_get C hb47 (k := 0) rfl rfl celO_7 fw_X7_74 (z := .int (Rm2 0 2)) rfl dX7_isRow_50 ?_
                obtain ⟨u55, hu55⟩ : ∃ r, r = d_X7_letterAt Rm2 R_tx (Rm2 0 2) := ⟨_, rfl⟩
                refine r_callV0 C cw_X7_77 (fun l => c_X7_letterAt l D o_m Rm2 R_tx (Rm2 0 2) (nnat (a := (R_m 0 0).toNatClampNeg) ((hfr2 0 (by decide)).trans h0) (by omega)) (show (Rm2 0 0).toNatClampNeg ≤ 200 by rw [cl_n (n := (R_m 0 0).toNatClampNeg) ((hfr2 0 (by decide)).trans h0) (by omega)]; omega) hpos2 (by omega) u55 hu55) (rest := [.int (nI (10 * v.toNatClampNeg))]) hb47 (k := 0) rfl rfl celO_7 ⟨hb47, hb48⟩ (fun q h => h.elim) rfl rfl rfl (Nat.le_of_ble_eq_true rfl) ⟨Nat.le_of_ble_eq_true rfl, Nat.le_of_ble_eq_true rfl, Nat.le_refl 0, Nat.le_refl 0⟩ dX7_isRow_53 (fun v H56 hp57 hq58 => ?_)
                subst hp57
                have hb59 := blk_kept hb47 (n := 1) rfl (fun q h1 h2 => hq58 q (fun h => h))
                have hb60 := blk_kept hb48 (n := 1) rfl (fun q h1 h2 => hq58 q (fun h => h))
                have hb61 := blk_kept hb49 (n := 1) rfl (fun q h1 h2 => hq58 q (fun h => h))
                dsimp only [psh]
                have heq : u55 = u35 := hu55.trans hu35.symm
                have hln : u55 = nI u35.toNatClampNeg := heq.trans hn52
                refine r_iaddN C dX7_isRow_56 (na := (10 * v.toNatClampNeg)) (nb := u35.toNatClampNeg) rfl hln (nc := ((10 * v.toNatClampNeg) + u35.toNatClampNeg)) rfl ?_
                refine r_bipush C dX7_isRow_57 (48 : Int32) (by decide) ?_
                refine r_isubN C dX7_isRow_59 (na := ((10 * v.toNatClampNeg) + u35.toNatClampNeg)) (nb := 48) rfl rfl (by omega) (nc := (((10 * v.toNatClampNeg) + u35.toNatClampNeg) - 48)) rfl ?_
                refine r_istore_n C dX7_isRow_60 (ls' := [.val (.ref o_m), .val (.int size), .val (.int (nI n)), .val (.int (nI (((10 * v.toNatClampNeg) + u35.toNatClampNeg) - 48))), .val (.int (Rm 0 2))]) rfl rfl rfl ?_
                refine r_aload_n C dX7_isRow_61 rfl ?_
                refine r_dup C dX7_isRow_62 rfl ?_
                refine r_get C hb59 (k := 0) rfl rfl celO_7 fw_X7_74 (z := .int (Rm2 0 2)) rfl dX7_isRow_63 ?_
                refine r_iconst C dX7_isRow_66 (1 : Int32) (by decide) ?_
                refine r_iaddN C dX7_isRow_67 (na := (Rm2 0 2).toNatClampNeg) (nb := 1) hpos2 rfl (nc := ((Rm2 0 2).toNatClampNeg + 1)) rfl ?_
                refine r_put C hb59 (k := 0) rfl rfl (by unfold fp2; omega) fw_X7_74 fp_7_2 (Or.inr rfl) dX7_isRow_68 (fun H62 hb64 hq63 => ?_)
                have hb65 := blk_kept hb60 (n := 1) rfl (fun q h1 h2 => hq63 q (by omega))
                have hb66 := blk_kept hb61 (n := 1) rfl (fun q h1 h2 => hq63 q (by omega))
                refine r_goto C dX7_isRow_71 ?_
                have hqo : ((pt Rm2 0 2 (nI ((Rm2 0 2).toNatClampNeg + 1))) 0 2).toNatClampNeg = ((Rm2 0 2).toNatClampNeg + 1) := cl_n (x := (pt Rm2 0 2 (nI ((Rm2 0 2).toNatClampNeg + 1))) 0 2) (n := ((Rm2 0 2).toNatClampNeg + 1)) rfl (by omega)
                have q67 := cl_n (x := (nI (((10 * v.toNatClampNeg) + u35.toNatClampNeg) - 48))) (n := (((10 * v.toNatClampNeg) + u35.toNatClampNeg) - 48)) rfl (by omega)
                have e68 : s23 = d_X7_isRow_L15 R_tx Rm n21 (pt Rm2 0 2 (nI ((Rm2 0 2).toNatClampNeg + 1))) (nI (((10 * v.toNatClampNeg) + u35.toNatClampNeg) - 48)) := by rw [hs23, d_X7_isRow_L15]; try exact (if_neg c31).trans ((lt_eq hu35).trans ((lt_eq hu42).trans ((if_neg c50).trans ((lt_eq hu55).trans (rfl)))))
                exact ih22 (pt Rm2 0 2 (nI ((Rm2 0 2).toNatClampNeg + 1))) (nI (((10 * v.toNatClampNeg) + u35.toNatClampNeg) - 48)) _  trivial (nnat (a := (((10 * v.toNatClampNeg) + u35.toNatClampNeg) - 48)) rfl (by omega)) (pt_fr hfr2) (nnat (a := ((Rm2 0 2).toNatClampNeg + 1)) rfl (by omega)) (by omega) (by omega) (by omega) (by omega) (by omega) (by omega) hb64 hb65 hb66 s23 e68  kx24
        obtain ⟨s69, hs69⟩ : ∃ r, r = d_X7_isRow_L15 R_tx Rm 3 Rm (0 : Int32) := ⟨_, rfl⟩
        refine d_X7_isRow_L15_w 3 Rm (0 : Int32) _  trivial (nnat (a := 0) rfl (by omega)) hfr hpos (by omega) (by omega) (by omega) (by omega) (by omega) (by omega) hb7 hb8 hb9 s69 hs69  (fun H73  e75 p74 hb70 hb71 hb72 => ?_)
        obtain ⟨fr3, po3, pl3, pu3, vn3, v993⟩ := p74
        refine r_aload_n C dX7_isRow_74 rfl ?_
        refine r_get C hb70 (k := 0) rfl rfl celO_7 fw_X7_74 (z := .int (s69.1 0 2)) rfl dX7_isRow_75 ?_
        refine r_iload C dX7_isRow_78 rfl ?_
        refine r_ic_eq C dX7_isRow_80 (fun c76 => ?_) (fun c76 => ?_)
        · skip
          have f77 : ((s69.1 0 2).toNatClampNeg = (Rm 0 2).toNatClampNeg) := nf_eq (by omega) (by omega) po3 hpos c76
          refine r_iconst C dX7_isRow_108 (0 : Int32) (by decide) ?_
          refine r_zret C dX7_isRow_109 (Or.inl rfl) ?_
          have er : res = ((0 : Int32), s69.1, Rn) := hr16 _ (by rw [hs3, d_X7_isRow_L2]; try exact (if_neg c17).trans ((lt_eq hs69).trans ((if_pos c76).trans (rfl))))
          rw [er]
          exact ⟨rfl, (Or.inl rfl), hb70, hb72, fr3, ⟨po3, (show (R_m 0 2).toNatClampNeg ≤ (s69.1 0 2).toNatClampNeg by omega), (show (s69.1 0 2).toNatClampNeg ≤ (R_m 0 2).toNatClampNeg + 12 by omega)⟩, (fun h => absurd rfl h)⟩
        · skip
          have f78 : ¬ ((s69.1 0 2).toNatClampNeg = (Rm 0 2).toNatClampNeg) := nf_eqn (by omega) (by omega) po3 hpos c76
          refine r_aload_n C dX7_isRow_83 rfl ?_
          refine r_aload_n C dX7_isRow_84 rfl ?_
          refine r_get C hb70 (k := 0) rfl rfl celO_7 fw_X7_74 (z := .int (s69.1 0 2)) rfl dX7_isRow_85 ?_
          obtain ⟨u79, hu79⟩ : ∃ r, r = d_X7_letterAt s69.1 R_tx (s69.1 0 2) := ⟨_, rfl⟩
          refine r_callV0 C cw_X7_77 (fun l => c_X7_letterAt l D o_m s69.1 R_tx (s69.1 0 2) (nnat (a := (R_m 0 0).toNatClampNeg) ((fr3 0 (by decide)).trans h0) (by omega)) (show (s69.1 0 0).toNatClampNeg ≤ 200 by rw [cl_n (n := (R_m 0 0).toNatClampNeg) ((fr3 0 (by decide)).trans h0) (by omega)]; omega) po3 (by omega) u79 hu79) (rest := []) hb70 (k := 0) rfl rfl celO_7 ⟨hb70, hb71⟩ (fun q h => h.elim) rfl rfl rfl (Nat.le_of_ble_eq_true rfl) ⟨Nat.le_of_ble_eq_true rfl, Nat.le_of_ble_eq_true rfl, Nat.le_refl 0, Nat.le_refl 0⟩ dX7_isRow_88 (fun v H80 hp81 hq82 => ?_)
          subst hp81
          have hb83 := blk_kept hb70 (n := 1) rfl (fun q h1 h2 => hq82 q (fun h => h))
          have hb84 := blk_kept hb71 (n := 1) rfl (fun q h1 h2 => hq82 q (fun h => h))
          have hb85 := blk_kept hb72 (n := 1) rfl (fun q h1 h2 => hq82 q (fun h => h))
          dsimp only [psh]
          refine r_iload_n C dX7_isRow_91 rfl ?_
          refine r_iload_n C dX7_isRow_92 rfl ?_
          refine r_iconst C dX7_isRow_93 (1 : Int32) (by decide) ?_
          refine r_isub C dX7_isRow_94 ?_
          refine r_ic_ne C dX7_isRow_95 (fun c86 => ?_) (fun c86 => ?_)
          · skip
            refine r_bipush C dX7_isRow_103 (44 : Int32) (by decide) ?_
            refine r_ic_eq C dX7_isRow_105 (fun c87 => ?_) (fun c87 => ?_)
            · skip
              refine r_aload_n C dX7_isRow_110 rfl ?_
              refine r_dup C dX7_isRow_111 rfl ?_
              refine r_get C hb83 (k := 0) rfl rfl celO_7 fw_X7_74 (z := .int (s69.1 0 2)) rfl dX7_isRow_112 ?_
              refine r_iconst C dX7_isRow_115 (1 : Int32) (by decide) ?_
              refine r_iaddN C dX7_isRow_116 (na := (s69.1 0 2).toNatClampNeg) (nb := 1) po3 rfl (nc := ((s69.1 0 2).toNatClampNeg + 1)) rfl ?_
              refine r_put C hb83 (k := 0) rfl rfl (by unfold fp2; omega) fw_X7_74 fp_7_2 (Or.inr rfl) dX7_isRow_117 (fun H88 hb90 hq89 => ?_)
              have hb91 := blk_kept hb84 (n := 1) rfl (fun q h1 h2 => hq89 q (by omega))
              have hb92 := blk_kept hb85 (n := 1) rfl (fun q h1 h2 => hq89 q (by omega))
              refine r_aload_n C dX7_isRow_120 rfl ?_
              refine r_get C hb90 (k := 0) rfl rfl celO_7 fw_X7_13 rfl dX7_isRow_121 ?_
              refine r_iload_n C dX7_isRow_124 rfl ?_
              refine r_iload_n C dX7_isRow_125 rfl ?_
              refine r_iast C hb92 (k := 0) rfl rfl (by unfold fp2; omega) (vp_in_n rfl (by omega) (by omega)) (j := n) (cl_n rfl (by omega)) dX7_isRow_126 (fun H93 hb95 hq94 => ?_)
              have hb96 := blk_kept hb90 (n := 1) rfl (fun q h1 h2 => hq94 q (by omega))
              have hb97 := blk_kept hb91 (n := 1) rfl (fun q h1 h2 => hq94 q (by omega))
              refine r_iinc C dX7_isRow_127 (nI (n + 1)) rfl (nI_inc n rfl) (ls' := [.val (.ref o_m), .val (.int size), .val (.int (nI (n + 1))), .val (.int s69.2), .val (.int (Rm 0 2))]) rfl ?_
              refine r_goto C dX7_isRow_130 ?_
              have hqo : ((pt s69.1 0 2 (nI ((s69.1 0 2).toNatClampNeg + 1))) 0 2).toNatClampNeg = ((s69.1 0 2).toNatClampNeg + 1) := cl_n (x := (pt s69.1 0 2 (nI ((s69.1 0 2).toNatClampNeg + 1))) 0 2) (n := ((s69.1 0 2).toNatClampNeg + 1)) rfl (by omega)
              have e98 : s3 = d_X7_isRow_L2 R_tx size n1 (pt s69.1 0 2 (nI ((s69.1 0 2).toNatClampNeg + 1))) (pt Rn 0 n s69.2) (n + 1) := by rw [hs3, d_X7_isRow_L2]; try exact (if_neg c17).trans ((lt_eq hs69).trans ((if_neg c76).trans ((lt_eq hu79).trans ((if_neg c86).trans ((if_pos c87).trans (rfl))))))
              exact ih2 (pt s69.1 0 2 (nI ((s69.1 0 2).toNatClampNeg + 1))) (pt Rn 0 n s69.2) (n + 1) _ (.val (.int s69.2)) rfl (.val (.int (Rm 0 2))) rfl trivial (by omega) (pt_fr fr3) (nnat (a := ((s69.1 0 2).toNatClampNeg + 1)) rfl (by omega)) (by omega) (by omega) (pt_num hnum ⟨vn3, v993⟩) (by omega) hb96 hb97 hb95 s3 e98 hr16 kx4
            · skip
              refine r_iconst C dX7_isRow_108 (0 : Int32) (by decide) ?_
              refine r_zret C dX7_isRow_109 (Or.inl rfl) ?_
              have er : res = ((0 : Int32), s69.1, Rn) := hr16 _ (by rw [hs3, d_X7_isRow_L2]; try exact (if_neg c17).trans ((lt_eq hs69).trans ((if_neg c76).trans ((lt_eq hu79).trans ((if_neg c86).trans ((if_neg c87).trans (rfl)))))))
              rw [er]
              exact ⟨rfl, (Or.inl rfl), hb83, hb85, fr3, ⟨po3, (show (R_m 0 2).toNatClampNeg ≤ (s69.1 0 2).toNatClampNeg by omega), (show (s69.1 0 2).toNatClampNeg ≤ (R_m 0 2).toNatClampNeg + 12 by omega)⟩, (fun h => absurd rfl h)⟩
          · skip
            refine r_bipush C dX7_isRow_98 (59 : Int32) (by decide) ?_
            refine r_goto C dX7_isRow_100 ?_
            refine r_ic_eq C dX7_isRow_105 (fun c99 => ?_) (fun c99 => ?_)
            · skip
              refine r_aload_n C dX7_isRow_110 rfl ?_
              refine r_dup C dX7_isRow_111 rfl ?_
              refine r_get C hb83 (k := 0) rfl rfl celO_7 fw_X7_74 (z := .int (s69.1 0 2)) rfl dX7_isRow_112 ?_
              refine r_iconst C dX7_isRow_115 (1 : Int32) (by decide) ?_
              refine r_iaddN C dX7_isRow_116 (na := (s69.1 0 2).toNatClampNeg) (nb := 1) po3 rfl (nc := ((s69.1 0 2).toNatClampNeg + 1)) rfl ?_
              refine r_put C hb83 (k := 0) rfl rfl (by unfold fp2; omega) fw_X7_74 fp_7_2 (Or.inr rfl) dX7_isRow_117 (fun H100 hb102 hq101 => ?_)
              have hb103 := blk_kept hb84 (n := 1) rfl (fun q h1 h2 => hq101 q (by omega))
              have hb104 := blk_kept hb85 (n := 1) rfl (fun q h1 h2 => hq101 q (by omega))
              refine r_aload_n C dX7_isRow_120 rfl ?_
              refine r_get C hb102 (k := 0) rfl rfl celO_7 fw_X7_13 rfl dX7_isRow_121 ?_
              refine r_iload_n C dX7_isRow_124 rfl ?_
              refine r_iload_n C dX7_isRow_125 rfl ?_
              refine r_iast C hb104 (k := 0) rfl rfl (by unfold fp2; omega) (vp_in_n rfl (by omega) (by omega)) (j := n) (cl_n rfl (by omega)) dX7_isRow_126 (fun H105 hb107 hq106 => ?_)
              have hb108 := blk_kept hb102 (n := 1) rfl (fun q h1 h2 => hq106 q (by omega))
              have hb109 := blk_kept hb103 (n := 1) rfl (fun q h1 h2 => hq106 q (by omega))
              refine r_iinc C dX7_isRow_127 (nI (n + 1)) rfl (nI_inc n rfl) (ls' := [.val (.ref o_m), .val (.int size), .val (.int (nI (n + 1))), .val (.int s69.2), .val (.int (Rm 0 2))]) rfl ?_
              refine r_goto C dX7_isRow_130 ?_
              have hqo : ((pt s69.1 0 2 (nI ((s69.1 0 2).toNatClampNeg + 1))) 0 2).toNatClampNeg = ((s69.1 0 2).toNatClampNeg + 1) := cl_n (x := (pt s69.1 0 2 (nI ((s69.1 0 2).toNatClampNeg + 1))) 0 2) (n := ((s69.1 0 2).toNatClampNeg + 1)) rfl (by omega)
              have e110 : s3 = d_X7_isRow_L2 R_tx size n1 (pt s69.1 0 2 (nI ((s69.1 0 2).toNatClampNeg + 1))) (pt Rn 0 n s69.2) (n + 1) := by rw [hs3, d_X7_isRow_L2]; try exact (if_neg c17).trans ((lt_eq hs69).trans ((if_neg c76).trans ((lt_eq hu79).trans ((if_pos c86).trans ((if_pos c99).trans (rfl))))))
              exact ih2 (pt s69.1 0 2 (nI ((s69.1 0 2).toNatClampNeg + 1))) (pt Rn 0 n s69.2) (n + 1) _ (.val (.int s69.2)) rfl (.val (.int (Rm 0 2))) rfl trivial (by omega) (pt_fr fr3) (nnat (a := ((s69.1 0 2).toNatClampNeg + 1)) rfl (by omega)) (by omega) (by omega) (pt_num hnum ⟨vn3, v993⟩) (by omega) hb108 hb109 hb107 s3 e110 hr16 kx4
            · skip
              refine r_iconst C dX7_isRow_108 (0 : Int32) (by decide) ?_
              refine r_zret C dX7_isRow_109 (Or.inl rfl) ?_
              have er : res = ((0 : Int32), s69.1, Rn) := hr16 _ (by rw [hs3, d_X7_isRow_L2]; try exact (if_neg c17).trans ((lt_eq hs69).trans ((if_neg c76).trans ((lt_eq hu79).trans ((if_pos c86).trans ((if_neg c99).trans (rfl)))))))
              rw [er]
              exact ⟨rfl, (Or.inl rfl), hb83, hb85, fr3, ⟨po3, (show (R_m 0 2).toNatClampNeg ≤ (s69.1 0 2).toNatClampNeg by omega), (show (s69.1 0 2).toNatClampNeg ≤ (R_m 0 2).toNatClampNeg + 12 by omega)⟩, (fun h => absurd rfl h)⟩
  obtain ⟨s111, hs111⟩ : ∃ r, r = d_X7_isRow_L2 R_tx size 5 R_m R_nu 0 := ⟨_, rfl⟩
  refine d_X7_isRow_L2_w 5 R_m R_nu 0 _ .unset trivial .unset trivial trivial (by omega) (fun _ _ => rfl) h2 (by omega) (by omega) (fun j hj => absurd hj (Nat.not_lt_zero _)) (by omega) hb_m hb_tx hb_nu s111 hs111 (fun r e => by rw [hres, d_X7_isRow]; exact sc_inl (hs111.symm.trans e)) (fun w112 H116 z12 hz12 z13 hz13 z14 hz14 e118 p117 hb113 hb114 hb115 => ?_)
  obtain ⟨frO, poO, plO, puO, nuO⟩ := p117
  have hx119 : d_X7_isRow_L2 R_tx size 5 R_m R_nu 0 = .inr w112 := hs111.symm.trans e118
  refine r_iconst C dX7_isRow_133 (1 : Int32) (by decide) ?_
  refine r_zret C dX7_isRow_134 (Or.inr rfl) ?_
  have er : res = ((1 : Int32), w112.1, w112.2) := by rw [hres, d_X7_isRow]; try exact (sc_inr hx119).trans (rfl)
  rw [er]
  exact ⟨rfl, (Or.inr rfl), hb113, hb115, frO, ⟨poO, (show (R_m 0 2).toNatClampNeg ≤ (w112.1 0 2).toNatClampNeg by omega), (show (w112.1 0 2).toNatClampNeg ≤ (R_m 0 2).toNatClampNeg + 12 by omega)⟩, (fun _ => nuO)⟩

def d_X7_isItem (R_m : Nat → Nat → Int32) : Int32 × (Nat → Nat → Int32) :=
  lt (d_X7_letterAt (shf R_m 0) (shf R_m 1) (R_m 0 2)) fun u1 =>
  if u1 = (116 : Int32) then
    if (R_m 0 5) = (6 : Int32) then
      ((0 : Int32), (pt R_m 0 2 (nI ((R_m 0 2).toNatClampNeg + 1))))
    else
      lt (d_X7_isRow (shf (pt R_m 0 2 (nI ((R_m 0 2).toNatClampNeg + 1))) 0) (shf (pt R_m 0 2 (nI ((R_m 0 2).toNatClampNeg + 1))) 1) (shf (pt R_m 0 2 (nI ((R_m 0 2).toNatClampNeg + 1))) 2) (4 : Int32)) fun u137 =>
      if u137.1 = 0 then
        ((0 : Int32), (spl (spl (pt R_m 0 2 (nI ((R_m 0 2).toNatClampNeg + 1))) 0 1 u137.2.1) 2 1 u137.2.2))
      else
        if (3 : Int32) < (u137.2.2 0 0) then
          ((0 : Int32), (spl (spl (pt R_m 0 2 (nI ((R_m 0 2).toNatClampNeg + 1))) 0 1 u137.2.1) 2 1 u137.2.2))
        else
          if (30 : Int32) < (u137.2.2 0 2) then
            ((0 : Int32), (spl (spl (pt R_m 0 2 (nI ((R_m 0 2).toNatClampNeg + 1))) 0 1 u137.2.1) 2 1 u137.2.2))
          else
            if (u137.2.2 0 3) ≤ (9 : Int32) then
              lt (d_X7_layTown (shf (spl (spl (pt R_m 0 2 (nI ((R_m 0 2).toNatClampNeg + 1))) 0 1 u137.2.1) 2 1 u137.2.2) 0) (shf (spl (spl (pt R_m 0 2 (nI ((R_m 0 2).toNatClampNeg + 1))) 0 1 u137.2.1) 2 1 u137.2.2) 3) (shf (spl (spl (pt R_m 0 2 (nI ((R_m 0 2).toNatClampNeg + 1))) 0 1 u137.2.1) 2 1 u137.2.2) 4) (u137.2.1 0 5) (u137.2.2 0 0) (u137.2.2 0 1) (u137.2.2 0 2) (u137.2.2 0 3) (0 : Int32)) fun u172 =>
              ((1 : Int32), (pt (spl (spl (spl (spl (pt R_m 0 2 (nI ((R_m 0 2).toNatClampNeg + 1))) 0 1 u137.2.1) 2 1 u137.2.2) 3 1 u172.1) 4 1 u172.2) 0 5 (nI ((R_m 0 5).toNatClampNeg + 1))))
            else
              ((0 : Int32), (spl (spl (pt R_m 0 2 (nI ((R_m 0 2).toNatClampNeg + 1))) 0 1 u137.2.1) 2 1 u137.2.2))
  else
    if u1 = (99 : Int32) then
      if (R_m 0 6) = (3 : Int32) then
        ((0 : Int32), (pt R_m 0 2 (nI ((R_m 0 2).toNatClampNeg + 1))))
      else
        lt (d_X7_isRow (shf (pt R_m 0 2 (nI ((R_m 0 2).toNatClampNeg + 1))) 0) (shf (pt R_m 0 2 (nI ((R_m 0 2).toNatClampNeg + 1))) 1) (shf (pt R_m 0 2 (nI ((R_m 0 2).toNatClampNeg + 1))) 2) (2 : Int32)) fun u82 =>
        if u82.1 = 0 then
          ((0 : Int32), (spl (spl (pt R_m 0 2 (nI ((R_m 0 2).toNatClampNeg + 1))) 0 1 u82.2.1) 2 1 u82.2.2))
        else
          lt (d_X7_in (u82.2.2 0 0) (1 : Int32) (60 : Int32)) fun u105 =>
          if u105 = 0 then
            ((0 : Int32), (spl (spl (pt R_m 0 2 (nI ((R_m 0 2).toNatClampNeg + 1))) 0 1 u82.2.1) 2 1 u82.2.2))
          else
            lt (d_X7_in (u82.2.2 0 1) (1 : Int32) (60 : Int32)) fun u115 =>
            if u115 = 0 then
              ((0 : Int32), (spl (spl (pt R_m 0 2 (nI ((R_m 0 2).toNatClampNeg + 1))) 0 1 u82.2.1) 2 1 u82.2.2))
            else
              ((1 : Int32), (pt (pt (pt (spl (spl (pt R_m 0 2 (nI ((R_m 0 2).toNatClampNeg + 1))) 0 1 u82.2.1) 2 1 u82.2.2) 4 (37 + (R_m 0 6).toNatClampNeg) (u82.2.2 0 0)) 4 (40 + (R_m 0 6).toNatClampNeg) (u82.2.2 0 1)) 0 6 (nI ((R_m 0 6).toNatClampNeg + 1))))
    else
      if u1 = (119 : Int32) then
        lt (d_X7_isRow (shf (pt R_m 0 2 (nI ((R_m 0 2).toNatClampNeg + 1))) 0) (shf (pt R_m 0 2 (nI ((R_m 0 2).toNatClampNeg + 1))) 1) (shf (pt R_m 0 2 (nI ((R_m 0 2).toNatClampNeg + 1))) 2) (2 : Int32)) fun u47 =>
        if u47.1 = 0 then
          ((0 : Int32), (spl (spl (pt R_m 0 2 (nI ((R_m 0 2).toNatClampNeg + 1))) 0 1 u47.2.1) 2 1 u47.2.2))
        else
          if (u47.2.1 0 5) ≤ (u47.2.2 0 0) then
            ((0 : Int32), (spl (spl (pt R_m 0 2 (nI ((R_m 0 2).toNatClampNeg + 1))) 0 1 u47.2.1) 2 1 u47.2.2))
          else
            if (u47.2.2 0 1) ≤ (3 : Int32) then
              ((1 : Int32), (pt (spl (spl (pt R_m 0 2 (nI ((R_m 0 2).toNatClampNeg + 1))) 0 1 u47.2.1) 2 1 u47.2.2) 4 (19 + (u47.2.2 0 0).toNatClampNeg) (u47.2.2 0 1)))
            else
              ((0 : Int32), (spl (spl (pt R_m 0 2 (nI ((R_m 0 2).toNatClampNeg + 1))) 0 1 u47.2.1) 2 1 u47.2.2))
      else
        if u1 = (98 : Int32) then
          lt (d_X7_isRow (shf (pt R_m 0 2 (nI ((R_m 0 2).toNatClampNeg + 1))) 0) (shf (pt R_m 0 2 (nI ((R_m 0 2).toNatClampNeg + 1))) 1) (shf (pt R_m 0 2 (nI ((R_m 0 2).toNatClampNeg + 1))) 2) (1 : Int32)) fun u13 =>
          if u13.1 = 0 then
            ((0 : Int32), (spl (spl (pt R_m 0 2 (nI ((R_m 0 2).toNatClampNeg + 1))) 0 1 u13.2.1) 2 1 u13.2.2))
          else
            lt (d_X7_in (u13.2.2 0 0) (1 : Int32) (30 : Int32)) fun u34 =>
            if u34 = 0 then
              ((0 : Int32), (spl (spl (pt R_m 0 2 (nI ((R_m 0 2).toNatClampNeg + 1))) 0 1 u13.2.1) 2 1 u13.2.2))
            else
              ((1 : Int32), (pt (spl (spl (pt R_m 0 2 (nI ((R_m 0 2).toNatClampNeg + 1))) 0 1 u13.2.1) 2 1 u13.2.2) 0 7 (u13.2.2 0 0)))
        else
          ((0 : Int32), (pt R_m 0 2 (nI ((R_m 0 2).toNatClampNeg + 1))))
set_option maxHeartbeats 4000000 in
set_option maxRecDepth 100000 in
theorem c_X7_isItem (l : Launch) (D : DD) (o_m : Nat) (R_m : Nat → Nat → Int32) (h0 : R_m 0 0 = nI (R_m 0 0).toNatClampNeg) (b0 : (R_m 0 0).toNatClampNeg ≤ 200) (h2 : R_m 0 2 = nI (R_m 0 2).toNatClampNeg) (b2 : (R_m 0 2).toNatClampNeg ≤ 200) (h5 : R_m 0 5 = nI (R_m 0 5).toNatClampNeg) (b5 : (R_m 0 5).toNatClampNeg ≤ 6) (h6 : R_m 0 6 = nI (R_m 0 6).toNatClampNeg) (b6 : (R_m 0 6).toNatClampNeg ≤ 3) (res : Int32 × (Nat → Nat → Int32)) (hres : res = d_X7_isItem R_m) : Mt l D yX7_isItem cX7_isItem 2 (some .boolean) 2 46 0 0 [.ref o_m] (fun H => blk D ksModel o_m R_m H) (fun v H => v = some (.int res.1) ∧ bl res.1 ∧ blk D ksModel o_m res.2 H ∧ (res.2 0 0 = R_m 0 0) ∧ (res.2 0 2 = nI (res.2 0 2).toNatClampNeg ∧ (R_m 0 2).toNatClampNeg < (res.2 0 2).toNatClampNeg ∧ (res.2 0 2).toNatClampNeg ≤ 220) ∧ (res.2 0 5 = nI (res.2 0 5).toNatClampNeg ∧ (res.2 0 5).toNatClampNeg ≤ 6) ∧ (res.2 0 6 = nI (res.2 0 6).toNatClampNeg ∧ (res.2 0 6).toNatClampNeg ≤ 3)) (fp1 o_m 14) := by
  refine mt_of (own := RX7) (ls := [.val (.ref o_m), .unset]) rfl (by decide +kernel) rfl ?_
  intro x H C hP
  have hb_m := hP
  refine r_aload_n C dX7_isItem_0 rfl ?_
  refine r_aload_n C dX7_isItem_1 rfl ?_
  refine r_get C hb_m (k := 0) rfl rfl celO_7 fw_X7_74 (z := .int (R_m 0 2)) rfl dX7_isItem_2 ?_
  obtain ⟨u1, hu1⟩ : ∃ r, r = d_X7_letterAt (shf R_m 0) (shf R_m 1) (R_m 0 2) := ⟨_, rfl⟩
  refine r_callV0 C cw_X7_77 (fun l => c_X7_letterAt l D o_m (shf R_m 0) (shf R_m 1) (R_m 0 2) h0 b0 h2 (by omega) u1 hu1) (rest := []) hb_m (k := 0) rfl rfl celO_7 ⟨(blk_sub hb_m 0 1 rfl rfl), (blk_sub hb_m 1 1 rfl rfl)⟩ (fun q h => h.elim) rfl rfl rfl (Nat.le_of_ble_eq_true rfl) ⟨Nat.le_of_ble_eq_true rfl, Nat.le_of_ble_eq_true rfl, Nat.le_refl 0, Nat.le_refl 0⟩ dX7_isItem_5 (fun v H2 hp3 hq4 => ?_)
  subst hp3
  have hb5 := blk_kept hb_m (n := 14) rfl (fun q h1 h2 => hq4 q (fun h => h))
  dsimp only [psh]
  refine r_istore_n C dX7_isItem_8 (ls' := [.val (.ref o_m), .val (.int u1)]) rfl trivial rfl ?_
  refine r_aload_n C dX7_isItem_9 rfl ?_
  refine r_dup C dX7_isItem_10 rfl ?_
  refine r_get C hb5 (k := 0) rfl rfl celO_7 fw_X7_74 (z := .int (R_m 0 2)) rfl dX7_isItem_11 ?_
  refine r_iconst C dX7_isItem_14 (1 : Int32) (by decide) ?_
  refine r_iaddN C dX7_isItem_15 (na := (R_m 0 2).toNatClampNeg) (nb := 1) h2 rfl (nc := ((R_m 0 2).toNatClampNeg + 1)) rfl ?_
  refine r_put C hb5 (k := 0) rfl rfl (by unfold fp1; omega) fw_X7_74 fp_7_2 (Or.inr rfl) dX7_isItem_16 (fun H6 hb8 hq7 => ?_)
  refine r_iload_n C dX7_isItem_19 rfl ?_
  refine r_bipush C dX7_isItem_20 (116 : Int32) (by decide) ?_
  refine r_ic_ne C dX7_isItem_22 (fun c9 => ?_) (fun c9 => ?_)
  · skip
    refine r_iload_n C dX7_isItem_121 rfl ?_
    refine r_bipush C dX7_isItem_122 (99 : Int32) (by decide) ?_
    refine r_ic_ne C dX7_isItem_124 (fun c10 => ?_) (fun c10 => ?_)
    · skip
      refine r_iload_n C dX7_isItem_223 rfl ?_
      refine r_bipush C dX7_isItem_224 (119 : Int32) (by decide) ?_
      refine r_ic_ne C dX7_isItem_226 (fun c11 => ?_) (fun c11 => ?_)
      · skip
        refine r_iload_n C dX7_isItem_284 rfl ?_
        refine r_bipush C dX7_isItem_285 (98 : Int32) (by decide) ?_
        refine r_ic_ne C dX7_isItem_287 (fun c12 => ?_) (fun c12 => ?_)
        · skip
          refine r_iconst C dX7_isItem_313 (0 : Int32) (by decide) ?_
          refine r_zret C dX7_isItem_314 (Or.inl rfl) ?_
          have er : res = ((0 : Int32), (pt R_m 0 2 (nI ((R_m 0 2).toNatClampNeg + 1)))) := by rw [hres, d_X7_isItem]; try exact (lt_eq hu1).trans ((if_neg c9).trans ((if_neg c10).trans ((if_neg c11).trans ((if_neg c12).trans (rfl)))))
          rw [er]
          exact ⟨rfl, (Or.inl rfl), hb8, rfl, ⟨nnat (a := ((R_m 0 2).toNatClampNeg + 1)) rfl (by omega), (show (R_m 0 2).toNatClampNeg < (nI ((R_m 0 2).toNatClampNeg + 1)).toNatClampNeg by rw [(cl_n (x := (nI ((R_m 0 2).toNatClampNeg + 1))) (n := ((R_m 0 2).toNatClampNeg + 1)) rfl (by omega))]; omega), (show (nI ((R_m 0 2).toNatClampNeg + 1)).toNatClampNeg ≤ 220 by rw [(cl_n (x := (nI ((R_m 0 2).toNatClampNeg + 1))) (n := ((R_m 0 2).toNatClampNeg + 1)) rfl (by omega))]; omega)⟩, ⟨h5, (show (R_m 0 5).toNatClampNeg ≤ 6 by omega)⟩, ⟨h6, (show (R_m 0 6).toNatClampNeg ≤ 3 by omega)⟩⟩
        · skip
          refine r_aload_n C dX7_isItem_290 rfl ?_
          refine r_iconst C dX7_isItem_291 (1 : Int32) (by decide) ?_
          obtain ⟨u13, hu13⟩ : ∃ r, r = d_X7_isRow (shf (pt R_m 0 2 (nI ((R_m 0 2).toNatClampNeg + 1))) 0) (shf (pt R_m 0 2 (nI ((R_m 0 2).toNatClampNeg + 1))) 1) (shf (pt R_m 0 2 (nI ((R_m 0 2).toNatClampNeg + 1))) 2) (1 : Int32) := ⟨_, rfl⟩
          refine r_callV0 C cw_X7_84 (fun l => c_X7_isRow l D o_m (shf (pt R_m 0 2 (nI ((R_m 0 2).toNatClampNeg + 1))) 0) (shf (pt R_m 0 2 (nI ((R_m 0 2).toNatClampNeg + 1))) 1) (shf (pt R_m 0 2 (nI ((R_m 0 2).toNatClampNeg + 1))) 2) (1 : Int32) h0 b0 (nnat (a := ((R_m 0 2).toNatClampNeg + 1)) rfl (by omega)) (show (nI ((R_m 0 2).toNatClampNeg + 1)).toNatClampNeg ≤ 600 by rw [cl_n (n := ((R_m 0 2).toNatClampNeg + 1)) rfl (by omega)]; omega) (by decide) (by decide) u13 hu13) (rest := []) hb8 (k := 0) rfl rfl celO_7 ⟨(blk_sub hb8 0 1 rfl rfl), (blk_sub hb8 1 1 rfl rfl), (blk_sub hb8 2 1 rfl rfl)⟩ (fun q h => by unfold fp2 at h; unfold fp1; omega) rfl rfl rfl (Nat.le_of_ble_eq_true rfl) ⟨Nat.le_of_ble_eq_true rfl, Nat.le_of_ble_eq_true rfl, Nat.le_refl 0, Nat.le_refl 0⟩ dX7_isItem_292 (fun v H14 hp15 hq16 => ?_)
          obtain ⟨rfl, hl17, hn18, hn19, px20, px21, px22⟩ := hp15
          have hb23 := blk_spl2 hb8 0 1 rfl rfl hn18 2 1 rfl rfl hn19 (fun q h => hq16 q (by unfold fp2; omega))
          dsimp only [psh]
          have fx24 : u13.2.1 0 0 = R_m 0 0 := px20 0 (by decide)
          have fx25 : u13.2.1 0 5 = R_m 0 5 := px20 5 (by decide)
          have fx26 : u13.2.1 0 6 = R_m 0 6 := px20 6 (by decide)
          obtain ⟨po27, po28, po29⟩ := px21
          have q30 : ((shf (pt R_m 0 2 (nI ((R_m 0 2).toNatClampNeg + 1))) 0) 0 2).toNatClampNeg = (R_m 0 2).toNatClampNeg + 1 := cl_n (x := (shf (pt R_m 0 2 (nI ((R_m 0 2).toNatClampNeg + 1))) 0) 0 2) (n := (R_m 0 2).toNatClampNeg + 1) rfl (by omega)
          refine r_if_eq C dX7_isItem_295 (fun c31 => ?_) (fun c31 => ?_)
          · skip
            refine r_iconst C dX7_isItem_313 (0 : Int32) (by decide) ?_
            refine r_zret C dX7_isItem_314 (Or.inl rfl) ?_
            have er : res = ((0 : Int32), (spl (spl (pt R_m 0 2 (nI ((R_m 0 2).toNatClampNeg + 1))) 0 1 u13.2.1) 2 1 u13.2.2)) := by rw [hres, d_X7_isItem]; try exact (lt_eq hu1).trans ((if_neg c9).trans ((if_neg c10).trans ((if_neg c11).trans ((if_pos c12).trans ((lt_eq hu13).trans ((if_pos c31).trans (rfl)))))))
            rw [er]
            exact ⟨rfl, (Or.inl rfl), hb23, fx24, ⟨po27, (show (R_m 0 2).toNatClampNeg < (u13.2.1 0 2).toNatClampNeg by omega), (show (u13.2.1 0 2).toNatClampNeg ≤ 220 by omega)⟩, ⟨nnat (a := (R_m 0 5).toNatClampNeg) (fx25.trans h5) (by omega), (show (u13.2.1 0 5).toNatClampNeg ≤ 6 by rw [(cl_n (x := (u13.2.1 0 5)) (n := (R_m 0 5).toNatClampNeg) (fx25.trans h5) (by omega))]; omega)⟩, ⟨nnat (a := (R_m 0 6).toNatClampNeg) (fx26.trans h6) (by omega), (show (u13.2.1 0 6).toNatClampNeg ≤ 3 by rw [(cl_n (x := (u13.2.1 0 6)) (n := (R_m 0 6).toNatClampNeg) (fx26.trans h6) (by omega))]; omega)⟩⟩
          · skip
            obtain ⟨hj32, hj33⟩ := px22 c31 0 (by decide)
            refine r_aload_n C dX7_isItem_298 rfl ?_
            refine r_get C hb23 (k := 0) rfl rfl celO_7 fw_X7_13 rfl dX7_isItem_299 ?_
            refine r_iconst C dX7_isItem_302 (0 : Int32) (by decide) ?_
            refine r_iald C hb23 (k := 2) rfl rfl (vp_in_c 0 rfl (by decide)) (j := 0) (cl_n rfl (by decide)) dX7_isItem_303 ?_
            change WG x _ _ _ _ _ _ _ (.int (u13.2.2 0 0) :: _)
            refine r_iconst C dX7_isItem_304 (1 : Int32) (by decide) ?_
            refine r_bipush C dX7_isItem_305 (30 : Int32) (by decide) ?_
            obtain ⟨u34, hu34⟩ : ∃ r, r = d_X7_in (u13.2.2 0 0) (1 : Int32) (30 : Int32) := ⟨_, rfl⟩
            refine r_callS0 C cw_X7_67 (fun l => c_X7_in l D (u13.2.2 0 0) (1 : Int32) (30 : Int32) u34 hu34) (rest := []) trivial (fun q h => h.elim) rfl rfl rfl (Nat.le_of_ble_eq_true rfl) ⟨Nat.le_of_ble_eq_true rfl, Nat.le_of_ble_eq_true rfl, Nat.le_refl 0, Nat.le_refl 0⟩ dX7_isItem_307 (fun v H35 hp36 hq37 => ?_)
            obtain ⟨rfl, hl38⟩ := hp36
            have hb39 := blk_kept hb23 (n := 14) rfl (fun q h1 h2 => hq37 q (fun h => h))
            dsimp only [psh]
            refine r_if_ne C dX7_isItem_310 (fun c40 => ?_) (fun c40 => ?_)
            · skip
              obtain ⟨hn41, hn42⟩ := X7_in_nat (M := 30) hu34 c40 (by decide) rfl (by decide)
              have hn43 : 1 ≤ (u13.2.2 0 0).toNatClampNeg := x_geN (X7_in_lo hu34 c40) hn41 (by decide)
              refine r_aload_n C dX7_isItem_315 rfl ?_
              refine r_aload_n C dX7_isItem_316 rfl ?_
              refine r_get C hb39 (k := 0) rfl rfl celO_7 fw_X7_13 rfl dX7_isItem_317 ?_
              refine r_iconst C dX7_isItem_320 (0 : Int32) (by decide) ?_
              refine r_iald C hb39 (k := 2) rfl rfl (vp_in_c 0 rfl (by decide)) (j := 0) (cl_n rfl (by decide)) dX7_isItem_321 ?_
              change WG x _ _ _ _ _ _ _ (.int (u13.2.2 0 0) :: _)
              refine r_put C hb39 (k := 0) rfl rfl (by unfold fp1; omega) fw_X7_91 fp_7_7 (Or.inr rfl) dX7_isItem_322 (fun H44 hb46 hq45 => ?_)
              refine r_iconst C dX7_isItem_325 (1 : Int32) (by decide) ?_
              refine r_zret C dX7_isItem_326 (Or.inr rfl) ?_
              have er : res = ((1 : Int32), (pt (spl (spl (pt R_m 0 2 (nI ((R_m 0 2).toNatClampNeg + 1))) 0 1 u13.2.1) 2 1 u13.2.2) 0 7 (u13.2.2 0 0))) := by rw [hres, d_X7_isItem]; try exact (lt_eq hu1).trans ((if_neg c9).trans ((if_neg c10).trans ((if_neg c11).trans ((if_pos c12).trans ((lt_eq hu13).trans ((if_neg c31).trans ((lt_eq hu34).trans ((if_neg c40).trans (rfl)))))))))
              rw [er]
              exact ⟨rfl, (Or.inr rfl), hb46, fx24, ⟨po27, (show (R_m 0 2).toNatClampNeg < (u13.2.1 0 2).toNatClampNeg by omega), (show (u13.2.1 0 2).toNatClampNeg ≤ 220 by omega)⟩, ⟨nnat (a := (R_m 0 5).toNatClampNeg) (fx25.trans h5) (by omega), (show (u13.2.1 0 5).toNatClampNeg ≤ 6 by rw [(cl_n (x := (u13.2.1 0 5)) (n := (R_m 0 5).toNatClampNeg) (fx25.trans h5) (by omega))]; omega)⟩, ⟨nnat (a := (R_m 0 6).toNatClampNeg) (fx26.trans h6) (by omega), (show (u13.2.1 0 6).toNatClampNeg ≤ 3 by rw [(cl_n (x := (u13.2.1 0 6)) (n := (R_m 0 6).toNatClampNeg) (fx26.trans h6) (by omega))]; omega)⟩⟩
            · skip
              refine r_iconst C dX7_isItem_313 (0 : Int32) (by decide) ?_
              refine r_zret C dX7_isItem_314 (Or.inl rfl) ?_
              have er : res = ((0 : Int32), (spl (spl (pt R_m 0 2 (nI ((R_m 0 2).toNatClampNeg + 1))) 0 1 u13.2.1) 2 1 u13.2.2)) := by rw [hres, d_X7_isItem]; try exact (lt_eq hu1).trans ((if_neg c9).trans ((if_neg c10).trans ((if_neg c11).trans ((if_pos c12).trans ((lt_eq hu13).trans ((if_neg c31).trans ((lt_eq hu34).trans ((if_pos c40).trans (rfl)))))))))
              rw [er]
              exact ⟨rfl, (Or.inl rfl), hb39, fx24, ⟨po27, (show (R_m 0 2).toNatClampNeg < (u13.2.1 0 2).toNatClampNeg by omega), (show (u13.2.1 0 2).toNatClampNeg ≤ 220 by omega)⟩, ⟨nnat (a := (R_m 0 5).toNatClampNeg) (fx25.trans h5) (by omega), (show (u13.2.1 0 5).toNatClampNeg ≤ 6 by rw [(cl_n (x := (u13.2.1 0 5)) (n := (R_m 0 5).toNatClampNeg) (fx25.trans h5) (by omega))]; omega)⟩, ⟨nnat (a := (R_m 0 6).toNatClampNeg) (fx26.trans h6) (by omega), (show (u13.2.1 0 6).toNatClampNeg ≤ 3 by rw [(cl_n (x := (u13.2.1 0 6)) (n := (R_m 0 6).toNatClampNeg) (fx26.trans h6) (by omega))]; omega)⟩⟩
      · skip
        refine r_aload_n C dX7_isItem_229 rfl ?_
        refine r_iconst C dX7_isItem_230 (2 : Int32) (by decide) ?_
        obtain ⟨u47, hu47⟩ : ∃ r, r = d_X7_isRow (shf (pt R_m 0 2 (nI ((R_m 0 2).toNatClampNeg + 1))) 0) (shf (pt R_m 0 2 (nI ((R_m 0 2).toNatClampNeg + 1))) 1) (shf (pt R_m 0 2 (nI ((R_m 0 2).toNatClampNeg + 1))) 2) (2 : Int32) := ⟨_, rfl⟩
        refine r_callV0 C cw_X7_84 (fun l => c_X7_isRow l D o_m (shf (pt R_m 0 2 (nI ((R_m 0 2).toNatClampNeg + 1))) 0) (shf (pt R_m 0 2 (nI ((R_m 0 2).toNatClampNeg + 1))) 1) (shf (pt R_m 0 2 (nI ((R_m 0 2).toNatClampNeg + 1))) 2) (2 : Int32) h0 b0 (nnat (a := ((R_m 0 2).toNatClampNeg + 1)) rfl (by omega)) (show (nI ((R_m 0 2).toNatClampNeg + 1)).toNatClampNeg ≤ 600 by rw [cl_n (n := ((R_m 0 2).toNatClampNeg + 1)) rfl (by omega)]; omega) (by decide) (by decide) u47 hu47) (rest := []) hb8 (k := 0) rfl rfl celO_7 ⟨(blk_sub hb8 0 1 rfl rfl), (blk_sub hb8 1 1 rfl rfl), (blk_sub hb8 2 1 rfl rfl)⟩ (fun q h => by unfold fp2 at h; unfold fp1; omega) rfl rfl rfl (Nat.le_of_ble_eq_true rfl) ⟨Nat.le_of_ble_eq_true rfl, Nat.le_of_ble_eq_true rfl, Nat.le_refl 0, Nat.le_refl 0⟩ dX7_isItem_231 (fun v H48 hp49 hq50 => ?_)
        obtain ⟨rfl, hl51, hn52, hn53, px54, px55, px56⟩ := hp49
        have hb57 := blk_spl2 hb8 0 1 rfl rfl hn52 2 1 rfl rfl hn53 (fun q h => hq50 q (by unfold fp2; omega))
        dsimp only [psh]
        have fx58 : u47.2.1 0 0 = R_m 0 0 := px54 0 (by decide)
        have fx59 : u47.2.1 0 5 = R_m 0 5 := px54 5 (by decide)
        have fx60 : u47.2.1 0 6 = R_m 0 6 := px54 6 (by decide)
        obtain ⟨po61, po62, po63⟩ := px55
        have q64 : ((shf (pt R_m 0 2 (nI ((R_m 0 2).toNatClampNeg + 1))) 0) 0 2).toNatClampNeg = (R_m 0 2).toNatClampNeg + 1 := cl_n (x := (shf (pt R_m 0 2 (nI ((R_m 0 2).toNatClampNeg + 1))) 0) 0 2) (n := (R_m 0 2).toNatClampNeg + 1) rfl (by omega)
        refine r_if_eq C dX7_isItem_234 (fun c65 => ?_) (fun c65 => ?_)
        · skip
          refine r_iconst C dX7_isItem_260 (0 : Int32) (by decide) ?_
          refine r_zret C dX7_isItem_261 (Or.inl rfl) ?_
          have er : res = ((0 : Int32), (spl (spl (pt R_m 0 2 (nI ((R_m 0 2).toNatClampNeg + 1))) 0 1 u47.2.1) 2 1 u47.2.2)) := by rw [hres, d_X7_isItem]; try exact (lt_eq hu1).trans ((if_neg c9).trans ((if_neg c10).trans ((if_pos c11).trans ((lt_eq hu47).trans ((if_pos c65).trans (rfl))))))
          rw [er]
          exact ⟨rfl, (Or.inl rfl), hb57, fx58, ⟨po61, (show (R_m 0 2).toNatClampNeg < (u47.2.1 0 2).toNatClampNeg by omega), (show (u47.2.1 0 2).toNatClampNeg ≤ 220 by omega)⟩, ⟨nnat (a := (R_m 0 5).toNatClampNeg) (fx59.trans h5) (by omega), (show (u47.2.1 0 5).toNatClampNeg ≤ 6 by rw [(cl_n (x := (u47.2.1 0 5)) (n := (R_m 0 5).toNatClampNeg) (fx59.trans h5) (by omega))]; omega)⟩, ⟨nnat (a := (R_m 0 6).toNatClampNeg) (fx60.trans h6) (by omega), (show (u47.2.1 0 6).toNatClampNeg ≤ 3 by rw [(cl_n (x := (u47.2.1 0 6)) (n := (R_m 0 6).toNatClampNeg) (fx60.trans h6) (by omega))]; omega)⟩⟩
        · skip
          obtain ⟨hj66, hj67⟩ := px56 c65 0 (by decide)
          obtain ⟨hj68, hj69⟩ := px56 c65 1 (by decide)
          refine r_aload_n C dX7_isItem_237 rfl ?_
          refine r_get C hb57 (k := 0) rfl rfl celO_7 fw_X7_13 rfl dX7_isItem_238 ?_
          refine r_iconst C dX7_isItem_241 (0 : Int32) (by decide) ?_
          refine r_iald C hb57 (k := 2) rfl rfl (vp_in_c 0 rfl (by decide)) (j := 0) (cl_n rfl (by decide)) dX7_isItem_242 ?_
          change WG x _ _ _ _ _ _ _ (.int (u47.2.2 0 0) :: _)
          refine r_aload_n C dX7_isItem_243 rfl ?_
          refine r_get C hb57 (k := 0) rfl rfl celO_7 fw_X7_81 (z := .int (u47.2.1 0 5)) rfl dX7_isItem_244 ?_
          refine r_ic_ge C dX7_isItem_247 (fun c70 => ?_) (fun c70 => ?_)
          · skip
            have f71 : ((R_m 0 5).toNatClampNeg ≤ (u47.2.2 0 0).toNatClampNeg) := nf_leI (by omega) (by omega) (fx59.trans h5) hj66 c70
            refine r_iconst C dX7_isItem_260 (0 : Int32) (by decide) ?_
            refine r_zret C dX7_isItem_261 (Or.inl rfl) ?_
            have er : res = ((0 : Int32), (spl (spl (pt R_m 0 2 (nI ((R_m 0 2).toNatClampNeg + 1))) 0 1 u47.2.1) 2 1 u47.2.2)) := by rw [hres, d_X7_isItem]; try exact (lt_eq hu1).trans ((if_neg c9).trans ((if_neg c10).trans ((if_pos c11).trans ((lt_eq hu47).trans ((if_neg c65).trans ((if_pos c70).trans (rfl)))))))
            rw [er]
            exact ⟨rfl, (Or.inl rfl), hb57, fx58, ⟨po61, (show (R_m 0 2).toNatClampNeg < (u47.2.1 0 2).toNatClampNeg by omega), (show (u47.2.1 0 2).toNatClampNeg ≤ 220 by omega)⟩, ⟨nnat (a := (R_m 0 5).toNatClampNeg) (fx59.trans h5) (by omega), (show (u47.2.1 0 5).toNatClampNeg ≤ 6 by rw [(cl_n (x := (u47.2.1 0 5)) (n := (R_m 0 5).toNatClampNeg) (fx59.trans h5) (by omega))]; omega)⟩, ⟨nnat (a := (R_m 0 6).toNatClampNeg) (fx60.trans h6) (by omega), (show (u47.2.1 0 6).toNatClampNeg ≤ 3 by rw [(cl_n (x := (u47.2.1 0 6)) (n := (R_m 0 6).toNatClampNeg) (fx60.trans h6) (by omega))]; omega)⟩⟩
          · skip
            have f72 : ¬ ((R_m 0 5).toNatClampNeg ≤ (u47.2.2 0 0).toNatClampNeg) := nf_leIn (by omega) (by omega) (fx59.trans h5) hj66 c70
            refine r_aload_n C dX7_isItem_250 rfl ?_
            refine r_get C hb57 (k := 0) rfl rfl celO_7 fw_X7_13 rfl dX7_isItem_251 ?_
            refine r_iconst C dX7_isItem_254 (1 : Int32) (by decide) ?_
            refine r_iald C hb57 (k := 2) rfl rfl (vp_in_c 1 rfl (by decide)) (j := 1) (cl_n rfl (by decide)) dX7_isItem_255 ?_
            change WG x _ _ _ _ _ _ _ (.int (u47.2.2 0 1) :: _)
            refine r_iconst C dX7_isItem_256 (3 : Int32) (by decide) ?_
            refine r_ic_le C dX7_isItem_257 (fun c73 => ?_) (fun c73 => ?_)
            · skip
              have f74 : ((u47.2.2 0 1).toNatClampNeg ≤ 3) := nf_leI (by omega) (by omega) hj68 rfl c73
              refine r_aload_n C dX7_isItem_262 rfl ?_
              refine r_get C hb57 (k := 0) rfl rfl celO_7 fw_X7_19 rfl dX7_isItem_263 ?_
              refine r_bipush C dX7_isItem_266 (19 : Int32) (by decide) ?_
              refine r_aload_n C dX7_isItem_268 rfl ?_
              refine r_get C hb57 (k := 0) rfl rfl celO_7 fw_X7_13 rfl dX7_isItem_269 ?_
              refine r_iconst C dX7_isItem_272 (0 : Int32) (by decide) ?_
              refine r_iald C hb57 (k := 2) rfl rfl (vp_in_c 0 rfl (by decide)) (j := 0) (cl_n rfl (by decide)) dX7_isItem_273 ?_
              change WG x _ _ _ _ _ _ _ (.int (u47.2.2 0 0) :: _)
              refine r_iaddN C dX7_isItem_274 (na := 19) (nb := (u47.2.2 0 0).toNatClampNeg) rfl hj66 (nc := (19 + (u47.2.2 0 0).toNatClampNeg)) rfl ?_
              refine r_aload_n C dX7_isItem_275 rfl ?_
              refine r_get C hb57 (k := 0) rfl rfl celO_7 fw_X7_13 rfl dX7_isItem_276 ?_
              refine r_iconst C dX7_isItem_279 (1 : Int32) (by decide) ?_
              refine r_iald C hb57 (k := 2) rfl rfl (vp_in_c 1 rfl (by decide)) (j := 1) (cl_n rfl (by decide)) dX7_isItem_280 ?_
              change WG x _ _ _ _ _ _ _ (.int (u47.2.2 0 1) :: _)
              refine r_iast C hb57 (k := 4) rfl rfl (by unfold fp1; omega) (vp_in_n rfl (by omega) (by omega)) (j := (19 + (u47.2.2 0 0).toNatClampNeg)) (cl_n rfl (by omega)) dX7_isItem_281 (fun H75 hb77 hq76 => ?_)
              refine r_iconst C dX7_isItem_282 (1 : Int32) (by decide) ?_
              refine r_zret C dX7_isItem_283 (Or.inr rfl) ?_
              have er : res = ((1 : Int32), (pt (spl (spl (pt R_m 0 2 (nI ((R_m 0 2).toNatClampNeg + 1))) 0 1 u47.2.1) 2 1 u47.2.2) 4 (19 + (u47.2.2 0 0).toNatClampNeg) (u47.2.2 0 1))) := by rw [hres, d_X7_isItem]; try exact (lt_eq hu1).trans ((if_neg c9).trans ((if_neg c10).trans ((if_pos c11).trans ((lt_eq hu47).trans ((if_neg c65).trans ((if_neg c70).trans ((if_pos c73).trans (rfl))))))))
              rw [er]
              exact ⟨rfl, (Or.inr rfl), hb77, fx58, ⟨po61, (show (R_m 0 2).toNatClampNeg < (u47.2.1 0 2).toNatClampNeg by omega), (show (u47.2.1 0 2).toNatClampNeg ≤ 220 by omega)⟩, ⟨nnat (a := (R_m 0 5).toNatClampNeg) (fx59.trans h5) (by omega), (show (u47.2.1 0 5).toNatClampNeg ≤ 6 by rw [(cl_n (x := (u47.2.1 0 5)) (n := (R_m 0 5).toNatClampNeg) (fx59.trans h5) (by omega))]; omega)⟩, ⟨nnat (a := (R_m 0 6).toNatClampNeg) (fx60.trans h6) (by omega), (show (u47.2.1 0 6).toNatClampNeg ≤ 3 by rw [(cl_n (x := (u47.2.1 0 6)) (n := (R_m 0 6).toNatClampNeg) (fx60.trans h6) (by omega))]; omega)⟩⟩
            · skip
              have f78 : ¬ ((u47.2.2 0 1).toNatClampNeg ≤ 3) := nf_leIn (by omega) (by omega) hj68 rfl c73
              refine r_iconst C dX7_isItem_260 (0 : Int32) (by decide) ?_
              refine r_zret C dX7_isItem_261 (Or.inl rfl) ?_
              have er : res = ((0 : Int32), (spl (spl (pt R_m 0 2 (nI ((R_m 0 2).toNatClampNeg + 1))) 0 1 u47.2.1) 2 1 u47.2.2)) := by rw [hres, d_X7_isItem]; try exact (lt_eq hu1).trans ((if_neg c9).trans ((if_neg c10).trans ((if_pos c11).trans ((lt_eq hu47).trans ((if_neg c65).trans ((if_neg c70).trans ((if_neg c73).trans (rfl))))))))
              rw [er]
              exact ⟨rfl, (Or.inl rfl), hb57, fx58, ⟨po61, (show (R_m 0 2).toNatClampNeg < (u47.2.1 0 2).toNatClampNeg by omega), (show (u47.2.1 0 2).toNatClampNeg ≤ 220 by omega)⟩, ⟨nnat (a := (R_m 0 5).toNatClampNeg) (fx59.trans h5) (by omega), (show (u47.2.1 0 5).toNatClampNeg ≤ 6 by rw [(cl_n (x := (u47.2.1 0 5)) (n := (R_m 0 5).toNatClampNeg) (fx59.trans h5) (by omega))]; omega)⟩, ⟨nnat (a := (R_m 0 6).toNatClampNeg) (fx60.trans h6) (by omega), (show (u47.2.1 0 6).toNatClampNeg ≤ 3 by rw [(cl_n (x := (u47.2.1 0 6)) (n := (R_m 0 6).toNatClampNeg) (fx60.trans h6) (by omega))]; omega)⟩⟩
    · skip
      refine r_aload_n C dX7_isItem_127 rfl ?_
      refine r_get C hb8 (k := 0) rfl rfl celO_7 fw_X7_88 (z := .int (R_m 0 6)) rfl dX7_isItem_128 ?_
      refine r_iconst C dX7_isItem_131 (3 : Int32) (by decide) ?_
      refine r_ic_eq C dX7_isItem_132 (fun c79 => ?_) (fun c79 => ?_)
      · skip
        have f80 : ((R_m 0 6).toNatClampNeg = 3) := nf_eq (by omega) (by omega) h6 rfl c79
        refine r_iconst C dX7_isItem_173 (0 : Int32) (by decide) ?_
        refine r_zret C dX7_isItem_174 (Or.inl rfl) ?_
        have er : res = ((0 : Int32), (pt R_m 0 2 (nI ((R_m 0 2).toNatClampNeg + 1)))) := by rw [hres, d_X7_isItem]; try exact (lt_eq hu1).trans ((if_neg c9).trans ((if_pos c10).trans ((if_pos c79).trans (rfl))))
        rw [er]
        exact ⟨rfl, (Or.inl rfl), hb8, rfl, ⟨nnat (a := ((R_m 0 2).toNatClampNeg + 1)) rfl (by omega), (show (R_m 0 2).toNatClampNeg < (nI ((R_m 0 2).toNatClampNeg + 1)).toNatClampNeg by rw [(cl_n (x := (nI ((R_m 0 2).toNatClampNeg + 1))) (n := ((R_m 0 2).toNatClampNeg + 1)) rfl (by omega))]; omega), (show (nI ((R_m 0 2).toNatClampNeg + 1)).toNatClampNeg ≤ 220 by rw [(cl_n (x := (nI ((R_m 0 2).toNatClampNeg + 1))) (n := ((R_m 0 2).toNatClampNeg + 1)) rfl (by omega))]; omega)⟩, ⟨h5, (show (R_m 0 5).toNatClampNeg ≤ 6 by omega)⟩, ⟨h6, (show (R_m 0 6).toNatClampNeg ≤ 3 by omega)⟩⟩
      · skip
        have f81 : ¬ ((R_m 0 6).toNatClampNeg = 3) := nf_eqn (by omega) (by omega) h6 rfl c79
        refine r_aload_n C dX7_isItem_135 rfl ?_
        refine r_iconst C dX7_isItem_136 (2 : Int32) (by decide) ?_
        obtain ⟨u82, hu82⟩ : ∃ r, r = d_X7_isRow (shf (pt R_m 0 2 (nI ((R_m 0 2).toNatClampNeg + 1))) 0) (shf (pt R_m 0 2 (nI ((R_m 0 2).toNatClampNeg + 1))) 1) (shf (pt R_m 0 2 (nI ((R_m 0 2).toNatClampNeg + 1))) 2) (2 : Int32) := ⟨_, rfl⟩
        refine r_callV0 C cw_X7_84 (fun l => c_X7_isRow l D o_m (shf (pt R_m 0 2 (nI ((R_m 0 2).toNatClampNeg + 1))) 0) (shf (pt R_m 0 2 (nI ((R_m 0 2).toNatClampNeg + 1))) 1) (shf (pt R_m 0 2 (nI ((R_m 0 2).toNatClampNeg + 1))) 2) (2 : Int32) h0 b0 (nnat (a := ((R_m 0 2).toNatClampNeg + 1)) rfl (by omega)) (show (nI ((R_m 0 2).toNatClampNeg + 1)).toNatClampNeg ≤ 600 by rw [cl_n (n := ((R_m 0 2).toNatClampNeg + 1)) rfl (by omega)]; omega) (by decide) (by decide) u82 hu82) (rest := []) hb8 (k := 0) rfl rfl celO_7 ⟨(blk_sub hb8 0 1 rfl rfl), (blk_sub hb8 1 1 rfl rfl), (blk_sub hb8 2 1 rfl rfl)⟩ (fun q h => by unfold fp2 at h; unfold fp1; omega) rfl rfl rfl (Nat.le_of_ble_eq_true rfl) ⟨Nat.le_of_ble_eq_true rfl, Nat.le_of_ble_eq_true rfl, Nat.le_refl 0, Nat.le_refl 0⟩ dX7_isItem_137 (fun v H83 hp84 hq85 => ?_)
        obtain ⟨rfl, hl86, hn87, hn88, px89, px90, px91⟩ := hp84
        have hb92 := blk_spl2 hb8 0 1 rfl rfl hn87 2 1 rfl rfl hn88 (fun q h => hq85 q (by unfold fp2; omega))
        dsimp only [psh]
        have fx93 : u82.2.1 0 0 = R_m 0 0 := px89 0 (by decide)
        have fx94 : u82.2.1 0 5 = R_m 0 5 := px89 5 (by decide)
        have fx95 : u82.2.1 0 6 = R_m 0 6 := px89 6 (by decide)
        obtain ⟨po96, po97, po98⟩ := px90
        have q99 : ((shf (pt R_m 0 2 (nI ((R_m 0 2).toNatClampNeg + 1))) 0) 0 2).toNatClampNeg = (R_m 0 2).toNatClampNeg + 1 := cl_n (x := (shf (pt R_m 0 2 (nI ((R_m 0 2).toNatClampNeg + 1))) 0) 0 2) (n := (R_m 0 2).toNatClampNeg + 1) rfl (by omega)
        refine r_if_eq C dX7_isItem_140 (fun c100 => ?_) (fun c100 => ?_)
        · skip
          refine r_iconst C dX7_isItem_173 (0 : Int32) (by decide) ?_
          refine r_zret C dX7_isItem_174 (Or.inl rfl) ?_
          have er : res = ((0 : Int32), (spl (spl (pt R_m 0 2 (nI ((R_m 0 2).toNatClampNeg + 1))) 0 1 u82.2.1) 2 1 u82.2.2)) := by rw [hres, d_X7_isItem]; try exact (lt_eq hu1).trans ((if_neg c9).trans ((if_pos c10).trans ((if_neg c79).trans ((lt_eq hu82).trans ((if_pos c100).trans (rfl))))))
          rw [er]
          exact ⟨rfl, (Or.inl rfl), hb92, fx93, ⟨po96, (show (R_m 0 2).toNatClampNeg < (u82.2.1 0 2).toNatClampNeg by omega), (show (u82.2.1 0 2).toNatClampNeg ≤ 220 by omega)⟩, ⟨nnat (a := (R_m 0 5).toNatClampNeg) (fx94.trans h5) (by omega), (show (u82.2.1 0 5).toNatClampNeg ≤ 6 by rw [(cl_n (x := (u82.2.1 0 5)) (n := (R_m 0 5).toNatClampNeg) (fx94.trans h5) (by omega))]; omega)⟩, ⟨nnat (a := (R_m 0 6).toNatClampNeg) (fx95.trans h6) (by omega), (show (u82.2.1 0 6).toNatClampNeg ≤ 3 by rw [(cl_n (x := (u82.2.1 0 6)) (n := (R_m 0 6).toNatClampNeg) (fx95.trans h6) (by omega))]; omega)⟩⟩
        · skip
          obtain ⟨hj101, hj102⟩ := px91 c100 0 (by decide)
          obtain ⟨hj103, hj104⟩ := px91 c100 1 (by decide)
          refine r_aload_n C dX7_isItem_143 rfl ?_
          refine r_get C hb92 (k := 0) rfl rfl celO_7 fw_X7_13 rfl dX7_isItem_144 ?_
          refine r_iconst C dX7_isItem_147 (0 : Int32) (by decide) ?_
          refine r_iald C hb92 (k := 2) rfl rfl (vp_in_c 0 rfl (by decide)) (j := 0) (cl_n rfl (by decide)) dX7_isItem_148 ?_
          change WG x _ _ _ _ _ _ _ (.int (u82.2.2 0 0) :: _)
          refine r_iconst C dX7_isItem_149 (1 : Int32) (by decide) ?_
          refine r_bipush C dX7_isItem_150 (60 : Int32) (by decide) ?_
          obtain ⟨u105, hu105⟩ : ∃ r, r = d_X7_in (u82.2.2 0 0) (1 : Int32) (60 : Int32) := ⟨_, rfl⟩
          refine r_callS0 C cw_X7_67 (fun l => c_X7_in l D (u82.2.2 0 0) (1 : Int32) (60 : Int32) u105 hu105) (rest := []) trivial (fun q h => h.elim) rfl rfl rfl (Nat.le_of_ble_eq_true rfl) ⟨Nat.le_of_ble_eq_true rfl, Nat.le_of_ble_eq_true rfl, Nat.le_refl 0, Nat.le_refl 0⟩ dX7_isItem_152 (fun v H106 hp107 hq108 => ?_)
          obtain ⟨rfl, hl109⟩ := hp107
          have hb110 := blk_kept hb92 (n := 14) rfl (fun q h1 h2 => hq108 q (fun h => h))
          dsimp only [psh]
          refine r_if_eq C dX7_isItem_155 (fun c111 => ?_) (fun c111 => ?_)
          · skip
            refine r_iconst C dX7_isItem_173 (0 : Int32) (by decide) ?_
            refine r_zret C dX7_isItem_174 (Or.inl rfl) ?_
            have er : res = ((0 : Int32), (spl (spl (pt R_m 0 2 (nI ((R_m 0 2).toNatClampNeg + 1))) 0 1 u82.2.1) 2 1 u82.2.2)) := by rw [hres, d_X7_isItem]; try exact (lt_eq hu1).trans ((if_neg c9).trans ((if_pos c10).trans ((if_neg c79).trans ((lt_eq hu82).trans ((if_neg c100).trans ((lt_eq hu105).trans ((if_pos c111).trans (rfl))))))))
            rw [er]
            exact ⟨rfl, (Or.inl rfl), hb110, fx93, ⟨po96, (show (R_m 0 2).toNatClampNeg < (u82.2.1 0 2).toNatClampNeg by omega), (show (u82.2.1 0 2).toNatClampNeg ≤ 220 by omega)⟩, ⟨nnat (a := (R_m 0 5).toNatClampNeg) (fx94.trans h5) (by omega), (show (u82.2.1 0 5).toNatClampNeg ≤ 6 by rw [(cl_n (x := (u82.2.1 0 5)) (n := (R_m 0 5).toNatClampNeg) (fx94.trans h5) (by omega))]; omega)⟩, ⟨nnat (a := (R_m 0 6).toNatClampNeg) (fx95.trans h6) (by omega), (show (u82.2.1 0 6).toNatClampNeg ≤ 3 by rw [(cl_n (x := (u82.2.1 0 6)) (n := (R_m 0 6).toNatClampNeg) (fx95.trans h6) (by omega))]; omega)⟩⟩
          · skip
            obtain ⟨hn112, hn113⟩ := X7_in_nat (M := 60) hu105 c111 (by decide) rfl (by decide)
            have hn114 : 1 ≤ (u82.2.2 0 0).toNatClampNeg := x_geN (X7_in_lo hu105 c111) hn112 (by decide)
            refine r_aload_n C dX7_isItem_158 rfl ?_
            refine r_get C hb110 (k := 0) rfl rfl celO_7 fw_X7_13 rfl dX7_isItem_159 ?_
            refine r_iconst C dX7_isItem_162 (1 : Int32) (by decide) ?_
            refine r_iald C hb110 (k := 2) rfl rfl (vp_in_c 1 rfl (by decide)) (j := 1) (cl_n rfl (by decide)) dX7_isItem_163 ?_
            change WG x _ _ _ _ _ _ _ (.int (u82.2.2 0 1) :: _)
            refine r_iconst C dX7_isItem_164 (1 : Int32) (by decide) ?_
            refine r_bipush C dX7_isItem_165 (60 : Int32) (by decide) ?_
            obtain ⟨u115, hu115⟩ : ∃ r, r = d_X7_in (u82.2.2 0 1) (1 : Int32) (60 : Int32) := ⟨_, rfl⟩
            refine r_callS0 C cw_X7_67 (fun l => c_X7_in l D (u82.2.2 0 1) (1 : Int32) (60 : Int32) u115 hu115) (rest := []) trivial (fun q h => h.elim) rfl rfl rfl (Nat.le_of_ble_eq_true rfl) ⟨Nat.le_of_ble_eq_true rfl, Nat.le_of_ble_eq_true rfl, Nat.le_refl 0, Nat.le_refl 0⟩ dX7_isItem_167 (fun v H116 hp117 hq118 => ?_)
            obtain ⟨rfl, hl119⟩ := hp117
            have hb120 := blk_kept hb110 (n := 14) rfl (fun q h1 h2 => hq118 q (fun h => h))
            dsimp only [psh]
            refine r_if_ne C dX7_isItem_170 (fun c121 => ?_) (fun c121 => ?_)
            · skip
              obtain ⟨hn122, hn123⟩ := X7_in_nat (M := 60) hu115 c121 (by decide) rfl (by decide)
              have hn124 : 1 ≤ (u82.2.2 0 1).toNatClampNeg := x_geN (X7_in_lo hu115 c121) hn122 (by decide)
              refine r_aload_n C dX7_isItem_175 rfl ?_
              refine r_get C hb120 (k := 0) rfl rfl celO_7 fw_X7_19 rfl dX7_isItem_176 ?_
              refine r_bipush C dX7_isItem_179 (37 : Int32) (by decide) ?_
              refine r_aload_n C dX7_isItem_181 rfl ?_
              refine r_get C hb120 (k := 0) rfl rfl celO_7 fw_X7_88 (z := .int (u82.2.1 0 6)) rfl dX7_isItem_182 ?_
              refine r_iaddN C dX7_isItem_185 (na := 37) (nb := (R_m 0 6).toNatClampNeg) rfl (fx95.trans h6) (nc := (37 + (R_m 0 6).toNatClampNeg)) rfl ?_
              refine r_aload_n C dX7_isItem_186 rfl ?_
              refine r_get C hb120 (k := 0) rfl rfl celO_7 fw_X7_13 rfl dX7_isItem_187 ?_
              refine r_iconst C dX7_isItem_190 (0 : Int32) (by decide) ?_
              refine r_iald C hb120 (k := 2) rfl rfl (vp_in_c 0 rfl (by decide)) (j := 0) (cl_n rfl (by decide)) dX7_isItem_191 ?_
              change WG x _ _ _ _ _ _ _ (.int (u82.2.2 0 0) :: _)
              refine r_iast C hb120 (k := 4) rfl rfl (by unfold fp1; omega) (vp_in_n rfl (by omega) (by omega)) (j := (37 + (R_m 0 6).toNatClampNeg)) (cl_n rfl (by omega)) dX7_isItem_192 (fun H125 hb127 hq126 => ?_)
              refine r_aload_n C dX7_isItem_193 rfl ?_
              refine r_get C hb127 (k := 0) rfl rfl celO_7 fw_X7_19 rfl dX7_isItem_194 ?_
              refine r_bipush C dX7_isItem_197 (40 : Int32) (by decide) ?_
              refine r_aload_n C dX7_isItem_199 rfl ?_
              refine r_get C hb127 (k := 0) rfl rfl celO_7 fw_X7_88 (z := .int (u82.2.1 0 6)) rfl dX7_isItem_200 ?_
              refine r_iaddN C dX7_isItem_203 (na := 40) (nb := (R_m 0 6).toNatClampNeg) rfl (fx95.trans h6) (nc := (40 + (R_m 0 6).toNatClampNeg)) rfl ?_
              refine r_aload_n C dX7_isItem_204 rfl ?_
              refine r_get C hb127 (k := 0) rfl rfl celO_7 fw_X7_13 rfl dX7_isItem_205 ?_
              refine r_iconst C dX7_isItem_208 (1 : Int32) (by decide) ?_
              refine r_iald C hb127 (k := 2) rfl rfl (vp_in_c 1 rfl (by decide)) (j := 1) (cl_n rfl (by decide)) dX7_isItem_209 ?_
              change WG x _ _ _ _ _ _ _ (.int (u82.2.2 0 1) :: _)
              refine r_iast C hb127 (k := 4) rfl rfl (by unfold fp1; omega) (vp_in_n rfl (by omega) (by omega)) (j := (40 + (R_m 0 6).toNatClampNeg)) (cl_n rfl (by omega)) dX7_isItem_210 (fun H128 hb130 hq129 => ?_)
              refine r_aload_n C dX7_isItem_211 rfl ?_
              refine r_dup C dX7_isItem_212 rfl ?_
              refine r_get C hb130 (k := 0) rfl rfl celO_7 fw_X7_88 (z := .int (u82.2.1 0 6)) rfl dX7_isItem_213 ?_
              refine r_iconst C dX7_isItem_216 (1 : Int32) (by decide) ?_
              refine r_iaddN C dX7_isItem_217 (na := (R_m 0 6).toNatClampNeg) (nb := 1) (fx95.trans h6) rfl (nc := ((R_m 0 6).toNatClampNeg + 1)) rfl ?_
              refine r_put C hb130 (k := 0) rfl rfl (by unfold fp1; omega) fw_X7_88 fp_7_6 (Or.inr rfl) dX7_isItem_218 (fun H131 hb133 hq132 => ?_)
              refine r_iconst C dX7_isItem_221 (1 : Int32) (by decide) ?_
              refine r_zret C dX7_isItem_222 (Or.inr rfl) ?_
              have er : res = ((1 : Int32), (pt (pt (pt (spl (spl (pt R_m 0 2 (nI ((R_m 0 2).toNatClampNeg + 1))) 0 1 u82.2.1) 2 1 u82.2.2) 4 (37 + (R_m 0 6).toNatClampNeg) (u82.2.2 0 0)) 4 (40 + (R_m 0 6).toNatClampNeg) (u82.2.2 0 1)) 0 6 (nI ((R_m 0 6).toNatClampNeg + 1)))) := by rw [hres, d_X7_isItem]; try exact (lt_eq hu1).trans ((if_neg c9).trans ((if_pos c10).trans ((if_neg c79).trans ((lt_eq hu82).trans ((if_neg c100).trans ((lt_eq hu105).trans ((if_neg c111).trans ((lt_eq hu115).trans ((if_neg c121).trans (rfl))))))))))
              rw [er]
              exact ⟨rfl, (Or.inr rfl), hb133, fx93, ⟨po96, (show (R_m 0 2).toNatClampNeg < (u82.2.1 0 2).toNatClampNeg by omega), (show (u82.2.1 0 2).toNatClampNeg ≤ 220 by omega)⟩, ⟨nnat (a := (R_m 0 5).toNatClampNeg) (fx94.trans h5) (by omega), (show (u82.2.1 0 5).toNatClampNeg ≤ 6 by rw [(cl_n (x := (u82.2.1 0 5)) (n := (R_m 0 5).toNatClampNeg) (fx94.trans h5) (by omega))]; omega)⟩, ⟨nnat (a := ((R_m 0 6).toNatClampNeg + 1)) rfl (by omega), (show (nI ((R_m 0 6).toNatClampNeg + 1)).toNatClampNeg ≤ 3 by rw [(cl_n (x := (nI ((R_m 0 6).toNatClampNeg + 1))) (n := ((R_m 0 6).toNatClampNeg + 1)) rfl (by omega))]; omega)⟩⟩
            · skip
              refine r_iconst C dX7_isItem_173 (0 : Int32) (by decide) ?_
              refine r_zret C dX7_isItem_174 (Or.inl rfl) ?_
              have er : res = ((0 : Int32), (spl (spl (pt R_m 0 2 (nI ((R_m 0 2).toNatClampNeg + 1))) 0 1 u82.2.1) 2 1 u82.2.2)) := by rw [hres, d_X7_isItem]; try exact (lt_eq hu1).trans ((if_neg c9).trans ((if_pos c10).trans ((if_neg c79).trans ((lt_eq hu82).trans ((if_neg c100).trans ((lt_eq hu105).trans ((if_neg c111).trans ((lt_eq hu115).trans ((if_pos c121).trans (rfl))))))))))
              rw [er]
              exact ⟨rfl, (Or.inl rfl), hb120, fx93, ⟨po96, (show (R_m 0 2).toNatClampNeg < (u82.2.1 0 2).toNatClampNeg by omega), (show (u82.2.1 0 2).toNatClampNeg ≤ 220 by omega)⟩, ⟨nnat (a := (R_m 0 5).toNatClampNeg) (fx94.trans h5) (by omega), (show (u82.2.1 0 5).toNatClampNeg ≤ 6 by rw [(cl_n (x := (u82.2.1 0 5)) (n := (R_m 0 5).toNatClampNeg) (fx94.trans h5) (by omega))]; omega)⟩, ⟨nnat (a := (R_m 0 6).toNatClampNeg) (fx95.trans h6) (by omega), (show (u82.2.1 0 6).toNatClampNeg ≤ 3 by rw [(cl_n (x := (u82.2.1 0 6)) (n := (R_m 0 6).toNatClampNeg) (fx95.trans h6) (by omega))]; omega)⟩⟩
  · skip
    refine r_aload_n C dX7_isItem_25 rfl ?_
    refine r_get C hb8 (k := 0) rfl rfl celO_7 fw_X7_81 (z := .int (R_m 0 5)) rfl dX7_isItem_26 ?_
    refine r_bipush C dX7_isItem_29 (6 : Int32) (by decide) ?_
    refine r_ic_eq C dX7_isItem_31 (fun c134 => ?_) (fun c134 => ?_)
    · skip
      have f135 : ((R_m 0 5).toNatClampNeg = 6) := nf_eq (by omega) (by omega) h5 rfl c134
      refine r_iconst C dX7_isItem_74 (0 : Int32) (by decide) ?_
      refine r_zret C dX7_isItem_75 (Or.inl rfl) ?_
      have er : res = ((0 : Int32), (pt R_m 0 2 (nI ((R_m 0 2).toNatClampNeg + 1)))) := by rw [hres, d_X7_isItem]; try exact (lt_eq hu1).trans ((if_pos c9).trans ((if_pos c134).trans (rfl)))
      rw [er]
      exact ⟨rfl, (Or.inl rfl), hb8, rfl, ⟨nnat (a := ((R_m 0 2).toNatClampNeg + 1)) rfl (by omega), (show (R_m 0 2).toNatClampNeg < (nI ((R_m 0 2).toNatClampNeg + 1)).toNatClampNeg by rw [(cl_n (x := (nI ((R_m 0 2).toNatClampNeg + 1))) (n := ((R_m 0 2).toNatClampNeg + 1)) rfl (by omega))]; omega), (show (nI ((R_m 0 2).toNatClampNeg + 1)).toNatClampNeg ≤ 220 by rw [(cl_n (x := (nI ((R_m 0 2).toNatClampNeg + 1))) (n := ((R_m 0 2).toNatClampNeg + 1)) rfl (by omega))]; omega)⟩, ⟨h5, (show (R_m 0 5).toNatClampNeg ≤ 6 by omega)⟩, ⟨h6, (show (R_m 0 6).toNatClampNeg ≤ 3 by omega)⟩⟩
    · skip
      have f136 : ¬ ((R_m 0 5).toNatClampNeg = 6) := nf_eqn (by omega) (by omega) h5 rfl c134
      refine r_aload_n C dX7_isItem_34 rfl ?_
      refine r_iconst C dX7_isItem_35 (4 : Int32) (by decide) ?_
      obtain ⟨u137, hu137⟩ : ∃ r, r = d_X7_isRow (shf (pt R_m 0 2 (nI ((R_m 0 2).toNatClampNeg + 1))) 0) (shf (pt R_m 0 2 (nI ((R_m 0 2).toNatClampNeg + 1))) 1) (shf (pt R_m 0 2 (nI ((R_m 0 2).toNatClampNeg + 1))) 2) (4 : Int32) := ⟨_, rfl⟩
      refine r_callV0 C cw_X7_84 (fun l => c_X7_isRow l D o_m (shf (pt R_m 0 2 (nI ((R_m 0 2).toNatClampNeg + 1))) 0) (shf (pt R_m 0 2 (nI ((R_m 0 2).toNatClampNeg + 1))) 1) (shf (pt R_m 0 2 (nI ((R_m 0 2).toNatClampNeg + 1))) 2) (4 : Int32) h0 b0 (nnat (a := ((R_m 0 2).toNatClampNeg + 1)) rfl (by omega)) (show (nI ((R_m 0 2).toNatClampNeg + 1)).toNatClampNeg ≤ 600 by rw [cl_n (n := ((R_m 0 2).toNatClampNeg + 1)) rfl (by omega)]; omega) (by decide) (by decide) u137 hu137) (rest := []) hb8 (k := 0) rfl rfl celO_7 ⟨(blk_sub hb8 0 1 rfl rfl), (blk_sub hb8 1 1 rfl rfl), (blk_sub hb8 2 1 rfl rfl)⟩ (fun q h => by unfold fp2 at h; unfold fp1; omega) rfl rfl rfl (Nat.le_of_ble_eq_true rfl) ⟨Nat.le_of_ble_eq_true rfl, Nat.le_of_ble_eq_true rfl, Nat.le_refl 0, Nat.le_refl 0⟩ dX7_isItem_36 (fun v H138 hp139 hq140 => ?_)
      obtain ⟨rfl, hl141, hn142, hn143, px144, px145, px146⟩ := hp139
      have hb147 := blk_spl2 hb8 0 1 rfl rfl hn142 2 1 rfl rfl hn143 (fun q h => hq140 q (by unfold fp2; omega))
      dsimp only [psh]
      have fx148 : u137.2.1 0 0 = R_m 0 0 := px144 0 (by decide)
      have fx149 : u137.2.1 0 5 = R_m 0 5 := px144 5 (by decide)
      have fx150 : u137.2.1 0 6 = R_m 0 6 := px144 6 (by decide)
      obtain ⟨po151, po152, po153⟩ := px145
      have q154 : ((shf (pt R_m 0 2 (nI ((R_m 0 2).toNatClampNeg + 1))) 0) 0 2).toNatClampNeg = (R_m 0 2).toNatClampNeg + 1 := cl_n (x := (shf (pt R_m 0 2 (nI ((R_m 0 2).toNatClampNeg + 1))) 0) 0 2) (n := (R_m 0 2).toNatClampNeg + 1) rfl (by omega)
      refine r_if_eq C dX7_isItem_39 (fun c155 => ?_) (fun c155 => ?_)
      · skip
        refine r_iconst C dX7_isItem_74 (0 : Int32) (by decide) ?_
        refine r_zret C dX7_isItem_75 (Or.inl rfl) ?_
        have er : res = ((0 : Int32), (spl (spl (pt R_m 0 2 (nI ((R_m 0 2).toNatClampNeg + 1))) 0 1 u137.2.1) 2 1 u137.2.2)) := by rw [hres, d_X7_isItem]; try exact (lt_eq hu1).trans ((if_pos c9).trans ((if_neg c134).trans ((lt_eq hu137).trans ((if_pos c155).trans (rfl)))))
        rw [er]
        exact ⟨rfl, (Or.inl rfl), hb147, fx148, ⟨po151, (show (R_m 0 2).toNatClampNeg < (u137.2.1 0 2).toNatClampNeg by omega), (show (u137.2.1 0 2).toNatClampNeg ≤ 220 by omega)⟩, ⟨nnat (a := (R_m 0 5).toNatClampNeg) (fx149.trans h5) (by omega), (show (u137.2.1 0 5).toNatClampNeg ≤ 6 by rw [(cl_n (x := (u137.2.1 0 5)) (n := (R_m 0 5).toNatClampNeg) (fx149.trans h5) (by omega))]; omega)⟩, ⟨nnat (a := (R_m 0 6).toNatClampNeg) (fx150.trans h6) (by omega), (show (u137.2.1 0 6).toNatClampNeg ≤ 3 by rw [(cl_n (x := (u137.2.1 0 6)) (n := (R_m 0 6).toNatClampNeg) (fx150.trans h6) (by omega))]; omega)⟩⟩
      · skip
        obtain ⟨hj156, hj157⟩ := px146 c155 0 (by decide)
        obtain ⟨hj158, hj159⟩ := px146 c155 1 (by decide)
        obtain ⟨hj160, hj161⟩ := px146 c155 2 (by decide)
        obtain ⟨hj162, hj163⟩ := px146 c155 3 (by decide)
        refine r_aload_n C dX7_isItem_42 rfl ?_
        refine r_get C hb147 (k := 0) rfl rfl celO_7 fw_X7_13 rfl dX7_isItem_43 ?_
        refine r_iconst C dX7_isItem_46 (0 : Int32) (by decide) ?_
        refine r_iald C hb147 (k := 2) rfl rfl (vp_in_c 0 rfl (by decide)) (j := 0) (cl_n rfl (by decide)) dX7_isItem_47 ?_
        change WG x _ _ _ _ _ _ _ (.int (u137.2.2 0 0) :: _)
        refine r_iconst C dX7_isItem_48 (3 : Int32) (by decide) ?_
        refine r_ic_gt C dX7_isItem_49 (fun c164 => ?_) (fun c164 => ?_)
        · skip
          have f165 : (3 < (u137.2.2 0 0).toNatClampNeg) := nf_ltI (by omega) (by omega) rfl hj156 c164
          refine r_iconst C dX7_isItem_74 (0 : Int32) (by decide) ?_
          refine r_zret C dX7_isItem_75 (Or.inl rfl) ?_
          have er : res = ((0 : Int32), (spl (spl (pt R_m 0 2 (nI ((R_m 0 2).toNatClampNeg + 1))) 0 1 u137.2.1) 2 1 u137.2.2)) := by rw [hres, d_X7_isItem]; try exact (lt_eq hu1).trans ((if_pos c9).trans ((if_neg c134).trans ((lt_eq hu137).trans ((if_neg c155).trans ((if_pos c164).trans (rfl))))))
          rw [er]
          exact ⟨rfl, (Or.inl rfl), hb147, fx148, ⟨po151, (show (R_m 0 2).toNatClampNeg < (u137.2.1 0 2).toNatClampNeg by omega), (show (u137.2.1 0 2).toNatClampNeg ≤ 220 by omega)⟩, ⟨nnat (a := (R_m 0 5).toNatClampNeg) (fx149.trans h5) (by omega), (show (u137.2.1 0 5).toNatClampNeg ≤ 6 by rw [(cl_n (x := (u137.2.1 0 5)) (n := (R_m 0 5).toNatClampNeg) (fx149.trans h5) (by omega))]; omega)⟩, ⟨nnat (a := (R_m 0 6).toNatClampNeg) (fx150.trans h6) (by omega), (show (u137.2.1 0 6).toNatClampNeg ≤ 3 by rw [(cl_n (x := (u137.2.1 0 6)) (n := (R_m 0 6).toNatClampNeg) (fx150.trans h6) (by omega))]; omega)⟩⟩
        · skip
          have f166 : ¬ (3 < (u137.2.2 0 0).toNatClampNeg) := nf_ltIn (by omega) (by omega) rfl hj156 c164
          refine r_aload_n C dX7_isItem_52 rfl ?_
          refine r_get C hb147 (k := 0) rfl rfl celO_7 fw_X7_13 rfl dX7_isItem_53 ?_
          refine r_iconst C dX7_isItem_56 (2 : Int32) (by decide) ?_
          refine r_iald C hb147 (k := 2) rfl rfl (vp_in_c 2 rfl (by decide)) (j := 2) (cl_n rfl (by decide)) dX7_isItem_57 ?_
          change WG x _ _ _ _ _ _ _ (.int (u137.2.2 0 2) :: _)
          refine r_bipush C dX7_isItem_58 (30 : Int32) (by decide) ?_
          refine r_ic_gt C dX7_isItem_60 (fun c167 => ?_) (fun c167 => ?_)
          · skip
            have f168 : (30 < (u137.2.2 0 2).toNatClampNeg) := nf_ltI (by omega) (by omega) rfl hj160 c167
            refine r_iconst C dX7_isItem_74 (0 : Int32) (by decide) ?_
            refine r_zret C dX7_isItem_75 (Or.inl rfl) ?_
            have er : res = ((0 : Int32), (spl (spl (pt R_m 0 2 (nI ((R_m 0 2).toNatClampNeg + 1))) 0 1 u137.2.1) 2 1 u137.2.2)) := by rw [hres, d_X7_isItem]; try exact (lt_eq hu1).trans ((if_pos c9).trans ((if_neg c134).trans ((lt_eq hu137).trans ((if_neg c155).trans ((if_neg c164).trans ((if_pos c167).trans (rfl)))))))
            rw [er]
            exact ⟨rfl, (Or.inl rfl), hb147, fx148, ⟨po151, (show (R_m 0 2).toNatClampNeg < (u137.2.1 0 2).toNatClampNeg by omega), (show (u137.2.1 0 2).toNatClampNeg ≤ 220 by omega)⟩, ⟨nnat (a := (R_m 0 5).toNatClampNeg) (fx149.trans h5) (by omega), (show (u137.2.1 0 5).toNatClampNeg ≤ 6 by rw [(cl_n (x := (u137.2.1 0 5)) (n := (R_m 0 5).toNatClampNeg) (fx149.trans h5) (by omega))]; omega)⟩, ⟨nnat (a := (R_m 0 6).toNatClampNeg) (fx150.trans h6) (by omega), (show (u137.2.1 0 6).toNatClampNeg ≤ 3 by rw [(cl_n (x := (u137.2.1 0 6)) (n := (R_m 0 6).toNatClampNeg) (fx150.trans h6) (by omega))]; omega)⟩⟩
          · skip
            have f169 : ¬ (30 < (u137.2.2 0 2).toNatClampNeg) := nf_ltIn (by omega) (by omega) rfl hj160 c167
            refine r_aload_n C dX7_isItem_63 rfl ?_
            refine r_get C hb147 (k := 0) rfl rfl celO_7 fw_X7_13 rfl dX7_isItem_64 ?_
            refine r_iconst C dX7_isItem_67 (3 : Int32) (by decide) ?_
            refine r_iald C hb147 (k := 2) rfl rfl (vp_in_c 3 rfl (by decide)) (j := 3) (cl_n rfl (by decide)) dX7_isItem_68 ?_
            change WG x _ _ _ _ _ _ _ (.int (u137.2.2 0 3) :: _)
            refine r_bipush C dX7_isItem_69 (9 : Int32) (by decide) ?_
            refine r_ic_le C dX7_isItem_71 (fun c170 => ?_) (fun c170 => ?_)
            · skip
              have f171 : ((u137.2.2 0 3).toNatClampNeg ≤ 9) := nf_leI (by omega) (by omega) hj162 rfl c170
              refine r_aload_n C dX7_isItem_76 rfl ?_
              refine r_aload_n C dX7_isItem_77 rfl ?_
              refine r_get C hb147 (k := 0) rfl rfl celO_7 fw_X7_81 (z := .int (u137.2.1 0 5)) rfl dX7_isItem_78 ?_
              refine r_aload_n C dX7_isItem_81 rfl ?_
              refine r_get C hb147 (k := 0) rfl rfl celO_7 fw_X7_13 rfl dX7_isItem_82 ?_
              refine r_iconst C dX7_isItem_85 (0 : Int32) (by decide) ?_
              refine r_iald C hb147 (k := 2) rfl rfl (vp_in_c 0 rfl (by decide)) (j := 0) (cl_n rfl (by decide)) dX7_isItem_86 ?_
              change WG x _ _ _ _ _ _ _ (.int (u137.2.2 0 0) :: _)
              refine r_aload_n C dX7_isItem_87 rfl ?_
              refine r_get C hb147 (k := 0) rfl rfl celO_7 fw_X7_13 rfl dX7_isItem_88 ?_
              refine r_iconst C dX7_isItem_91 (1 : Int32) (by decide) ?_
              refine r_iald C hb147 (k := 2) rfl rfl (vp_in_c 1 rfl (by decide)) (j := 1) (cl_n rfl (by decide)) dX7_isItem_92 ?_
              change WG x _ _ _ _ _ _ _ (.int (u137.2.2 0 1) :: _)
              refine r_aload_n C dX7_isItem_93 rfl ?_
              refine r_get C hb147 (k := 0) rfl rfl celO_7 fw_X7_13 rfl dX7_isItem_94 ?_
              refine r_iconst C dX7_isItem_97 (2 : Int32) (by decide) ?_
              refine r_iald C hb147 (k := 2) rfl rfl (vp_in_c 2 rfl (by decide)) (j := 2) (cl_n rfl (by decide)) dX7_isItem_98 ?_
              change WG x _ _ _ _ _ _ _ (.int (u137.2.2 0 2) :: _)
              refine r_aload_n C dX7_isItem_99 rfl ?_
              refine r_get C hb147 (k := 0) rfl rfl celO_7 fw_X7_13 rfl dX7_isItem_100 ?_
              refine r_iconst C dX7_isItem_103 (3 : Int32) (by decide) ?_
              refine r_iald C hb147 (k := 2) rfl rfl (vp_in_c 3 rfl (by decide)) (j := 3) (cl_n rfl (by decide)) dX7_isItem_104 ?_
              change WG x _ _ _ _ _ _ _ (.int (u137.2.2 0 3) :: _)
              refine r_iconst C dX7_isItem_105 (0 : Int32) (by decide) ?_
              obtain ⟨u172, hu172⟩ : ∃ r, r = d_X7_layTown (shf (spl (spl (pt R_m 0 2 (nI ((R_m 0 2).toNatClampNeg + 1))) 0 1 u137.2.1) 2 1 u137.2.2) 0) (shf (spl (spl (pt R_m 0 2 (nI ((R_m 0 2).toNatClampNeg + 1))) 0 1 u137.2.1) 2 1 u137.2.2) 3) (shf (spl (spl (pt R_m 0 2 (nI ((R_m 0 2).toNatClampNeg + 1))) 0 1 u137.2.1) 2 1 u137.2.2) 4) (u137.2.1 0 5) (u137.2.2 0 0) (u137.2.2 0 1) (u137.2.2 0 2) (u137.2.2 0 3) (0 : Int32) := ⟨_, rfl⟩
              refine r_callV0 C cw_X7_59 (fun l => c_X7_layTown l D o_m (shf (spl (spl (pt R_m 0 2 (nI ((R_m 0 2).toNatClampNeg + 1))) 0 1 u137.2.1) 2 1 u137.2.2) 0) (shf (spl (spl (pt R_m 0 2 (nI ((R_m 0 2).toNatClampNeg + 1))) 0 1 u137.2.1) 2 1 u137.2.2) 3) (shf (spl (spl (pt R_m 0 2 (nI ((R_m 0 2).toNatClampNeg + 1))) 0 1 u137.2.1) 2 1 u137.2.2) 4) (u137.2.1 0 5) (u137.2.2 0 0) (u137.2.2 0 1) (u137.2.2 0 2) (u137.2.2 0 3) (0 : Int32) (nnat (a := (R_m 0 5).toNatClampNeg) (fx149.trans h5) (by omega)) (by have q0 := cl_n (x := (u137.2.1 0 5)) (n := (R_m 0 5).toNatClampNeg) (fx149.trans h5) (by omega); omega) u172 hu172) (rest := []) hb147 (k := 0) rfl rfl celO_7 ⟨(blk_sub hb147 0 1 rfl rfl), (blk_sub hb147 3 1 rfl rfl), (blk_sub hb147 4 1 rfl rfl)⟩ (fun q h => by unfold fp2 at h; unfold fp1; omega) rfl rfl rfl (Nat.le_of_ble_eq_true rfl) ⟨Nat.le_of_ble_eq_true rfl, Nat.le_of_ble_eq_true rfl, Nat.le_refl 0, Nat.le_refl 0⟩ dX7_isItem_106 (fun v H173 hp174 hq175 => ?_)
              obtain ⟨rfl, hn176, hn177⟩ := hp174
              have hb178 := blk_spl2 hb147 3 1 rfl rfl hn176 4 1 rfl rfl hn177 (fun q h => hq175 q (by unfold fp2; omega))
              dsimp only [psh]
              refine r_aload_n C dX7_isItem_109 rfl ?_
              refine r_dup C dX7_isItem_110 rfl ?_
              refine r_get C hb178 (k := 0) rfl rfl celO_7 fw_X7_81 (z := .int (u137.2.1 0 5)) rfl dX7_isItem_111 ?_
              refine r_iconst C dX7_isItem_114 (1 : Int32) (by decide) ?_
              refine r_iaddN C dX7_isItem_115 (na := (R_m 0 5).toNatClampNeg) (nb := 1) (fx149.trans h5) rfl (nc := ((R_m 0 5).toNatClampNeg + 1)) rfl ?_
              refine r_put C hb178 (k := 0) rfl rfl (by unfold fp1; omega) fw_X7_81 fp_7_5 (Or.inr rfl) dX7_isItem_116 (fun H179 hb181 hq180 => ?_)
              refine r_iconst C dX7_isItem_119 (1 : Int32) (by decide) ?_
              refine r_zret C dX7_isItem_120 (Or.inr rfl) ?_
              have er : res = ((1 : Int32), (pt (spl (spl (spl (spl (pt R_m 0 2 (nI ((R_m 0 2).toNatClampNeg + 1))) 0 1 u137.2.1) 2 1 u137.2.2) 3 1 u172.1) 4 1 u172.2) 0 5 (nI ((R_m 0 5).toNatClampNeg + 1)))) := by rw [hres, d_X7_isItem]; try exact (lt_eq hu1).trans ((if_pos c9).trans ((if_neg c134).trans ((lt_eq hu137).trans ((if_neg c155).trans ((if_neg c164).trans ((if_neg c167).trans ((if_pos c170).trans ((lt_eq hu172).trans (rfl)))))))))
              rw [er]
              exact ⟨rfl, (Or.inr rfl), hb181, fx148, ⟨po151, (show (R_m 0 2).toNatClampNeg < (u137.2.1 0 2).toNatClampNeg by omega), (show (u137.2.1 0 2).toNatClampNeg ≤ 220 by omega)⟩, ⟨nnat (a := ((R_m 0 5).toNatClampNeg + 1)) rfl (by omega), (show (nI ((R_m 0 5).toNatClampNeg + 1)).toNatClampNeg ≤ 6 by rw [(cl_n (x := (nI ((R_m 0 5).toNatClampNeg + 1))) (n := ((R_m 0 5).toNatClampNeg + 1)) rfl (by omega))]; omega)⟩, ⟨nnat (a := (R_m 0 6).toNatClampNeg) (fx150.trans h6) (by omega), (show (u137.2.1 0 6).toNatClampNeg ≤ 3 by rw [(cl_n (x := (u137.2.1 0 6)) (n := (R_m 0 6).toNatClampNeg) (fx150.trans h6) (by omega))]; omega)⟩⟩
            · skip
              have f182 : ¬ ((u137.2.2 0 3).toNatClampNeg ≤ 9) := nf_leIn (by omega) (by omega) hj162 rfl c170
              refine r_iconst C dX7_isItem_74 (0 : Int32) (by decide) ?_
              refine r_zret C dX7_isItem_75 (Or.inl rfl) ?_
              have er : res = ((0 : Int32), (spl (spl (pt R_m 0 2 (nI ((R_m 0 2).toNatClampNeg + 1))) 0 1 u137.2.1) 2 1 u137.2.2)) := by rw [hres, d_X7_isItem]; try exact (lt_eq hu1).trans ((if_pos c9).trans ((if_neg c134).trans ((lt_eq hu137).trans ((if_neg c155).trans ((if_neg c164).trans ((if_neg c167).trans ((if_neg c170).trans (rfl))))))))
              rw [er]
              exact ⟨rfl, (Or.inl rfl), hb147, fx148, ⟨po151, (show (R_m 0 2).toNatClampNeg < (u137.2.1 0 2).toNatClampNeg by omega), (show (u137.2.1 0 2).toNatClampNeg ≤ 220 by omega)⟩, ⟨nnat (a := (R_m 0 5).toNatClampNeg) (fx149.trans h5) (by omega), (show (u137.2.1 0 5).toNatClampNeg ≤ 6 by rw [(cl_n (x := (u137.2.1 0 5)) (n := (R_m 0 5).toNatClampNeg) (fx149.trans h5) (by omega))]; omega)⟩, ⟨nnat (a := (R_m 0 6).toNatClampNeg) (fx150.trans h6) (by omega), (show (u137.2.1 0 6).toNatClampNeg ≤ 3 by rw [(cl_n (x := (u137.2.1 0 6)) (n := (R_m 0 6).toNatClampNeg) (fx150.trans h6) (by omega))]; omega)⟩⟩

def d_X7_isRead_L23  : Nat → (Nat → Nat → Int32) → Nat → (Nat → Nat → Int32)
  | 0, R0, _ => R0
  | n13 + 1, R0, k =>
    if (64 : Int32) ≤ (nI k) then
      R0
    else
      d_X7_isRead_L23  n13 (pt R0 4 k (0 : Int32)) (k + 1)
def d_X7_isRead_L42  : Nat → (Nat → Nat → Int32) → (Int32 × (Nat → Nat → Int32)) ⊕ ((Nat → Nat → Int32))
  | 0, R => .inr R
  | n35 + 1, R =>
    if (R 0 0) ≤ (R 0 2) then
      .inr R
    else
      lt (d_X7_isItem (pt R 0 4 (R 0 2))) fun u51 =>
      if u51.1 = 0 then
        .inl ((0 : Int32), u51.2)
      else
        d_X7_isRead_L42  n35 u51.2
def d_X7_isRead (R_m : Nat → Nat → Int32) : Int32 × (Nat → Nat → Int32) :=
  lt (d_X7_isRead_L23 65 (pt (pt (pt (pt R_m 0 2 (0 : Int32)) 0 5 (0 : Int32)) 0 6 (0 : Int32)) 0 7 (10 : Int32)) 0) fun s29 =>
  sc (d_X7_isRead_L42 201 s29) (fun r => r) fun w64 =>
  ((1 : Int32), w64)
set_option maxHeartbeats 4000000 in
set_option maxRecDepth 100000 in
theorem c_X7_isRead (l : Launch) (D : DD) (o_m : Nat) (R_m : Nat → Nat → Int32) (h0 : R_m 0 0 = nI (R_m 0 0).toNatClampNeg) (b0 : (R_m 0 0).toNatClampNeg ≤ 200) (res : Int32 × (Nat → Nat → Int32)) (hres : res = d_X7_isRead R_m) : Mt l D yX7_isRead cX7_isRead 2 (some .boolean) 3 67 0 0 [.ref o_m] (fun H => blk D ksModel o_m R_m H) (fun v H => v = some (.int res.1) ∧ bl res.1 ∧ blk D ksModel o_m res.2 H ∧ (res.2 0 5 = nI (res.2 0 5).toNatClampNeg ∧ (res.2 0 5).toNatClampNeg ≤ 6) ∧ (res.2 0 6 = nI (res.2 0 6).toNatClampNeg ∧ (res.2 0 6).toNatClampNeg ≤ 3)) (fp1 o_m 14) := by
  refine mt_of (own := RX7) (ls := [.val (.ref o_m), .unset]) rfl (by decide +kernel) rfl ?_
  intro x H C hP
  have hb_m := hP
  refine r_aload_n C dX7_isRead_0 rfl ?_
  refine r_iconst C dX7_isRead_1 (0 : Int32) (by decide) ?_
  refine r_put C hb_m (k := 0) rfl rfl (by unfold fp1; omega) fw_X7_74 fp_7_2 (Or.inr rfl) dX7_isRead_2 (fun H1 hb3 hq2 => ?_)
  refine r_aload_n C dX7_isRead_5 rfl ?_
  refine r_iconst C dX7_isRead_6 (0 : Int32) (by decide) ?_
  refine r_put C hb3 (k := 0) rfl rfl (by unfold fp1; omega) fw_X7_81 fp_7_5 (Or.inr rfl) dX7_isRead_7 (fun H4 hb6 hq5 => ?_)
  refine r_aload_n C dX7_isRead_10 rfl ?_
  refine r_iconst C dX7_isRead_11 (0 : Int32) (by decide) ?_
  refine r_put C hb6 (k := 0) rfl rfl (by unfold fp1; omega) fw_X7_88 fp_7_6 (Or.inr rfl) dX7_isRead_12 (fun H7 hb9 hq8 => ?_)
  refine r_aload_n C dX7_isRead_15 rfl ?_
  refine r_bipush C dX7_isRead_16 (10 : Int32) (by decide) ?_
  refine r_put C hb9 (k := 0) rfl rfl (by unfold fp1; omega) fw_X7_91 fp_7_7 (Or.inr rfl) dX7_isRead_18 (fun H10 hb12 hq11 => ?_)
  refine r_iconst C dX7_isRead_21 (0 : Int32) (by decide) ?_
  refine r_istore_n C dX7_isRead_22 (ls' := [.val (.ref o_m), .val (.int (0 : Int32))]) rfl trivial rfl ?_
  have d_X7_isRead_L23_w : ∀ (n13 : Nat) (R0 : Nat → Nat → Int32) (k : Nat) (H18 : Heap), True → (R0 0 0 = R_m 0 0) → (k ≤ 64) → (R0 0 2 = 0) → (R0 0 5 = 0) → (R0 0 6 = 0) → (64 - k < n13) → blk D ksModel o_m R0 H18 → ∀ s15 : (Nat → Nat → Int32), s15 = d_X7_isRead_L23  n13 R0 k → (∀ (H' : Heap) (z19 : Slot) (_ : slot1 z19), True → (s15 0 2 = 0 ∧ s15 0 5 = 0 ∧ s15 0 6 = 0) → (s15 0 0 = R_m 0 0) → blk D ksModel o_m s15 H' → WG x (fp1 o_m 14) (Fin x (fun v H => v = some (.int res.1) ∧ bl res.1 ∧ blk D ksModel o_m res.2 H ∧ (res.2 0 5 = nI (res.2 0 5).toNatClampNeg ∧ (res.2 0 5).toNatClampNeg ≤ 6) ∧ (res.2 0 6 = nI (res.2 0 6).toNatClampNeg ∧ (res.2 0 6).toNatClampNeg ≤ 3)) (fp1 o_m 14) 0 0) H' 0 0 42 [.val (.ref o_m), z19] []) → WG x (fp1 o_m 14) (Fin x (fun v H => v = some (.int res.1) ∧ bl res.1 ∧ blk D ksModel o_m res.2 H ∧ (res.2 0 5 = nI (res.2 0 5).toNatClampNeg ∧ (res.2 0 5).toNatClampNeg ≤ 6) ∧ (res.2 0 6 = nI (res.2 0 6).toNatClampNeg ∧ (res.2 0 6).toNatClampNeg ≤ 3)) (fp1 o_m 14) 0 0) H18 0 0 23 [.val (.ref o_m), .val (.int (nI k))] [] := by
    intro n13
    induction n13 with
    | zero => intro R0 k H18  _ i0_R0 hk z2 z5 z6 hm20; exact absurd hm20 (Nat.not_lt_zero _)
    | succ n13 ih14 =>
      intro R0 k H18  _ i0_R0 hk z2 z5 z6 hm20 hb17 s15 hs15  kx16
      refine r_iload_n C dX7_isRead_23 rfl ?_
      refine r_bipush C dX7_isRead_24 (64 : Int32) (by decide) ?_
      refine r_ic_ge C dX7_isRead_26 (fun c21 => ?_) (fun c21 => ?_)
      · skip
        have f22 : (64 ≤ k) := nf_leI (by omega) (by omega) rfl rfl c21
        have e23 : s15 = R0 := by rw [hs15, d_X7_isRead_L23]; try exact (if_pos c21).trans (rfl)
        rw [e23] at kx16
        exact kx16 _ (.val (.int (nI k))) rfl trivial ⟨z2, z5, z6⟩ i0_R0 hb17
      · skip
        have f24 : ¬ (64 ≤ k) := nf_leIn (by omega) (by omega) rfl rfl c21
        refine r_aload_n C dX7_isRead_29 rfl ?_
        refine r_get C hb17 (k := 0) rfl rfl celO_7 fw_X7_19 rfl dX7_isRead_30 ?_
        refine r_iload_n C dX7_isRead_33 rfl ?_
        refine r_iconst C dX7_isRead_34 (0 : Int32) (by decide) ?_
        refine r_iast C hb17 (k := 4) rfl rfl (by unfold fp1; omega) (vp_in_n rfl (by omega) (by omega)) (j := k) (cl_n rfl (by omega)) dX7_isRead_35 (fun H25 hb27 hq26 => ?_)
        refine r_iinc C dX7_isRead_36 (nI (k + 1)) rfl (nI_inc k rfl) (ls' := [.val (.ref o_m), .val (.int (nI (k + 1)))]) rfl ?_
        refine r_goto C dX7_isRead_39 ?_
        have e28 : s15 = d_X7_isRead_L23  n13 (pt R0 4 k (0 : Int32)) (k + 1) := by rw [hs15, d_X7_isRead_L23]; try exact (if_neg c21).trans (rfl)
        exact ih14 (pt R0 4 k (0 : Int32)) (k + 1) _  trivial i0_R0 (by omega) z2 z5 z6 (by omega) hb27 s15 e28  kx16
  obtain ⟨s29, hs29⟩ : ∃ r, r = d_X7_isRead_L23 65 (pt (pt (pt (pt R_m 0 2 (0 : Int32)) 0 5 (0 : Int32)) 0 6 (0 : Int32)) 0 7 (10 : Int32)) 0 := ⟨_, rfl⟩
  refine d_X7_isRead_L23_w 65 (pt (pt (pt (pt R_m 0 2 (0 : Int32)) 0 5 (0 : Int32)) 0 6 (0 : Int32)) 0 7 (10 : Int32)) 0 _  trivial rfl (by omega) rfl rfl rfl (by omega) hb12 s29 hs29  (fun H31 z19 hz19 e34 p32 p33 hb30 => ?_)
  obtain ⟨z2, z5, z6⟩ := p32
  have d_X7_isRead_L42_w : ∀ (n35 : Nat) (R : Nat → Nat → Int32) (H40 : Heap), True → (R 0 0 = R_m 0 0) → (R 0 2 = nI (R 0 2).toNatClampNeg) → ((R 0 2).toNatClampNeg ≤ 220) → (R 0 5 = nI (R 0 5).toNatClampNeg) → ((R 0 5).toNatClampNeg ≤ 6) → (R 0 6 = nI (R 0 6).toNatClampNeg) → ((R 0 6).toNatClampNeg ≤ 3) → ((R_m 0 0).toNatClampNeg - (R 0 2).toNatClampNeg < n35) → blk D ksModel o_m R H40 → ∀ s37 : (Int32 × (Nat → Nat → Int32)) ⊕ ((Nat → Nat → Int32)), s37 = d_X7_isRead_L42  n35 R → (∀ r, s37 = .inl r → res = r) → (∀ (w41 : (Nat → Nat → Int32)) (H' : Heap), s37 = .inr w41 → (w41 0 5 = nI (w41 0 5).toNatClampNeg ∧ (w41 0 5).toNatClampNeg ≤ 6) → (w41 0 6 = nI (w41 0 6).toNatClampNeg ∧ (w41 0 6).toNatClampNeg ≤ 3) → (w41 0 0 = R_m 0 0) → blk D ksModel o_m w41 H' → WG x (fp1 o_m 14) (Fin x (fun v H => v = some (.int res.1) ∧ bl res.1 ∧ blk D ksModel o_m res.2 H ∧ (res.2 0 5 = nI (res.2 0 5).toNatClampNeg ∧ (res.2 0 5).toNatClampNeg ≤ 6) ∧ (res.2 0 6 = nI (res.2 0 6).toNatClampNeg ∧ (res.2 0 6).toNatClampNeg ≤ 3)) (fp1 o_m 14) 0 0) H' 0 0 70 [.val (.ref o_m), z19] []) → WG x (fp1 o_m 14) (Fin x (fun v H => v = some (.int res.1) ∧ bl res.1 ∧ blk D ksModel o_m res.2 H ∧ (res.2 0 5 = nI (res.2 0 5).toNatClampNeg ∧ (res.2 0 5).toNatClampNeg ≤ 6) ∧ (res.2 0 6 = nI (res.2 0 6).toNatClampNeg ∧ (res.2 0 6).toNatClampNeg ≤ 3)) (fp1 o_m 14) 0 0) H40 0 0 42 [.val (.ref o_m), z19] [] := by
    intro n35
    induction n35 with
    | zero => intro R H40  _ i0_R h2r b2r h5r b5r h6r b6r hm42; exact absurd hm42 (Nat.not_lt_zero _)
    | succ n35 ih36 =>
      intro R H40  _ i0_R h2r b2r h5r b5r h6r b6r hm42 hb39 s37 hs37 hr43 kx38
      refine r_aload_n C dX7_isRead_42 rfl ?_
      refine r_get C hb39 (k := 0) rfl rfl celO_7 fw_X7_74 (z := .int (R 0 2)) rfl dX7_isRead_43 ?_
      refine r_aload_n C dX7_isRead_46 rfl ?_
      refine r_get C hb39 (k := 0) rfl rfl celO_7 fw_X7_71 (z := .int (R 0 0)) rfl dX7_isRead_47 ?_
      refine r_ic_ge C dX7_isRead_50 (fun c44 => ?_) (fun c44 => ?_)
      · skip
        have f45 : ((R_m 0 0).toNatClampNeg ≤ (R 0 2).toNatClampNeg) := nf_leI (by omega) (by omega) (i0_R.trans h0) h2r c44
        have e46 : s37 = .inr R := by rw [hs37, d_X7_isRead_L42]; try exact (if_pos c44).trans (rfl)
        exact kx38 R _  e46 ⟨h5r, b5r⟩ ⟨h6r, b6r⟩ i0_R hb39
      · skip
        have f47 : ¬ ((R_m 0 0).toNatClampNeg ≤ (R 0 2).toNatClampNeg) := nf_leIn (by omega) (by omega) (i0_R.trans h0) h2r c44
        refine r_aload_n C dX7_isRead_53 rfl ?_
        refine r_aload_n C dX7_isRead_54 rfl ?_
        refine r_get C hb39 (k := 0) rfl rfl celO_7 fw_X7_74 (z := .int (R 0 2)) rfl dX7_isRead_55 ?_
        refine r_put C hb39 (k := 0) rfl rfl (by unfold fp1; omega) fw_X7_94 fp_7_4 (Or.inr rfl) dX7_isRead_58 (fun H48 hb50 hq49 => ?_)
        refine r_aload_n C dX7_isRead_61 rfl ?_
        obtain ⟨u51, hu51⟩ : ∃ r, r = d_X7_isItem (pt R 0 4 (R 0 2)) := ⟨_, rfl⟩
        refine r_callV0 C cw_X7_97 (fun l => c_X7_isItem l D o_m (pt R 0 4 (R 0 2)) (nnat (a := (R_m 0 0).toNatClampNeg) (i0_R.trans h0) (by omega)) (show (R 0 0).toNatClampNeg ≤ 200 by rw [cl_n (n := (R_m 0 0).toNatClampNeg) (i0_R.trans h0) (by omega)]; omega) (nnat (a := (R 0 2).toNatClampNeg) h2r (by omega)) (show (R 0 2).toNatClampNeg ≤ 200 by rw [cl_n (n := (R 0 2).toNatClampNeg) h2r (by omega)]; omega) (nnat (a := (R 0 5).toNatClampNeg) h5r (by omega)) (show (R 0 5).toNatClampNeg ≤ 6 by rw [cl_n (n := (R 0 5).toNatClampNeg) h5r (by omega)]; omega) (nnat (a := (R 0 6).toNatClampNeg) h6r (by omega)) (show (R 0 6).toNatClampNeg ≤ 3 by rw [cl_n (n := (R 0 6).toNatClampNeg) h6r (by omega)]; omega) u51 hu51) (rest := []) hb50 (k := 0) rfl rfl celO_7 hb50 (fun q h => by unfold fp1 at h; unfold fp1; omega) rfl rfl rfl (Nat.le_of_ble_eq_true rfl) ⟨Nat.le_of_ble_eq_true rfl, Nat.le_of_ble_eq_true rfl, Nat.le_refl 0, Nat.le_refl 0⟩ dX7_isRead_62 (fun v H52 hp53 hq54 => ?_)
        obtain ⟨rfl, hl55, hn56, px57, px58, px59, px60⟩ := hp53
        dsimp only [psh]
        have ai0 : u51.2 0 0 = R_m 0 0 := px57.trans i0_R
        obtain ⟨ai2, ak2, aj2⟩ := px58
        obtain ⟨ai5, aj5⟩ := px59
        obtain ⟨ai6, aj6⟩ := px60
        have ak : (R 0 2).toNatClampNeg < (u51.2 0 2).toNatClampNeg := ak2
        refine r_if_ne C dX7_isRead_65 (fun c61 => ?_) (fun c61 => ?_)
        · skip
          have e62 : s37 = d_X7_isRead_L42  n35 u51.2 := by rw [hs37, d_X7_isRead_L42]; try exact (if_neg c44).trans ((lt_eq hu51).trans ((if_neg c61).trans (rfl)))
          exact ih36 u51.2 _  trivial ai0 ai2 aj2 ai5 aj5 ai6 aj6 (by omega) hn56 s37 e62 hr43 kx38
        · skip
          refine r_iconst C dX7_isRead_68 (0 : Int32) (by decide) ?_
          refine r_zret C dX7_isRead_69 (Or.inl rfl) ?_
          have er : res = ((0 : Int32), u51.2) := hr43 _ (by rw [hs37, d_X7_isRead_L42]; try exact (if_neg c44).trans ((lt_eq hu51).trans ((if_pos c61).trans (rfl))))
          rw [er]
          exact ⟨rfl, (Or.inl rfl), hn56, ⟨ai5, aj5⟩, ⟨ai6, aj6⟩⟩
  obtain ⟨s63, hs63⟩ : ∃ r, r = d_X7_isRead_L42 201 s29 := ⟨_, rfl⟩
  refine d_X7_isRead_L42_w 201 s29 _  trivial p33 (nnat (a := 0) z2 (by omega)) (by rw [z2]; decide) (nnat (a := 0) z5 (by omega)) (by rw [z5]; decide) (nnat (a := 0) z6 (by omega)) (by rw [z6]; decide) (by rw [z2]; have := b0; show _ - (0 : Int32).toNatClampNeg < 201; omega) hb30 s63 hs63 (fun r e => by rw [hres, d_X7_isRead]; exact (lt_eq hs29).trans (sc_inl (hs63.symm.trans e))) (fun w64 H66  e70 p67 p68 p69 hb65 => ?_)
  have hx71 : d_X7_isRead_L42 201 s29 = .inr w64 := hs63.symm.trans e70
  refine r_iconst C dX7_isRead_70 (1 : Int32) (by decide) ?_
  refine r_zret C dX7_isRead_71 (Or.inr rfl) ?_
  have er : res = ((1 : Int32), w64) := by rw [hres, d_X7_isRead]; try exact (lt_eq hs29).trans ((sc_inr hx71).trans (rfl))
  rw [er]
  exact ⟨rfl, (Or.inr rfl), hb65, p67, p68⟩

def d_X7_fault (R_m : Nat → Nat → Int32) : Int32 × (Nat → Nat → Int32) :=
  lt (d_X7_isRead R_m) fun u1 =>
  if u1.1 = 0 then
    ((u1.2 0 4), u1.2)
  else
    ((-4 : Int32), u1.2)
set_option maxHeartbeats 4000000 in
set_option maxRecDepth 100000 in
theorem c_X7_fault (l : Launch) (D : DD) (o_m : Nat) (R_m : Nat → Nat → Int32) (h0 : R_m 0 0 = nI (R_m 0 0).toNatClampNeg) (b0 : (R_m 0 0).toNatClampNeg ≤ 200) (res : Int32 × (Nat → Nat → Int32)) (hres : res = d_X7_fault R_m) : Mt l D yX7_fault cX7_fault 1 (some .int) 4 88 0 0 [.ref o_m] (fun H => blk D ksModel o_m R_m H) (fun v H => v = some (.int res.1) ∧ blk D ksModel o_m res.2 H) (fp1 o_m 14) := by
  refine mt_of (own := RX7) (ls := [.val (.ref o_m)]) rfl (by decide +kernel) rfl ?_
  intro x H C hP
  have hb_m := hP
  refine r_aload_n C dX7_fault_0 rfl ?_
  obtain ⟨u1, hu1⟩ : ∃ r, r = d_X7_isRead R_m := ⟨_, rfl⟩
  refine r_callV0 C cw_X7_101 (fun l => c_X7_isRead l D o_m R_m h0 b0 u1 hu1) (rest := []) hb_m (k := 0) rfl rfl celO_7 hb_m (fun q h => by unfold fp1 at h; unfold fp1; omega) rfl rfl rfl (Nat.le_of_ble_eq_true rfl) ⟨Nat.le_of_ble_eq_true rfl, Nat.le_of_ble_eq_true rfl, Nat.le_refl 0, Nat.le_refl 0⟩ dX7_fault_1 (fun v H2 hp3 hq4 => ?_)
  obtain ⟨rfl, hl5, hn6, px7, px8⟩ := hp3
  dsimp only [psh]
  obtain ⟨r9, r10⟩ := px7
  obtain ⟨r11, r12⟩ := px8
  refine r_if_eq C dX7_fault_4 (fun c13 => ?_) (fun c13 => ?_)
  · skip
    refine r_aload_n C dX7_fault_12 rfl ?_
    refine r_get C hn6 (k := 0) rfl rfl celO_7 fw_X7_94 (z := .int (u1.2 0 4)) rfl dX7_fault_13 ?_
    refine r_iret C dX7_fault_16 ?_
    have er : res = ((u1.2 0 4), u1.2) := by rw [hres, d_X7_fault]; try exact (lt_eq hu1).trans ((if_pos c13).trans (rfl))
    rw [er]
    exact ⟨rfl, hn6⟩
  · skip
    refine r_bipush C dX7_fault_7 (-4 : Int32) (by decide) ?_
    refine r_goto C dX7_fault_9 ?_
    refine r_iret C dX7_fault_16 ?_
    have er : res = ((-4 : Int32), u1.2) := by rw [hres, d_X7_fault]; try exact (lt_eq hu1).trans ((if_neg c13).trans (rfl))
    rw [er]
    exact ⟨rfl, hn6⟩

def d_X7_lay_L50  : Nat → (Nat → Nat → Int32) → Nat → (Nat → Nat → Int32)
  | 0, R, _ => R
  | n28 + 1, R, t =>
    if (R 0 10) ≤ (nI t) then
      R
    else
      d_X7_lay_L50  n28 (pt R 5 t (R 3 t)) (t + 1)
def d_X7_lay (R_m : Nat → Nat → Int32) : Int32 × (Nat → Nat → Int32) :=
  lt (d_X7_isRead R_m) fun u1 =>
  if u1.1 = 0 then
    ((-2 : Int32), u1.2)
  else
    if (u1.2 0 5) = 0 then
      ((-2 : Int32), u1.2)
    else
      if (u1.2 0 6) = 0 then
        ((-2 : Int32), u1.2)
      else
        lt (d_X7_lay_L50 7 (pt (pt (pt u1.2 0 10 (u1.2 0 5)) 0 11 (u1.2 0 6)) 0 12 (u1.2 0 7)) 0) fun s44 =>
        lt (d_X7_copy (shf s44 4) (shf s44 7) 64 64 (0 : Int32) (0 : Int32)) fun u48 =>
        lt (d_X7_copy (shf (spl s44 7 1 u48) 4) (shf (spl s44 7 1 u48) 6) 64 64 (0 : Int32) (0 : Int32)) fun u54 =>
        ((s44 0 10), (pt (pt (pt (spl (spl s44 7 1 u48) 6 1 u54) 0 21 (0 : Int32)) 0 18 (0 : Int32)) 0 20 (0 : Int32)))
set_option maxHeartbeats 4000000 in
set_option maxRecDepth 100000 in
theorem c_X7_lay (l : Launch) (D : DD) (o_m : Nat) (R_m : Nat → Nat → Int32) (h0 : R_m 0 0 = nI (R_m 0 0).toNatClampNeg) (b0 : (R_m 0 0).toNatClampNeg ≤ 200) (res : Int32 × (Nat → Nat → Int32)) (hres : res = d_X7_lay R_m) : Mt l D yX7_lay cX7_lay 2 (some .int) 4 88 0 0 [.ref o_m] (fun H => blk D ksModel o_m R_m H) (fun v H => v = some (.int res.1) ∧ blk D ksModel o_m res.2 H) (fp1 o_m 14) := by
  refine mt_of (own := RX7) (ls := [.val (.ref o_m), .unset]) rfl (by decide +kernel) rfl ?_
  intro x H C hP
  have hb_m := hP
  refine r_aload_n C dX7_lay_0 rfl ?_
  obtain ⟨u1, hu1⟩ : ∃ r, r = d_X7_isRead R_m := ⟨_, rfl⟩
  refine r_callV0 C cw_X7_101 (fun l => c_X7_isRead l D o_m R_m h0 b0 u1 hu1) (rest := []) hb_m (k := 0) rfl rfl celO_7 hb_m (fun q h => by unfold fp1 at h; unfold fp1; omega) rfl rfl rfl (Nat.le_of_ble_eq_true rfl) ⟨Nat.le_of_ble_eq_true rfl, Nat.le_of_ble_eq_true rfl, Nat.le_refl 0, Nat.le_refl 0⟩ dX7_lay_1 (fun v H2 hp3 hq4 => ?_)
  obtain ⟨rfl, hl5, hn6, px7, px8⟩ := hp3
  dsimp only [psh]
  obtain ⟨r9, r10⟩ := px7
  obtain ⟨r11, r12⟩ := px8
  refine r_if_eq C dX7_lay_4 (fun c13 => ?_) (fun c13 => ?_)
  · skip
    refine r_bipush C dX7_lay_21 (-2 : Int32) (by decide) ?_
    refine r_iret C dX7_lay_23 ?_
    have er : res = ((-2 : Int32), u1.2) := by rw [hres, d_X7_lay]; try exact (lt_eq hu1).trans ((if_pos c13).trans (rfl))
    rw [er]
    exact ⟨rfl, hn6⟩
  · skip
    refine r_aload_n C dX7_lay_7 rfl ?_
    refine r_get C hn6 (k := 0) rfl rfl celO_7 fw_X7_81 (z := .int (u1.2 0 5)) rfl dX7_lay_8 ?_
    refine r_if_eq C dX7_lay_11 (fun c14 => ?_) (fun c14 => ?_)
    · skip
      have f15 : ((u1.2 0 5).toNatClampNeg = 0) := nf_eq (by omega) (by omega) r9 rfl c14
      refine r_bipush C dX7_lay_21 (-2 : Int32) (by decide) ?_
      refine r_iret C dX7_lay_23 ?_
      have er : res = ((-2 : Int32), u1.2) := by rw [hres, d_X7_lay]; try exact (lt_eq hu1).trans ((if_neg c13).trans ((if_pos c14).trans (rfl)))
      rw [er]
      exact ⟨rfl, hn6⟩
    · skip
      have f16 : ¬ ((u1.2 0 5).toNatClampNeg = 0) := nf_eqn (by omega) (by omega) r9 rfl c14
      refine r_aload_n C dX7_lay_14 rfl ?_
      refine r_get C hn6 (k := 0) rfl rfl celO_7 fw_X7_88 (z := .int (u1.2 0 6)) rfl dX7_lay_15 ?_
      refine r_if_ne C dX7_lay_18 (fun c17 => ?_) (fun c17 => ?_)
      · skip
        have f18 : ¬ ((u1.2 0 6).toNatClampNeg = 0) := nf_eqn (by omega) (by omega) r11 rfl c17
        refine r_aload_n C dX7_lay_24 rfl ?_
        refine r_aload_n C dX7_lay_25 rfl ?_
        refine r_get C hn6 (k := 0) rfl rfl celO_7 fw_X7_81 (z := .int (u1.2 0 5)) rfl dX7_lay_26 ?_
        refine r_put C hn6 (k := 0) rfl rfl (by unfold fp1; omega) fw_X7_49 fp_7_10 (Or.inr rfl) dX7_lay_29 (fun H19 hb21 hq20 => ?_)
        refine r_aload_n C dX7_lay_32 rfl ?_
        refine r_aload_n C dX7_lay_33 rfl ?_
        refine r_get C hb21 (k := 0) rfl rfl celO_7 fw_X7_88 (z := .int (u1.2 0 6)) rfl dX7_lay_34 ?_
        refine r_put C hb21 (k := 0) rfl rfl (by unfold fp1; omega) fw_X7_53 fp_7_11 (Or.inr rfl) dX7_lay_37 (fun H22 hb24 hq23 => ?_)
        refine r_aload_n C dX7_lay_40 rfl ?_
        refine r_aload_n C dX7_lay_41 rfl ?_
        refine r_get C hb24 (k := 0) rfl rfl celO_7 fw_X7_91 (z := .int (u1.2 0 7)) rfl dX7_lay_42 ?_
        refine r_put C hb24 (k := 0) rfl rfl (by unfold fp1; omega) fw_X7_56 fp_7_12 (Or.inr rfl) dX7_lay_45 (fun H25 hb27 hq26 => ?_)
        refine r_iconst C dX7_lay_48 (0 : Int32) (by decide) ?_
        refine r_istore_n C dX7_lay_49 (ls' := [.val (.ref o_m), .val (.int (0 : Int32))]) rfl trivial rfl ?_
        have d_X7_lay_L50_w : ∀ (n28 : Nat) (R : Nat → Nat → Int32) (t : Nat) (H33 : Heap), True → (t ≤ 6) → (R 0 10 = nI (R 0 10).toNatClampNeg) → ((R 0 10).toNatClampNeg ≤ 6) → (6 - t < n28) → blk D ksModel o_m R H33 → ∀ s30 : (Nat → Nat → Int32), s30 = d_X7_lay_L50  n28 R t → (∀ (H' : Heap) (z34 : Slot) (_ : slot1 z34), True → blk D ksModel o_m s30 H' → WG x (fp1 o_m 14) (Fin x (fun v H => v = some (.int res.1) ∧ blk D ksModel o_m res.2 H) (fp1 o_m 14) 0 0) H' 0 0 76 [.val (.ref o_m), z34] []) → WG x (fp1 o_m 14) (Fin x (fun v H => v = some (.int res.1) ∧ blk D ksModel o_m res.2 H) (fp1 o_m 14) 0 0) H33 0 0 50 [.val (.ref o_m), .val (.int (nI t))] [] := by
          intro n28
          induction n28 with
          | zero => intro R t H33  _ ht h10l b10l hm35; exact absurd hm35 (Nat.not_lt_zero _)
          | succ n28 ih29 =>
            intro R t H33  _ ht h10l b10l hm35 hb32 s30 hs30  kx31
            refine r_iload_n C dX7_lay_50 rfl ?_
            refine r_aload_n C dX7_lay_51 rfl ?_
            refine r_get C hb32 (k := 0) rfl rfl celO_7 fw_X7_49 (z := .int (R 0 10)) rfl dX7_lay_52 ?_
            refine r_ic_ge C dX7_lay_55 (fun c36 => ?_) (fun c36 => ?_)
            · skip
              have f37 : ((R 0 10).toNatClampNeg ≤ t) := nf_leI (by omega) (by omega) h10l rfl c36
              have e38 : s30 = R := by rw [hs30, d_X7_lay_L50]; try exact (if_pos c36).trans (rfl)
              rw [e38] at kx31
              exact kx31 _ (.val (.int (nI t))) rfl trivial  hb32
            · skip
              have f39 : ¬ ((R 0 10).toNatClampNeg ≤ t) := nf_leIn (by omega) (by omega) h10l rfl c36
              refine r_aload_n C dX7_lay_58 rfl ?_
              refine r_get C hb32 (k := 0) rfl rfl celO_7 fw_X7_22 rfl dX7_lay_59 ?_
              refine r_iload_n C dX7_lay_62 rfl ?_
              refine r_aload_n C dX7_lay_63 rfl ?_
              refine r_get C hb32 (k := 0) rfl rfl celO_7 fw_X7_16 rfl dX7_lay_64 ?_
              refine r_iload_n C dX7_lay_67 rfl ?_
              refine r_iald C hb32 (k := 3) rfl rfl (vp_in_n rfl (by omega) (by omega)) (j := t) (cl_n rfl (by omega)) dX7_lay_68 ?_
              refine r_iast C hb32 (k := 5) rfl rfl (by unfold fp1; omega) (vp_in_n rfl (by omega) (by omega)) (j := t) (cl_n rfl (by omega)) dX7_lay_69 (fun H40 hb42 hq41 => ?_)
              refine r_iinc C dX7_lay_70 (nI (t + 1)) rfl (nI_inc t rfl) (ls' := [.val (.ref o_m), .val (.int (nI (t + 1)))]) rfl ?_
              refine r_goto C dX7_lay_73 ?_
              have e43 : s30 = d_X7_lay_L50  n28 (pt R 5 t (R 3 t)) (t + 1) := by rw [hs30, d_X7_lay_L50]; try exact (if_neg c36).trans (rfl)
              exact ih29 (pt R 5 t (R 3 t)) (t + 1) _  trivial (by omega) h10l b10l (by omega) hb42 s30 e43  kx31
        obtain ⟨s44, hs44⟩ : ∃ r, r = d_X7_lay_L50 7 (pt (pt (pt u1.2 0 10 (u1.2 0 5)) 0 11 (u1.2 0 6)) 0 12 (u1.2 0 7)) 0 := ⟨_, rfl⟩
        refine d_X7_lay_L50_w 7 (pt (pt (pt u1.2 0 10 (u1.2 0 5)) 0 11 (u1.2 0 6)) 0 12 (u1.2 0 7)) 0 _  trivial (by omega) (nnat (a := (u1.2 0 5).toNatClampNeg) r9 (by omega)) (show (u1.2 0 5).toNatClampNeg ≤ 6 by first | omega | (rw [cl_n (n := (u1.2 0 5).toNatClampNeg) r9 (by omega)]; omega)) (by omega) hb27 s44 hs44  (fun H46 z34 hz34 e47  hb45 => ?_)
        refine r_aload_n C dX7_lay_76 rfl ?_
        refine r_get C hb45 (k := 0) rfl rfl celO_7 fw_X7_19 rfl dX7_lay_77 ?_
        refine r_iconst C dX7_lay_80 (0 : Int32) (by decide) ?_
        refine r_aload_n C dX7_lay_81 rfl ?_
        refine r_get C hb45 (k := 0) rfl rfl celO_7 fw_X7_28 rfl dX7_lay_82 ?_
        refine r_iconst C dX7_lay_85 (0 : Int32) (by decide) ?_
        obtain ⟨u48, hu48⟩ : ∃ r, r = d_X7_copy (shf s44 4) (shf s44 7) 64 64 (0 : Int32) (0 : Int32) := ⟨_, rfl⟩
        refine r_callS0 C cw_X7_63 (fun l => c_X7_copy l D (o_m + 4) (o_m + 7) (shf s44 4) (shf s44 7) 64 64 (0 : Int32) (0 : Int32) (by omega) (by omega) (by decide) (by have q0 := cl_n (x := (0 : Int32)) (n := 0) rfl (by omega); omega) (by decide) (by have q0 := cl_n (x := (0 : Int32)) (n := 0) rfl (by omega); omega) (by omega) u48 hu48) (rest := []) ⟨(blk_sub hb45 4 1 rfl rfl), (blk_sub hb45 7 1 rfl rfl)⟩ (fun q h => by unfold fp1 at h; unfold fp1; omega) rfl rfl rfl (Nat.le_of_ble_eq_true rfl) ⟨Nat.le_of_ble_eq_true rfl, Nat.le_of_ble_eq_true rfl, Nat.le_refl 0, Nat.le_refl 0⟩ dX7_lay_86 (fun v H49 hp50 hq51 => ?_)
        obtain ⟨rfl, hn52⟩ := hp50
        have hb53 := blk_spl hb45 7 1 rfl rfl hn52 (fun q h => hq51 q (by unfold fp1; omega))
        dsimp only [psh]
        refine r_aload_n C dX7_lay_89 rfl ?_
        refine r_get C hb53 (k := 0) rfl rfl celO_7 fw_X7_19 rfl dX7_lay_90 ?_
        refine r_iconst C dX7_lay_93 (0 : Int32) (by decide) ?_
        refine r_aload_n C dX7_lay_94 rfl ?_
        refine r_get C hb53 (k := 0) rfl rfl celO_7 fw_X7_25 rfl dX7_lay_95 ?_
        refine r_iconst C dX7_lay_98 (0 : Int32) (by decide) ?_
        obtain ⟨u54, hu54⟩ : ∃ r, r = d_X7_copy (shf (spl s44 7 1 u48) 4) (shf (spl s44 7 1 u48) 6) 64 64 (0 : Int32) (0 : Int32) := ⟨_, rfl⟩
        refine r_callS0 C cw_X7_63 (fun l => c_X7_copy l D (o_m + 4) (o_m + 6) (shf (spl s44 7 1 u48) 4) (shf (spl s44 7 1 u48) 6) 64 64 (0 : Int32) (0 : Int32) (by omega) (by omega) (by decide) (by have q0 := cl_n (x := (0 : Int32)) (n := 0) rfl (by omega); omega) (by decide) (by have q0 := cl_n (x := (0 : Int32)) (n := 0) rfl (by omega); omega) (by omega) u54 hu54) (rest := []) ⟨(blk_sub hb53 4 1 rfl rfl), (blk_sub hb53 6 1 rfl rfl)⟩ (fun q h => by unfold fp1 at h; unfold fp1; omega) rfl rfl rfl (Nat.le_of_ble_eq_true rfl) ⟨Nat.le_of_ble_eq_true rfl, Nat.le_of_ble_eq_true rfl, Nat.le_refl 0, Nat.le_refl 0⟩ dX7_lay_99 (fun v H55 hp56 hq57 => ?_)
        obtain ⟨rfl, hn58⟩ := hp56
        have hb59 := blk_spl hb53 6 1 rfl rfl hn58 (fun q h => hq57 q (by unfold fp1; omega))
        dsimp only [psh]
        refine r_aload_n C dX7_lay_102 rfl ?_
        refine r_iconst C dX7_lay_103 (0 : Int32) (by decide) ?_
        refine r_put C hb59 (k := 0) rfl rfl (by unfold fp1; omega) fw_X7_104 fp_7_21 (Or.inr rfl) dX7_lay_104 (fun H60 hb62 hq61 => ?_)
        refine r_aload_n C dX7_lay_107 rfl ?_
        refine r_iconst C dX7_lay_108 (0 : Int32) (by decide) ?_
        refine r_put C hb62 (k := 0) rfl rfl (by unfold fp1; omega) fw_X7_107 fp_7_18 (Or.inr rfl) dX7_lay_109 (fun H63 hb65 hq64 => ?_)
        refine r_aload_n C dX7_lay_112 rfl ?_
        refine r_iconst C dX7_lay_113 (0 : Int32) (by decide) ?_
        refine r_put C hb65 (k := 0) rfl rfl (by unfold fp1; omega) fw_X7_110 fp_7_20 (Or.inr rfl) dX7_lay_114 (fun H66 hb68 hq67 => ?_)
        refine r_aload_n C dX7_lay_117 rfl ?_
        refine r_get C hb68 (k := 0) rfl rfl celO_7 fw_X7_49 (z := .int (s44 0 10)) rfl dX7_lay_118 ?_
        refine r_iret C dX7_lay_121 ?_
        have er : res = ((s44 0 10), (pt (pt (pt (spl (spl s44 7 1 u48) 6 1 u54) 0 21 (0 : Int32)) 0 18 (0 : Int32)) 0 20 (0 : Int32))) := by rw [hres, d_X7_lay]; try exact (lt_eq hu1).trans ((if_neg c13).trans ((if_neg c14).trans ((if_neg c17).trans ((lt_eq hs44).trans ((lt_eq hu48).trans ((lt_eq hu54).trans (rfl)))))))
        rw [er]
        exact ⟨rfl, hb68⟩
      · skip
        have f69 : ((u1.2 0 6).toNatClampNeg = 0) := nf_eq (by omega) (by omega) r11 rfl c17
        refine r_bipush C dX7_lay_21 (-2 : Int32) (by decide) ?_
        refine r_iret C dX7_lay_23 ?_
        have er : res = ((-2 : Int32), u1.2) := by rw [hres, d_X7_lay]; try exact (lt_eq hu1).trans ((if_neg c13).trans ((if_neg c14).trans ((if_pos c17).trans (rfl))))
        rw [er]
        exact ⟨rfl, hn6⟩

def d_X7_found (R_m : Nat → Nat → Int32) (t : Int32) (spring : Int32) (silver : Int32) : Int32 × (Nat → Nat → Int32) :=
  lt (d_X7_isTown (shf R_m 0) t) fun u1 =>
  if u1 = 0 then
    ((-1 : Int32), R_m)
  else
    lt (d_X7_in spring (1 : Int32) (20 : Int32)) fun u10 =>
    if u10 = 0 then
      ((-1 : Int32), R_m)
    else
      lt (d_X7_in silver (0 : Int32) (999 : Int32)) fun u20 =>
      if u20 = 0 then
        ((-1 : Int32), R_m)
      else
        if (R_m 0 21) = (6 : Int32) then
          ((-3 : Int32), R_m)
        else
          ((nI ((R_m 0 21).toNatClampNeg + 1)), (pt (pt (pt (pt R_m 11 (3 * (R_m 0 21).toNatClampNeg) t) 11 ((3 * (R_m 0 21).toNatClampNeg) + 1) spring) 11 ((3 * (R_m 0 21).toNatClampNeg) + 2) silver) 0 21 (nI ((R_m 0 21).toNatClampNeg + 1))))
set_option maxHeartbeats 4000000 in
set_option maxRecDepth 100000 in
theorem c_X7_found (l : Launch) (D : DD) (o_m : Nat) (R_m : Nat → Nat → Int32) (t : Int32) (spring : Int32) (silver : Int32) (h10 : R_m 0 10 = nI (R_m 0 10).toNatClampNeg) (b10 : (R_m 0 10).toNatClampNeg ≤ 6) (h21 : R_m 0 21 = nI (R_m 0 21).toNatClampNeg) (b21 : (R_m 0 21).toNatClampNeg ≤ 6) (res : Int32 × (Nat → Nat → Int32)) (hres : res = d_X7_found R_m t spring silver) : Mt l D yX7_found cX7_found 4 (some .int) 2 43 0 0 [.ref o_m, .int t, .int spring, .int silver] (fun H => blk D ksModel o_m R_m H) (fun v H => v = some (.int res.1) ∧ blk D ksModel o_m res.2 H) (fp1 o_m 14) := by
  refine mt_of (own := RX7) (ls := [.val (.ref o_m), .val (.int t), .val (.int spring), .val (.int silver)]) rfl (by decide +kernel) rfl ?_
  intro x H C hP
  have hb_m := hP
  refine r_aload_n C dX7_found_0 rfl ?_
  refine r_iload_n C dX7_found_1 rfl ?_
  obtain ⟨u1, hu1⟩ : ∃ r, r = d_X7_isTown (shf R_m 0) t := ⟨_, rfl⟩
  refine r_callV0 C cw_X7_113 (fun l => c_X7_isTown l D o_m (shf R_m 0) t u1 hu1) (rest := []) hb_m (k := 0) rfl rfl celO_7 (blk_sub hb_m 0 1 rfl rfl) (fun q h => h.elim) rfl rfl rfl (Nat.le_of_ble_eq_true rfl) ⟨Nat.le_of_ble_eq_true rfl, Nat.le_of_ble_eq_true rfl, Nat.le_refl 0, Nat.le_refl 0⟩ dX7_found_2 (fun v H2 hp3 hq4 => ?_)
  obtain ⟨rfl, hl5⟩ := hp3
  have hb6 := blk_kept hb_m (n := 14) rfl (fun q h1 h2 => hq4 q (fun h => h))
  dsimp only [psh]
  refine r_if_eq C dX7_found_5 (fun c7 => ?_) (fun c7 => ?_)
  · skip
    refine r_iconst C dX7_found_29 (-1 : Int32) (by decide) ?_
    refine r_iret C dX7_found_30 ?_
    have er : res = ((-1 : Int32), R_m) := by rw [hres, d_X7_found]; try exact (lt_eq hu1).trans ((if_pos c7).trans (rfl))
    rw [er]
    exact ⟨rfl, hb6⟩
  · skip
    obtain ⟨hn8, hn9⟩ := X7_isTown_nat hu1 c7 h10 b10
    refine r_iload_n C dX7_found_8 rfl ?_
    refine r_iconst C dX7_found_9 (1 : Int32) (by decide) ?_
    refine r_bipush C dX7_found_10 (20 : Int32) (by decide) ?_
    obtain ⟨u10, hu10⟩ : ∃ r, r = d_X7_in spring (1 : Int32) (20 : Int32) := ⟨_, rfl⟩
    refine r_callS0 C cw_X7_67 (fun l => c_X7_in l D spring (1 : Int32) (20 : Int32) u10 hu10) (rest := []) trivial (fun q h => h.elim) rfl rfl rfl (Nat.le_of_ble_eq_true rfl) ⟨Nat.le_of_ble_eq_true rfl, Nat.le_of_ble_eq_true rfl, Nat.le_refl 0, Nat.le_refl 0⟩ dX7_found_12 (fun v H11 hp12 hq13 => ?_)
    obtain ⟨rfl, hl14⟩ := hp12
    have hb15 := blk_kept hb6 (n := 14) rfl (fun q h1 h2 => hq13 q (fun h => h))
    dsimp only [psh]
    refine r_if_eq C dX7_found_15 (fun c16 => ?_) (fun c16 => ?_)
    · skip
      refine r_iconst C dX7_found_29 (-1 : Int32) (by decide) ?_
      refine r_iret C dX7_found_30 ?_
      have er : res = ((-1 : Int32), R_m) := by rw [hres, d_X7_found]; try exact (lt_eq hu1).trans ((if_neg c7).trans ((lt_eq hu10).trans ((if_pos c16).trans (rfl))))
      rw [er]
      exact ⟨rfl, hb15⟩
    · skip
      obtain ⟨hn17, hn18⟩ := X7_in_nat (M := 20) hu10 c16 (by decide) rfl (by decide)
      have hn19 : 1 ≤ spring.toNatClampNeg := x_geN (X7_in_lo hu10 c16) hn17 (by decide)
      refine r_iload_n C dX7_found_18 rfl ?_
      refine r_iconst C dX7_found_19 (0 : Int32) (by decide) ?_
      refine r_sipush C dX7_found_20 (999 : Int32) (by decide) ?_
      obtain ⟨u20, hu20⟩ : ∃ r, r = d_X7_in silver (0 : Int32) (999 : Int32) := ⟨_, rfl⟩
      refine r_callS0 C cw_X7_67 (fun l => c_X7_in l D silver (0 : Int32) (999 : Int32) u20 hu20) (rest := []) trivial (fun q h => h.elim) rfl rfl rfl (Nat.le_of_ble_eq_true rfl) ⟨Nat.le_of_ble_eq_true rfl, Nat.le_of_ble_eq_true rfl, Nat.le_refl 0, Nat.le_refl 0⟩ dX7_found_23 (fun v H21 hp22 hq23 => ?_)
      obtain ⟨rfl, hl24⟩ := hp22
      have hb25 := blk_kept hb15 (n := 14) rfl (fun q h1 h2 => hq23 q (fun h => h))
      dsimp only [psh]
      refine r_if_ne C dX7_found_26 (fun c26 => ?_) (fun c26 => ?_)
      · skip
        obtain ⟨hn27, hn28⟩ := X7_in_nat (M := 999) hu20 c26 (by decide) rfl (by decide)
        refine r_aload_n C dX7_found_31 rfl ?_
        refine r_get C hb25 (k := 0) rfl rfl celO_7 fw_X7_104 (z := .int (R_m 0 21)) rfl dX7_found_32 ?_
        refine r_bipush C dX7_found_35 (6 : Int32) (by decide) ?_
        refine r_ic_ne C dX7_found_37 (fun c29 => ?_) (fun c29 => ?_)
        · skip
          have f30 : ¬ ((R_m 0 21).toNatClampNeg = 6) := nf_eqn (by omega) (by omega) h21 rfl c29
          refine r_aload_n C dX7_found_43 rfl ?_
          refine r_get C hb25 (k := 0) rfl rfl celO_7 fw_X7_40 rfl dX7_found_44 ?_
          refine r_iconst C dX7_found_47 (3 : Int32) (by decide) ?_
          refine r_aload_n C dX7_found_48 rfl ?_
          refine r_get C hb25 (k := 0) rfl rfl celO_7 fw_X7_104 (z := .int (R_m 0 21)) rfl dX7_found_49 ?_
          refine r_imulN C dX7_found_52 (na := 3) (nb := (R_m 0 21).toNatClampNeg) rfl h21 (nc := (3 * (R_m 0 21).toNatClampNeg)) rfl ?_
          refine r_iload_n C dX7_found_53 rfl ?_
          refine r_iast C hb25 (k := 11) rfl rfl (by unfold fp1; omega) (vp_in_n rfl (by omega) (by omega)) (j := (3 * (R_m 0 21).toNatClampNeg)) (cl_n rfl (by omega)) dX7_found_54 (fun H31 hb33 hq32 => ?_)
          refine r_aload_n C dX7_found_55 rfl ?_
          refine r_get C hb33 (k := 0) rfl rfl celO_7 fw_X7_40 rfl dX7_found_56 ?_
          refine r_iconst C dX7_found_59 (3 : Int32) (by decide) ?_
          refine r_aload_n C dX7_found_60 rfl ?_
          refine r_get C hb33 (k := 0) rfl rfl celO_7 fw_X7_104 (z := .int (R_m 0 21)) rfl dX7_found_61 ?_
          refine r_imulN C dX7_found_64 (na := 3) (nb := (R_m 0 21).toNatClampNeg) rfl h21 (nc := (3 * (R_m 0 21).toNatClampNeg)) rfl ?_
          refine r_iconst C dX7_found_65 (1 : Int32) (by decide) ?_
          refine r_iaddN C dX7_found_66 (na := (3 * (R_m 0 21).toNatClampNeg)) (nb := 1) rfl rfl (nc := ((3 * (R_m 0 21).toNatClampNeg) + 1)) rfl ?_
          refine r_iload_n C dX7_found_67 rfl ?_
          refine r_iast C hb33 (k := 11) rfl rfl (by unfold fp1; omega) (vp_in_n rfl (by omega) (by omega)) (j := ((3 * (R_m 0 21).toNatClampNeg) + 1)) (cl_n rfl (by omega)) dX7_found_68 (fun H34 hb36 hq35 => ?_)
          refine r_aload_n C dX7_found_69 rfl ?_
          refine r_get C hb36 (k := 0) rfl rfl celO_7 fw_X7_40 rfl dX7_found_70 ?_
          refine r_iconst C dX7_found_73 (3 : Int32) (by decide) ?_
          refine r_aload_n C dX7_found_74 rfl ?_
          refine r_get C hb36 (k := 0) rfl rfl celO_7 fw_X7_104 (z := .int (R_m 0 21)) rfl dX7_found_75 ?_
          refine r_imulN C dX7_found_78 (na := 3) (nb := (R_m 0 21).toNatClampNeg) rfl h21 (nc := (3 * (R_m 0 21).toNatClampNeg)) rfl ?_
          refine r_iconst C dX7_found_79 (2 : Int32) (by decide) ?_
          refine r_iaddN C dX7_found_80 (na := (3 * (R_m 0 21).toNatClampNeg)) (nb := 2) rfl rfl (nc := ((3 * (R_m 0 21).toNatClampNeg) + 2)) rfl ?_
          refine r_iload_n C dX7_found_81 rfl ?_
          refine r_iast C hb36 (k := 11) rfl rfl (by unfold fp1; omega) (vp_in_n rfl (by omega) (by omega)) (j := ((3 * (R_m 0 21).toNatClampNeg) + 2)) (cl_n rfl (by omega)) dX7_found_82 (fun H37 hb39 hq38 => ?_)
          refine r_aload_n C dX7_found_83 rfl ?_
          refine r_dup C dX7_found_84 rfl ?_
          refine r_get C hb39 (k := 0) rfl rfl celO_7 fw_X7_104 (z := .int (R_m 0 21)) rfl dX7_found_85 ?_
          refine r_iconst C dX7_found_88 (1 : Int32) (by decide) ?_
          refine r_iaddN C dX7_found_89 (na := (R_m 0 21).toNatClampNeg) (nb := 1) h21 rfl (nc := ((R_m 0 21).toNatClampNeg + 1)) rfl ?_
          refine r_put C hb39 (k := 0) rfl rfl (by unfold fp1; omega) fw_X7_104 fp_7_21 (Or.inr rfl) dX7_found_90 (fun H40 hb42 hq41 => ?_)
          refine r_aload_n C dX7_found_93 rfl ?_
          refine r_get C hb42 (k := 0) rfl rfl celO_7 fw_X7_104 (z := .int (nI ((R_m 0 21).toNatClampNeg + 1))) rfl dX7_found_94 ?_
          refine r_iret C dX7_found_97 ?_
          have er : res = ((nI ((R_m 0 21).toNatClampNeg + 1)), (pt (pt (pt (pt R_m 11 (3 * (R_m 0 21).toNatClampNeg) t) 11 ((3 * (R_m 0 21).toNatClampNeg) + 1) spring) 11 ((3 * (R_m 0 21).toNatClampNeg) + 2) silver) 0 21 (nI ((R_m 0 21).toNatClampNeg + 1)))) := by rw [hres, d_X7_found]; try exact (lt_eq hu1).trans ((if_neg c7).trans ((lt_eq hu10).trans ((if_neg c16).trans ((lt_eq hu20).trans ((if_neg c26).trans ((if_neg c29).trans (rfl)))))))
          rw [er]
          exact ⟨rfl, hb42⟩
        · skip
          have f43 : ((R_m 0 21).toNatClampNeg = 6) := nf_eq (by omega) (by omega) h21 rfl c29
          refine r_bipush C dX7_found_40 (-3 : Int32) (by decide) ?_
          refine r_iret C dX7_found_42 ?_
          have er : res = ((-3 : Int32), R_m) := by rw [hres, d_X7_found]; try exact (lt_eq hu1).trans ((if_neg c7).trans ((lt_eq hu10).trans ((if_neg c16).trans ((lt_eq hu20).trans ((if_neg c26).trans ((if_pos c29).trans (rfl)))))))
          rw [er]
          exact ⟨rfl, hb25⟩
      · skip
        refine r_iconst C dX7_found_29 (-1 : Int32) (by decide) ?_
        refine r_iret C dX7_found_30 ?_
        have er : res = ((-1 : Int32), R_m) := by rw [hres, d_X7_found]; try exact (lt_eq hu1).trans ((if_neg c7).trans ((lt_eq hu10).trans ((if_neg c16).trans ((lt_eq hu20).trans ((if_pos c26).trans (rfl))))))
        rw [er]
        exact ⟨rfl, hb25⟩

def d_X7_forget (R_m : Nat → Nat → Int32) : Int32 × (Nat → Nat → Int32) :=
  ((R_m 0 21), (pt R_m 0 21 (0 : Int32)))
set_option maxHeartbeats 4000000 in
set_option maxRecDepth 100000 in
theorem c_X7_forget (l : Launch) (D : DD) (o_m : Nat) (R_m : Nat → Nat → Int32)  (res : Int32 × (Nat → Nat → Int32)) (hres : res = d_X7_forget R_m) : Mt l D yX7_forget cX7_forget 2 (some .int) 0 0 0 0 [.ref o_m] (fun H => blk D ksModel o_m R_m H) (fun v H => v = some (.int res.1) ∧ blk D ksModel o_m res.2 H) (fp1 o_m 14) := by
  refine mt_of (own := RX7) (ls := [.val (.ref o_m), .unset]) rfl (by decide +kernel) rfl ?_
  intro x H C hP
  have hb_m := hP
  refine r_aload_n C dX7_forget_0 rfl ?_
  refine r_get C hb_m (k := 0) rfl rfl celO_7 fw_X7_104 (z := .int (R_m 0 21)) rfl dX7_forget_1 ?_
  refine r_istore_n C dX7_forget_4 (ls' := [.val (.ref o_m), .val (.int (R_m 0 21))]) rfl trivial rfl ?_
  refine r_aload_n C dX7_forget_5 rfl ?_
  refine r_iconst C dX7_forget_6 (0 : Int32) (by decide) ?_
  refine r_put C hb_m (k := 0) rfl rfl (by unfold fp1; omega) fw_X7_104 fp_7_21 (Or.inr rfl) dX7_forget_7 (fun H1 hb3 hq2 => ?_)
  refine r_iload_n C dX7_forget_10 rfl ?_
  refine r_iret C dX7_forget_11 ?_
  have er : res = ((R_m 0 21), (pt R_m 0 21 (0 : Int32))) := by rw [hres, d_X7_forget]; try exact rfl
  rw [er]
  exact ⟨rfl, hb3⟩

def d_X7_keep (R_m : Nat → Nat → Int32) : Int32 × (Nat → Nat → Int32) :=
  if (R_m 0 20) = (2 : Int32) then
    ((-3 : Int32), R_m)
  else
    lt (d_X7_copy (shf R_m 6) (shf R_m 10) 64 128 (0 : Int32) (nI (64 * (R_m 0 20).toNatClampNeg))) fun u3 =>
    ((nI ((R_m 0 20).toNatClampNeg + 1)), (pt (spl R_m 10 1 u3) 0 20 (nI ((R_m 0 20).toNatClampNeg + 1))))
set_option maxHeartbeats 4000000 in
set_option maxRecDepth 100000 in
theorem c_X7_keep (l : Launch) (D : DD) (o_m : Nat) (R_m : Nat → Nat → Int32) (h20 : R_m 0 20 = nI (R_m 0 20).toNatClampNeg) (b20 : (R_m 0 20).toNatClampNeg ≤ 2) (res : Int32 × (Nat → Nat → Int32)) (hres : res = d_X7_keep R_m) : Mt l D yX7_keep cX7_keep 1 (some .int) 1 24 0 0 [.ref o_m] (fun H => blk D ksModel o_m R_m H) (fun v H => v = some (.int res.1) ∧ blk D ksModel o_m res.2 H) (fp1 o_m 14) := by
  refine mt_of (own := RX7) (ls := [.val (.ref o_m)]) rfl (by decide +kernel) rfl ?_
  intro x H C hP
  have hb_m := hP
  refine r_aload_n C dX7_keep_0 rfl ?_
  refine r_get C hb_m (k := 0) rfl rfl celO_7 fw_X7_110 (z := .int (R_m 0 20)) rfl dX7_keep_1 ?_
  refine r_iconst C dX7_keep_4 (2 : Int32) (by decide) ?_
  refine r_ic_ne C dX7_keep_5 (fun c1 => ?_) (fun c1 => ?_)
  · skip
    have f2 : ¬ ((R_m 0 20).toNatClampNeg = 2) := nf_eqn (by omega) (by omega) h20 rfl c1
    refine r_aload_n C dX7_keep_11 rfl ?_
    refine r_get C hb_m (k := 0) rfl rfl celO_7 fw_X7_25 rfl dX7_keep_12 ?_
    refine r_iconst C dX7_keep_15 (0 : Int32) (by decide) ?_
    refine r_aload_n C dX7_keep_16 rfl ?_
    refine r_get C hb_m (k := 0) rfl rfl celO_7 fw_X7_37 rfl dX7_keep_17 ?_
    refine r_bipush C dX7_keep_20 (64 : Int32) (by decide) ?_
    refine r_aload_n C dX7_keep_22 rfl ?_
    refine r_get C hb_m (k := 0) rfl rfl celO_7 fw_X7_110 (z := .int (R_m 0 20)) rfl dX7_keep_23 ?_
    refine r_imulN C dX7_keep_26 (na := 64) (nb := (R_m 0 20).toNatClampNeg) rfl h20 (nc := (64 * (R_m 0 20).toNatClampNeg)) rfl ?_
    obtain ⟨u3, hu3⟩ : ∃ r, r = d_X7_copy (shf R_m 6) (shf R_m 10) 64 128 (0 : Int32) (nI (64 * (R_m 0 20).toNatClampNeg)) := ⟨_, rfl⟩
    refine r_callS0 C cw_X7_63 (fun l => c_X7_copy l D (o_m + 6) (o_m + 10) (shf R_m 6) (shf R_m 10) 64 128 (0 : Int32) (nI (64 * (R_m 0 20).toNatClampNeg)) (by omega) (by omega) (by decide) (by have q0 := cl_n (x := (0 : Int32)) (n := 0) rfl (by omega); omega) (nnat (a := (64 * (R_m 0 20).toNatClampNeg)) rfl (by omega)) (by have q0 := cl_n (x := (nI (64 * (R_m 0 20).toNatClampNeg))) (n := (64 * (R_m 0 20).toNatClampNeg)) rfl (by omega); omega) (by omega) u3 hu3) (rest := []) ⟨(blk_sub hb_m 6 1 rfl rfl), (blk_sub hb_m 10 1 rfl rfl)⟩ (fun q h => by unfold fp1 at h; unfold fp1; omega) rfl rfl rfl (Nat.le_of_ble_eq_true rfl) ⟨Nat.le_of_ble_eq_true rfl, Nat.le_of_ble_eq_true rfl, Nat.le_refl 0, Nat.le_refl 0⟩ dX7_keep_27 (fun v H4 hp5 hq6 => ?_)
    obtain ⟨rfl, hn7⟩ := hp5
    have hb8 := blk_spl hb_m 10 1 rfl rfl hn7 (fun q h => hq6 q (by unfold fp1; omega))
    dsimp only [psh]
    refine r_aload_n C dX7_keep_30 rfl ?_
    refine r_dup C dX7_keep_31 rfl ?_
    refine r_get C hb8 (k := 0) rfl rfl celO_7 fw_X7_110 (z := .int (R_m 0 20)) rfl dX7_keep_32 ?_
    refine r_iconst C dX7_keep_35 (1 : Int32) (by decide) ?_
    refine r_iaddN C dX7_keep_36 (na := (R_m 0 20).toNatClampNeg) (nb := 1) h20 rfl (nc := ((R_m 0 20).toNatClampNeg + 1)) rfl ?_
    refine r_put C hb8 (k := 0) rfl rfl (by unfold fp1; omega) fw_X7_110 fp_7_20 (Or.inr rfl) dX7_keep_37 (fun H9 hb11 hq10 => ?_)
    refine r_aload_n C dX7_keep_40 rfl ?_
    refine r_get C hb11 (k := 0) rfl rfl celO_7 fw_X7_110 (z := .int (nI ((R_m 0 20).toNatClampNeg + 1))) rfl dX7_keep_41 ?_
    refine r_iret C dX7_keep_44 ?_
    have er : res = ((nI ((R_m 0 20).toNatClampNeg + 1)), (pt (spl R_m 10 1 u3) 0 20 (nI ((R_m 0 20).toNatClampNeg + 1)))) := by rw [hres, d_X7_keep]; try exact (if_neg c1).trans ((lt_eq hu3).trans (rfl))
    rw [er]
    exact ⟨rfl, hb11⟩
  · skip
    have f12 : ((R_m 0 20).toNatClampNeg = 2) := nf_eq (by omega) (by omega) h20 rfl c1
    refine r_bipush C dX7_keep_8 (-3 : Int32) (by decide) ?_
    refine r_iret C dX7_keep_10 ?_
    have er : res = ((-3 : Int32), R_m) := by rw [hres, d_X7_keep]; try exact (if_pos c1).trans (rfl)
    rw [er]
    exact ⟨rfl, hb_m⟩

def d_X7_back (R_m : Nat → Nat → Int32) : Int32 × (Nat → Nat → Int32) :=
  if (R_m 0 20) = 0 then
    ((-2 : Int32), R_m)
  else
    lt (d_X7_copy (shf (pt R_m 0 20 (nI ((R_m 0 20).toNatClampNeg - 1))) 10) (shf (pt R_m 0 20 (nI ((R_m 0 20).toNatClampNeg - 1))) 6) 128 64 (nI (64 * ((R_m 0 20).toNatClampNeg - 1))) (0 : Int32)) fun u6 =>
    ((nI ((R_m 0 20).toNatClampNeg - 1)), (pt (spl (pt R_m 0 20 (nI ((R_m 0 20).toNatClampNeg - 1))) 6 1 u6) 0 18 (0 : Int32)))
set_option maxHeartbeats 4000000 in
set_option maxRecDepth 100000 in
theorem c_X7_back (l : Launch) (D : DD) (o_m : Nat) (R_m : Nat → Nat → Int32) (h20 : R_m 0 20 = nI (R_m 0 20).toNatClampNeg) (b20 : (R_m 0 20).toNatClampNeg ≤ 2) (res : Int32 × (Nat → Nat → Int32)) (hres : res = d_X7_back R_m) : Mt l D yX7_back cX7_back 1 (some .int) 1 24 0 0 [.ref o_m] (fun H => blk D ksModel o_m R_m H) (fun v H => v = some (.int res.1) ∧ blk D ksModel o_m res.2 H) (fp1 o_m 14) := by
  refine mt_of (own := RX7) (ls := [.val (.ref o_m)]) rfl (by decide +kernel) rfl ?_
  intro x H C hP
  have hb_m := hP
  refine r_aload_n C dX7_back_0 rfl ?_
  refine r_get C hb_m (k := 0) rfl rfl celO_7 fw_X7_110 (z := .int (R_m 0 20)) rfl dX7_back_1 ?_
  refine r_if_ne C dX7_back_4 (fun c1 => ?_) (fun c1 => ?_)
  · skip
    have f2 : ¬ ((R_m 0 20).toNatClampNeg = 0) := nf_eqn (by omega) (by omega) h20 rfl c1
    refine r_aload_n C dX7_back_10 rfl ?_
    refine r_dup C dX7_back_11 rfl ?_
    refine r_get C hb_m (k := 0) rfl rfl celO_7 fw_X7_110 (z := .int (R_m 0 20)) rfl dX7_back_12 ?_
    refine r_iconst C dX7_back_15 (1 : Int32) (by decide) ?_
    refine r_isubN C dX7_back_16 (na := (R_m 0 20).toNatClampNeg) (nb := 1) h20 rfl (by omega) (nc := ((R_m 0 20).toNatClampNeg - 1)) rfl ?_
    refine r_put C hb_m (k := 0) rfl rfl (by unfold fp1; omega) fw_X7_110 fp_7_20 (Or.inr rfl) dX7_back_17 (fun H3 hb5 hq4 => ?_)
    refine r_aload_n C dX7_back_20 rfl ?_
    refine r_get C hb5 (k := 0) rfl rfl celO_7 fw_X7_37 rfl dX7_back_21 ?_
    refine r_bipush C dX7_back_24 (64 : Int32) (by decide) ?_
    refine r_aload_n C dX7_back_26 rfl ?_
    refine r_get C hb5 (k := 0) rfl rfl celO_7 fw_X7_110 (z := .int (nI ((R_m 0 20).toNatClampNeg - 1))) rfl dX7_back_27 ?_
    refine r_imulN C dX7_back_30 (na := 64) (nb := ((R_m 0 20).toNatClampNeg - 1)) rfl rfl (nc := (64 * ((R_m 0 20).toNatClampNeg - 1))) rfl ?_
    refine r_aload_n C dX7_back_31 rfl ?_
    refine r_get C hb5 (k := 0) rfl rfl celO_7 fw_X7_25 rfl dX7_back_32 ?_
    refine r_iconst C dX7_back_35 (0 : Int32) (by decide) ?_
    obtain ⟨u6, hu6⟩ : ∃ r, r = d_X7_copy (shf (pt R_m 0 20 (nI ((R_m 0 20).toNatClampNeg - 1))) 10) (shf (pt R_m 0 20 (nI ((R_m 0 20).toNatClampNeg - 1))) 6) 128 64 (nI (64 * ((R_m 0 20).toNatClampNeg - 1))) (0 : Int32) := ⟨_, rfl⟩
    refine r_callS0 C cw_X7_63 (fun l => c_X7_copy l D (o_m + 10) (o_m + 6) (shf (pt R_m 0 20 (nI ((R_m 0 20).toNatClampNeg - 1))) 10) (shf (pt R_m 0 20 (nI ((R_m 0 20).toNatClampNeg - 1))) 6) 128 64 (nI (64 * ((R_m 0 20).toNatClampNeg - 1))) (0 : Int32) (by omega) (by omega) (nnat (a := (64 * ((R_m 0 20).toNatClampNeg - 1))) rfl (by omega)) (by have q0 := cl_n (x := (nI (64 * ((R_m 0 20).toNatClampNeg - 1)))) (n := (64 * ((R_m 0 20).toNatClampNeg - 1))) rfl (by omega); omega) (by decide) (by have q0 := cl_n (x := (0 : Int32)) (n := 0) rfl (by omega); omega) (by omega) u6 hu6) (rest := []) ⟨(blk_sub hb5 10 1 rfl rfl), (blk_sub hb5 6 1 rfl rfl)⟩ (fun q h => by unfold fp1 at h; unfold fp1; omega) rfl rfl rfl (Nat.le_of_ble_eq_true rfl) ⟨Nat.le_of_ble_eq_true rfl, Nat.le_of_ble_eq_true rfl, Nat.le_refl 0, Nat.le_refl 0⟩ dX7_back_36 (fun v H7 hp8 hq9 => ?_)
    obtain ⟨rfl, hn10⟩ := hp8
    have hb11 := blk_spl hb5 6 1 rfl rfl hn10 (fun q h => hq9 q (by unfold fp1; omega))
    dsimp only [psh]
    refine r_aload_n C dX7_back_39 rfl ?_
    refine r_iconst C dX7_back_40 (0 : Int32) (by decide) ?_
    refine r_put C hb11 (k := 0) rfl rfl (by unfold fp1; omega) fw_X7_107 fp_7_18 (Or.inr rfl) dX7_back_41 (fun H12 hb14 hq13 => ?_)
    refine r_aload_n C dX7_back_44 rfl ?_
    refine r_get C hb14 (k := 0) rfl rfl celO_7 fw_X7_110 (z := .int (nI ((R_m 0 20).toNatClampNeg - 1))) rfl dX7_back_45 ?_
    refine r_iret C dX7_back_48 ?_
    have er : res = ((nI ((R_m 0 20).toNatClampNeg - 1)), (pt (spl (pt R_m 0 20 (nI ((R_m 0 20).toNatClampNeg - 1))) 6 1 u6) 0 18 (0 : Int32))) := by rw [hres, d_X7_back]; try exact (if_neg c1).trans ((lt_eq hu6).trans (rfl))
    rw [er]
    exact ⟨rfl, hb14⟩
  · skip
    have f15 : ((R_m 0 20).toNatClampNeg = 0) := nf_eq (by omega) (by omega) h20 rfl c1
    refine r_bipush C dX7_back_7 (-2 : Int32) (by decide) ?_
    refine r_iret C dX7_back_9 ?_
    have er : res = ((-2 : Int32), R_m) := by rw [hres, d_X7_back]; try exact (if_pos c1).trans (rfl)
    rw [er]
    exact ⟨rfl, hb_m⟩

def d_X7_count_L4 (R_m : Nat → Nat → Int32) : Nat → Int32 → Nat → Int32
  | 0, gone, _ => gone
  | n1 + 1, gone, c =>
    if (R_m 0 11) ≤ (nI c) then
      gone
    else
      d_X7_count_L4 R_m n1 (gone + (R_m 6 (43 + c))) (c + 1)
def d_X7_count (R_m : Nat → Nat → Int32) (what : Int32) : Int32 :=
  lt (d_X7_count_L4 R_m 4 (0 : Int32) 0) fun s14 =>
  if what = (0 : Int32) then
    (R_m 0 10)
  else
    if what = (1 : Int32) then
      (R_m 0 11)
    else
      if what = (2 : Int32) then
        (R_m 6 0)
      else
        if what = (3 : Int32) then
          lt (d_X7_burntOf (shf R_m 0) (shf R_m 6)) fun u22 =>
          u22
        else
          if what = (4 : Int32) then
            s14
          else
            if what = (5 : Int32) then
              lt (d_X7_silverOf (shf R_m 0) (shf R_m 6)) fun u29 =>
              u29
            else
              if what = (6 : Int32) then
                (R_m 0 21)
              else
                if what = (7 : Int32) then
                  (R_m 0 18)
                else
                  if what = (8 : Int32) then
                    (R_m 0 20)
                  else
                    if what = (9 : Int32) then
                      (R_m 0 0)
                    else
                      (-1 : Int32)
set_option maxHeartbeats 4000000 in
set_option maxRecDepth 100000 in
theorem c_X7_count (l : Launch) (D : DD) (o_m : Nat) (R_m : Nat → Nat → Int32) (what : Int32) (h10 : R_m 0 10 = nI (R_m 0 10).toNatClampNeg) (b10 : (R_m 0 10).toNatClampNeg ≤ 6) (h11 : R_m 0 11 = nI (R_m 0 11).toNatClampNeg) (b11 : (R_m 0 11).toNatClampNeg ≤ 3) (res : Int32) (hres : res = d_X7_count R_m what) : Mt l D yX7_count cX7_count 4 (some .int) 1 23 0 0 [.ref o_m, .int what] (fun H => blk D ksModel o_m R_m H) (fun v H => v = some (.int res)) fp0 := by
  refine mt_of (own := RX7) (ls := [.val (.ref o_m), .val (.int what), .unset, .unset]) rfl (by decide +kernel) rfl ?_
  intro x H C hP
  have hb_m := hP
  refine r_iconst C dX7_count_0 (0 : Int32) (by decide) ?_
  refine r_istore_n C dX7_count_1 (ls' := [.val (.ref o_m), .val (.int what), .val (.int (0 : Int32)), .unset]) rfl trivial rfl ?_
  refine r_iconst C dX7_count_2 (0 : Int32) (by decide) ?_
  refine r_istore_n C dX7_count_3 (ls' := [.val (.ref o_m), .val (.int what), .val (.int (0 : Int32)), .val (.int (0 : Int32))]) rfl trivial rfl ?_
  have d_X7_count_L4_w : ∀ (n1 : Nat) (gone : Int32) (c : Nat) (H6 : Heap), True → (c ≤ (R_m 0 11).toNatClampNeg) → (3 - c < n1) → blk D ksModel o_m R_m H6 → ∀ s3 : Int32, s3 = d_X7_count_L4 R_m n1 gone c → (∀ (H' : Heap) (z7 : Slot) (_ : slot1 z7), True → blk D ksModel o_m R_m H' → WG x fp0 (Fin x (fun v H => v = some (.int res)) fp0 0 0) H' 0 0 30 [.val (.ref o_m), .val (.int what), .val (.int s3), z7] []) → WG x fp0 (Fin x (fun v H => v = some (.int res)) fp0 0 0) H6 0 0 4 [.val (.ref o_m), .val (.int what), .val (.int gone), .val (.int (nI c))] [] := by
    intro n1
    induction n1 with
    | zero => intro gone c H6  _ hc hm8; exact absurd hm8 (Nat.not_lt_zero _)
    | succ n1 ih2 =>
      intro gone c H6  _ hc hm8 hb5 s3 hs3  kx4
      refine r_iload_n C dX7_count_4 rfl ?_
      refine r_aload_n C dX7_count_5 rfl ?_
      refine r_get C hb5 (k := 0) rfl rfl celO_7 fw_X7_53 (z := .int (R_m 0 11)) rfl dX7_count_6 ?_
      refine r_ic_ge C dX7_count_9 (fun c9 => ?_) (fun c9 => ?_)
      · skip
        have f10 : ((R_m 0 11).toNatClampNeg ≤ c) := nf_leI (by omega) (by omega) h11 rfl c9
        have e11 : s3 = gone := by rw [hs3, d_X7_count_L4]; try exact (if_pos c9).trans (rfl)
        rw [e11] at kx4
        exact kx4 _ (.val (.int (nI c))) rfl trivial  hb5
      · skip
        have f12 : ¬ ((R_m 0 11).toNatClampNeg ≤ c) := nf_leIn (by omega) (by omega) h11 rfl c9
        refine r_iload_n C dX7_count_12 rfl ?_
        refine r_aload_n C dX7_count_13 rfl ?_
        refine r_get C hb5 (k := 0) rfl rfl celO_7 fw_X7_25 rfl dX7_count_14 ?_
        refine r_bipush C dX7_count_17 (43 : Int32) (by decide) ?_
        refine r_iload_n C dX7_count_19 rfl ?_
        refine r_iaddN C dX7_count_20 (na := 43) (nb := c) rfl rfl (nc := (43 + c)) rfl ?_
        refine r_iald C hb5 (k := 6) rfl rfl (vp_in_n rfl (by omega) (by omega)) (j := (43 + c)) (cl_n rfl (by omega)) dX7_count_21 ?_
        refine r_iadd C dX7_count_22 ?_
        refine r_istore_n C dX7_count_23 (ls' := [.val (.ref o_m), .val (.int what), .val (.int (gone + (R_m 6 (43 + c)))), .val (.int (nI c))]) rfl rfl rfl ?_
        refine r_iinc C dX7_count_24 (nI (c + 1)) rfl (nI_inc c rfl) (ls' := [.val (.ref o_m), .val (.int what), .val (.int (gone + (R_m 6 (43 + c)))), .val (.int (nI (c + 1)))]) rfl ?_
        refine r_goto C dX7_count_27 ?_
        have e13 : s3 = d_X7_count_L4 R_m n1 (gone + (R_m 6 (43 + c))) (c + 1) := by rw [hs3, d_X7_count_L4]; try exact (if_neg c9).trans (rfl)
        exact ih2 (gone + (R_m 6 (43 + c))) (c + 1) _  trivial (by omega) (by omega) hb5 s3 e13  kx4
  obtain ⟨s14, hs14⟩ : ∃ r, r = d_X7_count_L4 R_m 4 (0 : Int32) 0 := ⟨_, rfl⟩
  refine d_X7_count_L4_w 4 (0 : Int32) 0 _  trivial (by omega) (by omega) hb_m s14 hs14  (fun H16 z7 hz7 e17  hb15 => ?_)
  refine r_iload_n C dX7_count_30 rfl ?_
  by_cases c18 : what = (0 : Int32)
  · skip
    refine r_tswI C dX7_count_31 c18 (by decide) (by decide) (off := 53) (by decide) (tgt := 84) rfl ?_
    refine r_aload_n C dX7_count_84 rfl ?_
    refine r_get C hb15 (k := 0) rfl rfl celO_7 fw_X7_49 (z := .int (R_m 0 10)) rfl dX7_count_85 ?_
    refine r_iret C dX7_count_88 ?_
    have er : res = (R_m 0 10) := by rw [hres, d_X7_count]; try exact (lt_eq hs14).trans ((if_pos c18).trans (rfl))
    rw [er]
  · skip
    by_cases c19 : what = (1 : Int32)
    · skip
      refine r_tswI C dX7_count_31 c19 (by decide) (by decide) (off := 58) (by decide) (tgt := 89) rfl ?_
      refine r_aload_n C dX7_count_89 rfl ?_
      refine r_get C hb15 (k := 0) rfl rfl celO_7 fw_X7_53 (z := .int (R_m 0 11)) rfl dX7_count_90 ?_
      refine r_iret C dX7_count_93 ?_
      have er : res = (R_m 0 11) := by rw [hres, d_X7_count]; try exact (lt_eq hs14).trans ((if_neg c18).trans ((if_pos c19).trans (rfl)))
      rw [er]
    · skip
      by_cases c20 : what = (2 : Int32)
      · skip
        refine r_tswI C dX7_count_31 c20 (by decide) (by decide) (off := 63) (by decide) (tgt := 94) rfl ?_
        refine r_aload_n C dX7_count_94 rfl ?_
        refine r_get C hb15 (k := 0) rfl rfl celO_7 fw_X7_25 rfl dX7_count_95 ?_
        refine r_iconst C dX7_count_98 (0 : Int32) (by decide) ?_
        refine r_iald C hb15 (k := 6) rfl rfl (vp_in_c 0 rfl (by decide)) (j := 0) (cl_n rfl (by decide)) dX7_count_99 ?_
        refine r_iret C dX7_count_100 ?_
        have er : res = (R_m 6 0) := by rw [hres, d_X7_count]; try exact (lt_eq hs14).trans ((if_neg c18).trans ((if_neg c19).trans ((if_pos c20).trans (rfl))))
        rw [er]
      · skip
        by_cases c21 : what = (3 : Int32)
        · skip
          refine r_tswI C dX7_count_31 c21 (by decide) (by decide) (off := 70) (by decide) (tgt := 101) rfl ?_
          refine r_aload_n C dX7_count_101 rfl ?_
          refine r_aload_n C dX7_count_102 rfl ?_
          refine r_get C hb15 (k := 0) rfl rfl celO_7 fw_X7_25 rfl dX7_count_103 ?_
          obtain ⟨u22, hu22⟩ : ∃ r, r = d_X7_burntOf (shf R_m 0) (shf R_m 6) := ⟨_, rfl⟩
          refine r_callV0 C cw_X7_168 (fun l => c_X7_burntOf l D o_m (o_m + 6) (shf R_m 0) (shf R_m 6) h10 b10 u22 hu22) (rest := []) hb15 (k := 0) rfl rfl celO_7 ⟨(blk_sub hb15 0 1 rfl rfl), (blk_sub hb15 6 1 rfl rfl)⟩ (fun q h => h.elim) rfl rfl rfl (Nat.le_of_ble_eq_true rfl) ⟨Nat.le_of_ble_eq_true rfl, Nat.le_of_ble_eq_true rfl, Nat.le_refl 0, Nat.le_refl 0⟩ dX7_count_106 (fun v H23 hp24 hq25 => ?_)
          subst hp24
          have hb26 := blk_kept hb15 (n := 14) rfl (fun q h1 h2 => hq25 q (fun h => h))
          dsimp only [psh]
          refine r_iret C dX7_count_109 ?_
          have er : res = u22 := by rw [hres, d_X7_count]; try exact (lt_eq hs14).trans ((if_neg c18).trans ((if_neg c19).trans ((if_neg c20).trans ((if_pos c21).trans ((lt_eq hu22).trans (rfl))))))
          rw [er]
        · skip
          by_cases c27 : what = (4 : Int32)
          · skip
            refine r_tswI C dX7_count_31 c27 (by decide) (by decide) (off := 79) (by decide) (tgt := 110) rfl ?_
            refine r_iload_n C dX7_count_110 rfl ?_
            refine r_iret C dX7_count_111 ?_
            have er : res = s14 := by rw [hres, d_X7_count]; try exact (lt_eq hs14).trans ((if_neg c18).trans ((if_neg c19).trans ((if_neg c20).trans ((if_neg c21).trans ((if_pos c27).trans (rfl))))))
            rw [er]
          · skip
            by_cases c28 : what = (5 : Int32)
            · skip
              refine r_tswI C dX7_count_31 c28 (by decide) (by decide) (off := 81) (by decide) (tgt := 112) rfl ?_
              refine r_aload_n C dX7_count_112 rfl ?_
              refine r_aload_n C dX7_count_113 rfl ?_
              refine r_get C hb15 (k := 0) rfl rfl celO_7 fw_X7_25 rfl dX7_count_114 ?_
              obtain ⟨u29, hu29⟩ : ∃ r, r = d_X7_silverOf (shf R_m 0) (shf R_m 6) := ⟨_, rfl⟩
              refine r_callV0 C cw_X7_172 (fun l => c_X7_silverOf l D o_m (o_m + 6) (shf R_m 0) (shf R_m 6) h10 b10 u29 hu29) (rest := []) hb15 (k := 0) rfl rfl celO_7 ⟨(blk_sub hb15 0 1 rfl rfl), (blk_sub hb15 6 1 rfl rfl)⟩ (fun q h => h.elim) rfl rfl rfl (Nat.le_of_ble_eq_true rfl) ⟨Nat.le_of_ble_eq_true rfl, Nat.le_of_ble_eq_true rfl, Nat.le_refl 0, Nat.le_refl 0⟩ dX7_count_117 (fun v H30 hp31 hq32 => ?_)
              subst hp31
              have hb33 := blk_kept hb15 (n := 14) rfl (fun q h1 h2 => hq32 q (fun h => h))
              dsimp only [psh]
              refine r_iret C dX7_count_120 ?_
              have er : res = u29 := by rw [hres, d_X7_count]; try exact (lt_eq hs14).trans ((if_neg c18).trans ((if_neg c19).trans ((if_neg c20).trans ((if_neg c21).trans ((if_neg c27).trans ((if_pos c28).trans ((lt_eq hu29).trans (rfl))))))))
              rw [er]
            · skip
              by_cases c34 : what = (6 : Int32)
              · skip
                refine r_tswI C dX7_count_31 c34 (by decide) (by decide) (off := 90) (by decide) (tgt := 121) rfl ?_
                refine r_aload_n C dX7_count_121 rfl ?_
                refine r_get C hb15 (k := 0) rfl rfl celO_7 fw_X7_104 (z := .int (R_m 0 21)) rfl dX7_count_122 ?_
                refine r_iret C dX7_count_125 ?_
                have er : res = (R_m 0 21) := by rw [hres, d_X7_count]; try exact (lt_eq hs14).trans ((if_neg c18).trans ((if_neg c19).trans ((if_neg c20).trans ((if_neg c21).trans ((if_neg c27).trans ((if_neg c28).trans ((if_pos c34).trans (rfl))))))))
                rw [er]
              · skip
                by_cases c35 : what = (7 : Int32)
                · skip
                  refine r_tswI C dX7_count_31 c35 (by decide) (by decide) (off := 95) (by decide) (tgt := 126) rfl ?_
                  refine r_aload_n C dX7_count_126 rfl ?_
                  refine r_get C hb15 (k := 0) rfl rfl celO_7 fw_X7_107 (z := .int (R_m 0 18)) rfl dX7_count_127 ?_
                  refine r_iret C dX7_count_130 ?_
                  have er : res = (R_m 0 18) := by rw [hres, d_X7_count]; try exact (lt_eq hs14).trans ((if_neg c18).trans ((if_neg c19).trans ((if_neg c20).trans ((if_neg c21).trans ((if_neg c27).trans ((if_neg c28).trans ((if_neg c34).trans ((if_pos c35).trans (rfl)))))))))
                  rw [er]
                · skip
                  by_cases c36 : what = (8 : Int32)
                  · skip
                    refine r_tswI C dX7_count_31 c36 (by decide) (by decide) (off := 100) (by decide) (tgt := 131) rfl ?_
                    refine r_aload_n C dX7_count_131 rfl ?_
                    refine r_get C hb15 (k := 0) rfl rfl celO_7 fw_X7_110 (z := .int (R_m 0 20)) rfl dX7_count_132 ?_
                    refine r_iret C dX7_count_135 ?_
                    have er : res = (R_m 0 20) := by rw [hres, d_X7_count]; try exact (lt_eq hs14).trans ((if_neg c18).trans ((if_neg c19).trans ((if_neg c20).trans ((if_neg c21).trans ((if_neg c27).trans ((if_neg c28).trans ((if_neg c34).trans ((if_neg c35).trans ((if_pos c36).trans (rfl))))))))))
                    rw [er]
                  · skip
                    by_cases c37 : what = (9 : Int32)
                    · skip
                      refine r_tswI C dX7_count_31 c37 (by decide) (by decide) (off := 105) (by decide) (tgt := 136) rfl ?_
                      refine r_aload_n C dX7_count_136 rfl ?_
                      refine r_get C hb15 (k := 0) rfl rfl celO_7 fw_X7_71 (z := .int (R_m 0 0)) rfl dX7_count_137 ?_
                      refine r_iret C dX7_count_140 ?_
                      have er : res = (R_m 0 0) := by rw [hres, d_X7_count]; try exact (lt_eq hs14).trans ((if_neg c18).trans ((if_neg c19).trans ((if_neg c20).trans ((if_neg c21).trans ((if_neg c27).trans ((if_neg c28).trans ((if_neg c34).trans ((if_neg c35).trans ((if_neg c36).trans ((if_pos c37).trans (rfl)))))))))))
                      rw [er]
                    · skip
                      refine r_tswO C dX7_count_31 (tsw_out 9 (by decide) (by intro k hk; match k, hk with | 0, _ => exact c18 | 1, _ => exact c19 | 2, _ => exact c20 | 3, _ => exact c21 | 4, _ => exact c27 | 5, _ => exact c28 | 6, _ => exact c34 | 7, _ => exact c35 | 8, _ => exact c36 | 9, _ => exact c37 | (n + 10), h => omega)) (tgt := 141) rfl ?_
                      refine r_iconst C dX7_count_141 (-1 : Int32) (by decide) ?_
                      refine r_iret C dX7_count_142 ?_
                      have er : res = (-1 : Int32) := by rw [hres, d_X7_count]; try exact (lt_eq hs14).trans ((if_neg c18).trans ((if_neg c19).trans ((if_neg c20).trans ((if_neg c21).trans ((if_neg c27).trans ((if_neg c28).trans ((if_neg c34).trans ((if_neg c35).trans ((if_neg c36).trans ((if_neg c37).trans (rfl)))))))))))
                      rw [er]

def d_X7_isSo_L49 (R_m : Nat → Nat → Int32) (R : Nat → Nat → Int32) (k : Nat) (u26 : (Nat → Nat → Int32)) : Nat → Int32 → Nat → Int32
  | 0, is2, _ => is2
  | n32 + 1, is2, i =>
    if (R 0 21) ≤ (nI i) then
      is2
    else
      if is2 = 0 then
        d_X7_isSo_L49 R_m R k u26 n32 (0 : Int32) (i + 1)
      else
        if (R 11 ((3 * i) + 1)) = (nI k) then
          if (u26 0 (1 + (R_m 11 (3 * i)).toNatClampNeg)) = (R 11 ((3 * i) + 2)) then
            d_X7_isSo_L49 R_m R k u26 n32 (1 : Int32) (i + 1)
          else
            d_X7_isSo_L49 R_m R k u26 n32 (0 : Int32) (i + 1)
        else
          d_X7_isSo_L49 R_m R k u26 n32 (1 : Int32) (i + 1)
def d_X7_isSo_L27 (R_m : Nat → Nat → Int32) : Nat → (Nat → Nat → Int32) → Int32 → Nat → (Nat → Nat → Int32) × Int32
  | 0, R, is, _ => (R, is)
  | n10 + 1, R, is, k =>
    if (20 : Int32) < (nI k) then
      (R, is)
    else
      if is = 0 then
        (R, is)
      else
        lt (d_X7_spring (shf R 0) (shf R 5) (shf R 8)) fun u26 =>
        lt (d_X7_isSo_L49 R_m R k u26 7 is 0) fun s51 =>
        d_X7_isSo_L27 R_m n10 (spl R 8 1 u26) s51 (k + 1)
def d_X7_isSo (R_m : Nat → Nat → Int32) (t : Int32) (s : Int32) : Int32 × (Nat → Nat → Int32) :=
  lt (d_X7_copy (shf R_m 7) (shf R_m 8) 64 64 (0 : Int32) (0 : Int32)) fun u1 =>
  lt (d_X7_isSo_L27 R_m 21 (pt (spl R_m 8 1 u1) 8 (1 + t.toNatClampNeg) s) (1 : Int32) 1) fun s57 =>
  (s57.2, s57.1)
set_option maxHeartbeats 4000000 in
set_option maxRecDepth 100000 in
theorem c_X7_isSo (l : Launch) (D : DD) (o_m : Nat) (R_m : Nat → Nat → Int32) (t : Int32) (s : Int32) (h10 : R_m 0 10 = nI (R_m 0 10).toNatClampNeg) (b10 : (R_m 0 10).toNatClampNeg ≤ 6) (h11 : R_m 0 11 = nI (R_m 0 11).toNatClampNeg) (b11 : (R_m 0 11).toNatClampNeg ≤ 3) (h21 : R_m 0 21 = nI (R_m 0 21).toNatClampNeg) (b21 : (R_m 0 21).toNatClampNeg ≤ 6) (ht : t = nI t.toNatClampNeg) (hlt : t.toNatClampNeg < 6) (hfi : ∀ i, i < 6 → R_m 11 (3 * i) = nI (R_m 11 (3 * i)).toNatClampNeg ∧ (R_m 11 (3 * i)).toNatClampNeg < 6) (res : Int32 × (Nat → Nat → Int32)) (hres : res = d_X7_isSo R_m t s) : Mt l D yX7_isSo cX7_isSo 6 (some .boolean) 3 75 0 0 [.ref o_m, .int t, .int s] (fun H => blk D ksModel o_m R_m H) (fun v H => v = some (.int res.1) ∧ bl res.1 ∧ blk D ksModel o_m res.2 H ∧ (res.2 11 = R_m 11) ∧ (∀ sc, res.2 0 sc = R_m 0 sc)) (fp1 o_m 14) := by
  refine mt_of (own := RX7) (ls := [.val (.ref o_m), .val (.int t), .val (.int s), .unset, .unset, .unset]) rfl (by decide +kernel) rfl ?_
  intro x H C hP
  have hb_m := hP
  refine r_aload_n C dX7_isSo_0 rfl ?_
  refine r_get C hb_m (k := 0) rfl rfl celO_7 fw_X7_28 rfl dX7_isSo_1 ?_
  refine r_iconst C dX7_isSo_4 (0 : Int32) (by decide) ?_
  refine r_aload_n C dX7_isSo_5 rfl ?_
  refine r_get C hb_m (k := 0) rfl rfl celO_7 fw_X7_31 rfl dX7_isSo_6 ?_
  refine r_iconst C dX7_isSo_9 (0 : Int32) (by decide) ?_
  obtain ⟨u1, hu1⟩ : ∃ r, r = d_X7_copy (shf R_m 7) (shf R_m 8) 64 64 (0 : Int32) (0 : Int32) := ⟨_, rfl⟩
  refine r_callS0 C cw_X7_63 (fun l => c_X7_copy l D (o_m + 7) (o_m + 8) (shf R_m 7) (shf R_m 8) 64 64 (0 : Int32) (0 : Int32) (by omega) (by omega) (by decide) (by have q0 := cl_n (x := (0 : Int32)) (n := 0) rfl (by omega); omega) (by decide) (by have q0 := cl_n (x := (0 : Int32)) (n := 0) rfl (by omega); omega) (by omega) u1 hu1) (rest := []) ⟨(blk_sub hb_m 7 1 rfl rfl), (blk_sub hb_m 8 1 rfl rfl)⟩ (fun q h => by unfold fp1 at h; unfold fp1; omega) rfl rfl rfl (Nat.le_of_ble_eq_true rfl) ⟨Nat.le_of_ble_eq_true rfl, Nat.le_of_ble_eq_true rfl, Nat.le_refl 0, Nat.le_refl 0⟩ dX7_isSo_10 (fun v H2 hp3 hq4 => ?_)
  obtain ⟨rfl, hn5⟩ := hp3
  have hb6 := blk_spl hb_m 8 1 rfl rfl hn5 (fun q h => hq4 q (by unfold fp1; omega))
  dsimp only [psh]
  refine r_aload_n C dX7_isSo_13 rfl ?_
  refine r_get C hb6 (k := 0) rfl rfl celO_7 fw_X7_31 rfl dX7_isSo_14 ?_
  refine r_iconst C dX7_isSo_17 (1 : Int32) (by decide) ?_
  refine r_iload_n C dX7_isSo_18 rfl ?_
  refine r_iaddN C dX7_isSo_19 (na := 1) (nb := t.toNatClampNeg) rfl ht (nc := (1 + t.toNatClampNeg)) rfl ?_
  refine r_iload_n C dX7_isSo_20 rfl ?_
  refine r_iast C hb6 (k := 8) rfl rfl (by unfold fp1; omega) (vp_in_n rfl (by omega) (by omega)) (j := (1 + t.toNatClampNeg)) (cl_n rfl (by omega)) dX7_isSo_21 (fun H7 hb9 hq8 => ?_)
  refine r_iconst C dX7_isSo_22 (1 : Int32) (by decide) ?_
  refine r_istore_n C dX7_isSo_23 (ls' := [.val (.ref o_m), .val (.int t), .val (.int s), .val (.int (1 : Int32)), .unset, .unset]) rfl trivial rfl ?_
  refine r_iconst C dX7_isSo_24 (1 : Int32) (by decide) ?_
  refine r_istore C dX7_isSo_25 (ls' := [.val (.ref o_m), .val (.int t), .val (.int s), .val (.int (1 : Int32)), .val (.int (1 : Int32)), .unset]) rfl trivial rfl ?_
  have d_X7_isSo_L27_w : ∀ (n10 : Nat) (R : Nat → Nat → Int32) (is : Int32) (k : Nat) (H16 : Heap) (z14 : Slot) (_ : slot1 z14), True → (R 0 10 = R_m 0 10) → (R 0 11 = R_m 0 11) → (R 0 21 = R_m 0 21) → (k ≤ 21) → (1 ≤ k) → (R 11 = R_m 11) → (bl is) → (∀ sc, R 0 sc = R_m 0 sc) → (21 - k < n10) → blk D ksModel o_m R H16 → ∀ s12 : (Nat → Nat → Int32) × Int32, s12 = d_X7_isSo_L27 R_m n10 R is k → (∀ (H' : Heap) (z17 : Slot) (_ : slot1 z17) (z18 : Slot) (_ : slot1 z18), True → (bl (s12.2)) → (s12.1 11 = R_m 11) → (∀ sc, s12.1 0 sc = R_m 0 sc) → (s12.1 0 10 = R_m 0 10) → (s12.1 0 11 = R_m 0 11) → (s12.1 0 21 = R_m 0 21) → blk D ksModel o_m s12.1 H' → WG x (fp1 o_m 14) (Fin x (fun v H => v = some (.int res.1) ∧ bl res.1 ∧ blk D ksModel o_m res.2 H ∧ (res.2 11 = R_m 11) ∧ (∀ sc, res.2 0 sc = R_m 0 sc)) (fp1 o_m 14) 0 0) H' 0 0 126 [.val (.ref o_m), .val (.int t), .val (.int s), .val (.int s12.2), z17, z18] []) → WG x (fp1 o_m 14) (Fin x (fun v H => v = some (.int res.1) ∧ bl res.1 ∧ blk D ksModel o_m res.2 H ∧ (res.2 11 = R_m 11) ∧ (∀ sc, res.2 0 sc = R_m 0 sc)) (fp1 o_m 14) 0 0) H16 0 0 27 [.val (.ref o_m), .val (.int t), .val (.int s), .val (.int is), .val (.int (nI k)), z14] [] := by
    intro n10
    induction n10 with
    | zero => intro R is k H16 z14 hz14 _ i10_R i11_R i21_R hk hk1 hfR hbl hf0 hm19; exact absurd hm19 (Nat.not_lt_zero _)
    | succ n10 ih11 =>
      intro R is k H16 z14 hz14 _ i10_R i11_R i21_R hk hk1 hfR hbl hf0 hm19 hb15 s12 hs12  kx13
      refine r_iload C dX7_isSo_27 rfl ?_
      refine r_bipush C dX7_isSo_29 (20 : Int32) (by decide) ?_
      refine r_ic_gt C dX7_isSo_31 (fun c20 => ?_) (fun c20 => ?_)
      · skip
        have f21 : (20 < k) := nf_ltI (by omega) (by omega) rfl rfl c20
        have e22 : s12 = (R, is) := by rw [hs12, d_X7_isSo_L27]; try exact (if_pos c20).trans (rfl)
        rw [e22] at kx13
        exact kx13 _ (.val (.int (nI k))) rfl z14 hz14 trivial hbl hfR hf0 i10_R i11_R i21_R hb15
      · skip
        have f23 : ¬ (20 < k) := nf_ltIn (by omega) (by omega) rfl rfl c20
        refine r_iload_n C dX7_isSo_34 rfl ?_
        refine r_if_eq C dX7_isSo_35 (fun c24 => ?_) (fun c24 => ?_)
        · skip
          have e25 : s12 = (R, is) := by rw [hs12, d_X7_isSo_L27]; try exact (if_neg c20).trans ((if_pos c24).trans (rfl))
          rw [e25] at kx13
          exact kx13 _ (.val (.int (nI k))) rfl z14 hz14 trivial hbl hfR hf0 i10_R i11_R i21_R hb15
        · skip
          refine r_aload_n C dX7_isSo_38 rfl ?_
          refine r_aload_n C dX7_isSo_39 rfl ?_
          refine r_get C hb15 (k := 0) rfl rfl celO_7 fw_X7_31 rfl dX7_isSo_40 ?_
          obtain ⟨u26, hu26⟩ : ∃ r, r = d_X7_spring (shf R 0) (shf R 5) (shf R 8) := ⟨_, rfl⟩
          refine r_callV0 C cw_X7_134 (fun l => c_X7_spring l D o_m (o_m + 8) (shf R 0) (shf R 5) (shf R 8) (nnat (a := (R_m 0 10).toNatClampNeg) (i10_R.trans h10) (by omega)) (show (R 0 10).toNatClampNeg ≤ 6 by rw [cl_n (n := (R_m 0 10).toNatClampNeg) (i10_R.trans h10) (by omega)]; omega) (nnat (a := (R_m 0 11).toNatClampNeg) (i11_R.trans h11) (by omega)) (show (R 0 11).toNatClampNeg ≤ 3 by rw [cl_n (n := (R_m 0 11).toNatClampNeg) (i11_R.trans h11) (by omega)]; omega) (by omega) (by omega) u26 hu26) (rest := []) hb15 (k := 0) rfl rfl celO_7 ⟨(blk_sub hb15 0 1 rfl rfl), (blk_sub hb15 5 1 rfl rfl), (blk_sub hb15 8 1 rfl rfl)⟩ (fun q h => by unfold fp1 at h; unfold fp1; omega) rfl rfl rfl (Nat.le_of_ble_eq_true rfl) ⟨Nat.le_of_ble_eq_true rfl, Nat.le_of_ble_eq_true rfl, Nat.le_refl 0, Nat.le_refl 0⟩ dX7_isSo_43 (fun v H27 hp28 hq29 => ?_)
          obtain ⟨rfl, hn30⟩ := hp28
          have hb31 := blk_spl hb15 8 1 rfl rfl hn30 (fun q h => hq29 q (by unfold fp1; omega))
          dsimp only [psh]
          refine r_iconst C dX7_isSo_46 (0 : Int32) (by decide) ?_
          refine r_istore C dX7_isSo_47 (ls' := [.val (.ref o_m), .val (.int t), .val (.int s), .val (.int is), .val (.int (nI k)), .val (.int (0 : Int32))]) rfl hz14 rfl ?_
          have d_X7_isSo_L49_w : ∀ (n32 : Nat) (is2 : Int32) (i : Nat) (H37 : Heap), True → (i ≤ (R_m 0 21).toNatClampNeg) → (bl is2) → (6 - i < n32) → blk D ksModel o_m (spl R 8 1 u26) H37 → ∀ s34 : Int32, s34 = d_X7_isSo_L49 R_m R k u26 n32 is2 i → (∀ (H' : Heap) (z38 : Slot) (_ : slot1 z38), True → (bl (s34)) → blk D ksModel o_m (spl R 8 1 u26) H' → WG x (fp1 o_m 14) (Fin x (fun v H => v = some (.int res.1) ∧ bl res.1 ∧ blk D ksModel o_m res.2 H ∧ (res.2 11 = R_m 11) ∧ (∀ sc, res.2 0 sc = R_m 0 sc)) (fp1 o_m 14) 0 0) H' 0 0 120 [.val (.ref o_m), .val (.int t), .val (.int s), .val (.int s34), .val (.int (nI k)), z38] []) → WG x (fp1 o_m 14) (Fin x (fun v H => v = some (.int res.1) ∧ bl res.1 ∧ blk D ksModel o_m res.2 H ∧ (res.2 11 = R_m 11) ∧ (∀ sc, res.2 0 sc = R_m 0 sc)) (fp1 o_m 14) 0 0) H37 0 0 49 [.val (.ref o_m), .val (.int t), .val (.int s), .val (.int is2), .val (.int (nI k)), .val (.int (nI i))] [] := by
            intro n32
            induction n32 with
            | zero => intro is2 i H37  _ hi hbl2 hm39; exact absurd hm39 (Nat.not_lt_zero _)
            | succ n32 ih33 =>
              intro is2 i H37  _ hi hbl2 hm39 hb36 s34 hs34  kx35
              refine r_iload C dX7_isSo_49 rfl ?_
              refine r_aload_n C dX7_isSo_51 rfl ?_
              refine r_get C hb36 (k := 0) rfl rfl celO_7 fw_X7_104 (z := .int (R 0 21)) rfl dX7_isSo_52 ?_
              refine r_ic_ge C dX7_isSo_55 (fun c40 => ?_) (fun c40 => ?_)
              · skip
                have f41 : ((R_m 0 21).toNatClampNeg ≤ i) := nf_leI (by omega) (by omega) (i21_R.trans h21) rfl c40
                have e42 : s34 = is2 := by rw [hs34, d_X7_isSo_L49]; try exact (if_pos c40).trans (rfl)
                rw [e42] at kx35
                exact kx35 _ (.val (.int (nI i))) rfl trivial hbl2 hb36
              · skip
                have f43 : ¬ ((R_m 0 21).toNatClampNeg ≤ i) := nf_leIn (by omega) (by omega) (i21_R.trans h21) rfl c40
                refine r_iload_n C dX7_isSo_58 rfl ?_
                refine r_if_eq C dX7_isSo_59 (fun c44 => ?_) (fun c44 => ?_)
                · skip
                  refine r_iconst C dX7_isSo_112 (0 : Int32) (by decide) ?_
                  refine r_istore_n C dX7_isSo_113 (ls' := [.val (.ref o_m), .val (.int t), .val (.int s), .val (.int (0 : Int32)), .val (.int (nI k)), .val (.int (nI i))]) rfl rfl rfl ?_
                  refine r_iinc C dX7_isSo_114 (nI (i + 1)) rfl (nI_inc i rfl) (ls' := [.val (.ref o_m), .val (.int t), .val (.int s), .val (.int (0 : Int32)), .val (.int (nI k)), .val (.int (nI (i + 1)))]) rfl ?_
                  refine r_goto C dX7_isSo_117 ?_
                  have e45 : s34 = d_X7_isSo_L49 R_m R k u26 n32 (0 : Int32) (i + 1) := by rw [hs34, d_X7_isSo_L49]; try exact (if_neg c40).trans ((if_pos c44).trans (rfl))
                  exact ih33 (0 : Int32) (i + 1) _  trivial (by omega) (Or.inl rfl) (by omega) hb36 s34 e45  kx35
                · skip
                  refine r_aload_n C dX7_isSo_62 rfl ?_
                  refine r_get C hb36 (k := 0) rfl rfl celO_7 fw_X7_40 rfl dX7_isSo_63 ?_
                  refine r_iconst C dX7_isSo_66 (3 : Int32) (by decide) ?_
                  refine r_iload C dX7_isSo_67 rfl ?_
                  refine r_imulN C dX7_isSo_69 (na := 3) (nb := i) rfl rfl (nc := (3 * i)) rfl ?_
                  refine r_iconst C dX7_isSo_70 (1 : Int32) (by decide) ?_
                  refine r_iaddN C dX7_isSo_71 (na := (3 * i)) (nb := 1) rfl rfl (nc := ((3 * i) + 1)) rfl ?_
                  refine r_iald C hb36 (k := 11) rfl rfl (vp_in_n rfl (by omega) (by omega)) (j := ((3 * i) + 1)) (cl_n rfl (by omega)) dX7_isSo_72 ?_
                  change WG x _ _ _ _ _ _ _ (.int (R 11 ((3 * i) + 1)) :: _)
                  refine r_iload C dX7_isSo_73 rfl ?_
                  refine r_ic_ne C dX7_isSo_75 (fun c46 => ?_) (fun c46 => ?_)
                  · skip
                    refine r_iconst C dX7_isSo_108 (1 : Int32) (by decide) ?_
                    refine r_goto C dX7_isSo_109 ?_
                    refine r_istore_n C dX7_isSo_113 (ls' := [.val (.ref o_m), .val (.int t), .val (.int s), .val (.int (1 : Int32)), .val (.int (nI k)), .val (.int (nI i))]) rfl rfl rfl ?_
                    refine r_iinc C dX7_isSo_114 (nI (i + 1)) rfl (nI_inc i rfl) (ls' := [.val (.ref o_m), .val (.int t), .val (.int s), .val (.int (1 : Int32)), .val (.int (nI k)), .val (.int (nI (i + 1)))]) rfl ?_
                    refine r_goto C dX7_isSo_117 ?_
                    have e47 : s34 = d_X7_isSo_L49 R_m R k u26 n32 (1 : Int32) (i + 1) := by rw [hs34, d_X7_isSo_L49]; try exact (if_neg c40).trans ((if_neg c44).trans ((if_neg c46).trans (rfl)))
                    exact ih33 (1 : Int32) (i + 1) _  trivial (by omega) (Or.inr rfl) (by omega) hb36 s34 e47  kx35
                  · skip
                    refine r_aload_n C dX7_isSo_78 rfl ?_
                    refine r_get C hb36 (k := 0) rfl rfl celO_7 fw_X7_31 rfl dX7_isSo_79 ?_
                    refine r_iconst C dX7_isSo_82 (1 : Int32) (by decide) ?_
                    refine r_aload_n C dX7_isSo_83 rfl ?_
                    refine r_get C hb36 (k := 0) rfl rfl celO_7 fw_X7_40 rfl dX7_isSo_84 ?_
                    refine r_iconst C dX7_isSo_87 (3 : Int32) (by decide) ?_
                    refine r_iload C dX7_isSo_88 rfl ?_
                    refine r_imulN C dX7_isSo_90 (na := 3) (nb := i) rfl rfl (nc := (3 * i)) rfl ?_
                    refine r_iald C hb36 (k := 11) rfl rfl (vp_in_n rfl (by omega) (by omega)) (j := (3 * i)) (cl_n rfl (by omega)) dX7_isSo_91 ?_
                    change WG x _ _ _ _ _ _ _ (.int (R 11 (3 * i)) :: _)
                    have hfx : (R 11 (3 * i)) = R_m 11 (3 * i) := by rw [hfR]
                    obtain ⟨hfy, hfz⟩ := hfi i (by omega)
                    refine r_iaddN C dX7_isSo_92 (na := 1) (nb := (R_m 11 (3 * i)).toNatClampNeg) rfl (hfx.trans hfy) (nc := (1 + (R_m 11 (3 * i)).toNatClampNeg)) rfl ?_
                    refine r_iald C hb36 (k := 8) rfl rfl (vp_in_n rfl (by omega) (by omega)) (j := (1 + (R_m 11 (3 * i)).toNatClampNeg)) (cl_n rfl (by omega)) dX7_isSo_93 ?_
                    change WG x _ _ _ _ _ _ _ (.int (u26 0 (1 + (R_m 11 (3 * i)).toNatClampNeg)) :: _)
                    refine r_aload_n C dX7_isSo_94 rfl ?_
                    refine r_get C hb36 (k := 0) rfl rfl celO_7 fw_X7_40 rfl dX7_isSo_95 ?_
                    refine r_iconst C dX7_isSo_98 (3 : Int32) (by decide) ?_
                    refine r_iload C dX7_isSo_99 rfl ?_
                    refine r_imulN C dX7_isSo_101 (na := 3) (nb := i) rfl rfl (nc := (3 * i)) rfl ?_
                    refine r_iconst C dX7_isSo_102 (2 : Int32) (by decide) ?_
                    refine r_iaddN C dX7_isSo_103 (na := (3 * i)) (nb := 2) rfl rfl (nc := ((3 * i) + 2)) rfl ?_
                    refine r_iald C hb36 (k := 11) rfl rfl (vp_in_n rfl (by omega) (by omega)) (j := ((3 * i) + 2)) (cl_n rfl (by omega)) dX7_isSo_104 ?_
                    change WG x _ _ _ _ _ _ _ (.int (R 11 ((3 * i) + 2)) :: _)
                    refine r_ic_ne C dX7_isSo_105 (fun c48 => ?_) (fun c48 => ?_)
                    · skip
                      refine r_iconst C dX7_isSo_112 (0 : Int32) (by decide) ?_
                      refine r_istore_n C dX7_isSo_113 (ls' := [.val (.ref o_m), .val (.int t), .val (.int s), .val (.int (0 : Int32)), .val (.int (nI k)), .val (.int (nI i))]) rfl rfl rfl ?_
                      refine r_iinc C dX7_isSo_114 (nI (i + 1)) rfl (nI_inc i rfl) (ls' := [.val (.ref o_m), .val (.int t), .val (.int s), .val (.int (0 : Int32)), .val (.int (nI k)), .val (.int (nI (i + 1)))]) rfl ?_
                      refine r_goto C dX7_isSo_117 ?_
                      have e49 : s34 = d_X7_isSo_L49 R_m R k u26 n32 (0 : Int32) (i + 1) := by rw [hs34, d_X7_isSo_L49]; try exact (if_neg c40).trans ((if_neg c44).trans ((if_pos c46).trans ((if_neg c48).trans (rfl))))
                      exact ih33 (0 : Int32) (i + 1) _  trivial (by omega) (Or.inl rfl) (by omega) hb36 s34 e49  kx35
                    · skip
                      refine r_iconst C dX7_isSo_108 (1 : Int32) (by decide) ?_
                      refine r_goto C dX7_isSo_109 ?_
                      refine r_istore_n C dX7_isSo_113 (ls' := [.val (.ref o_m), .val (.int t), .val (.int s), .val (.int (1 : Int32)), .val (.int (nI k)), .val (.int (nI i))]) rfl rfl rfl ?_
                      refine r_iinc C dX7_isSo_114 (nI (i + 1)) rfl (nI_inc i rfl) (ls' := [.val (.ref o_m), .val (.int t), .val (.int s), .val (.int (1 : Int32)), .val (.int (nI k)), .val (.int (nI (i + 1)))]) rfl ?_
                      refine r_goto C dX7_isSo_117 ?_
                      have e50 : s34 = d_X7_isSo_L49 R_m R k u26 n32 (1 : Int32) (i + 1) := by rw [hs34, d_X7_isSo_L49]; try exact (if_neg c40).trans ((if_neg c44).trans ((if_pos c46).trans ((if_pos c48).trans (rfl))))
                      exact ih33 (1 : Int32) (i + 1) _  trivial (by omega) (Or.inr rfl) (by omega) hb36 s34 e50  kx35
          obtain ⟨s51, hs51⟩ : ∃ r, r = d_X7_isSo_L49 R_m R k u26 7 is 0 := ⟨_, rfl⟩
          refine d_X7_isSo_L49_w 7 is 0 _  trivial (by omega) hbl (by omega) hb31 s51 hs51  (fun H53 z38 hz38 e55 p54 hb52 => ?_)
          refine r_iinc C dX7_isSo_120 (nI (k + 1)) rfl (nI_inc k rfl) (ls' := [.val (.ref o_m), .val (.int t), .val (.int s), .val (.int s51), .val (.int (nI (k + 1))), z38]) rfl ?_
          refine r_goto C dX7_isSo_123 ?_
          have e56 : s12 = d_X7_isSo_L27 R_m n10 (spl R 8 1 u26) s51 (k + 1) := by rw [hs12, d_X7_isSo_L27]; try exact (if_neg c20).trans ((if_neg c24).trans ((lt_eq hu26).trans ((lt_eq hs51).trans (rfl))))
          exact ih11 (spl R 8 1 u26) s51 (k + 1) _ z38 hz38 trivial i10_R i11_R i21_R (by omega) (by omega) hfR p54 hf0 (by omega) hb52 s12 e56  kx13
  obtain ⟨s57, hs57⟩ : ∃ r, r = d_X7_isSo_L27 R_m 21 (pt (spl R_m 8 1 u1) 8 (1 + t.toNatClampNeg) s) (1 : Int32) 1 := ⟨_, rfl⟩
  refine d_X7_isSo_L27_w 21 (pt (spl R_m 8 1 u1) 8 (1 + t.toNatClampNeg) s) (1 : Int32) 1 _ .unset trivial trivial rfl rfl rfl (by omega) (by omega) rfl (Or.inr rfl) (fun _ => rfl) (by omega) hb9 s57 hs57  (fun H59 z17 hz17 z18 hz18 e66 p60 p61 p62 p63 p64 p65 hb58 => ?_)
  refine r_iload_n C dX7_isSo_126 rfl ?_
  refine r_zret C dX7_isSo_127 p60 ?_
  have er : res = (s57.2, s57.1) := by rw [hres, d_X7_isSo]; try exact (lt_eq hu1).trans ((lt_eq hs57).trans (rfl))
  rw [er]
  exact ⟨rfl, p60, hb58, p61, p62⟩

def d_X7_hoard_L29 (t : Int32) : Nat → (Nat → Nat → Int32) → Int32 → Int32 → Int32 → (Nat → Nat → Int32) × Int32 × Int32
  | 0, R, many, lowest, _ => (R, many, lowest)
  | n19 + 1, R, many, lowest, silver =>
    if silver < 0 then
      (R, many, lowest)
    else
      lt (d_X7_isSo R t silver) fun u29 =>
      if u29.1 = 0 then
        d_X7_hoard_L29 t n19 u29.2 many lowest (silver + Int32.ofInt (-1))
      else
        d_X7_hoard_L29 t n19 u29.2 (many + Int32.ofInt 1) silver (silver + Int32.ofInt (-1))
def d_X7_hoard (R_m : Nat → Nat → Int32) (t : Int32) (what : Int32) : Int32 × (Nat → Nat → Int32) :=
  lt (d_X7_isTown (shf R_m 0) t) fun u1 =>
  if u1 = 0 then
    ((-1 : Int32), R_m)
  else
    lt (d_X7_in what (0 : Int32) (1 : Int32)) fun u10 =>
    if u10 = 0 then
      ((-1 : Int32), R_m)
    else
      lt (d_X7_hoard_L29 t 101 R_m (0 : Int32) (-4 : Int32) (99 : Int32)) fun s43 =>
      if what = 0 then
        (s43.2.1, s43.1)
      else
        (s43.2.2, s43.1)
set_option maxHeartbeats 4000000 in
set_option maxRecDepth 100000 in
theorem c_X7_hoard (l : Launch) (D : DD) (o_m : Nat) (R_m : Nat → Nat → Int32) (t : Int32) (what : Int32) (h10 : R_m 0 10 = nI (R_m 0 10).toNatClampNeg) (b10 : (R_m 0 10).toNatClampNeg ≤ 6) (h11 : R_m 0 11 = nI (R_m 0 11).toNatClampNeg) (b11 : (R_m 0 11).toNatClampNeg ≤ 3) (h21 : R_m 0 21 = nI (R_m 0 21).toNatClampNeg) (b21 : (R_m 0 21).toNatClampNeg ≤ 6) (hfi : ∀ i, i < 6 → R_m 11 (3 * i) = nI (R_m 11 (3 * i)).toNatClampNeg ∧ (R_m 11 (3 * i)).toNatClampNeg < 6) (res : Int32 × (Nat → Nat → Int32)) (hres : res = d_X7_hoard R_m t what) : Mt l D yX7_hoard cX7_hoard 6 (some .int) 4 100 0 0 [.ref o_m, .int t, .int what] (fun H => blk D ksModel o_m R_m H) (fun v H => v = some (.int res.1) ∧ blk D ksModel o_m res.2 H) (fp1 o_m 14) := by
  refine mt_of (own := RX7) (ls := [.val (.ref o_m), .val (.int t), .val (.int what), .unset, .unset, .unset]) rfl (by decide +kernel) rfl ?_
  intro x H C hP
  have hb_m := hP
  refine r_aload_n C dX7_hoard_0 rfl ?_
  refine r_iload_n C dX7_hoard_1 rfl ?_
  obtain ⟨u1, hu1⟩ : ∃ r, r = d_X7_isTown (shf R_m 0) t := ⟨_, rfl⟩
  refine r_callV0 C cw_X7_113 (fun l => c_X7_isTown l D o_m (shf R_m 0) t u1 hu1) (rest := []) hb_m (k := 0) rfl rfl celO_7 (blk_sub hb_m 0 1 rfl rfl) (fun q h => h.elim) rfl rfl rfl (Nat.le_of_ble_eq_true rfl) ⟨Nat.le_of_ble_eq_true rfl, Nat.le_of_ble_eq_true rfl, Nat.le_refl 0, Nat.le_refl 0⟩ dX7_hoard_2 (fun v H2 hp3 hq4 => ?_)
  obtain ⟨rfl, hl5⟩ := hp3
  have hb6 := blk_kept hb_m (n := 14) rfl (fun q h1 h2 => hq4 q (fun h => h))
  dsimp only [psh]
  refine r_if_eq C dX7_hoard_5 (fun c7 => ?_) (fun c7 => ?_)
  · skip
    refine r_iconst C dX7_hoard_17 (-1 : Int32) (by decide) ?_
    refine r_iret C dX7_hoard_18 ?_
    have er : res = ((-1 : Int32), R_m) := by rw [hres, d_X7_hoard]; try exact (lt_eq hu1).trans ((if_pos c7).trans (rfl))
    rw [er]
    exact ⟨rfl, hb6⟩
  · skip
    obtain ⟨hn8, hn9⟩ := X7_isTown_nat hu1 c7 h10 b10
    refine r_iload_n C dX7_hoard_8 rfl ?_
    refine r_iconst C dX7_hoard_9 (0 : Int32) (by decide) ?_
    refine r_iconst C dX7_hoard_10 (1 : Int32) (by decide) ?_
    obtain ⟨u10, hu10⟩ : ∃ r, r = d_X7_in what (0 : Int32) (1 : Int32) := ⟨_, rfl⟩
    refine r_callS0 C cw_X7_67 (fun l => c_X7_in l D what (0 : Int32) (1 : Int32) u10 hu10) (rest := []) trivial (fun q h => h.elim) rfl rfl rfl (Nat.le_of_ble_eq_true rfl) ⟨Nat.le_of_ble_eq_true rfl, Nat.le_of_ble_eq_true rfl, Nat.le_refl 0, Nat.le_refl 0⟩ dX7_hoard_11 (fun v H11 hp12 hq13 => ?_)
    obtain ⟨rfl, hl14⟩ := hp12
    have hb15 := blk_kept hb6 (n := 14) rfl (fun q h1 h2 => hq13 q (fun h => h))
    dsimp only [psh]
    refine r_if_ne C dX7_hoard_14 (fun c16 => ?_) (fun c16 => ?_)
    · skip
      obtain ⟨hn17, hn18⟩ := X7_in_nat (M := 1) hu10 c16 (by decide) rfl (by decide)
      refine r_iconst C dX7_hoard_19 (0 : Int32) (by decide) ?_
      refine r_istore_n C dX7_hoard_20 (ls' := [.val (.ref o_m), .val (.int t), .val (.int what), .val (.int (0 : Int32)), .unset, .unset]) rfl trivial rfl ?_
      refine r_bipush C dX7_hoard_21 (-4 : Int32) (by decide) ?_
      refine r_istore C dX7_hoard_23 (ls' := [.val (.ref o_m), .val (.int t), .val (.int what), .val (.int (0 : Int32)), .val (.int (-4 : Int32)), .unset]) rfl trivial rfl ?_
      refine r_bipush C dX7_hoard_25 (99 : Int32) (by decide) ?_
      refine r_istore C dX7_hoard_27 (ls' := [.val (.ref o_m), .val (.int t), .val (.int what), .val (.int (0 : Int32)), .val (.int (-4 : Int32)), .val (.int (99 : Int32))]) rfl trivial rfl ?_
      have d_X7_hoard_L29_w : ∀ (n19 : Nat) (R : Nat → Nat → Int32) (many : Int32) (lowest : Int32) (silver : Int32) (H24 : Heap), True → (R 0 10 = R_m 0 10) → (R 0 11 = R_m 0 11) → (R 0 21 = R_m 0 21) → (-1 ≤ silver.toInt) → (silver.toInt ≤ 99) → (R 11 = R_m 11) → ((silver.toInt + 1).toNat < n19) → blk D ksModel o_m R H24 → ∀ s21 : (Nat → Nat → Int32) × Int32 × Int32, s21 = d_X7_hoard_L29 t n19 R many lowest silver → (∀ (H' : Heap) (z25 : Slot) (_ : slot1 z25), True → (s21.1 0 10 = R_m 0 10) → (s21.1 0 11 = R_m 0 11) → (s21.1 0 21 = R_m 0 21) → blk D ksModel o_m s21.1 H' → WG x (fp1 o_m 14) (Fin x (fun v H => v = some (.int res.1) ∧ blk D ksModel o_m res.2 H) (fp1 o_m 14) 0 0) H' 0 0 57 [.val (.ref o_m), .val (.int t), .val (.int what), .val (.int s21.2.1), .val (.int s21.2.2), z25] []) → WG x (fp1 o_m 14) (Fin x (fun v H => v = some (.int res.1) ∧ blk D ksModel o_m res.2 H) (fp1 o_m 14) 0 0) H24 0 0 29 [.val (.ref o_m), .val (.int t), .val (.int what), .val (.int many), .val (.int lowest), .val (.int silver)] [] := by
        intro n19
        induction n19 with
        | zero => intro R many lowest silver H24  _ i10_R i11_R i21_R hx1 hx2 hfR hm26; exact absurd hm26 (Nat.not_lt_zero _)
        | succ n19 ih20 =>
          intro R many lowest silver H24  _ i10_R i11_R i21_R hx1 hx2 hfR hm26 hb23 s21 hs21  kx22
          refine r_iload C dX7_hoard_29 rfl ?_
          refine r_if_lt C dX7_hoard_31 (fun c27 => ?_) (fun c27 => ?_)
          · skip
            have e28 : s21 = (R, many, lowest) := by rw [hs21, d_X7_hoard_L29]; try exact (if_pos c27).trans (rfl)
            rw [e28] at kx22
            exact kx22 _ (.val (.int silver)) rfl trivial i10_R i11_R i21_R hb23
          · skip
            refine r_aload_n C dX7_hoard_34 rfl ?_
            refine r_iload_n C dX7_hoard_35 rfl ?_
            refine r_iload C dX7_hoard_36 rfl ?_
            obtain ⟨u29, hu29⟩ : ∃ r, r = d_X7_isSo R t silver := ⟨_, rfl⟩
            refine r_callV0 C cw_X7_152 (fun l => c_X7_isSo l D o_m R t silver (nnat (a := (R_m 0 10).toNatClampNeg) (i10_R.trans h10) (by omega)) (show (R 0 10).toNatClampNeg ≤ 6 by rw [cl_n (n := (R_m 0 10).toNatClampNeg) (i10_R.trans h10) (by omega)]; omega) (nnat (a := (R_m 0 11).toNatClampNeg) (i11_R.trans h11) (by omega)) (show (R 0 11).toNatClampNeg ≤ 3 by rw [cl_n (n := (R_m 0 11).toNatClampNeg) (i11_R.trans h11) (by omega)]; omega) (nnat (a := (R_m 0 21).toNatClampNeg) (i21_R.trans h21) (by omega)) (show (R 0 21).toNatClampNeg ≤ 6 by rw [cl_n (n := (R_m 0 21).toNatClampNeg) (i21_R.trans h21) (by omega)]; omega) hn8 (by omega) (by rw [hfR]; exact hfi) u29 hu29) (rest := []) hb23 (k := 0) rfl rfl celO_7 hb23 (fun q h => by unfold fp1 at h; unfold fp1; omega) rfl rfl rfl (Nat.le_of_ble_eq_true rfl) ⟨Nat.le_of_ble_eq_true rfl, Nat.le_of_ble_eq_true rfl, Nat.le_refl 0, Nat.le_refl 0⟩ dX7_hoard_38 (fun v H30 hp31 hq32 => ?_)
            obtain ⟨rfl, hl33, hn34, px35, px36⟩ := hp31
            dsimp only [psh]
            have fx37 : u29.2 0 10 = R_m 0 10 := px36 10 |>.trans i10_R
            have fx38 : u29.2 0 11 = R_m 0 11 := px36 11 |>.trans i11_R
            have fx39 : u29.2 0 21 = R_m 0 21 := px36 21 |>.trans i21_R
            refine r_if_eq C dX7_hoard_41 (fun c40 => ?_) (fun c40 => ?_)
            · skip
              refine r_iinc C dX7_hoard_51 (silver + Int32.ofInt (-1)) rfl rfl (ls' := [.val (.ref o_m), .val (.int t), .val (.int what), .val (.int many), .val (.int lowest), .val (.int (silver + Int32.ofInt (-1)))]) rfl ?_
              refine r_goto C dX7_hoard_54 ?_
              have e41 : s21 = d_X7_hoard_L29 t n19 u29.2 many lowest (silver + Int32.ofInt (-1)) := by rw [hs21, d_X7_hoard_L29]; try exact (if_neg c27).trans ((lt_eq hu29).trans ((if_pos c40).trans (rfl)))
              exact ih20 u29.2 many lowest (silver + Int32.ofInt (-1)) _  trivial fx37 fx38 fx39 (by rw [dec1 c27]; have := x_lo1 c27; omega) (by rw [dec1 c27]; omega) (px35.trans hfR) (by rw [dec1 c27]; have := x_lo1 c27; omega) hn34 s21 e41  kx22
            · skip
              refine r_iinc C dX7_hoard_44 (many + Int32.ofInt 1) rfl rfl (ls' := [.val (.ref o_m), .val (.int t), .val (.int what), .val (.int (many + Int32.ofInt 1)), .val (.int lowest), .val (.int silver)]) rfl ?_
              refine r_iload C dX7_hoard_47 rfl ?_
              refine r_istore C dX7_hoard_49 (ls' := [.val (.ref o_m), .val (.int t), .val (.int what), .val (.int (many + Int32.ofInt 1)), .val (.int silver), .val (.int silver)]) rfl rfl rfl ?_
              refine r_iinc C dX7_hoard_51 (silver + Int32.ofInt (-1)) rfl rfl (ls' := [.val (.ref o_m), .val (.int t), .val (.int what), .val (.int (many + Int32.ofInt 1)), .val (.int silver), .val (.int (silver + Int32.ofInt (-1)))]) rfl ?_
              refine r_goto C dX7_hoard_54 ?_
              have e42 : s21 = d_X7_hoard_L29 t n19 u29.2 (many + Int32.ofInt 1) silver (silver + Int32.ofInt (-1)) := by rw [hs21, d_X7_hoard_L29]; try exact (if_neg c27).trans ((lt_eq hu29).trans ((if_neg c40).trans (rfl)))
              exact ih20 u29.2 (many + Int32.ofInt 1) silver (silver + Int32.ofInt (-1)) _  trivial fx37 fx38 fx39 (by rw [dec1 c27]; have := x_lo1 c27; omega) (by rw [dec1 c27]; omega) (px35.trans hfR) (by rw [dec1 c27]; have := x_lo1 c27; omega) hn34 s21 e42  kx22
      obtain ⟨s43, hs43⟩ : ∃ r, r = d_X7_hoard_L29 t 101 R_m (0 : Int32) (-4 : Int32) (99 : Int32) := ⟨_, rfl⟩
      refine d_X7_hoard_L29_w 101 R_m (0 : Int32) (-4 : Int32) (99 : Int32) _  trivial rfl rfl rfl (by decide) (by decide) rfl (by decide) hb15 s43 hs43  (fun H45 z25 hz25 e49 p46 p47 p48 hb44 => ?_)
      refine r_iload_n C dX7_hoard_57 rfl ?_
      refine r_if_ne C dX7_hoard_58 (fun c50 => ?_) (fun c50 => ?_)
      · skip
        have f51 : ¬ (what.toNatClampNeg = 0) := nf_eqn (by omega) (by omega) hn17 rfl c50
        refine r_iload C dX7_hoard_65 rfl ?_
        refine r_iret C dX7_hoard_67 ?_
        have er : res = (s43.2.2, s43.1) := by rw [hres, d_X7_hoard]; try exact (lt_eq hu1).trans ((if_neg c7).trans ((lt_eq hu10).trans ((if_neg c16).trans ((lt_eq hs43).trans ((if_neg c50).trans (rfl))))))
        rw [er]
        exact ⟨rfl, hb44⟩
      · skip
        have f52 : (what.toNatClampNeg = 0) := nf_eq (by omega) (by omega) hn17 rfl c50
        refine r_iload_n C dX7_hoard_61 rfl ?_
        refine r_goto C dX7_hoard_62 ?_
        refine r_iret C dX7_hoard_67 ?_
        have er : res = (s43.2.1, s43.1) := by rw [hres, d_X7_hoard]; try exact (lt_eq hu1).trans ((if_neg c7).trans ((lt_eq hu10).trans ((if_neg c16).trans ((lt_eq hs43).trans ((if_pos c50).trans (rfl))))))
        rw [er]
        exact ⟨rfl, hb44⟩
    · skip
      refine r_iconst C dX7_hoard_17 (-1 : Int32) (by decide) ?_
      refine r_iret C dX7_hoard_18 ?_
      have er : res = ((-1 : Int32), R_m) := by rw [hres, d_X7_hoard]; try exact (lt_eq hu1).trans ((if_neg c7).trans ((lt_eq hu10).trans ((if_pos c16).trans (rfl))))
      rw [er]
      exact ⟨rfl, hb15⟩

def d_X7_whose_L62 (c : Nat) : Nat → (Nat → Nat → Int32) → Nat → (Nat → Nat → Int32)
  | 0, R2, _ => R2
  | n49 + 1, R2, d =>
    if (R2 0 11) ≤ (nI d) then
      R2
    else
      if (nI d) = (nI c) then
        d_X7_whose_L62 c n49 (pt R2 8 (43 + d) (0 : Int32)) (d + 1)
      else
        d_X7_whose_L62 c n49 (pt R2 8 (43 + d) (1 : Int32)) (d + 1)
def d_X7_whose_L102 (n : Int32) : Nat → (Nat → Nat → Int32) → Nat → (Nat → Nat → Int32)
  | 0, R3, _ => R3
  | n78 + 1, R3, k =>
    if n ≤ (nI k) then
      R3
    else
      lt (d_X7_spring (shf R3 0) (shf R3 5) (shf R3 8)) fun u90 =>
      d_X7_whose_L102 n n78 (spl R3 8 1 u90) (k + 1)
def d_X7_whose_L37 (t : Int32) (n : Int32) (sum : Int32) : Nat → (Nat → Nat → Int32) → Int32 → Nat → (Nat → Nat → Int32) × Int32
  | 0, R, set, _ => (R, set)
  | n29 + 1, R, set, c =>
    if (R 0 11) ≤ (nI c) then
      (R, set)
    else
      lt (d_X7_copy (shf R 7) (shf R 8) 64 64 (0 : Int32) (0 : Int32)) fun u43 =>
      lt (d_X7_whose_L62 c 4 (spl R 8 1 u43) 0) fun s72 =>
      lt (d_X7_whose_L102 n 21 s72 0) fun s97 =>
      if (s97 8 (31 + t.toNatClampNeg)) = sum then
        d_X7_whose_L37 t n sum n29 s97 (set ||| ((1 : Int32) <<< ((nI c) &&& 31))) (c + 1)
      else
        d_X7_whose_L37 t n sum n29 s97 (set ||| (0 : Int32)) (c + 1)
def d_X7_whose (R_m : Nat → Nat → Int32) (t : Int32) (n : Int32) (sum : Int32) : Int32 × (Nat → Nat → Int32) :=
  lt (d_X7_isTown (shf R_m 0) t) fun u1 =>
  if u1 = 0 then
    ((-1 : Int32), R_m)
  else
    lt (d_X7_in n (1 : Int32) (20 : Int32)) fun u10 =>
    if u10 = 0 then
      ((-1 : Int32), R_m)
    else
      lt (d_X7_in sum (0 : Int32) (9999 : Int32)) fun u20 =>
      if u20 = 0 then
        ((-1 : Int32), R_m)
      else
        lt (d_X7_whose_L37 t n sum 4 R_m (0 : Int32) 0) fun s106 =>
        (s106.2, s106.1)
set_option maxHeartbeats 4000000 in
set_option maxRecDepth 100000 in
theorem c_X7_whose (l : Launch) (D : DD) (o_m : Nat) (R_m : Nat → Nat → Int32) (t : Int32) (n : Int32) (sum : Int32) (h10 : R_m 0 10 = nI (R_m 0 10).toNatClampNeg) (b10 : (R_m 0 10).toNatClampNeg ≤ 6) (h11 : R_m 0 11 = nI (R_m 0 11).toNatClampNeg) (b11 : (R_m 0 11).toNatClampNeg ≤ 3) (res : Int32 × (Nat → Nat → Int32)) (hres : res = d_X7_whose R_m t n sum) : Mt l D yX7_whose cX7_whose 7 (some .int) 3 75 0 0 [.ref o_m, .int t, .int n, .int sum] (fun H => blk D ksModel o_m R_m H) (fun v H => v = some (.int res.1) ∧ blk D ksModel o_m res.2 H) (fp1 o_m 14) := by
  refine mt_of (own := RX7) (ls := [.val (.ref o_m), .val (.int t), .val (.int n), .val (.int sum), .unset, .unset, .unset]) rfl (by decide +kernel) rfl ?_
  intro x H C hP
  have hb_m := hP
  refine r_aload_n C dX7_whose_0 rfl ?_
  refine r_iload_n C dX7_whose_1 rfl ?_
  obtain ⟨u1, hu1⟩ : ∃ r, r = d_X7_isTown (shf R_m 0) t := ⟨_, rfl⟩
  refine r_callV0 C cw_X7_113 (fun l => c_X7_isTown l D o_m (shf R_m 0) t u1 hu1) (rest := []) hb_m (k := 0) rfl rfl celO_7 (blk_sub hb_m 0 1 rfl rfl) (fun q h => h.elim) rfl rfl rfl (Nat.le_of_ble_eq_true rfl) ⟨Nat.le_of_ble_eq_true rfl, Nat.le_of_ble_eq_true rfl, Nat.le_refl 0, Nat.le_refl 0⟩ dX7_whose_2 (fun v H2 hp3 hq4 => ?_)
  obtain ⟨rfl, hl5⟩ := hp3
  have hb6 := blk_kept hb_m (n := 14) rfl (fun q h1 h2 => hq4 q (fun h => h))
  dsimp only [psh]
  refine r_if_eq C dX7_whose_5 (fun c7 => ?_) (fun c7 => ?_)
  · skip
    refine r_iconst C dX7_whose_29 (-1 : Int32) (by decide) ?_
    refine r_iret C dX7_whose_30 ?_
    have er : res = ((-1 : Int32), R_m) := by rw [hres, d_X7_whose]; try exact (lt_eq hu1).trans ((if_pos c7).trans (rfl))
    rw [er]
    exact ⟨rfl, hb6⟩
  · skip
    obtain ⟨hn8, hn9⟩ := X7_isTown_nat hu1 c7 h10 b10
    refine r_iload_n C dX7_whose_8 rfl ?_
    refine r_iconst C dX7_whose_9 (1 : Int32) (by decide) ?_
    refine r_bipush C dX7_whose_10 (20 : Int32) (by decide) ?_
    obtain ⟨u10, hu10⟩ : ∃ r, r = d_X7_in n (1 : Int32) (20 : Int32) := ⟨_, rfl⟩
    refine r_callS0 C cw_X7_67 (fun l => c_X7_in l D n (1 : Int32) (20 : Int32) u10 hu10) (rest := []) trivial (fun q h => h.elim) rfl rfl rfl (Nat.le_of_ble_eq_true rfl) ⟨Nat.le_of_ble_eq_true rfl, Nat.le_of_ble_eq_true rfl, Nat.le_refl 0, Nat.le_refl 0⟩ dX7_whose_12 (fun v H11 hp12 hq13 => ?_)
    obtain ⟨rfl, hl14⟩ := hp12
    have hb15 := blk_kept hb6 (n := 14) rfl (fun q h1 h2 => hq13 q (fun h => h))
    dsimp only [psh]
    refine r_if_eq C dX7_whose_15 (fun c16 => ?_) (fun c16 => ?_)
    · skip
      refine r_iconst C dX7_whose_29 (-1 : Int32) (by decide) ?_
      refine r_iret C dX7_whose_30 ?_
      have er : res = ((-1 : Int32), R_m) := by rw [hres, d_X7_whose]; try exact (lt_eq hu1).trans ((if_neg c7).trans ((lt_eq hu10).trans ((if_pos c16).trans (rfl))))
      rw [er]
      exact ⟨rfl, hb15⟩
    · skip
      obtain ⟨hn17, hn18⟩ := X7_in_nat (M := 20) hu10 c16 (by decide) rfl (by decide)
      have hn19 : 1 ≤ n.toNatClampNeg := x_geN (X7_in_lo hu10 c16) hn17 (by decide)
      refine r_iload_n C dX7_whose_18 rfl ?_
      refine r_iconst C dX7_whose_19 (0 : Int32) (by decide) ?_
      refine r_sipush C dX7_whose_20 (9999 : Int32) (by decide) ?_
      obtain ⟨u20, hu20⟩ : ∃ r, r = d_X7_in sum (0 : Int32) (9999 : Int32) := ⟨_, rfl⟩
      refine r_callS0 C cw_X7_67 (fun l => c_X7_in l D sum (0 : Int32) (9999 : Int32) u20 hu20) (rest := []) trivial (fun q h => h.elim) rfl rfl rfl (Nat.le_of_ble_eq_true rfl) ⟨Nat.le_of_ble_eq_true rfl, Nat.le_of_ble_eq_true rfl, Nat.le_refl 0, Nat.le_refl 0⟩ dX7_whose_23 (fun v H21 hp22 hq23 => ?_)
      obtain ⟨rfl, hl24⟩ := hp22
      have hb25 := blk_kept hb15 (n := 14) rfl (fun q h1 h2 => hq23 q (fun h => h))
      dsimp only [psh]
      refine r_if_ne C dX7_whose_26 (fun c26 => ?_) (fun c26 => ?_)
      · skip
        obtain ⟨hn27, hn28⟩ := X7_in_nat (M := 9999) hu20 c26 (by decide) rfl (by decide)
        refine r_iconst C dX7_whose_31 (0 : Int32) (by decide) ?_
        refine r_istore C dX7_whose_32 (ls' := [.val (.ref o_m), .val (.int t), .val (.int n), .val (.int sum), .val (.int (0 : Int32)), .unset, .unset]) rfl trivial rfl ?_
        refine r_iconst C dX7_whose_34 (0 : Int32) (by decide) ?_
        refine r_istore C dX7_whose_35 (ls' := [.val (.ref o_m), .val (.int t), .val (.int n), .val (.int sum), .val (.int (0 : Int32)), .val (.int (0 : Int32)), .unset]) rfl trivial rfl ?_
        have d_X7_whose_L37_w : ∀ (n29 : Nat) (R : Nat → Nat → Int32) (set : Int32) (c : Nat) (H35 : Heap) (z33 : Slot) (_ : slot1 z33), True → (R 0 10 = R_m 0 10) → (R 0 11 = R_m 0 11) → (c ≤ (R_m 0 11).toNatClampNeg) → (3 - c < n29) → blk D ksModel o_m R H35 → ∀ s31 : (Nat → Nat → Int32) × Int32, s31 = d_X7_whose_L37 t n sum n29 R set c → (∀ (H' : Heap) (z36 : Slot) (_ : slot1 z36) (z37 : Slot) (_ : slot1 z37), True → (s31.1 0 10 = R_m 0 10) → (s31.1 0 11 = R_m 0 11) → blk D ksModel o_m s31.1 H' → WG x (fp1 o_m 14) (Fin x (fun v H => v = some (.int res.1) ∧ blk D ksModel o_m res.2 H) (fp1 o_m 14) 0 0) H' 0 0 154 [.val (.ref o_m), .val (.int t), .val (.int n), .val (.int sum), .val (.int s31.2), z36, z37] []) → WG x (fp1 o_m 14) (Fin x (fun v H => v = some (.int res.1) ∧ blk D ksModel o_m res.2 H) (fp1 o_m 14) 0 0) H35 0 0 37 [.val (.ref o_m), .val (.int t), .val (.int n), .val (.int sum), .val (.int set), .val (.int (nI c)), z33] [] := by
          intro n29
          induction n29 with
          | zero => intro R set c H35 z33 hz33 _ i10_R i11_R hc hm38; exact absurd hm38 (Nat.not_lt_zero _)
          | succ n29 ih30 =>
            intro R set c H35 z33 hz33 _ i10_R i11_R hc hm38 hb34 s31 hs31  kx32
            refine r_iload C dX7_whose_37 rfl ?_
            refine r_aload_n C dX7_whose_39 rfl ?_
            refine r_get C hb34 (k := 0) rfl rfl celO_7 fw_X7_53 (z := .int (R 0 11)) rfl dX7_whose_40 ?_
            refine r_ic_ge C dX7_whose_43 (fun c39 => ?_) (fun c39 => ?_)
            · skip
              have f40 : ((R_m 0 11).toNatClampNeg ≤ c) := nf_leI (by omega) (by omega) (i11_R.trans h11) rfl c39
              have e41 : s31 = (R, set) := by rw [hs31, d_X7_whose_L37]; try exact (if_pos c39).trans (rfl)
              rw [e41] at kx32
              exact kx32 _ (.val (.int (nI c))) rfl z33 hz33 trivial i10_R i11_R hb34
            · skip
              have f42 : ¬ ((R_m 0 11).toNatClampNeg ≤ c) := nf_leIn (by omega) (by omega) (i11_R.trans h11) rfl c39
              refine r_aload_n C dX7_whose_46 rfl ?_
              refine r_get C hb34 (k := 0) rfl rfl celO_7 fw_X7_28 rfl dX7_whose_47 ?_
              refine r_iconst C dX7_whose_50 (0 : Int32) (by decide) ?_
              refine r_aload_n C dX7_whose_51 rfl ?_
              refine r_get C hb34 (k := 0) rfl rfl celO_7 fw_X7_31 rfl dX7_whose_52 ?_
              refine r_iconst C dX7_whose_55 (0 : Int32) (by decide) ?_
              obtain ⟨u43, hu43⟩ : ∃ r, r = d_X7_copy (shf R 7) (shf R 8) 64 64 (0 : Int32) (0 : Int32) := ⟨_, rfl⟩
              refine r_callS0 C cw_X7_63 (fun l => c_X7_copy l D (o_m + 7) (o_m + 8) (shf R 7) (shf R 8) 64 64 (0 : Int32) (0 : Int32) (by omega) (by omega) (by decide) (by have q0 := cl_n (x := (0 : Int32)) (n := 0) rfl (by omega); omega) (by decide) (by have q0 := cl_n (x := (0 : Int32)) (n := 0) rfl (by omega); omega) (by omega) u43 hu43) (rest := []) ⟨(blk_sub hb34 7 1 rfl rfl), (blk_sub hb34 8 1 rfl rfl)⟩ (fun q h => by unfold fp1 at h; unfold fp1; omega) rfl rfl rfl (Nat.le_of_ble_eq_true rfl) ⟨Nat.le_of_ble_eq_true rfl, Nat.le_of_ble_eq_true rfl, Nat.le_refl 0, Nat.le_refl 0⟩ dX7_whose_56 (fun v H44 hp45 hq46 => ?_)
              obtain ⟨rfl, hn47⟩ := hp45
              have hb48 := blk_spl hb34 8 1 rfl rfl hn47 (fun q h => hq46 q (by unfold fp1; omega))
              dsimp only [psh]
              refine r_iconst C dX7_whose_59 (0 : Int32) (by decide) ?_
              refine r_istore C dX7_whose_60 (ls' := [.val (.ref o_m), .val (.int t), .val (.int n), .val (.int sum), .val (.int set), .val (.int (nI c)), .val (.int (0 : Int32))]) rfl hz33 rfl ?_
              have d_X7_whose_L62_w : ∀ (n49 : Nat) (R2 : Nat → Nat → Int32) (d : Nat) (H54 : Heap), True → (R2 0 10 = R_m 0 10) → (R2 0 11 = R_m 0 11) → (d ≤ (R_m 0 11).toNatClampNeg) → (3 - d < n49) → blk D ksModel o_m R2 H54 → ∀ s51 : (Nat → Nat → Int32), s51 = d_X7_whose_L62 c n49 R2 d → (∀ (H' : Heap) (z55 : Slot) (_ : slot1 z55), True → (s51 0 10 = R_m 0 10) → (s51 0 11 = R_m 0 11) → blk D ksModel o_m s51 H' → WG x (fp1 o_m 14) (Fin x (fun v H => v = some (.int res.1) ∧ blk D ksModel o_m res.2 H) (fp1 o_m 14) 0 0) H' 0 0 99 [.val (.ref o_m), .val (.int t), .val (.int n), .val (.int sum), .val (.int set), .val (.int (nI c)), z55] []) → WG x (fp1 o_m 14) (Fin x (fun v H => v = some (.int res.1) ∧ blk D ksModel o_m res.2 H) (fp1 o_m 14) 0 0) H54 0 0 62 [.val (.ref o_m), .val (.int t), .val (.int n), .val (.int sum), .val (.int set), .val (.int (nI c)), .val (.int (nI d))] [] := by
                intro n49
                induction n49 with
                | zero => intro R2 d H54  _ i10_R2 i11_R2 hd hm56; exact absurd hm56 (Nat.not_lt_zero _)
                | succ n49 ih50 =>
                  intro R2 d H54  _ i10_R2 i11_R2 hd hm56 hb53 s51 hs51  kx52
                  refine r_iload C dX7_whose_62 rfl ?_
                  refine r_aload_n C dX7_whose_64 rfl ?_
                  refine r_get C hb53 (k := 0) rfl rfl celO_7 fw_X7_53 (z := .int (R2 0 11)) rfl dX7_whose_65 ?_
                  refine r_ic_ge C dX7_whose_68 (fun c57 => ?_) (fun c57 => ?_)
                  · skip
                    have f58 : ((R_m 0 11).toNatClampNeg ≤ d) := nf_leI (by omega) (by omega) (i11_R2.trans h11) rfl c57
                    have e59 : s51 = R2 := by rw [hs51, d_X7_whose_L62]; try exact (if_pos c57).trans (rfl)
                    rw [e59] at kx52
                    exact kx52 _ (.val (.int (nI d))) rfl trivial i10_R2 i11_R2 hb53
                  · skip
                    have f60 : ¬ ((R_m 0 11).toNatClampNeg ≤ d) := nf_leIn (by omega) (by omega) (i11_R2.trans h11) rfl c57
                    refine r_aload_n C dX7_whose_71 rfl ?_
                    refine r_get C hb53 (k := 0) rfl rfl celO_7 fw_X7_31 rfl dX7_whose_72 ?_
                    refine r_bipush C dX7_whose_75 (43 : Int32) (by decide) ?_
                    refine r_iload C dX7_whose_77 rfl ?_
                    refine r_iaddN C dX7_whose_79 (na := 43) (nb := d) rfl rfl (nc := (43 + d)) rfl ?_
                    refine r_iload C dX7_whose_80 rfl ?_
                    refine r_iload C dX7_whose_82 rfl ?_
                    refine r_ic_ne C dX7_whose_84 (fun c61 => ?_) (fun c61 => ?_)
                    · skip
                      have f62 : ¬ (d = c) := nf_eqn (by omega) (by omega) rfl rfl c61
                      refine r_iconst C dX7_whose_91 (1 : Int32) (by decide) ?_
                      refine r_iast C hb53 (k := 8) rfl rfl (by unfold fp1; omega) (vp_in_n rfl (by omega) (by omega)) (j := (43 + d)) (cl_n rfl (by omega)) dX7_whose_92 (fun H63 hb65 hq64 => ?_)
                      refine r_iinc C dX7_whose_93 (nI (d + 1)) rfl (nI_inc d rfl) (ls' := [.val (.ref o_m), .val (.int t), .val (.int n), .val (.int sum), .val (.int set), .val (.int (nI c)), .val (.int (nI (d + 1)))]) rfl ?_
                      refine r_goto C dX7_whose_96 ?_
                      have e66 : s51 = d_X7_whose_L62 c n49 (pt R2 8 (43 + d) (1 : Int32)) (d + 1) := by rw [hs51, d_X7_whose_L62]; try exact (if_neg c57).trans ((if_neg c61).trans (rfl))
                      exact ih50 (pt R2 8 (43 + d) (1 : Int32)) (d + 1) _  trivial i10_R2 i11_R2 (by omega) (by omega) hb65 s51 e66  kx52
                    · skip
                      have f67 : (d = c) := nf_eq (by omega) (by omega) rfl rfl c61
                      refine r_iconst C dX7_whose_87 (0 : Int32) (by decide) ?_
                      refine r_goto C dX7_whose_88 ?_
                      refine r_iast C hb53 (k := 8) rfl rfl (by unfold fp1; omega) (vp_in_n rfl (by omega) (by omega)) (j := (43 + d)) (cl_n rfl (by omega)) dX7_whose_92 (fun H68 hb70 hq69 => ?_)
                      refine r_iinc C dX7_whose_93 (nI (d + 1)) rfl (nI_inc d rfl) (ls' := [.val (.ref o_m), .val (.int t), .val (.int n), .val (.int sum), .val (.int set), .val (.int (nI c)), .val (.int (nI (d + 1)))]) rfl ?_
                      refine r_goto C dX7_whose_96 ?_
                      have e71 : s51 = d_X7_whose_L62 c n49 (pt R2 8 (43 + d) (0 : Int32)) (d + 1) := by rw [hs51, d_X7_whose_L62]; try exact (if_neg c57).trans ((if_pos c61).trans (rfl))
                      exact ih50 (pt R2 8 (43 + d) (0 : Int32)) (d + 1) _  trivial i10_R2 i11_R2 (by omega) (by omega) hb70 s51 e71  kx52
              obtain ⟨s72, hs72⟩ : ∃ r, r = d_X7_whose_L62 c 4 (spl R 8 1 u43) 0 := ⟨_, rfl⟩
              refine d_X7_whose_L62_w 4 (spl R 8 1 u43) 0 _  trivial i10_R i11_R (by omega) (by omega) hb48 s72 hs72  (fun H74 z55 hz55 e77 p75 p76 hb73 => ?_)
              refine r_iconst C dX7_whose_99 (0 : Int32) (by decide) ?_
              refine r_istore C dX7_whose_100 (ls' := [.val (.ref o_m), .val (.int t), .val (.int n), .val (.int sum), .val (.int set), .val (.int (nI c)), .val (.int (0 : Int32))]) rfl hz55 rfl ?_
              have d_X7_whose_L102_w : ∀ (n78 : Nat) (R3 : Nat → Nat → Int32) (k : Nat) (H83 : Heap), True → (R3 0 10 = R_m 0 10) → (R3 0 11 = R_m 0 11) → (k ≤ 20) → (20 - k < n78) → blk D ksModel o_m R3 H83 → ∀ s80 : (Nat → Nat → Int32), s80 = d_X7_whose_L102 n n78 R3 k → (∀ (H' : Heap) (z84 : Slot) (_ : slot1 z84), True → (s80 0 10 = R_m 0 10) → (s80 0 11 = R_m 0 11) → blk D ksModel o_m s80 H' → WG x (fp1 o_m 14) (Fin x (fun v H => v = some (.int res.1) ∧ blk D ksModel o_m res.2 H) (fp1 o_m 14) 0 0) H' 0 0 122 [.val (.ref o_m), .val (.int t), .val (.int n), .val (.int sum), .val (.int set), .val (.int (nI c)), z84] []) → WG x (fp1 o_m 14) (Fin x (fun v H => v = some (.int res.1) ∧ blk D ksModel o_m res.2 H) (fp1 o_m 14) 0 0) H83 0 0 102 [.val (.ref o_m), .val (.int t), .val (.int n), .val (.int sum), .val (.int set), .val (.int (nI c)), .val (.int (nI k))] [] := by
                intro n78
                induction n78 with
                | zero => intro R3 k H83  _ i10_R3 i11_R3 hk hm85; exact absurd hm85 (Nat.not_lt_zero _)
                | succ n78 ih79 =>
                  intro R3 k H83  _ i10_R3 i11_R3 hk hm85 hb82 s80 hs80  kx81
                  refine r_iload C dX7_whose_102 rfl ?_
                  refine r_iload_n C dX7_whose_104 rfl ?_
                  refine r_ic_ge C dX7_whose_105 (fun c86 => ?_) (fun c86 => ?_)
                  · skip
                    have f87 : (n.toNatClampNeg ≤ k) := nf_leI (by omega) (by omega) hn17 rfl c86
                    have e88 : s80 = R3 := by rw [hs80, d_X7_whose_L102]; try exact (if_pos c86).trans (rfl)
                    rw [e88] at kx81
                    exact kx81 _ (.val (.int (nI k))) rfl trivial i10_R3 i11_R3 hb82
                  · skip
                    have f89 : ¬ (n.toNatClampNeg ≤ k) := nf_leIn (by omega) (by omega) hn17 rfl c86
                    refine r_aload_n C dX7_whose_108 rfl ?_
                    refine r_aload_n C dX7_whose_109 rfl ?_
                    refine r_get C hb82 (k := 0) rfl rfl celO_7 fw_X7_31 rfl dX7_whose_110 ?_
                    obtain ⟨u90, hu90⟩ : ∃ r, r = d_X7_spring (shf R3 0) (shf R3 5) (shf R3 8) := ⟨_, rfl⟩
                    refine r_callV0 C cw_X7_134 (fun l => c_X7_spring l D o_m (o_m + 8) (shf R3 0) (shf R3 5) (shf R3 8) (nnat (a := (R_m 0 10).toNatClampNeg) (i10_R3.trans h10) (by omega)) (show (R3 0 10).toNatClampNeg ≤ 6 by rw [cl_n (n := (R_m 0 10).toNatClampNeg) (i10_R3.trans h10) (by omega)]; omega) (nnat (a := (R_m 0 11).toNatClampNeg) (i11_R3.trans h11) (by omega)) (show (R3 0 11).toNatClampNeg ≤ 3 by rw [cl_n (n := (R_m 0 11).toNatClampNeg) (i11_R3.trans h11) (by omega)]; omega) (by omega) (by omega) u90 hu90) (rest := []) hb82 (k := 0) rfl rfl celO_7 ⟨(blk_sub hb82 0 1 rfl rfl), (blk_sub hb82 5 1 rfl rfl), (blk_sub hb82 8 1 rfl rfl)⟩ (fun q h => by unfold fp1 at h; unfold fp1; omega) rfl rfl rfl (Nat.le_of_ble_eq_true rfl) ⟨Nat.le_of_ble_eq_true rfl, Nat.le_of_ble_eq_true rfl, Nat.le_refl 0, Nat.le_refl 0⟩ dX7_whose_113 (fun v H91 hp92 hq93 => ?_)
                    obtain ⟨rfl, hn94⟩ := hp92
                    have hb95 := blk_spl hb82 8 1 rfl rfl hn94 (fun q h => hq93 q (by unfold fp1; omega))
                    dsimp only [psh]
                    refine r_iinc C dX7_whose_116 (nI (k + 1)) rfl (nI_inc k rfl) (ls' := [.val (.ref o_m), .val (.int t), .val (.int n), .val (.int sum), .val (.int set), .val (.int (nI c)), .val (.int (nI (k + 1)))]) rfl ?_
                    refine r_goto C dX7_whose_119 ?_
                    have e96 : s80 = d_X7_whose_L102 n n78 (spl R3 8 1 u90) (k + 1) := by rw [hs80, d_X7_whose_L102]; try exact (if_neg c86).trans ((lt_eq hu90).trans (rfl))
                    exact ih79 (spl R3 8 1 u90) (k + 1) _  trivial i10_R3 i11_R3 (by omega) (by omega) hb95 s80 e96  kx81
              obtain ⟨s97, hs97⟩ : ∃ r, r = d_X7_whose_L102 n 21 s72 0 := ⟨_, rfl⟩
              refine d_X7_whose_L102_w 21 s72 0 _  trivial p75 p76 (by omega) (by omega) hb73 s97 hs97  (fun H99 z84 hz84 e102 p100 p101 hb98 => ?_)
              refine r_iload C dX7_whose_122 rfl ?_
              refine r_aload_n C dX7_whose_124 rfl ?_
              refine r_get C hb98 (k := 0) rfl rfl celO_7 fw_X7_31 rfl dX7_whose_125 ?_
              refine r_bipush C dX7_whose_128 (31 : Int32) (by decide) ?_
              refine r_iload_n C dX7_whose_130 rfl ?_
              refine r_iaddN C dX7_whose_131 (na := 31) (nb := t.toNatClampNeg) rfl hn8 (nc := (31 + t.toNatClampNeg)) rfl ?_
              refine r_iald C hb98 (k := 8) rfl rfl (vp_in_n rfl (by omega) (by omega)) (j := (31 + t.toNatClampNeg)) (cl_n rfl (by omega)) dX7_whose_132 ?_
              refine r_iload_n C dX7_whose_133 rfl ?_
              refine r_ic_ne C dX7_whose_134 (fun c103 => ?_) (fun c103 => ?_)
              · skip
                refine r_iconst C dX7_whose_144 (0 : Int32) (by decide) ?_
                refine r_ior C dX7_whose_145 ?_
                refine r_istore C dX7_whose_146 (ls' := [.val (.ref o_m), .val (.int t), .val (.int n), .val (.int sum), .val (.int (set ||| (0 : Int32))), .val (.int (nI c)), z84]) rfl rfl rfl ?_
                refine r_iinc C dX7_whose_148 (nI (c + 1)) rfl (nI_inc c rfl) (ls' := [.val (.ref o_m), .val (.int t), .val (.int n), .val (.int sum), .val (.int (set ||| (0 : Int32))), .val (.int (nI (c + 1))), z84]) rfl ?_
                refine r_goto C dX7_whose_151 ?_
                have e104 : s31 = d_X7_whose_L37 t n sum n29 s97 (set ||| (0 : Int32)) (c + 1) := by rw [hs31, d_X7_whose_L37]; try exact (if_neg c39).trans ((lt_eq hu43).trans ((lt_eq hs72).trans ((lt_eq hs97).trans ((if_neg c103).trans (rfl)))))
                exact ih30 s97 (set ||| (0 : Int32)) (c + 1) _ z84 hz84 trivial p100 p101 (by omega) (by omega) hb98 s31 e104  kx32
              · skip
                refine r_iconst C dX7_whose_137 (1 : Int32) (by decide) ?_
                refine r_iload C dX7_whose_138 rfl ?_
                refine r_ishl C dX7_whose_140 ?_
                refine r_goto C dX7_whose_141 ?_
                refine r_ior C dX7_whose_145 ?_
                refine r_istore C dX7_whose_146 (ls' := [.val (.ref o_m), .val (.int t), .val (.int n), .val (.int sum), .val (.int (set ||| ((1 : Int32) <<< ((nI c) &&& 31)))), .val (.int (nI c)), z84]) rfl rfl rfl ?_
                refine r_iinc C dX7_whose_148 (nI (c + 1)) rfl (nI_inc c rfl) (ls' := [.val (.ref o_m), .val (.int t), .val (.int n), .val (.int sum), .val (.int (set ||| ((1 : Int32) <<< ((nI c) &&& 31)))), .val (.int (nI (c + 1))), z84]) rfl ?_
                refine r_goto C dX7_whose_151 ?_
                have e105 : s31 = d_X7_whose_L37 t n sum n29 s97 (set ||| ((1 : Int32) <<< ((nI c) &&& 31))) (c + 1) := by rw [hs31, d_X7_whose_L37]; try exact (if_neg c39).trans ((lt_eq hu43).trans ((lt_eq hs72).trans ((lt_eq hs97).trans ((if_pos c103).trans (rfl)))))
                exact ih30 s97 (set ||| ((1 : Int32) <<< ((nI c) &&& 31))) (c + 1) _ z84 hz84 trivial p100 p101 (by omega) (by omega) hb98 s31 e105  kx32
        obtain ⟨s106, hs106⟩ : ∃ r, r = d_X7_whose_L37 t n sum 4 R_m (0 : Int32) 0 := ⟨_, rfl⟩
        refine d_X7_whose_L37_w 4 R_m (0 : Int32) 0 _ .unset trivial trivial rfl rfl (by omega) (by omega) hb25 s106 hs106  (fun H108 z36 hz36 z37 hz37 e111 p109 p110 hb107 => ?_)
        refine r_iload C dX7_whose_154 rfl ?_
        refine r_iret C dX7_whose_156 ?_
        have er : res = (s106.2, s106.1) := by rw [hres, d_X7_whose]; try exact (lt_eq hu1).trans ((if_neg c7).trans ((lt_eq hu10).trans ((if_neg c16).trans ((lt_eq hu20).trans ((if_neg c26).trans ((lt_eq hs106).trans (rfl)))))))
        rw [er]
        exact ⟨rfl, hb107⟩
      · skip
        refine r_iconst C dX7_whose_29 (-1 : Int32) (by decide) ?_
        refine r_iret C dX7_whose_30 ?_
        have er : res = ((-1 : Int32), R_m) := by rw [hres, d_X7_whose]; try exact (lt_eq hu1).trans ((if_neg c7).trans ((lt_eq hu10).trans ((if_neg c16).trans ((lt_eq hu20).trans ((if_pos c26).trans (rfl))))))
        rw [er]
        exact ⟨rfl, hb25⟩

def d_X7_springs_L57 (z : Int32) (k : Nat) : Nat → (Nat → Nat → Int32) → Nat → (Nat → Nat → Int32)
  | 0, R2, _ => R2
  | n53 + 1, R2, i =>
    if (R2 0 11) ≤ (nI i) then
      R2
    else
      lt (((R2 8 (37 + i)) + (((((((((7919 : Int64) * z.toInt64) + ((6151 : Int64) * (nI k).toInt64)) + ((331 : Int64) * (nI i).toInt64)) + (1 : Int64)) * (((((7919 : Int64) * z.toInt64) + ((6151 : Int64) * (nI k).toInt64)) + ((331 : Int64) * (nI i).toInt64)) + (1 : Int64))) - ((((((7919 : Int64) * z.toInt64) + ((6151 : Int64) * (nI k).toInt64)) + ((331 : Int64) * (nI i).toInt64)) + (1 : Int64)) * (((((7919 : Int64) * z.toInt64) + ((6151 : Int64) * (nI k).toInt64)) + ((331 : Int64) * (nI i).toInt64)) + (1 : Int64))) / (65521 : Int64) * (65521 : Int64)) / (8 : Int64)) - ((((((((7919 : Int64) * z.toInt64) + ((6151 : Int64) * (nI k).toInt64)) + ((331 : Int64) * (nI i).toInt64)) + (1 : Int64)) * (((((7919 : Int64) * z.toInt64) + ((6151 : Int64) * (nI k).toInt64)) + ((331 : Int64) * (nI i).toInt64)) + (1 : Int64))) - ((((((7919 : Int64) * z.toInt64) + ((6151 : Int64) * (nI k).toInt64)) + ((331 : Int64) * (nI i).toInt64)) + (1 : Int64)) * (((((7919 : Int64) * z.toInt64) + ((6151 : Int64) * (nI k).toInt64)) + ((331 : Int64) * (nI i).toInt64)) + (1 : Int64))) / (65521 : Int64) * (65521 : Int64)) / (8 : Int64)) / (5 : Int64) * (5 : Int64)).toInt32)) fun y69 =>
      if (R2 8 (43 + i)) = 0 then
        if y69 ≤ (99 : Int32) then
          d_X7_springs_L57 z k n53 (pt R2 8 (37 + i) y69) (i + 1)
        else
          d_X7_springs_L57 z k n53 (pt R2 8 (37 + i) (99 : Int32)) (i + 1)
      else
        d_X7_springs_L57 z k n53 R2 (i + 1)
def d_X7_springs_L48 (z : Int32) (n : Int32) : Nat → (Nat → Nat → Int32) → Nat → (Nat → Nat → Int32)
  | 0, R, _ => R
  | n35 + 1, R, k =>
    if n ≤ (nI k) then
      R
    else
      lt (d_X7_springs_L57 z k 4 R 0) fun s81 =>
      lt (d_X7_spring (shf s81 0) (shf s81 5) (shf s81 8)) fun u87 =>
      d_X7_springs_L48 z n n35 (spl s81 8 1 u87) (k + 1)
def d_X7_springs (R_m : Nat → Nat → Int32) (z : Int32) (n : Int32) (what : Int32) : Int32 × (Nat → Nat → Int32) :=
  lt (d_X7_in z (0 : Int32) (9999 : Int32)) fun u1 =>
  if u1 = 0 then
    ((-1 : Int32), R_m)
  else
    lt (d_X7_in n (1 : Int32) (30 : Int32)) fun u10 =>
    if u10 = 0 then
      ((-1 : Int32), R_m)
    else
      lt (d_X7_in what (0 : Int32) (1 : Int32)) fun u20 =>
      if u20 = 0 then
        ((-1 : Int32), R_m)
      else
        lt (d_X7_copy (shf R_m 6) (shf R_m 8) 64 64 (0 : Int32) (0 : Int32)) fun u29 =>
        lt (d_X7_springs_L48 z n 31 (spl R_m 8 1 u29) 0) fun s94 =>
        if what = 0 then
          lt (d_X7_burntOf (shf s94 0) (shf s94 8)) fun u108 =>
          (u108, s94)
        else
          lt (d_X7_silverOf (shf s94 0) (shf s94 8)) fun u102 =>
          (u102, s94)
set_option maxHeartbeats 4000000 in
set_option maxRecDepth 100000 in
theorem c_X7_springs (l : Launch) (D : DD) (o_m : Nat) (R_m : Nat → Nat → Int32) (z : Int32) (n : Int32) (what : Int32) (h10 : R_m 0 10 = nI (R_m 0 10).toNatClampNeg) (b10 : (R_m 0 10).toNatClampNeg ≤ 6) (h11 : R_m 0 11 = nI (R_m 0 11).toNatClampNeg) (b11 : (R_m 0 11).toNatClampNeg ≤ 3) (res : Int32 × (Nat → Nat → Int32)) (hres : res = d_X7_springs R_m z n what) : Mt l D yX7_springs cX7_springs 9 (some .int) 3 75 0 0 [.ref o_m, .int z, .int n, .int what] (fun H => blk D ksModel o_m R_m H) (fun v H => v = some (.int res.1) ∧ blk D ksModel o_m res.2 H) (fp1 o_m 14) := by
  refine mt_of (own := RX7) (ls := [.val (.ref o_m), .val (.int z), .val (.int n), .val (.int what), .unset, .unset, .unset, .unset, .unset]) rfl (by decide +kernel) rfl ?_
  intro x H C hP
  have hb_m := hP
  refine r_iload_n C dX7_springs_0 rfl ?_
  refine r_iconst C dX7_springs_1 (0 : Int32) (by decide) ?_
  refine r_sipush C dX7_springs_2 (9999 : Int32) (by decide) ?_
  obtain ⟨u1, hu1⟩ : ∃ r, r = d_X7_in z (0 : Int32) (9999 : Int32) := ⟨_, rfl⟩
  refine r_callS0 C cw_X7_67 (fun l => c_X7_in l D z (0 : Int32) (9999 : Int32) u1 hu1) (rest := []) trivial (fun q h => h.elim) rfl rfl rfl (Nat.le_of_ble_eq_true rfl) ⟨Nat.le_of_ble_eq_true rfl, Nat.le_of_ble_eq_true rfl, Nat.le_refl 0, Nat.le_refl 0⟩ dX7_springs_5 (fun v H2 hp3 hq4 => ?_)
  obtain ⟨rfl, hl5⟩ := hp3
  have hb6 := blk_kept hb_m (n := 14) rfl (fun q h1 h2 => hq4 q (fun h => h))
  dsimp only [psh]
  refine r_if_eq C dX7_springs_8 (fun c7 => ?_) (fun c7 => ?_)
  · skip
    refine r_iconst C dX7_springs_30 (-1 : Int32) (by decide) ?_
    refine r_iret C dX7_springs_31 ?_
    have er : res = ((-1 : Int32), R_m) := by rw [hres, d_X7_springs]; try exact (lt_eq hu1).trans ((if_pos c7).trans (rfl))
    rw [er]
    exact ⟨rfl, hb6⟩
  · skip
    obtain ⟨hn8, hn9⟩ := X7_in_nat (M := 9999) hu1 c7 (by decide) rfl (by decide)
    refine r_iload_n C dX7_springs_11 rfl ?_
    refine r_iconst C dX7_springs_12 (1 : Int32) (by decide) ?_
    refine r_bipush C dX7_springs_13 (30 : Int32) (by decide) ?_
    obtain ⟨u10, hu10⟩ : ∃ r, r = d_X7_in n (1 : Int32) (30 : Int32) := ⟨_, rfl⟩
    refine r_callS0 C cw_X7_67 (fun l => c_X7_in l D n (1 : Int32) (30 : Int32) u10 hu10) (rest := []) trivial (fun q h => h.elim) rfl rfl rfl (Nat.le_of_ble_eq_true rfl) ⟨Nat.le_of_ble_eq_true rfl, Nat.le_of_ble_eq_true rfl, Nat.le_refl 0, Nat.le_refl 0⟩ dX7_springs_15 (fun v H11 hp12 hq13 => ?_)
    obtain ⟨rfl, hl14⟩ := hp12
    have hb15 := blk_kept hb6 (n := 14) rfl (fun q h1 h2 => hq13 q (fun h => h))
    dsimp only [psh]
    refine r_if_eq C dX7_springs_18 (fun c16 => ?_) (fun c16 => ?_)
    · skip
      refine r_iconst C dX7_springs_30 (-1 : Int32) (by decide) ?_
      refine r_iret C dX7_springs_31 ?_
      have er : res = ((-1 : Int32), R_m) := by rw [hres, d_X7_springs]; try exact (lt_eq hu1).trans ((if_neg c7).trans ((lt_eq hu10).trans ((if_pos c16).trans (rfl))))
      rw [er]
      exact ⟨rfl, hb15⟩
    · skip
      obtain ⟨hn17, hn18⟩ := X7_in_nat (M := 30) hu10 c16 (by decide) rfl (by decide)
      have hn19 : 1 ≤ n.toNatClampNeg := x_geN (X7_in_lo hu10 c16) hn17 (by decide)
      refine r_iload_n C dX7_springs_21 rfl ?_
      refine r_iconst C dX7_springs_22 (0 : Int32) (by decide) ?_
      refine r_iconst C dX7_springs_23 (1 : Int32) (by decide) ?_
      obtain ⟨u20, hu20⟩ : ∃ r, r = d_X7_in what (0 : Int32) (1 : Int32) := ⟨_, rfl⟩
      refine r_callS0 C cw_X7_67 (fun l => c_X7_in l D what (0 : Int32) (1 : Int32) u20 hu20) (rest := []) trivial (fun q h => h.elim) rfl rfl rfl (Nat.le_of_ble_eq_true rfl) ⟨Nat.le_of_ble_eq_true rfl, Nat.le_of_ble_eq_true rfl, Nat.le_refl 0, Nat.le_refl 0⟩ dX7_springs_24 (fun v H21 hp22 hq23 => ?_)
      obtain ⟨rfl, hl24⟩ := hp22
      have hb25 := blk_kept hb15 (n := 14) rfl (fun q h1 h2 => hq23 q (fun h => h))
      dsimp only [psh]
      refine r_if_ne C dX7_springs_27 (fun c26 => ?_) (fun c26 => ?_)
      · skip
        obtain ⟨hn27, hn28⟩ := X7_in_nat (M := 1) hu20 c26 (by decide) rfl (by decide)
        refine r_aload_n C dX7_springs_32 rfl ?_
        refine r_get C hb25 (k := 0) rfl rfl celO_7 fw_X7_25 rfl dX7_springs_33 ?_
        refine r_iconst C dX7_springs_36 (0 : Int32) (by decide) ?_
        refine r_aload_n C dX7_springs_37 rfl ?_
        refine r_get C hb25 (k := 0) rfl rfl celO_7 fw_X7_31 rfl dX7_springs_38 ?_
        refine r_iconst C dX7_springs_41 (0 : Int32) (by decide) ?_
        obtain ⟨u29, hu29⟩ : ∃ r, r = d_X7_copy (shf R_m 6) (shf R_m 8) 64 64 (0 : Int32) (0 : Int32) := ⟨_, rfl⟩
        refine r_callS0 C cw_X7_63 (fun l => c_X7_copy l D (o_m + 6) (o_m + 8) (shf R_m 6) (shf R_m 8) 64 64 (0 : Int32) (0 : Int32) (by omega) (by omega) (by decide) (by have q0 := cl_n (x := (0 : Int32)) (n := 0) rfl (by omega); omega) (by decide) (by have q0 := cl_n (x := (0 : Int32)) (n := 0) rfl (by omega); omega) (by omega) u29 hu29) (rest := []) ⟨(blk_sub hb25 6 1 rfl rfl), (blk_sub hb25 8 1 rfl rfl)⟩ (fun q h => by unfold fp1 at h; unfold fp1; omega) rfl rfl rfl (Nat.le_of_ble_eq_true rfl) ⟨Nat.le_of_ble_eq_true rfl, Nat.le_of_ble_eq_true rfl, Nat.le_refl 0, Nat.le_refl 0⟩ dX7_springs_42 (fun v H30 hp31 hq32 => ?_)
        obtain ⟨rfl, hn33⟩ := hp31
        have hb34 := blk_spl hb25 8 1 rfl rfl hn33 (fun q h => hq32 q (by unfold fp1; omega))
        dsimp only [psh]
        refine r_iconst C dX7_springs_45 (0 : Int32) (by decide) ?_
        refine r_istore C dX7_springs_46 (ls' := [.val (.ref o_m), .val (.int z), .val (.int n), .val (.int what), .val (.int (0 : Int32)), .unset, .unset, .unset, .unset]) rfl trivial rfl ?_
        have d_X7_springs_L48_w : ∀ (n35 : Nat) (R : Nat → Nat → Int32) (k : Nat) (H43 : Heap) (z39 : Slot) (_ : slot1 z39) (z40 z40b : Slot) (_ : lpair z40 z40b) (z41 : Slot) (_ : slot1 z41), True → (R 0 10 = R_m 0 10) → (R 0 11 = R_m 0 11) → (k ≤ 30) → (30 - k < n35) → blk D ksModel o_m R H43 → ∀ s37 : (Nat → Nat → Int32), s37 = d_X7_springs_L48 z n n35 R k → (∀ (H' : Heap) (z44 : Slot) (_ : slot1 z44) (z45 : Slot) (_ : slot1 z45) (z46 z46b : Slot) (_ : lpair z46 z46b) (z47 : Slot) (_ : slot1 z47), True → (s37 0 10 = R_m 0 10) → (s37 0 11 = R_m 0 11) → blk D ksModel o_m s37 H' → WG x (fp1 o_m 14) (Fin x (fun v H => v = some (.int res.1) ∧ blk D ksModel o_m res.2 H) (fp1 o_m 14) 0 0) H' 0 0 180 [.val (.ref o_m), .val (.int z), .val (.int n), .val (.int what), z44, z45, z46, z46b, z47] []) → WG x (fp1 o_m 14) (Fin x (fun v H => v = some (.int res.1) ∧ blk D ksModel o_m res.2 H) (fp1 o_m 14) 0 0) H43 0 0 48 [.val (.ref o_m), .val (.int z), .val (.int n), .val (.int what), .val (.int (nI k)), z39, z40, z40b, z41] [] := by
          intro n35
          induction n35 with
          | zero => intro R k H43 z39 hz39 z40 z40b hz40 z41 hz41 _ i10_R i11_R hk hm48; exact absurd hm48 (Nat.not_lt_zero _)
          | succ n35 ih36 =>
            intro R k H43 z39 hz39 z40 z40b hz40 z41 hz41 _ i10_R i11_R hk hm48 hb42 s37 hs37  kx38
            refine r_iload C dX7_springs_48 rfl ?_
            refine r_iload_n C dX7_springs_50 rfl ?_
            refine r_ic_ge C dX7_springs_51 (fun c49 => ?_) (fun c49 => ?_)
            · skip
              have f50 : (n.toNatClampNeg ≤ k) := nf_leI (by omega) (by omega) hn17 rfl c49
              have e51 : s37 = R := by rw [hs37, d_X7_springs_L48]; try exact (if_pos c49).trans (rfl)
              rw [e51] at kx38
              exact kx38 _ (.val (.int (nI k))) rfl z39 hz39 z40 z40b hz40 z41 hz41 trivial i10_R i11_R hb42
            · skip
              have f52 : ¬ (n.toNatClampNeg ≤ k) := nf_leIn (by omega) (by omega) hn17 rfl c49
              refine r_iconst C dX7_springs_54 (0 : Int32) (by decide) ?_
              refine r_istore C dX7_springs_55 (ls' := [.val (.ref o_m), .val (.int z), .val (.int n), .val (.int what), .val (.int (nI k)), .val (.int (0 : Int32)), z40, z40b, z41]) rfl hz39 rfl ?_
              have d_X7_springs_L57_w : ∀ (n53 : Nat) (R2 : Nat → Nat → Int32) (i : Nat) (H60 : Heap) (z57 z57b : Slot) (_ : lpair z57 z57b) (z58 : Slot) (_ : slot1 z58), True → (R2 0 10 = R_m 0 10) → (R2 0 11 = R_m 0 11) → (i ≤ (R_m 0 11).toNatClampNeg) → (3 - i < n53) → blk D ksModel o_m R2 H60 → ∀ s55 : (Nat → Nat → Int32), s55 = d_X7_springs_L57 z k n53 R2 i → (∀ (H' : Heap) (z61 : Slot) (_ : slot1 z61) (z62 z62b : Slot) (_ : lpair z62 z62b) (z63 : Slot) (_ : slot1 z63), True → (s55 0 10 = R_m 0 10) → (s55 0 11 = R_m 0 11) → blk D ksModel o_m s55 H' → WG x (fp1 o_m 14) (Fin x (fun v H => v = some (.int res.1) ∧ blk D ksModel o_m res.2 H) (fp1 o_m 14) 0 0) H' 0 0 166 [.val (.ref o_m), .val (.int z), .val (.int n), .val (.int what), .val (.int (nI k)), z61, z62, z62b, z63] []) → WG x (fp1 o_m 14) (Fin x (fun v H => v = some (.int res.1) ∧ blk D ksModel o_m res.2 H) (fp1 o_m 14) 0 0) H60 0 0 57 [.val (.ref o_m), .val (.int z), .val (.int n), .val (.int what), .val (.int (nI k)), .val (.int (nI i)), z57, z57b, z58] [] := by
                intro n53
                induction n53 with
                | zero => intro R2 i H60 z57 z57b hz57 z58 hz58 _ i10_R2 i11_R2 hi hm64; exact absurd hm64 (Nat.not_lt_zero _)
                | succ n53 ih54 =>
                  intro R2 i H60 z57 z57b hz57 z58 hz58 _ i10_R2 i11_R2 hi hm64 hb59 s55 hs55  kx56
                  refine r_iload C dX7_springs_57 rfl ?_
                  refine r_aload_n C dX7_springs_59 rfl ?_
                  refine r_get C hb59 (k := 0) rfl rfl celO_7 fw_X7_53 (z := .int (R2 0 11)) rfl dX7_springs_60 ?_
                  refine r_ic_ge C dX7_springs_63 (fun c65 => ?_) (fun c65 => ?_)
                  · skip
                    have f66 : ((R_m 0 11).toNatClampNeg ≤ i) := nf_leI (by omega) (by omega) (i11_R2.trans h11) rfl c65
                    have e67 : s55 = R2 := by rw [hs55, d_X7_springs_L57]; try exact (if_pos c65).trans (rfl)
                    rw [e67] at kx56
                    exact kx56 _ (.val (.int (nI i))) rfl z57 z57b hz57 z58 hz58 trivial i10_R2 i11_R2 hb59
                  · skip
                    have f68 : ¬ ((R_m 0 11).toNatClampNeg ≤ i) := nf_leIn (by omega) (by omega) (i11_R2.trans h11) rfl c65
                    refine r_ldc2 C dX7_springs_66 (v := 7919) (wd_of 965 (by decide +kernel) (by decide +kernel)) ?_
                    refine r_iload_n C dX7_springs_69 rfl ?_
                    refine r_i2l C dX7_springs_70 ?_
                    refine r_lmul C dX7_springs_71 ?_
                    refine r_ldc2 C dX7_springs_72 (v := 6151) (wd_of 966 (by decide +kernel) (by decide +kernel)) ?_
                    refine r_iload C dX7_springs_75 rfl ?_
                    refine r_i2l C dX7_springs_77 ?_
                    refine r_lmul C dX7_springs_78 ?_
                    refine r_ladd C dX7_springs_79 ?_
                    refine r_ldc2 C dX7_springs_80 (v := 331) (wd_of 967 (by decide +kernel) (by decide +kernel)) ?_
                    refine r_iload C dX7_springs_83 rfl ?_
                    refine r_i2l C dX7_springs_85 ?_
                    refine r_lmul C dX7_springs_86 ?_
                    refine r_ladd C dX7_springs_87 ?_
                    refine r_lconst1 C dX7_springs_88 ?_
                    refine r_ladd C dX7_springs_89 ?_
                    refine r_lstoreP C dX7_springs_90 rfl rfl hz57 (ls' := [.val (.ref o_m), .val (.int z), .val (.int n), .val (.int what), .val (.int (nI k)), .val (.int (nI i)), .val (.long (((((7919 : Int64) * z.toInt64) + ((6151 : Int64) * (nI k).toInt64)) + ((331 : Int64) * (nI i).toInt64)) + (1 : Int64))), .second, z58]) rfl ?_
                    refine r_aload_n C dX7_springs_92 rfl ?_
                    refine r_get C hb59 (k := 0) rfl rfl celO_7 fw_X7_31 rfl dX7_springs_93 ?_
                    refine r_bipush C dX7_springs_96 (37 : Int32) (by decide) ?_
                    refine r_iload C dX7_springs_98 rfl ?_
                    refine r_iaddN C dX7_springs_100 (na := 37) (nb := i) rfl rfl (nc := (37 + i)) rfl ?_
                    refine r_iald C hb59 (k := 8) rfl rfl (vp_in_n rfl (by omega) (by omega)) (j := (37 + i)) (cl_n rfl (by omega)) dX7_springs_101 ?_
                    refine r_lload C dX7_springs_102 rfl ?_
                    refine r_lload C dX7_springs_104 rfl ?_
                    refine r_lmul C dX7_springs_106 ?_
                    refine r_ldc2 C dX7_springs_107 (v := 65521) (wd_of 968 (by decide +kernel) (by decide +kernel)) ?_
                    refine r_lrem C dX7_springs_110 (by decide) ?_
                    refine r_ldc2 C dX7_springs_111 (v := 8) (wd_of 969 (by decide +kernel) (by decide +kernel)) ?_
                    refine r_ldiv C dX7_springs_114 (by decide) ?_
                    refine r_ldc2 C dX7_springs_115 (v := 5) (wd_of 970 (by decide +kernel) (by decide +kernel)) ?_
                    refine r_lrem C dX7_springs_118 (by decide) ?_
                    refine r_l2i C dX7_springs_119 ?_
                    refine r_iadd C dX7_springs_120 ?_
                    refine r_topi (fun y69 hy69 => ?_)
                    refine r_istore C dX7_springs_121 (ls' := [.val (.ref o_m), .val (.int z), .val (.int n), .val (.int what), .val (.int (nI k)), .val (.int (nI i)), .val (.long (((((7919 : Int64) * z.toInt64) + ((6151 : Int64) * (nI k).toInt64)) + ((331 : Int64) * (nI i).toInt64)) + (1 : Int64))), .second, .val (.int y69)]) rfl hz58 rfl ?_
                    refine r_aload_n C dX7_springs_123 rfl ?_
                    refine r_get C hb59 (k := 0) rfl rfl celO_7 fw_X7_31 rfl dX7_springs_124 ?_
                    refine r_bipush C dX7_springs_127 (43 : Int32) (by decide) ?_
                    refine r_iload C dX7_springs_129 rfl ?_
                    refine r_iaddN C dX7_springs_131 (na := 43) (nb := i) rfl rfl (nc := (43 + i)) rfl ?_
                    refine r_iald C hb59 (k := 8) rfl rfl (vp_in_n rfl (by omega) (by omega)) (j := (43 + i)) (cl_n rfl (by omega)) dX7_springs_132 ?_
                    refine r_if_ne C dX7_springs_133 (fun c70 => ?_) (fun c70 => ?_)
                    · skip
                      refine r_iinc C dX7_springs_160 (nI (i + 1)) rfl (nI_inc i rfl) (ls' := [.val (.ref o_m), .val (.int z), .val (.int n), .val (.int what), .val (.int (nI k)), .val (.int (nI (i + 1))), .val (.long (((((7919 : Int64) * z.toInt64) + ((6151 : Int64) * (nI k).toInt64)) + ((331 : Int64) * (nI i).toInt64)) + (1 : Int64))), .second, .val (.int y69)]) rfl ?_
                      refine r_goto C dX7_springs_163 ?_
                      have e71 : s55 = d_X7_springs_L57 z k n53 R2 (i + 1) := by rw [hs55, d_X7_springs_L57]; try exact (if_neg c65).trans ((lt_eq hy69).trans ((if_neg c70).trans (rfl)))
                      exact ih54 R2 (i + 1) _ (.val (.long (((((7919 : Int64) * z.toInt64) + ((6151 : Int64) * (nI k).toInt64)) + ((331 : Int64) * (nI i).toInt64)) + (1 : Int64)))) .second (Or.inr ⟨_, rfl, rfl⟩) (.val (.int y69)) rfl trivial i10_R2 i11_R2 (by omega) (by omega) hb59 s55 e71  kx56
                    · skip
                      refine r_aload_n C dX7_springs_136 rfl ?_
                      refine r_get C hb59 (k := 0) rfl rfl celO_7 fw_X7_31 rfl dX7_springs_137 ?_
                      refine r_bipush C dX7_springs_140 (37 : Int32) (by decide) ?_
                      refine r_iload C dX7_springs_142 rfl ?_
                      refine r_iaddN C dX7_springs_144 (na := 37) (nb := i) rfl rfl (nc := (37 + i)) rfl ?_
                      refine r_iload C dX7_springs_145 rfl ?_
                      refine r_bipush C dX7_springs_147 (99 : Int32) (by decide) ?_
                      refine r_ic_le C dX7_springs_149 (fun c72 => ?_) (fun c72 => ?_)
                      · skip
                        refine r_iload C dX7_springs_157 rfl ?_
                        refine r_iast C hb59 (k := 8) rfl rfl (by unfold fp1; omega) (vp_in_n rfl (by omega) (by omega)) (j := (37 + i)) (cl_n rfl (by omega)) dX7_springs_159 (fun H73 hb75 hq74 => ?_)
                        refine r_iinc C dX7_springs_160 (nI (i + 1)) rfl (nI_inc i rfl) (ls' := [.val (.ref o_m), .val (.int z), .val (.int n), .val (.int what), .val (.int (nI k)), .val (.int (nI (i + 1))), .val (.long (((((7919 : Int64) * z.toInt64) + ((6151 : Int64) * (nI k).toInt64)) + ((331 : Int64) * (nI i).toInt64)) + (1 : Int64))), .second, .val (.int y69)]) rfl ?_
                        refine r_goto C dX7_springs_163 ?_
                        have e76 : s55 = d_X7_springs_L57 z k n53 (pt R2 8 (37 + i) y69) (i + 1) := by rw [hs55, d_X7_springs_L57]; try exact (if_neg c65).trans ((lt_eq hy69).trans ((if_pos c70).trans ((if_pos c72).trans (rfl))))
                        exact ih54 (pt R2 8 (37 + i) y69) (i + 1) _ (.val (.long (((((7919 : Int64) * z.toInt64) + ((6151 : Int64) * (nI k).toInt64)) + ((331 : Int64) * (nI i).toInt64)) + (1 : Int64)))) .second (Or.inr ⟨_, rfl, rfl⟩) (.val (.int y69)) rfl trivial i10_R2 i11_R2 (by omega) (by omega) hb75 s55 e76  kx56
                      · skip
                        refine r_bipush C dX7_springs_152 (99 : Int32) (by decide) ?_
                        refine r_goto C dX7_springs_154 ?_
                        refine r_iast C hb59 (k := 8) rfl rfl (by unfold fp1; omega) (vp_in_n rfl (by omega) (by omega)) (j := (37 + i)) (cl_n rfl (by omega)) dX7_springs_159 (fun H77 hb79 hq78 => ?_)
                        refine r_iinc C dX7_springs_160 (nI (i + 1)) rfl (nI_inc i rfl) (ls' := [.val (.ref o_m), .val (.int z), .val (.int n), .val (.int what), .val (.int (nI k)), .val (.int (nI (i + 1))), .val (.long (((((7919 : Int64) * z.toInt64) + ((6151 : Int64) * (nI k).toInt64)) + ((331 : Int64) * (nI i).toInt64)) + (1 : Int64))), .second, .val (.int y69)]) rfl ?_
                        refine r_goto C dX7_springs_163 ?_
                        have e80 : s55 = d_X7_springs_L57 z k n53 (pt R2 8 (37 + i) (99 : Int32)) (i + 1) := by rw [hs55, d_X7_springs_L57]; try exact (if_neg c65).trans ((lt_eq hy69).trans ((if_pos c70).trans ((if_neg c72).trans (rfl))))
                        exact ih54 (pt R2 8 (37 + i) (99 : Int32)) (i + 1) _ (.val (.long (((((7919 : Int64) * z.toInt64) + ((6151 : Int64) * (nI k).toInt64)) + ((331 : Int64) * (nI i).toInt64)) + (1 : Int64)))) .second (Or.inr ⟨_, rfl, rfl⟩) (.val (.int y69)) rfl trivial i10_R2 i11_R2 (by omega) (by omega) hb79 s55 e80  kx56
              obtain ⟨s81, hs81⟩ : ∃ r, r = d_X7_springs_L57 z k 4 R 0 := ⟨_, rfl⟩
              refine d_X7_springs_L57_w 4 R 0 _ z40 z40b hz40 z41 hz41 trivial i10_R i11_R (by omega) (by omega) hb42 s81 hs81  (fun H83 z61 hz61 z62 z62b hz62 z63 hz63 e86 p84 p85 hb82 => ?_)
              refine r_aload_n C dX7_springs_166 rfl ?_
              refine r_aload_n C dX7_springs_167 rfl ?_
              refine r_get C hb82 (k := 0) rfl rfl celO_7 fw_X7_31 rfl dX7_springs_168 ?_
              obtain ⟨u87, hu87⟩ : ∃ r, r = d_X7_spring (shf s81 0) (shf s81 5) (shf s81 8) := ⟨_, rfl⟩
              refine r_callV0 C cw_X7_134 (fun l => c_X7_spring l D o_m (o_m + 8) (shf s81 0) (shf s81 5) (shf s81 8) (nnat (a := (R_m 0 10).toNatClampNeg) (p84.trans h10) (by omega)) (show (s81 0 10).toNatClampNeg ≤ 6 by rw [cl_n (n := (R_m 0 10).toNatClampNeg) (p84.trans h10) (by omega)]; omega) (nnat (a := (R_m 0 11).toNatClampNeg) (p85.trans h11) (by omega)) (show (s81 0 11).toNatClampNeg ≤ 3 by rw [cl_n (n := (R_m 0 11).toNatClampNeg) (p85.trans h11) (by omega)]; omega) (by omega) (by omega) u87 hu87) (rest := []) hb82 (k := 0) rfl rfl celO_7 ⟨(blk_sub hb82 0 1 rfl rfl), (blk_sub hb82 5 1 rfl rfl), (blk_sub hb82 8 1 rfl rfl)⟩ (fun q h => by unfold fp1 at h; unfold fp1; omega) rfl rfl rfl (Nat.le_of_ble_eq_true rfl) ⟨Nat.le_of_ble_eq_true rfl, Nat.le_of_ble_eq_true rfl, Nat.le_refl 0, Nat.le_refl 0⟩ dX7_springs_171 (fun v H88 hp89 hq90 => ?_)
              obtain ⟨rfl, hn91⟩ := hp89
              have hb92 := blk_spl hb82 8 1 rfl rfl hn91 (fun q h => hq90 q (by unfold fp1; omega))
              dsimp only [psh]
              refine r_iinc C dX7_springs_174 (nI (k + 1)) rfl (nI_inc k rfl) (ls' := [.val (.ref o_m), .val (.int z), .val (.int n), .val (.int what), .val (.int (nI (k + 1))), z61, z62, z62b, z63]) rfl ?_
              refine r_goto C dX7_springs_177 ?_
              have e93 : s37 = d_X7_springs_L48 z n n35 (spl s81 8 1 u87) (k + 1) := by rw [hs37, d_X7_springs_L48]; try exact (if_neg c49).trans ((lt_eq hs81).trans ((lt_eq hu87).trans (rfl)))
              exact ih36 (spl s81 8 1 u87) (k + 1) _ z61 hz61 z62 z62b hz62 z63 hz63 trivial p84 p85 (by omega) (by omega) hb92 s37 e93  kx38
        obtain ⟨s94, hs94⟩ : ∃ r, r = d_X7_springs_L48 z n 31 (spl R_m 8 1 u29) 0 := ⟨_, rfl⟩
        refine d_X7_springs_L48_w 31 (spl R_m 8 1 u29) 0 _ .unset trivial .unset .unset (Or.inl ⟨rfl, rfl⟩) .unset trivial trivial rfl rfl (by omega) (by omega) hb34 s94 hs94  (fun H96 z44 hz44 z45 hz45 z46 z46b hz46 z47 hz47 e99 p97 p98 hb95 => ?_)
        refine r_iload_n C dX7_springs_180 rfl ?_
        refine r_if_ne C dX7_springs_181 (fun c100 => ?_) (fun c100 => ?_)
        · skip
          have f101 : ¬ (what.toNatClampNeg = 0) := nf_eqn (by omega) (by omega) hn27 rfl c100
          refine r_aload_n C dX7_springs_195 rfl ?_
          refine r_aload_n C dX7_springs_196 rfl ?_
          refine r_get C hb95 (k := 0) rfl rfl celO_7 fw_X7_31 rfl dX7_springs_197 ?_
          obtain ⟨u102, hu102⟩ : ∃ r, r = d_X7_silverOf (shf s94 0) (shf s94 8) := ⟨_, rfl⟩
          refine r_callV0 C cw_X7_172 (fun l => c_X7_silverOf l D o_m (o_m + 8) (shf s94 0) (shf s94 8) (nnat (a := (R_m 0 10).toNatClampNeg) (p97.trans h10) (by omega)) (show (s94 0 10).toNatClampNeg ≤ 6 by rw [cl_n (n := (R_m 0 10).toNatClampNeg) (p97.trans h10) (by omega)]; omega) u102 hu102) (rest := []) hb95 (k := 0) rfl rfl celO_7 ⟨(blk_sub hb95 0 1 rfl rfl), (blk_sub hb95 8 1 rfl rfl)⟩ (fun q h => h.elim) rfl rfl rfl (Nat.le_of_ble_eq_true rfl) ⟨Nat.le_of_ble_eq_true rfl, Nat.le_of_ble_eq_true rfl, Nat.le_refl 0, Nat.le_refl 0⟩ dX7_springs_200 (fun v H103 hp104 hq105 => ?_)
          subst hp104
          have hb106 := blk_kept hb95 (n := 14) rfl (fun q h1 h2 => hq105 q (fun h => h))
          dsimp only [psh]
          refine r_iret C dX7_springs_203 ?_
          have er : res = (u102, s94) := by rw [hres, d_X7_springs]; try exact (lt_eq hu1).trans ((if_neg c7).trans ((lt_eq hu10).trans ((if_neg c16).trans ((lt_eq hu20).trans ((if_neg c26).trans ((lt_eq hu29).trans ((lt_eq hs94).trans ((if_neg c100).trans ((lt_eq hu102).trans (rfl))))))))))
          rw [er]
          exact ⟨rfl, hb106⟩
        · skip
          have f107 : (what.toNatClampNeg = 0) := nf_eq (by omega) (by omega) hn27 rfl c100
          refine r_aload_n C dX7_springs_184 rfl ?_
          refine r_aload_n C dX7_springs_185 rfl ?_
          refine r_get C hb95 (k := 0) rfl rfl celO_7 fw_X7_31 rfl dX7_springs_186 ?_
          obtain ⟨u108, hu108⟩ : ∃ r, r = d_X7_burntOf (shf s94 0) (shf s94 8) := ⟨_, rfl⟩
          refine r_callV0 C cw_X7_168 (fun l => c_X7_burntOf l D o_m (o_m + 8) (shf s94 0) (shf s94 8) (nnat (a := (R_m 0 10).toNatClampNeg) (p97.trans h10) (by omega)) (show (s94 0 10).toNatClampNeg ≤ 6 by rw [cl_n (n := (R_m 0 10).toNatClampNeg) (p97.trans h10) (by omega)]; omega) u108 hu108) (rest := []) hb95 (k := 0) rfl rfl celO_7 ⟨(blk_sub hb95 0 1 rfl rfl), (blk_sub hb95 8 1 rfl rfl)⟩ (fun q h => h.elim) rfl rfl rfl (Nat.le_of_ble_eq_true rfl) ⟨Nat.le_of_ble_eq_true rfl, Nat.le_of_ble_eq_true rfl, Nat.le_refl 0, Nat.le_refl 0⟩ dX7_springs_189 (fun v H109 hp110 hq111 => ?_)
          subst hp110
          have hb112 := blk_kept hb95 (n := 14) rfl (fun q h1 h2 => hq111 q (fun h => h))
          dsimp only [psh]
          refine r_goto C dX7_springs_192 ?_
          refine r_iret C dX7_springs_203 ?_
          have er : res = (u108, s94) := by rw [hres, d_X7_springs]; try exact (lt_eq hu1).trans ((if_neg c7).trans ((lt_eq hu10).trans ((if_neg c16).trans ((lt_eq hu20).trans ((if_neg c26).trans ((lt_eq hu29).trans ((lt_eq hs94).trans ((if_pos c100).trans ((lt_eq hu108).trans (rfl))))))))))
          rw [er]
          exact ⟨rfl, hb112⟩
      · skip
        refine r_iconst C dX7_springs_30 (-1 : Int32) (by decide) ?_
        refine r_iret C dX7_springs_31 ?_
        have er : res = ((-1 : Int32), R_m) := by rw [hres, d_X7_springs]; try exact (lt_eq hu1).trans ((if_neg c7).trans ((lt_eq hu10).trans ((if_neg c16).trans ((lt_eq hu20).trans ((if_pos c26).trans (rfl))))))
        rw [er]
        exact ⟨rfl, hb25⟩

def d_X7_together_L64 (R_m : Nat → Nat → Int32) (u : Nat) : Nat → Int32 → Nat → Int32
  | 0, sm, _ => sm
  | n36 + 1, sm, c =>
    if (R_m 0 11) ≤ (nI c) then
      sm
    else
      if (R_m 6 (43 + c)) = 0 then
        lt (d_X7_askOf (shf R_m 0) (shf R_m 5) (shf R_m 6) (nI c) (nI u)) fun u50 =>
        d_X7_together_L64 R_m u n36 (sm + u50) (c + 1)
      else
        d_X7_together_L64 R_m u n36 (sm + (0 : Int32)) (c + 1)
def d_X7_together_L27 (R_m : Nat → Nat → Int32) : Nat → Int32 → Int32 → Nat → Int32 × Int32
  | 0, all_, sum, _ => (all_, sum)
  | n19 + 1, all_, sum, u =>
    if (R_m 0 10) ≤ (nI u) then
      (all_, sum)
    else
      if (R_m 6 (25 + u)) = 0 then
        lt (d_X7_together_L64 R_m u 4 sum 0) fun s56 =>
        d_X7_together_L27 R_m n19 (nI (all_.toNatClampNeg + (R_m 6 (1 + u)).toNatClampNeg)) s56 (u + 1)
      else
        d_X7_together_L27 R_m n19 all_ sum (u + 1)
def d_X7_together_L159  : Nat → Int32 → Int32 → Int32
  | 0, a_, _ => a_
  | n71 + 1, a_, b_ =>
    if b_ ≤ 0 then
      a_
    else
      d_X7_together_L159  n71 b_ (a_ - a_ / b_ * b_)
def d_X7_together (R_m : Nat → Nat → Int32) (t : Int32) (part : Int32) : Int32 :=
  lt (d_X7_isTown (shf R_m 0) t) fun u1 =>
  if u1 = 0 then
    (-1 : Int32)
  else
    lt (d_X7_in part (0 : Int32) (1 : Int32)) fun u10 =>
    if u10 = 0 then
      (-1 : Int32)
    else
      lt (d_X7_together_L27 R_m 7 (0 : Int32) (0 : Int32) 0) fun s62 =>
      if s62.1 = 0 then
        (-4 : Int32)
      else
        if (R_m 6 (25 + t.toNatClampNeg)) = (1 : Int32) then
          (-4 : Int32)
        else
          lt (d_X7_together_L159 (s62.1.toInt.toNat + 1) (s62.2 * (R_m 6 (1 + t.toNatClampNeg))) s62.1) fun s84 =>
          if part = 0 then
            ((s62.2 * (R_m 6 (1 + t.toNatClampNeg))) / s84)
          else
            (s62.1 / s84)
set_option maxHeartbeats 4000000 in
set_option maxRecDepth 100000 in
theorem c_X7_together (l : Launch) (D : DD) (o_m : Nat) (R_m : Nat → Nat → Int32) (t : Int32) (part : Int32) (h10 : R_m 0 10 = nI (R_m 0 10).toNatClampNeg) (b10 : (R_m 0 10).toNatClampNeg ≤ 6) (h11 : R_m 0 11 = nI (R_m 0 11).toNatClampNeg) (b11 : (R_m 0 11).toNatClampNeg ≤ 3) (hsi : ∀ i, i < 6 → R_m 6 (1 + i) = nI (R_m 6 (1 + i)).toNatClampNeg ∧ (R_m 6 (1 + i)).toNatClampNeg ≤ 999) (res : Int32) (hres : res = d_X7_together R_m t part) : Mt l D yX7_together cX7_together 9 (some .int) 2 43 0 0 [.ref o_m, .int t, .int part] (fun H => blk D ksModel o_m R_m H) (fun v H => v = some (.int res)) fp0 := by
  refine mt_of (own := RX7) (ls := [.val (.ref o_m), .val (.int t), .val (.int part), .unset, .unset, .unset, .unset, .unset, .unset]) rfl (by decide +kernel) rfl ?_
  intro x H C hP
  have hb_m := hP
  refine r_aload_n C dX7_together_0 rfl ?_
  refine r_iload_n C dX7_together_1 rfl ?_
  obtain ⟨u1, hu1⟩ : ∃ r, r = d_X7_isTown (shf R_m 0) t := ⟨_, rfl⟩
  refine r_callV0 C cw_X7_113 (fun l => c_X7_isTown l D o_m (shf R_m 0) t u1 hu1) (rest := []) hb_m (k := 0) rfl rfl celO_7 (blk_sub hb_m 0 1 rfl rfl) (fun q h => h.elim) rfl rfl rfl (Nat.le_of_ble_eq_true rfl) ⟨Nat.le_of_ble_eq_true rfl, Nat.le_of_ble_eq_true rfl, Nat.le_refl 0, Nat.le_refl 0⟩ dX7_together_2 (fun v H2 hp3 hq4 => ?_)
  obtain ⟨rfl, hl5⟩ := hp3
  have hb6 := blk_kept hb_m (n := 14) rfl (fun q h1 h2 => hq4 q (fun h => h))
  dsimp only [psh]
  refine r_if_eq C dX7_together_5 (fun c7 => ?_) (fun c7 => ?_)
  · skip
    refine r_iconst C dX7_together_17 (-1 : Int32) (by decide) ?_
    refine r_iret C dX7_together_18 ?_
    have er : res = (-1 : Int32) := by rw [hres, d_X7_together]; try exact (lt_eq hu1).trans ((if_pos c7).trans (rfl))
    rw [er]
  · skip
    obtain ⟨hn8, hn9⟩ := X7_isTown_nat hu1 c7 h10 b10
    refine r_iload_n C dX7_together_8 rfl ?_
    refine r_iconst C dX7_together_9 (0 : Int32) (by decide) ?_
    refine r_iconst C dX7_together_10 (1 : Int32) (by decide) ?_
    obtain ⟨u10, hu10⟩ : ∃ r, r = d_X7_in part (0 : Int32) (1 : Int32) := ⟨_, rfl⟩
    refine r_callS0 C cw_X7_67 (fun l => c_X7_in l D part (0 : Int32) (1 : Int32) u10 hu10) (rest := []) trivial (fun q h => h.elim) rfl rfl rfl (Nat.le_of_ble_eq_true rfl) ⟨Nat.le_of_ble_eq_true rfl, Nat.le_of_ble_eq_true rfl, Nat.le_refl 0, Nat.le_refl 0⟩ dX7_together_11 (fun v H11 hp12 hq13 => ?_)
    obtain ⟨rfl, hl14⟩ := hp12
    have hb15 := blk_kept hb6 (n := 14) rfl (fun q h1 h2 => hq13 q (fun h => h))
    dsimp only [psh]
    refine r_if_ne C dX7_together_14 (fun c16 => ?_) (fun c16 => ?_)
    · skip
      obtain ⟨hn17, hn18⟩ := X7_in_nat (M := 1) hu10 c16 (by decide) rfl (by decide)
      refine r_iconst C dX7_together_19 (0 : Int32) (by decide) ?_
      refine r_istore_n C dX7_together_20 (ls' := [.val (.ref o_m), .val (.int t), .val (.int part), .val (.int (0 : Int32)), .unset, .unset, .unset, .unset, .unset]) rfl trivial rfl ?_
      refine r_iconst C dX7_together_21 (0 : Int32) (by decide) ?_
      refine r_istore C dX7_together_22 (ls' := [.val (.ref o_m), .val (.int t), .val (.int part), .val (.int (0 : Int32)), .val (.int (0 : Int32)), .unset, .unset, .unset, .unset]) rfl trivial rfl ?_
      refine r_iconst C dX7_together_24 (0 : Int32) (by decide) ?_
      refine r_istore C dX7_together_25 (ls' := [.val (.ref o_m), .val (.int t), .val (.int part), .val (.int (0 : Int32)), .val (.int (0 : Int32)), .val (.int (0 : Int32)), .unset, .unset, .unset]) rfl trivial rfl ?_
      have q23 := cl_n (x := (0 : Int32)) (n := 0) rfl (by omega)
      have d_X7_together_L27_w : ∀ (n19 : Nat) (all_ : Int32) (sum : Int32) (u : Nat) (H26 : Heap) (z24 : Slot) (_ : slot1 z24), True → (all_ = nI all_.toNatClampNeg) → (u ≤ (R_m 0 10).toNatClampNeg) → (all_.toNatClampNeg ≤ 999 * u) → (6 - u < n19) → blk D ksModel o_m R_m H26 → ∀ s21 : Int32 × Int32, s21 = d_X7_together_L27 R_m n19 all_ sum u → (∀ (H' : Heap) (z27 : Slot) (_ : slot1 z27) (z28 : Slot) (_ : slot1 z28), True → (s21.1 = nI (s21.1).toNatClampNeg ∧ (s21.1).toNatClampNeg ≤ 6000) → blk D ksModel o_m R_m H' → WG x fp0 (Fin x (fun v H => v = some (.int res)) fp0 0 0) H' 0 0 119 [.val (.ref o_m), .val (.int t), .val (.int part), .val (.int s21.1), .val (.int s21.2), z27, z28, .unset, .unset] []) → WG x fp0 (Fin x (fun v H => v = some (.int res)) fp0 0 0) H26 0 0 27 [.val (.ref o_m), .val (.int t), .val (.int part), .val (.int all_), .val (.int sum), .val (.int (nI u)), z24, .unset, .unset] [] := by
        intro n19
        induction n19 with
        | zero => intro all_ sum u H26 z24 hz24 _ hn_all_ hu hal hm29; exact absurd hm29 (Nat.not_lt_zero _)
        | succ n19 ih20 =>
          intro all_ sum u H26 z24 hz24 _ hn_all_ hu hal hm29 hb25 s21 hs21  kx22
          refine r_iload C dX7_together_27 rfl ?_
          refine r_aload_n C dX7_together_29 rfl ?_
          refine r_get C hb25 (k := 0) rfl rfl celO_7 fw_X7_49 (z := .int (R_m 0 10)) rfl dX7_together_30 ?_
          refine r_ic_ge C dX7_together_33 (fun c30 => ?_) (fun c30 => ?_)
          · skip
            have f31 : ((R_m 0 10).toNatClampNeg ≤ u) := nf_leI (by omega) (by omega) h10 rfl c30
            have e32 : s21 = (all_, sum) := by rw [hs21, d_X7_together_L27]; try exact (if_pos c30).trans (rfl)
            rw [e32] at kx22
            exact kx22 _ (.val (.int (nI u))) rfl z24 hz24 trivial ⟨hn_all_, (show all_.toNatClampNeg ≤ 6000 by omega)⟩ hb25
          · skip
            have f33 : ¬ ((R_m 0 10).toNatClampNeg ≤ u) := nf_leIn (by omega) (by omega) h10 rfl c30
            refine r_aload_n C dX7_together_36 rfl ?_
            refine r_get C hb25 (k := 0) rfl rfl celO_7 fw_X7_25 rfl dX7_together_37 ?_
            refine r_bipush C dX7_together_40 (25 : Int32) (by decide) ?_
            refine r_iload C dX7_together_42 rfl ?_
            refine r_iaddN C dX7_together_44 (na := 25) (nb := u) rfl rfl (nc := (25 + u)) rfl ?_
            refine r_iald C hb25 (k := 6) rfl rfl (vp_in_n rfl (by omega) (by omega)) (j := (25 + u)) (cl_n rfl (by omega)) dX7_together_45 ?_
            refine r_if_ne C dX7_together_46 (fun c34 => ?_) (fun c34 => ?_)
            · skip
              refine r_iinc C dX7_together_113 (nI (u + 1)) rfl (nI_inc u rfl) (ls' := [.val (.ref o_m), .val (.int t), .val (.int part), .val (.int all_), .val (.int sum), .val (.int (nI (u + 1))), z24, .unset, .unset]) rfl ?_
              refine r_goto C dX7_together_116 ?_
              have e35 : s21 = d_X7_together_L27 R_m n19 all_ sum (u + 1) := by rw [hs21, d_X7_together_L27]; try exact (if_neg c30).trans ((if_neg c34).trans (rfl))
              exact ih20 all_ sum (u + 1) _ z24 hz24 trivial hn_all_ (by omega) (by omega) (by omega) hb25 s21 e35  kx22
            · skip
              refine r_iload_n C dX7_together_49 rfl ?_
              refine r_aload_n C dX7_together_50 rfl ?_
              refine r_get C hb25 (k := 0) rfl rfl celO_7 fw_X7_25 rfl dX7_together_51 ?_
              refine r_iconst C dX7_together_54 (1 : Int32) (by decide) ?_
              refine r_iload C dX7_together_55 rfl ?_
              refine r_iaddN C dX7_together_57 (na := 1) (nb := u) rfl rfl (nc := (1 + u)) rfl ?_
              refine r_iald C hb25 (k := 6) rfl rfl (vp_in_n rfl (by omega) (by omega)) (j := (1 + u)) (cl_n rfl (by omega)) dX7_together_58 ?_
              obtain ⟨hsy, hsz⟩ := hsi u (by omega)
              refine r_iaddN C dX7_together_59 (na := all_.toNatClampNeg) (nb := (R_m 6 (1 + u)).toNatClampNeg) hn_all_ hsy (nc := (all_.toNatClampNeg + (R_m 6 (1 + u)).toNatClampNeg)) rfl ?_
              refine r_istore_n C dX7_together_60 (ls' := [.val (.ref o_m), .val (.int t), .val (.int part), .val (.int (nI (all_.toNatClampNeg + (R_m 6 (1 + u)).toNatClampNeg))), .val (.int sum), .val (.int (nI u)), z24, .unset, .unset]) rfl rfl rfl ?_
              refine r_iconst C dX7_together_61 (0 : Int32) (by decide) ?_
              refine r_istore C dX7_together_62 (ls' := [.val (.ref o_m), .val (.int t), .val (.int part), .val (.int (nI (all_.toNatClampNeg + (R_m 6 (1 + u)).toNatClampNeg))), .val (.int sum), .val (.int (nI u)), .val (.int (0 : Int32)), .unset, .unset]) rfl hz24 rfl ?_
              have d_X7_together_L64_w : ∀ (n36 : Nat) (sm : Int32) (c : Nat) (H41 : Heap), True → (c ≤ (R_m 0 11).toNatClampNeg) → (3 - c < n36) → blk D ksModel o_m R_m H41 → ∀ s38 : Int32, s38 = d_X7_together_L64 R_m u n36 sm c → (∀ (H' : Heap) (z42 : Slot) (_ : slot1 z42), True → blk D ksModel o_m R_m H' → WG x fp0 (Fin x (fun v H => v = some (.int res)) fp0 0 0) H' 0 0 113 [.val (.ref o_m), .val (.int t), .val (.int part), .val (.int (nI (all_.toNatClampNeg + (R_m 6 (1 + u)).toNatClampNeg))), .val (.int s38), .val (.int (nI u)), z42, .unset, .unset] []) → WG x fp0 (Fin x (fun v H => v = some (.int res)) fp0 0 0) H41 0 0 64 [.val (.ref o_m), .val (.int t), .val (.int part), .val (.int (nI (all_.toNatClampNeg + (R_m 6 (1 + u)).toNatClampNeg))), .val (.int sm), .val (.int (nI u)), .val (.int (nI c)), .unset, .unset] [] := by
                intro n36
                induction n36 with
                | zero => intro sm c H41  _ hc hm43; exact absurd hm43 (Nat.not_lt_zero _)
                | succ n36 ih37 =>
                  intro sm c H41  _ hc hm43 hb40 s38 hs38  kx39
                  refine r_iload C dX7_together_64 rfl ?_
                  refine r_aload_n C dX7_together_66 rfl ?_
                  refine r_get C hb40 (k := 0) rfl rfl celO_7 fw_X7_53 (z := .int (R_m 0 11)) rfl dX7_together_67 ?_
                  refine r_ic_ge C dX7_together_70 (fun c44 => ?_) (fun c44 => ?_)
                  · skip
                    have f45 : ((R_m 0 11).toNatClampNeg ≤ c) := nf_leI (by omega) (by omega) h11 rfl c44
                    have e46 : s38 = sm := by rw [hs38, d_X7_together_L64]; try exact (if_pos c44).trans (rfl)
                    rw [e46] at kx39
                    exact kx39 _ (.val (.int (nI c))) rfl trivial  hb40
                  · skip
                    have f47 : ¬ ((R_m 0 11).toNatClampNeg ≤ c) := nf_leIn (by omega) (by omega) h11 rfl c44
                    refine r_iload C dX7_together_73 rfl ?_
                    refine r_aload_n C dX7_together_75 rfl ?_
                    refine r_get C hb40 (k := 0) rfl rfl celO_7 fw_X7_25 rfl dX7_together_76 ?_
                    refine r_bipush C dX7_together_79 (43 : Int32) (by decide) ?_
                    refine r_iload C dX7_together_81 rfl ?_
                    refine r_iaddN C dX7_together_83 (na := 43) (nb := c) rfl rfl (nc := (43 + c)) rfl ?_
                    refine r_iald C hb40 (k := 6) rfl rfl (vp_in_n rfl (by omega) (by omega)) (j := (43 + c)) (cl_n rfl (by omega)) dX7_together_84 ?_
                    refine r_if_ne C dX7_together_85 (fun c48 => ?_) (fun c48 => ?_)
                    · skip
                      refine r_iconst C dX7_together_103 (0 : Int32) (by decide) ?_
                      refine r_iadd C dX7_together_104 ?_
                      refine r_istore C dX7_together_105 (ls' := [.val (.ref o_m), .val (.int t), .val (.int part), .val (.int (nI (all_.toNatClampNeg + (R_m 6 (1 + u)).toNatClampNeg))), .val (.int (sm + (0 : Int32))), .val (.int (nI u)), .val (.int (nI c)), .unset, .unset]) rfl rfl rfl ?_
                      refine r_iinc C dX7_together_107 (nI (c + 1)) rfl (nI_inc c rfl) (ls' := [.val (.ref o_m), .val (.int t), .val (.int part), .val (.int (nI (all_.toNatClampNeg + (R_m 6 (1 + u)).toNatClampNeg))), .val (.int (sm + (0 : Int32))), .val (.int (nI u)), .val (.int (nI (c + 1))), .unset, .unset]) rfl ?_
                      refine r_goto C dX7_together_110 ?_
                      have e49 : s38 = d_X7_together_L64 R_m u n36 (sm + (0 : Int32)) (c + 1) := by rw [hs38, d_X7_together_L64]; try exact (if_neg c44).trans ((if_neg c48).trans (rfl))
                      exact ih37 (sm + (0 : Int32)) (c + 1) _  trivial (by omega) (by omega) hb40 s38 e49  kx39
                    · skip
                      refine r_aload_n C dX7_together_88 rfl ?_
                      refine r_aload_n C dX7_together_89 rfl ?_
                      refine r_get C hb40 (k := 0) rfl rfl celO_7 fw_X7_25 rfl dX7_together_90 ?_
                      refine r_iload C dX7_together_93 rfl ?_
                      refine r_iload C dX7_together_95 rfl ?_
                      obtain ⟨u50, hu50⟩ : ∃ r, r = d_X7_askOf (shf R_m 0) (shf R_m 5) (shf R_m 6) (nI c) (nI u) := ⟨_, rfl⟩
                      refine r_callV0 C cw_X7_119 (fun l => c_X7_askOf l D o_m (o_m + 6) (shf R_m 0) (shf R_m 5) (shf R_m 6) (nI c) (nI u) (nnat (a := c) rfl (by omega)) (by have q0 := cl_n (x := (nI c)) (n := c) rfl (by omega); omega) (nnat (a := u) rfl (by omega)) (by have q0 := cl_n (x := (nI u)) (n := u) rfl (by omega); omega) u50 hu50) (rest := [.int sm]) hb40 (k := 0) rfl rfl celO_7 ⟨(blk_sub hb40 0 1 rfl rfl), (blk_sub hb40 5 1 rfl rfl), (blk_sub hb40 6 1 rfl rfl)⟩ (fun q h => h.elim) rfl rfl rfl (Nat.le_of_ble_eq_true rfl) ⟨Nat.le_of_ble_eq_true rfl, Nat.le_of_ble_eq_true rfl, Nat.le_refl 0, Nat.le_refl 0⟩ dX7_together_97 (fun v H51 hp52 hq53 => ?_)
                      subst hp52
                      have hb54 := blk_kept hb40 (n := 14) rfl (fun q h1 h2 => hq53 q (fun h => h))
                      dsimp only [psh]
                      refine r_goto C dX7_together_100 ?_
                      refine r_iadd C dX7_together_104 ?_
                      refine r_istore C dX7_together_105 (ls' := [.val (.ref o_m), .val (.int t), .val (.int part), .val (.int (nI (all_.toNatClampNeg + (R_m 6 (1 + u)).toNatClampNeg))), .val (.int (sm + u50)), .val (.int (nI u)), .val (.int (nI c)), .unset, .unset]) rfl rfl rfl ?_
                      refine r_iinc C dX7_together_107 (nI (c + 1)) rfl (nI_inc c rfl) (ls' := [.val (.ref o_m), .val (.int t), .val (.int part), .val (.int (nI (all_.toNatClampNeg + (R_m 6 (1 + u)).toNatClampNeg))), .val (.int (sm + u50)), .val (.int (nI u)), .val (.int (nI (c + 1))), .unset, .unset]) rfl ?_
                      refine r_goto C dX7_together_110 ?_
                      have e55 : s38 = d_X7_together_L64 R_m u n36 (sm + u50) (c + 1) := by rw [hs38, d_X7_together_L64]; try exact (if_neg c44).trans ((if_pos c48).trans ((lt_eq hu50).trans (rfl)))
                      exact ih37 (sm + u50) (c + 1) _  trivial (by omega) (by omega) hb54 s38 e55  kx39
              obtain ⟨s56, hs56⟩ : ∃ r, r = d_X7_together_L64 R_m u 4 sum 0 := ⟨_, rfl⟩
              refine d_X7_together_L64_w 4 sum 0 _  trivial (by omega) (by omega) hb25 s56 hs56  (fun H58 z42 hz42 e59  hb57 => ?_)
              refine r_iinc C dX7_together_113 (nI (u + 1)) rfl (nI_inc u rfl) (ls' := [.val (.ref o_m), .val (.int t), .val (.int part), .val (.int (nI (all_.toNatClampNeg + (R_m 6 (1 + u)).toNatClampNeg))), .val (.int s56), .val (.int (nI (u + 1))), z42, .unset, .unset]) rfl ?_
              refine r_goto C dX7_together_116 ?_
              have q60 := cl_n (x := (nI (all_.toNatClampNeg + (R_m 6 (1 + u)).toNatClampNeg))) (n := (all_.toNatClampNeg + (R_m 6 (1 + u)).toNatClampNeg)) rfl (by omega)
              have e61 : s21 = d_X7_together_L27 R_m n19 (nI (all_.toNatClampNeg + (R_m 6 (1 + u)).toNatClampNeg)) s56 (u + 1) := by rw [hs21, d_X7_together_L27]; try exact (if_neg c30).trans ((if_pos c34).trans ((lt_eq hs56).trans (rfl)))
              exact ih20 (nI (all_.toNatClampNeg + (R_m 6 (1 + u)).toNatClampNeg)) s56 (u + 1) _ z42 hz42 trivial (nnat (a := (all_.toNatClampNeg + (R_m 6 (1 + u)).toNatClampNeg)) rfl (by omega)) (by omega) (by omega) (by omega) hb57 s21 e61  kx22
      obtain ⟨s62, hs62⟩ : ∃ r, r = d_X7_together_L27 R_m 7 (0 : Int32) (0 : Int32) 0 := ⟨_, rfl⟩
      refine d_X7_together_L27_w 7 (0 : Int32) (0 : Int32) 0 _ .unset trivial trivial (nnat (a := 0) rfl (by omega)) (by omega) (by omega) (by omega) hb15 s62 hs62  (fun H64 z27 hz27 z28 hz28 e66 p65 hb63 => ?_)
      obtain ⟨hal1, hal2⟩ := p65
      refine r_iload_n C dX7_together_119 rfl ?_
      refine r_if_eq C dX7_together_120 (fun c67 => ?_) (fun c67 => ?_)
      · skip
        have f68 : (s62.1.toNatClampNeg = 0) := nf_eq (by omega) (by omega) hal1 rfl c67
        refine r_bipush C dX7_together_136 (-4 : Int32) (by decide) ?_
        refine r_iret C dX7_together_138 ?_
        have er : res = (-4 : Int32) := by rw [hres, d_X7_together]; try exact (lt_eq hu1).trans ((if_neg c7).trans ((lt_eq hu10).trans ((if_neg c16).trans ((lt_eq hs62).trans ((if_pos c67).trans (rfl))))))
        rw [er]
      · skip
        have f69 : ¬ (s62.1.toNatClampNeg = 0) := nf_eqn (by omega) (by omega) hal1 rfl c67
        refine r_aload_n C dX7_together_123 rfl ?_
        refine r_get C hb63 (k := 0) rfl rfl celO_7 fw_X7_25 rfl dX7_together_124 ?_
        refine r_bipush C dX7_together_127 (25 : Int32) (by decide) ?_
        refine r_iload_n C dX7_together_129 rfl ?_
        refine r_iaddN C dX7_together_130 (na := 25) (nb := t.toNatClampNeg) rfl hn8 (nc := (25 + t.toNatClampNeg)) rfl ?_
        refine r_iald C hb63 (k := 6) rfl rfl (vp_in_n rfl (by omega) (by omega)) (j := (25 + t.toNatClampNeg)) (cl_n rfl (by omega)) dX7_together_131 ?_
        refine r_iconst C dX7_together_132 (1 : Int32) (by decide) ?_
        refine r_ic_ne C dX7_together_133 (fun c70 => ?_) (fun c70 => ?_)
        · skip
          refine r_iload C dX7_together_139 rfl ?_
          refine r_aload_n C dX7_together_141 rfl ?_
          refine r_get C hb63 (k := 0) rfl rfl celO_7 fw_X7_25 rfl dX7_together_142 ?_
          refine r_iconst C dX7_together_145 (1 : Int32) (by decide) ?_
          refine r_iload_n C dX7_together_146 rfl ?_
          refine r_iaddN C dX7_together_147 (na := 1) (nb := t.toNatClampNeg) rfl hn8 (nc := (1 + t.toNatClampNeg)) rfl ?_
          refine r_iald C hb63 (k := 6) rfl rfl (vp_in_n rfl (by omega) (by omega)) (j := (1 + t.toNatClampNeg)) (cl_n rfl (by omega)) dX7_together_148 ?_
          refine r_imul C dX7_together_149 ?_
          refine r_istore C dX7_together_150 (ls' := [.val (.ref o_m), .val (.int t), .val (.int part), .val (.int s62.1), .val (.int s62.2), .val (.int (s62.2 * (R_m 6 (1 + t.toNatClampNeg)))), z28, .unset, .unset]) rfl hz27 rfl ?_
          refine r_iload C dX7_together_152 rfl ?_
          refine r_istore C dX7_together_154 (ls' := [.val (.ref o_m), .val (.int t), .val (.int part), .val (.int s62.1), .val (.int s62.2), .val (.int (s62.2 * (R_m 6 (1 + t.toNatClampNeg)))), .val (.int (s62.2 * (R_m 6 (1 + t.toNatClampNeg)))), .unset, .unset]) rfl hz28 rfl ?_
          refine r_iload_n C dX7_together_156 rfl ?_
          refine r_istore C dX7_together_157 (ls' := [.val (.ref o_m), .val (.int t), .val (.int part), .val (.int s62.1), .val (.int s62.2), .val (.int (s62.2 * (R_m 6 (1 + t.toNatClampNeg)))), .val (.int (s62.2 * (R_m 6 (1 + t.toNatClampNeg)))), .val (.int s62.1), .unset]) rfl trivial rfl ?_
          have d_X7_together_L159_w : ∀ (n71 : Nat) (a_ : Int32) (b_ : Int32) (H77 : Heap) (z75 : Slot) (_ : slot1 z75), True → (¬ b_ ≤ 0 ∨ ¬ a_ = 0) → (b_.toInt.toNat < n71) → blk D ksModel o_m R_m H77 → ∀ s73 : Int32, s73 = d_X7_together_L159  n71 a_ b_ → (∀ (H' : Heap) (z78 : Slot) (_ : slot1 z78) (z79 : Slot) (_ : slot1 z79), True → (¬ s73 = 0) → blk D ksModel o_m R_m H' → WG x fp0 (Fin x (fun v H => v = some (.int res)) fp0 0 0) H' 0 0 182 [.val (.ref o_m), .val (.int t), .val (.int part), .val (.int s62.1), .val (.int s62.2), .val (.int (s62.2 * (R_m 6 (1 + t.toNatClampNeg)))), .val (.int s73), z78, z79] []) → WG x fp0 (Fin x (fun v H => v = some (.int res)) fp0 0 0) H77 0 0 159 [.val (.ref o_m), .val (.int t), .val (.int part), .val (.int s62.1), .val (.int s62.2), .val (.int (s62.2 * (R_m 6 (1 + t.toNatClampNeg)))), .val (.int a_), .val (.int b_), z75] [] := by
            intro n71
            induction n71 with
            | zero => intro a_ b_ H77 z75 hz75 _ hab hm80; exact absurd hm80 (Nat.not_lt_zero _)
            | succ n71 ih72 =>
              intro a_ b_ H77 z75 hz75 _ hab hm80 hb76 s73 hs73  kx74
              refine r_iload C dX7_together_159 rfl ?_
              refine r_if_le C dX7_together_161 (fun c81 => ?_) (fun c81 => ?_)
              · skip
                have e82 : s73 = a_ := by rw [hs73, d_X7_together_L159]; try exact (if_pos c81).trans (rfl)
                rw [e82] at kx74
                exact kx74 _ (.val (.int b_)) rfl z75 hz75 trivial (hab.resolve_left (fun q => q c81)) hb76
              · skip
                refine r_iload C dX7_together_164 rfl ?_
                refine r_iload C dX7_together_166 rfl ?_
                refine r_irem C dX7_together_168 (nz_nle c81) ?_
                refine r_istore C dX7_together_169 (ls' := [.val (.ref o_m), .val (.int t), .val (.int part), .val (.int s62.1), .val (.int s62.2), .val (.int (s62.2 * (R_m 6 (1 + t.toNatClampNeg)))), .val (.int a_), .val (.int b_), .val (.int (a_ - a_ / b_ * b_))]) rfl hz75 rfl ?_
                refine r_iload C dX7_together_171 rfl ?_
                refine r_istore C dX7_together_173 (ls' := [.val (.ref o_m), .val (.int t), .val (.int part), .val (.int s62.1), .val (.int s62.2), .val (.int (s62.2 * (R_m 6 (1 + t.toNatClampNeg)))), .val (.int b_), .val (.int b_), .val (.int (a_ - a_ / b_ * b_))]) rfl rfl rfl ?_
                refine r_iload C dX7_together_175 rfl ?_
                refine r_istore C dX7_together_177 (ls' := [.val (.ref o_m), .val (.int t), .val (.int part), .val (.int s62.1), .val (.int s62.2), .val (.int (s62.2 * (R_m 6 (1 + t.toNatClampNeg)))), .val (.int b_), .val (.int (a_ - a_ / b_ * b_)), .val (.int (a_ - a_ / b_ * b_))]) rfl rfl rfl ?_
                refine r_goto C dX7_together_179 ?_
                have e83 : s73 = d_X7_together_L159  n71 b_ (a_ - a_ / b_ * b_) := by rw [hs73, d_X7_together_L159]; try exact (if_neg c81).trans (rfl)
                exact ih72 b_ (a_ - a_ / b_ * b_) _ (.val (.int (a_ - a_ / b_ * b_))) rfl trivial (Or.inr (nz_nle c81)) (by have := rem_lt (a := a_) c81; omega) hb76 s73 e83  kx74
          obtain ⟨s84, hs84⟩ : ∃ r, r = d_X7_together_L159 (s62.1.toInt.toNat + 1) (s62.2 * (R_m 6 (1 + t.toNatClampNeg))) s62.1 := ⟨_, rfl⟩
          refine d_X7_together_L159_w (s62.1.toInt.toNat + 1) (s62.2 * (R_m 6 (1 + t.toNatClampNeg))) s62.1 _ .unset trivial trivial (Or.inl (by rw [hal1]; exact nI_nle (by have := nf_eqn (b := 0) (by omega) (by omega) hal1 rfl c67; omega) (by omega))) (by omega) hb63 s84 hs84  (fun H86 z78 hz78 z79 hz79 e88 p87 hb85 => ?_)
          refine r_iload_n C dX7_together_182 rfl ?_
          refine r_if_ne C dX7_together_183 (fun c89 => ?_) (fun c89 => ?_)
          · skip
            have f90 : ¬ (part.toNatClampNeg = 0) := nf_eqn (by omega) (by omega) hn17 rfl c89
            refine r_iload_n C dX7_together_191 rfl ?_
            refine r_iload C dX7_together_192 rfl ?_
            refine r_idiv C dX7_together_194 p87 ?_
            refine r_iret C dX7_together_195 ?_
            have er : res = (s62.1 / s84) := by rw [hres, d_X7_together]; try exact (lt_eq hu1).trans ((if_neg c7).trans ((lt_eq hu10).trans ((if_neg c16).trans ((lt_eq hs62).trans ((if_neg c67).trans ((if_neg c70).trans ((lt_eq hs84).trans ((if_neg c89).trans (rfl)))))))))
            rw [er]
          · skip
            have f91 : (part.toNatClampNeg = 0) := nf_eq (by omega) (by omega) hn17 rfl c89
            refine r_iload C dX7_together_186 rfl ?_
            refine r_goto C dX7_together_188 ?_
            refine r_iload C dX7_together_192 rfl ?_
            refine r_idiv C dX7_together_194 p87 ?_
            refine r_iret C dX7_together_195 ?_
            have er : res = ((s62.2 * (R_m 6 (1 + t.toNatClampNeg))) / s84) := by rw [hres, d_X7_together]; try exact (lt_eq hu1).trans ((if_neg c7).trans ((lt_eq hu10).trans ((if_neg c16).trans ((lt_eq hs62).trans ((if_neg c67).trans ((if_neg c70).trans ((lt_eq hs84).trans ((if_pos c89).trans (rfl)))))))))
            rw [er]
        · skip
          refine r_bipush C dX7_together_136 (-4 : Int32) (by decide) ?_
          refine r_iret C dX7_together_138 ?_
          have er : res = (-4 : Int32) := by rw [hres, d_X7_together]; try exact (lt_eq hu1).trans ((if_neg c7).trans ((lt_eq hu10).trans ((if_neg c16).trans ((lt_eq hs62).trans ((if_neg c67).trans ((if_pos c70).trans (rfl)))))))
          rw [er]
    · skip
      refine r_iconst C dX7_together_17 (-1 : Int32) (by decide) ?_
      refine r_iret C dX7_together_18 ?_
      have er : res = (-1 : Int32) := by rw [hres, d_X7_together]; try exact (lt_eq hu1).trans ((if_neg c7).trans ((lt_eq hu10).trans ((if_pos c16).trans (rfl))))
      rw [er]
