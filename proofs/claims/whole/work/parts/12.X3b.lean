def d_X3_standsAt (R_r : Nat → Nat → Int32) (t : Int32) : Int32 :=
  oc (d_X3_townAt R_r t) (
    (0 : Int32)) fun k6 =>
  if (R_r (3 + k6) 1) = 0 then
    (1 : Int32)
  else
    (0 : Int32)
set_option maxHeartbeats 4000000 in
set_option maxRecDepth 100000 in
theorem c_X3_standsAt (l : Launch) (D : DD) (o_r : Nat) (R_r : Nat → Nat → Int32) (t : Int32)  (res : Int32) (hres : res = d_X3_standsAt R_r t) : Mt l D yX3_standsAt cX3_standsAt 3 (some .boolean) 1 21 0 0 [.ref o_r, .int t] (fun H => blk D ksRiver o_r R_r H) (fun v H => v = some (.int res) ∧ bl res) fp0 := by
  refine mt_of (own := RX3) (ls := [.val (.ref o_r), .val (.int t), .unset]) rfl (by decide +kernel) rfl ?_
  intro x H C hP
  have hb_r := hP
  refine r_aload_n C dX3_standsAt_0 rfl ?_
  refine r_iload_n C dX3_standsAt_1 rfl ?_
  obtain ⟨u1, hu1⟩ : ∃ r, r = d_X3_townAt R_r t := ⟨_, rfl⟩
  refine r_callV0 C cw_X3_44 (fun l => c_X3_townAt l D o_r R_r t u1 hu1) (rest := []) hb_r (k := 0) rfl rfl celO_3 hb_r (fun q h => h.elim) rfl rfl rfl (Nat.le_of_ble_eq_true rfl) ⟨Nat.le_of_ble_eq_true rfl, Nat.le_of_ble_eq_true rfl, Nat.le_refl 0, Nat.le_refl 0⟩ dX3_standsAt_2 (fun v H2 hp3 hq4 => ?_)
  subst hp3
  have hb5 := blk_kept hb_r (n := 15) rfl (fun q h1 h2 => hq4 q (fun h => h))
  obtain ho7 | ⟨k6, ho7⟩ := opt_or u1
  · have hu1' : d_X3_townAt R_r t = none := by rw [← hu1, ho7]
    rw [ho7]; dsimp only [psh, optT, optC]
    refine r_astore_nN C dX3_standsAt_5 (ls' := [.val (.ref o_r), .val (.int t), .val (.null)]) rfl trivial rfl ?_
    refine r_aload_nN C dX3_standsAt_6 rfl ?_
    refine r_ifnullN C dX3_standsAt_7 ?_
    refine r_iconst C dX3_standsAt_21 (0 : Int32) (by decide) ?_
    refine r_zret C dX3_standsAt_22 (Or.inl rfl) ?_
    have er : res = (0 : Int32) := by rw [hres, d_X3_standsAt]; try exact (oc_none hu1').trans (rfl)
    rw [er]
    exact ⟨rfl, (Or.inl rfl)⟩
  · have hu1' : d_X3_townAt R_r t = some k6 := by rw [← hu1, ho7]
    rw [ho7]; dsimp only [psh, optT, optC]
    have fk8 := X3_townAt_lt hu1'
    refine r_astore_n C dX3_standsAt_5 (ls' := [.val (.ref o_r), .val (.int t), .val (.ref (o_r + 3 + k6))]) rfl trivial rfl ?_
    refine r_aload_n C dX3_standsAt_6 rfl ?_
    refine r_ifnull C dX3_standsAt_7 ?_
    refine r_aload_n C dX3_standsAt_10 rfl ?_
    refine r_get C hb5 (k := (3 + k6)) (kRiver_3_1 _ fk8) (by omega) celO_5 fw_X3_48 (z := .int (R_r (3 + k6) 1)) rfl dX3_standsAt_11 ?_
    refine r_if_ne C dX3_standsAt_14 (fun c9 => ?_) (fun c9 => ?_)
    · skip
      refine r_iconst C dX3_standsAt_21 (0 : Int32) (by decide) ?_
      refine r_zret C dX3_standsAt_22 (Or.inl rfl) ?_
      have er : res = (0 : Int32) := by rw [hres, d_X3_standsAt]; try exact (oc_some hu1').trans ((if_neg c9).trans (rfl))
      rw [er]
      exact ⟨rfl, (Or.inl rfl)⟩
    · skip
      refine r_iconst C dX3_standsAt_17 (1 : Int32) (by decide) ?_
      refine r_goto C dX3_standsAt_18 ?_
      refine r_zret C dX3_standsAt_22 (Or.inr rfl) ?_
      have er : res = (1 : Int32) := by rw [hres, d_X3_standsAt]; try exact (oc_some hu1').trans ((if_pos c9).trans (rfl))
      rw [er]
      exact ⟨rfl, (Or.inr rfl)⟩

def d_X3_clear_L2  : Nat → (Nat → Nat → Int32) → Nat → (Nat → Nat → Int32)
  | 0, R, _ => R
  | n1 + 1, R, i =>
    if (nI 6) ≤ (nI i) then
      R
    else
      d_X3_clear_L2  n1 (pt R (3 + i) 0 (0 : Int32)) (i + 1)
def d_X3_clear_L29  : Nat → (Nat → Nat → Int32) → Nat → (Nat → Nat → Int32)
  | 0, R, _ => R
  | n21 + 1, R, i =>
    if (nI 3) ≤ (nI i) then
      R
    else
      d_X3_clear_L29  n21 (pt R (9 + 2 * i) 0 (0 : Int32)) (i + 1)
def d_X3_clear (R_r : Nat → Nat → Int32) : (Nat → Nat → Int32) :=
  lt (d_X3_clear_L2 7 R_r 0) fun s17 =>
  lt (d_X3_clear_L29 4 s17 0) fun s37 =>
  (pt (pt s37 0 2 (10 : Int32)) 0 3 (0 : Int32))
set_option maxHeartbeats 4000000 in
set_option maxRecDepth 100000 in
theorem c_X3_clear (l : Launch) (D : DD) (o_r : Nat) (R_r : Nat → Nat → Int32)  (res : (Nat → Nat → Int32)) (hres : res = d_X3_clear R_r) : Mt l D yX3_clear cX3_clear 2 none 0 0 0 0 [.ref o_r] (fun H => blk D ksRiver o_r R_r H) (fun v H => v = none ∧ blk D ksRiver o_r res H) (fp1 o_r 15) := by
  refine mt_of (own := RX3) (ls := [.val (.ref o_r), .unset]) rfl (by decide +kernel) rfl ?_
  intro x H C hP
  have hb_r := hP
  refine r_iconst C dX3_clear_0 (0 : Int32) (by decide) ?_
  refine r_istore_n C dX3_clear_1 (ls' := [.val (.ref o_r), .val (.int (0 : Int32))]) rfl trivial rfl ?_
  have d_X3_clear_L2_w : ∀ (n1 : Nat) (R : Nat → Nat → Int32) (i : Nat) (H6 : Heap), True → (i ≤ 6) → (6 - i < n1) → blk D ksRiver o_r R H6 → ∀ s3 : (Nat → Nat → Int32), s3 = d_X3_clear_L2  n1 R i → (∀ (H' : Heap) (z7 : Slot) (_ : slot1 z7), True → blk D ksRiver o_r s3 H' → WG x (fp1 o_r 15) (Fin x (fun v H => v = none ∧ blk D ksRiver o_r res H) (fp1 o_r 15) 0 0) H' 0 0 27 [.val (.ref o_r), z7] []) → WG x (fp1 o_r 15) (Fin x (fun v H => v = none ∧ blk D ksRiver o_r res H) (fp1 o_r 15) 0 0) H6 0 0 2 [.val (.ref o_r), .val (.int (nI i))] [] := by
    intro n1
    induction n1 with
    | zero => intro R i H6  _ hi hm8; exact absurd hm8 (Nat.not_lt_zero _)
    | succ n1 ih2 =>
      intro R i H6  _ hi hm8 hb5 s3 hs3  kx4
      refine r_iload_n C dX3_clear_2 rfl ?_
      refine r_aload_n C dX3_clear_3 rfl ?_
      refine r_get C hb5 (k := 0) rfl rfl celO_3 fw_X3_11 rfl dX3_clear_4 ?_
      refine r_alen C hb5 (k := 1) rfl rfl 6 (Or.inr (Or.inr (Or.inl ⟨rfl, rfl⟩))) dX3_clear_7 ?_
      refine r_ic_ge C dX3_clear_8 (fun c9 => ?_) (fun c9 => ?_)
      · skip
        have f10 : (6 ≤ i) := nf_leI (by omega) (by omega) rfl rfl c9
        have e11 : s3 = R := by rw [hs3, d_X3_clear_L2]; try exact (if_pos c9).trans (rfl)
        rw [e11] at kx4
        exact kx4 _ (.val (.int (nI i))) rfl trivial  hb5
      · skip
        have f12 : ¬ (6 ≤ i) := nf_leIn (by omega) (by omega) rfl rfl c9
        refine r_aload_n C dX3_clear_11 rfl ?_
        refine r_get C hb5 (k := 0) rfl rfl celO_3 fw_X3_11 rfl dX3_clear_12 ?_
        refine r_iload_n C dX3_clear_15 rfl ?_
        refine r_aaldT C hb5 (k := 1) rfl rfl (vp_in_n rfl (by omega) (by omega)) (j := i) (cl_n rfl (by omega)) dX3_clear_16 ?_
        refine r_iconst C dX3_clear_17 (0 : Int32) (by decide) ?_
        refine r_put C hb5 (k := (3 + i)) (kRiver_3_1 _ (by omega)) (by omega) (by unfold fp1; omega) fw_X3_39 fp_5_0 (Or.inl ⟨rfl, Or.inl rfl⟩) dX3_clear_18 (fun H13 hb15 hq14 => ?_)
        refine r_iinc C dX3_clear_21 (nI (i + 1)) rfl (nI_inc i rfl) (ls' := [.val (.ref o_r), .val (.int (nI (i + 1)))]) rfl ?_
        refine r_goto C dX3_clear_24 ?_
        have e16 : s3 = d_X3_clear_L2  n1 (pt R (3 + i) 0 (0 : Int32)) (i + 1) := by rw [hs3, d_X3_clear_L2]; try exact (if_neg c9).trans (rfl)
        exact ih2 (pt R (3 + i) 0 (0 : Int32)) (i + 1) _  trivial (by omega) (by omega) hb15 s3 e16  kx4
  obtain ⟨s17, hs17⟩ : ∃ r, r = d_X3_clear_L2 7 R_r 0 := ⟨_, rfl⟩
  refine d_X3_clear_L2_w 7 R_r 0 _  trivial (by omega) (by omega) hb_r s17 hs17  (fun H19 z7 hz7 e20  hb18 => ?_)
  refine r_iconst C dX3_clear_27 (0 : Int32) (by decide) ?_
  refine r_istore_n C dX3_clear_28 (ls' := [.val (.ref o_r), .val (.int (0 : Int32))]) rfl hz7 rfl ?_
  have d_X3_clear_L29_w : ∀ (n21 : Nat) (R : Nat → Nat → Int32) (i : Nat) (H26 : Heap), True → (i ≤ 3) → (3 - i < n21) → blk D ksRiver o_r R H26 → ∀ s23 : (Nat → Nat → Int32), s23 = d_X3_clear_L29  n21 R i → (∀ (H' : Heap) (z27 : Slot) (_ : slot1 z27), True → blk D ksRiver o_r s23 H' → WG x (fp1 o_r 15) (Fin x (fun v H => v = none ∧ blk D ksRiver o_r res H) (fp1 o_r 15) 0 0) H' 0 0 54 [.val (.ref o_r), z27] []) → WG x (fp1 o_r 15) (Fin x (fun v H => v = none ∧ blk D ksRiver o_r res H) (fp1 o_r 15) 0 0) H26 0 0 29 [.val (.ref o_r), .val (.int (nI i))] [] := by
    intro n21
    induction n21 with
    | zero => intro R i H26  _ hi hm28; exact absurd hm28 (Nat.not_lt_zero _)
    | succ n21 ih22 =>
      intro R i H26  _ hi hm28 hb25 s23 hs23  kx24
      refine r_iload_n C dX3_clear_29 rfl ?_
      refine r_aload_n C dX3_clear_30 rfl ?_
      refine r_get C hb25 (k := 0) rfl rfl celO_3 fw_X3_19 rfl dX3_clear_31 ?_
      refine r_alen C hb25 (k := 2) rfl rfl 3 (Or.inr (Or.inr (Or.inr (Or.inl ⟨rfl, rfl⟩)))) dX3_clear_34 ?_
      refine r_ic_ge C dX3_clear_35 (fun c29 => ?_) (fun c29 => ?_)
      · skip
        have f30 : (3 ≤ i) := nf_leI (by omega) (by omega) rfl rfl c29
        have e31 : s23 = R := by rw [hs23, d_X3_clear_L29]; try exact (if_pos c29).trans (rfl)
        rw [e31] at kx24
        exact kx24 _ (.val (.int (nI i))) rfl trivial  hb25
      · skip
        have f32 : ¬ (3 ≤ i) := nf_leIn (by omega) (by omega) rfl rfl c29
        refine r_aload_n C dX3_clear_38 rfl ?_
        refine r_get C hb25 (k := 0) rfl rfl celO_3 fw_X3_19 rfl dX3_clear_39 ?_
        refine r_iload_n C dX3_clear_42 rfl ?_
        refine r_aaldC C hb25 (k := 2) rfl rfl (vp_in_n rfl (by omega) (by omega)) (j := i) (cl_n rfl (by omega)) dX3_clear_43 ?_
        refine r_iconst C dX3_clear_44 (0 : Int32) (by decide) ?_
        refine r_put C hb25 (k := (9 + 2 * i)) (kRiver_9_2 _ (by omega)) (by omega) (by unfold fp1; omega) fw_X3_43 fp_0_0 (Or.inl ⟨rfl, Or.inl rfl⟩) dX3_clear_45 (fun H33 hb35 hq34 => ?_)
        refine r_iinc C dX3_clear_48 (nI (i + 1)) rfl (nI_inc i rfl) (ls' := [.val (.ref o_r), .val (.int (nI (i + 1)))]) rfl ?_
        refine r_goto C dX3_clear_51 ?_
        have e36 : s23 = d_X3_clear_L29  n21 (pt R (9 + 2 * i) 0 (0 : Int32)) (i + 1) := by rw [hs23, d_X3_clear_L29]; try exact (if_neg c29).trans (rfl)
        exact ih22 (pt R (9 + 2 * i) 0 (0 : Int32)) (i + 1) _  trivial (by omega) (by omega) hb35 s23 e36  kx24
  obtain ⟨s37, hs37⟩ : ∃ r, r = d_X3_clear_L29 4 s17 0 := ⟨_, rfl⟩
  refine d_X3_clear_L29_w 4 s17 0 _  trivial (by omega) (by omega) hb18 s37 hs37  (fun H39 z27 hz27 e40  hb38 => ?_)
  refine r_aload_n C dX3_clear_54 rfl ?_
  refine r_bipush C dX3_clear_55 (10 : Int32) (by decide) ?_
  refine r_put C hb38 (k := 0) rfl rfl (by unfold fp1; omega) fw_X3_32 fp_3_2 (Or.inr rfl) dX3_clear_57 (fun H41 hb43 hq42 => ?_)
  refine r_aload_n C dX3_clear_60 rfl ?_
  refine r_iconst C dX3_clear_61 (0 : Int32) (by decide) ?_
  refine r_put C hb43 (k := 0) rfl rfl (by unfold fp1; omega) fw_X3_36 fp_3_3 (Or.inr rfl) dX3_clear_62 (fun H44 hb46 hq45 => ?_)
  refine r_vret C dX3_clear_65 ?_
  have er : res = (pt (pt s37 0 2 (10 : Int32)) 0 3 (0 : Int32)) := by rw [hres, d_X3_clear]; try exact (lt_eq hs17).trans ((lt_eq hs37).trans (rfl))
  rw [er]
  exact ⟨rfl, hb46⟩

def d_X3_copy_L2 (R_f : Nat → Nat → Int32) : Nat → (Nat → Nat → Int32) → Nat → (Nat → Nat → Int32)
  | 0, R, _ => R
  | n1 + 1, R, i =>
    if (nI 6) ≤ (nI i) then
      R
    else
      if (nI 6) ≤ (nI i) then
        R
      else
        lt (d_X5_copy (shf R (3 + i)) (shf R_f (3 + i))) fun u18 =>
        d_X3_copy_L2 R_f n1 (spl R (3 + i) 1 u18) (i + 1)
def d_X3_copy_L43 (R_f : Nat → Nat → Int32) : Nat → (Nat → Nat → Int32) → Nat → (Nat → Nat → Int32)
  | 0, R, _ => R
  | n31 + 1, R, i =>
    if (nI 3) ≤ (nI i) then
      R
    else
      if (nI 3) ≤ (nI i) then
        R
      else
        lt (d_X0_copy (shf R (9 + 2 * i)) (shf R_f (9 + 2 * i))) fun u48 =>
        d_X3_copy_L43 R_f n31 (spl R (9 + 2 * i) 2 u48) (i + 1)
def d_X3_copy (R_r : Nat → Nat → Int32) (R_f : Nat → Nat → Int32) : (Nat → Nat → Int32) :=
  lt (d_X3_copy_L2 R_f 7 R_r 0) fun s26 =>
  lt (d_X3_copy_L43 R_f 4 s26 0) fun s56 =>
  (pt (pt s56 0 2 (R_f 0 2)) 0 3 (R_f 0 3))
set_option maxHeartbeats 4000000 in
set_option maxRecDepth 100000 in
theorem c_X3_copy (l : Launch) (D : DD) (o_r o_f : Nat) (R_r : Nat → Nat → Int32) (R_f : Nat → Nat → Int32) (hd : o_r + 15 ≤ o_f ∨ o_f + 15 ≤ o_r) (res : (Nat → Nat → Int32)) (hres : res = d_X3_copy R_r R_f) : Mt l D yX3_copy cX3_copy 3 none 2 43 0 0 [.ref o_r, .ref o_f] (fun H => blk D ksRiver o_r R_r H ∧ blk D ksRiver o_f R_f H) (fun v H => v = none ∧ blk D ksRiver o_r res H) (fp1 o_r 15) := by
  refine mt_of (own := RX3) (ls := [.val (.ref o_r), .val (.ref o_f), .unset]) rfl (by decide +kernel) rfl ?_
  intro x H C hP
  obtain ⟨hb_r, hb_f⟩ := hP
  refine r_iconst C dX3_copy_0 (0 : Int32) (by decide) ?_
  refine r_istore_n C dX3_copy_1 (ls' := [.val (.ref o_r), .val (.ref o_f), .val (.int (0 : Int32))]) rfl trivial rfl ?_
  have d_X3_copy_L2_w : ∀ (n1 : Nat) (R : Nat → Nat → Int32) (i : Nat) (H7 : Heap), True → (i ≤ 6) → (6 - i < n1) → blk D ksRiver o_r R H7 → blk D ksRiver o_f R_f H7 → ∀ s3 : (Nat → Nat → Int32), s3 = d_X3_copy_L2 R_f n1 R i → (∀ (H' : Heap) (z8 : Slot) (_ : slot1 z8), True → blk D ksRiver o_r s3 H' → blk D ksRiver o_f R_f H' → WG x (fp1 o_r 15) (Fin x (fun v H => v = none ∧ blk D ksRiver o_r res H) (fp1 o_r 15) 0 0) H' 0 0 41 [.val (.ref o_r), .val (.ref o_f), z8] []) → WG x (fp1 o_r 15) (Fin x (fun v H => v = none ∧ blk D ksRiver o_r res H) (fp1 o_r 15) 0 0) H7 0 0 2 [.val (.ref o_r), .val (.ref o_f), .val (.int (nI i))] [] := by
    intro n1
    induction n1 with
    | zero => intro R i H7  _ hi hm9; exact absurd hm9 (Nat.not_lt_zero _)
    | succ n1 ih2 =>
      intro R i H7  _ hi hm9 hb5 hb6 s3 hs3  kx4
      refine r_iload_n C dX3_copy_2 rfl ?_
      refine r_aload_n C dX3_copy_3 rfl ?_
      refine r_get C hb5 (k := 0) rfl rfl celO_3 fw_X3_11 rfl dX3_copy_4 ?_
      refine r_alen C hb5 (k := 1) rfl rfl 6 (Or.inr (Or.inr (Or.inl ⟨rfl, rfl⟩))) dX3_copy_7 ?_
      refine r_ic_ge C dX3_copy_8 (fun c10 => ?_) (fun c10 => ?_)
      · skip
        have f11 : (6 ≤ i) := nf_leI (by omega) (by omega) rfl rfl c10
        have e12 : s3 = R := by rw [hs3, d_X3_copy_L2]; try exact (if_pos c10).trans (rfl)
        rw [e12] at kx4
        exact kx4 _ (.val (.int (nI i))) rfl trivial  hb5 hb6
      · skip
        have f13 : ¬ (6 ≤ i) := nf_leIn (by omega) (by omega) rfl rfl c10
        refine r_iload_n C dX3_copy_11 rfl ?_
        refine r_aload_n C dX3_copy_12 rfl ?_
        refine r_get C hb6 (k := 0) rfl rfl celO_3 fw_X3_11 rfl dX3_copy_13 ?_
        refine r_alen C hb6 (k := 1) rfl rfl 6 (Or.inr (Or.inr (Or.inl ⟨rfl, rfl⟩))) dX3_copy_16 ?_
        refine r_ic_ge C dX3_copy_17 (fun c14 => ?_) (fun c14 => ?_)
        · skip
          have f15 : (6 ≤ i) := nf_leI (by omega) (by omega) rfl rfl c14
          have e16 : s3 = R := by rw [hs3, d_X3_copy_L2]; try exact (if_neg c10).trans ((if_pos c14).trans (rfl))
          rw [e16] at kx4
          exact kx4 _ (.val (.int (nI i))) rfl trivial  hb5 hb6
        · skip
          have f17 : ¬ (6 ≤ i) := nf_leIn (by omega) (by omega) rfl rfl c14
          refine r_aload_n C dX3_copy_20 rfl ?_
          refine r_get C hb5 (k := 0) rfl rfl celO_3 fw_X3_11 rfl dX3_copy_21 ?_
          refine r_iload_n C dX3_copy_24 rfl ?_
          refine r_aaldT C hb5 (k := 1) rfl rfl (vp_in_n rfl (by omega) (by omega)) (j := i) (cl_n rfl (by omega)) dX3_copy_25 ?_
          refine r_aload_n C dX3_copy_26 rfl ?_
          refine r_get C hb6 (k := 0) rfl rfl celO_3 fw_X3_11 rfl dX3_copy_27 ?_
          refine r_iload_n C dX3_copy_30 rfl ?_
          refine r_aaldT C hb6 (k := 1) rfl rfl (vp_in_n rfl (by omega) (by omega)) (j := i) (cl_n rfl (by omega)) dX3_copy_31 ?_
          obtain ⟨u18, hu18⟩ : ∃ r, r = d_X5_copy (shf R (3 + i)) (shf R_f (3 + i)) := ⟨_, rfl⟩
          refine r_callV0 C cw_X3_25 (fun l => c_X5_copy l D ((o_r + 1) + 2 + i) ((o_f + 1) + 2 + i) (shf R (3 + i)) (shf R_f (3 + i)) (by omega) u18 hu18) (rest := []) hb5 (k := (3 + i)) (kRiver_3_1 _ (by omega)) (by omega) celO_5 ⟨(blk_sub hb5 (3 + i) 1 (sRiver_3_1_1 _ (by omega)) (by omega)), (blk_sub hb6 (3 + i) 1 (sRiver_3_1_1 _ (by omega)) (by omega))⟩ (fun q h => by unfold fp1 at h; unfold fp1; omega) rfl rfl rfl (Nat.le_of_ble_eq_true rfl) ⟨Nat.le_of_ble_eq_true rfl, Nat.le_of_ble_eq_true rfl, Nat.le_refl 0, Nat.le_refl 0⟩ dX3_copy_32 (fun v H19 hp20 hq21 => ?_)
          obtain ⟨rfl, hn22⟩ := hp20
          have hb23 := blk_spl hb5 (3 + i) 1 (sRiver_3_1_1 _ (by omega)) (by omega) hn22 (fun q h => hq21 q (by unfold fp1; omega))
          have hb24 := blk_kept hb6 (n := 15) rfl (fun q h1 h2 => hq21 q (by unfold fp1; omega))
          dsimp only [psh]
          refine r_iinc C dX3_copy_35 (nI (i + 1)) rfl (nI_inc i rfl) (ls' := [.val (.ref o_r), .val (.ref o_f), .val (.int (nI (i + 1)))]) rfl ?_
          refine r_goto C dX3_copy_38 ?_
          have e25 : s3 = d_X3_copy_L2 R_f n1 (spl R (3 + i) 1 u18) (i + 1) := by rw [hs3, d_X3_copy_L2]; try exact (if_neg c10).trans ((if_neg c14).trans ((lt_eq hu18).trans (rfl)))
          exact ih2 (spl R (3 + i) 1 u18) (i + 1) _  trivial (by omega) (by omega) hb23 hb24 s3 e25  kx4
  obtain ⟨s26, hs26⟩ : ∃ r, r = d_X3_copy_L2 R_f 7 R_r 0 := ⟨_, rfl⟩
  refine d_X3_copy_L2_w 7 R_r 0 _  trivial (by omega) (by omega) hb_r hb_f s26 hs26  (fun H29 z8 hz8 e30  hb27 hb28 => ?_)
  refine r_iconst C dX3_copy_41 (0 : Int32) (by decide) ?_
  refine r_istore_n C dX3_copy_42 (ls' := [.val (.ref o_r), .val (.ref o_f), .val (.int (0 : Int32))]) rfl hz8 rfl ?_
  have d_X3_copy_L43_w : ∀ (n31 : Nat) (R : Nat → Nat → Int32) (i : Nat) (H37 : Heap), True → (i ≤ 3) → (3 - i < n31) → blk D ksRiver o_r R H37 → blk D ksRiver o_f R_f H37 → ∀ s33 : (Nat → Nat → Int32), s33 = d_X3_copy_L43 R_f n31 R i → (∀ (H' : Heap) (z38 : Slot) (_ : slot1 z38), True → blk D ksRiver o_r s33 H' → blk D ksRiver o_f R_f H' → WG x (fp1 o_r 15) (Fin x (fun v H => v = none ∧ blk D ksRiver o_r res H) (fp1 o_r 15) 0 0) H' 0 0 82 [.val (.ref o_r), .val (.ref o_f), z38] []) → WG x (fp1 o_r 15) (Fin x (fun v H => v = none ∧ blk D ksRiver o_r res H) (fp1 o_r 15) 0 0) H37 0 0 43 [.val (.ref o_r), .val (.ref o_f), .val (.int (nI i))] [] := by
    intro n31
    induction n31 with
    | zero => intro R i H37  _ hi hm39; exact absurd hm39 (Nat.not_lt_zero _)
    | succ n31 ih32 =>
      intro R i H37  _ hi hm39 hb35 hb36 s33 hs33  kx34
      refine r_iload_n C dX3_copy_43 rfl ?_
      refine r_aload_n C dX3_copy_44 rfl ?_
      refine r_get C hb35 (k := 0) rfl rfl celO_3 fw_X3_19 rfl dX3_copy_45 ?_
      refine r_alen C hb35 (k := 2) rfl rfl 3 (Or.inr (Or.inr (Or.inr (Or.inl ⟨rfl, rfl⟩)))) dX3_copy_48 ?_
      refine r_ic_ge C dX3_copy_49 (fun c40 => ?_) (fun c40 => ?_)
      · skip
        have f41 : (3 ≤ i) := nf_leI (by omega) (by omega) rfl rfl c40
        have e42 : s33 = R := by rw [hs33, d_X3_copy_L43]; try exact (if_pos c40).trans (rfl)
        rw [e42] at kx34
        exact kx34 _ (.val (.int (nI i))) rfl trivial  hb35 hb36
      · skip
        have f43 : ¬ (3 ≤ i) := nf_leIn (by omega) (by omega) rfl rfl c40
        refine r_iload_n C dX3_copy_52 rfl ?_
        refine r_aload_n C dX3_copy_53 rfl ?_
        refine r_get C hb36 (k := 0) rfl rfl celO_3 fw_X3_19 rfl dX3_copy_54 ?_
        refine r_alen C hb36 (k := 2) rfl rfl 3 (Or.inr (Or.inr (Or.inr (Or.inl ⟨rfl, rfl⟩)))) dX3_copy_57 ?_
        refine r_ic_ge C dX3_copy_58 (fun c44 => ?_) (fun c44 => ?_)
        · skip
          have f45 : (3 ≤ i) := nf_leI (by omega) (by omega) rfl rfl c44
          have e46 : s33 = R := by rw [hs33, d_X3_copy_L43]; try exact (if_neg c40).trans ((if_pos c44).trans (rfl))
          rw [e46] at kx34
          exact kx34 _ (.val (.int (nI i))) rfl trivial  hb35 hb36
        · skip
          have f47 : ¬ (3 ≤ i) := nf_leIn (by omega) (by omega) rfl rfl c44
          refine r_aload_n C dX3_copy_61 rfl ?_
          refine r_get C hb35 (k := 0) rfl rfl celO_3 fw_X3_19 rfl dX3_copy_62 ?_
          refine r_iload_n C dX3_copy_65 rfl ?_
          refine r_aaldC C hb35 (k := 2) rfl rfl (vp_in_n rfl (by omega) (by omega)) (j := i) (cl_n rfl (by omega)) dX3_copy_66 ?_
          refine r_aload_n C dX3_copy_67 rfl ?_
          refine r_get C hb36 (k := 0) rfl rfl celO_3 fw_X3_19 rfl dX3_copy_68 ?_
          refine r_iload_n C dX3_copy_71 rfl ?_
          refine r_aaldC C hb36 (k := 2) rfl rfl (vp_in_n rfl (by omega) (by omega)) (j := i) (cl_n rfl (by omega)) dX3_copy_72 ?_
          obtain ⟨u48, hu48⟩ : ∃ r, r = d_X0_copy (shf R (9 + 2 * i)) (shf R_f (9 + 2 * i)) := ⟨_, rfl⟩
          refine r_callV0 C cw_X3_29 (fun l => c_X0_copy l D ((o_r + 2) + 7 + 2 * i) ((o_f + 2) + 7 + 2 * i) (shf R (9 + 2 * i)) (shf R_f (9 + 2 * i)) (by omega) u48 hu48) (rest := []) hb35 (k := (9 + 2 * i)) (kRiver_9_2 _ (by omega)) (by omega) celO_0 ⟨(blk_sub hb35 (9 + 2 * i) 2 (sRiver_9_2_2 _ (by omega)) (by omega)), (blk_sub hb36 (9 + 2 * i) 2 (sRiver_9_2_2 _ (by omega)) (by omega))⟩ (fun q h => by unfold fp1 at h; unfold fp1; omega) rfl rfl rfl (Nat.le_of_ble_eq_true rfl) ⟨Nat.le_of_ble_eq_true rfl, Nat.le_of_ble_eq_true rfl, Nat.le_refl 0, Nat.le_refl 0⟩ dX3_copy_73 (fun v H49 hp50 hq51 => ?_)
          obtain ⟨rfl, hn52⟩ := hp50
          have hb53 := blk_spl hb35 (9 + 2 * i) 2 (sRiver_9_2_2 _ (by omega)) (by omega) hn52 (fun q h => hq51 q (by unfold fp1; omega))
          have hb54 := blk_kept hb36 (n := 15) rfl (fun q h1 h2 => hq51 q (by unfold fp1; omega))
          dsimp only [psh]
          refine r_iinc C dX3_copy_76 (nI (i + 1)) rfl (nI_inc i rfl) (ls' := [.val (.ref o_r), .val (.ref o_f), .val (.int (nI (i + 1)))]) rfl ?_
          refine r_goto C dX3_copy_79 ?_
          have e55 : s33 = d_X3_copy_L43 R_f n31 (spl R (9 + 2 * i) 2 u48) (i + 1) := by rw [hs33, d_X3_copy_L43]; try exact (if_neg c40).trans ((if_neg c44).trans ((lt_eq hu48).trans (rfl)))
          exact ih32 (spl R (9 + 2 * i) 2 u48) (i + 1) _  trivial (by omega) (by omega) hb53 hb54 s33 e55  kx34
  obtain ⟨s56, hs56⟩ : ∃ r, r = d_X3_copy_L43 R_f 4 s26 0 := ⟨_, rfl⟩
  refine d_X3_copy_L43_w 4 s26 0 _  trivial (by omega) (by omega) hb27 hb28 s56 hs56  (fun H59 z38 hz38 e60  hb57 hb58 => ?_)
  refine r_aload_n C dX3_copy_82 rfl ?_
  refine r_aload_n C dX3_copy_83 rfl ?_
  refine r_get C hb58 (k := 0) rfl rfl celO_3 fw_X3_32 (z := .int (R_f 0 2)) rfl dX3_copy_84 ?_
  refine r_put C hb57 (k := 0) rfl rfl (by unfold fp1; omega) fw_X3_32 fp_3_2 (Or.inr rfl) dX3_copy_87 (fun H61 hb63 hq62 => ?_)
  have hb64 := blk_kept hb58 (n := 15) rfl (fun q h1 h2 => hq62 q (by omega))
  refine r_aload_n C dX3_copy_90 rfl ?_
  refine r_aload_n C dX3_copy_91 rfl ?_
  refine r_get C hb64 (k := 0) rfl rfl celO_3 fw_X3_36 (z := .int (R_f 0 3)) rfl dX3_copy_92 ?_
  refine r_put C hb63 (k := 0) rfl rfl (by unfold fp1; omega) fw_X3_36 fp_3_3 (Or.inr rfl) dX3_copy_95 (fun H65 hb67 hq66 => ?_)
  have hb68 := blk_kept hb64 (n := 15) rfl (fun q h1 h2 => hq66 q (by omega))
  refine r_vret C dX3_copy_98 ?_
  have er : res = (pt (pt s56 0 2 (R_f 0 2)) 0 3 (R_f 0 3)) := by rw [hres, d_X3_copy]; try exact (lt_eq hs26).trans ((lt_eq hs56).trans (rfl))
  rw [er]
  exact ⟨rfl, hb67⟩

def d_X3_settle (R_r : Nat → Nat → Int32) (kind : Int32) (silver : Int32) (income : Int32) (walls : Int32) : Int32 × (Nat → Nat → Int32) :=
  lt (d_X3_townsThere R_r) fun u1 =>
  if (3 : Int32) < kind then
    ((0 : Int32), R_r)
  else
    if (30 : Int32) < income then
      ((0 : Int32), R_r)
    else
      if (9 : Int32) < walls then
        ((0 : Int32), R_r)
      else
        if u1 < (nI 6) then
          ((1 : Int32), (pt (pt (pt (pt (pt (pt (pt (pt R_r (3 + u1.toNatClampNeg) 0 (1 : Int32)) (3 + u1.toNatClampNeg) 1 (0 : Int32)) (3 + u1.toNatClampNeg) 2 kind) (3 + u1.toNatClampNeg) 3 silver) (3 + u1.toNatClampNeg) 4 income) (3 + u1.toNatClampNeg) 5 walls) (3 + u1.toNatClampNeg) 6 (0 : Int32)) (3 + u1.toNatClampNeg) 7 (0 : Int32)))
        else
          ((0 : Int32), R_r)
set_option maxHeartbeats 4000000 in
set_option maxRecDepth 100000 in
theorem c_X3_settle (l : Launch) (D : DD) (o_r : Nat) (R_r : Nat → Nat → Int32) (kind : Int32) (silver : Int32) (income : Int32) (walls : Int32)  (res : Int32 × (Nat → Nat → Int32)) (hres : res = d_X3_settle R_r kind silver income walls) : Mt l D yX3_settle cX3_settle 7 (some .boolean) 1 22 0 0 [.ref o_r, .int kind, .int silver, .int income, .int walls] (fun H => blk D ksRiver o_r R_r H) (fun v H => v = some (.int res.1) ∧ bl res.1 ∧ blk D ksRiver o_r res.2 H) (fp1 o_r 15) := by
  refine mt_of (own := RX3) (ls := [.val (.ref o_r), .val (.int kind), .val (.int silver), .val (.int income), .val (.int walls), .unset, .unset]) rfl (by decide +kernel) rfl ?_
  intro x H C hP
  have hb_r := hP
  refine r_aload_n C dX3_settle_0 rfl ?_
  obtain ⟨u1, hu1⟩ : ∃ r, r = d_X3_townsThere R_r := ⟨_, rfl⟩
  refine r_callV0 C cw_X3_51 (fun l => c_X3_townsThere l D o_r R_r u1 hu1) (rest := []) hb_r (k := 0) rfl rfl celO_3 hb_r (fun q h => h.elim) rfl rfl rfl (Nat.le_of_ble_eq_true rfl) ⟨Nat.le_of_ble_eq_true rfl, Nat.le_of_ble_eq_true rfl, Nat.le_refl 0, Nat.le_refl 0⟩ dX3_settle_1 (fun v H2 hp3 hq4 => ?_)
  subst hp3
  obtain ⟨hn5, hn6⟩ := X3_townsThere_nat hu1
  have hb7 := blk_kept hb_r (n := 15) rfl (fun q h1 h2 => hq4 q (fun h => h))
  dsimp only [psh]
  refine r_istore C dX3_settle_4 (ls' := [.val (.ref o_r), .val (.int kind), .val (.int silver), .val (.int income), .val (.int walls), .val (.int u1), .unset]) rfl trivial rfl ?_
  refine r_iload_n C dX3_settle_6 rfl ?_
  refine r_iconst C dX3_settle_7 (3 : Int32) (by decide) ?_
  refine r_ic_gt C dX3_settle_8 (fun c8 => ?_) (fun c8 => ?_)
  · skip
    refine r_iconst C dX3_settle_34 (0 : Int32) (by decide) ?_
    refine r_zret C dX3_settle_35 (Or.inl rfl) ?_
    have er : res = ((0 : Int32), R_r) := by rw [hres, d_X3_settle]; try exact (lt_eq hu1).trans ((if_pos c8).trans (rfl))
    rw [er]
    exact ⟨rfl, (Or.inl rfl), hb7⟩
  · skip
    refine r_iload_n C dX3_settle_11 rfl ?_
    refine r_bipush C dX3_settle_12 (30 : Int32) (by decide) ?_
    refine r_ic_gt C dX3_settle_14 (fun c9 => ?_) (fun c9 => ?_)
    · skip
      refine r_iconst C dX3_settle_34 (0 : Int32) (by decide) ?_
      refine r_zret C dX3_settle_35 (Or.inl rfl) ?_
      have er : res = ((0 : Int32), R_r) := by rw [hres, d_X3_settle]; try exact (lt_eq hu1).trans ((if_neg c8).trans ((if_pos c9).trans (rfl)))
      rw [er]
      exact ⟨rfl, (Or.inl rfl), hb7⟩
    · skip
      refine r_iload C dX3_settle_17 rfl ?_
      refine r_bipush C dX3_settle_19 (9 : Int32) (by decide) ?_
      refine r_ic_gt C dX3_settle_21 (fun c10 => ?_) (fun c10 => ?_)
      · skip
        refine r_iconst C dX3_settle_34 (0 : Int32) (by decide) ?_
        refine r_zret C dX3_settle_35 (Or.inl rfl) ?_
        have er : res = ((0 : Int32), R_r) := by rw [hres, d_X3_settle]; try exact (lt_eq hu1).trans ((if_neg c8).trans ((if_neg c9).trans ((if_pos c10).trans (rfl))))
        rw [er]
        exact ⟨rfl, (Or.inl rfl), hb7⟩
      · skip
        refine r_iload C dX3_settle_24 rfl ?_
        refine r_aload_n C dX3_settle_26 rfl ?_
        refine r_get C hb7 (k := 0) rfl rfl celO_3 fw_X3_11 rfl dX3_settle_27 ?_
        refine r_alen C hb7 (k := 1) rfl rfl 6 (Or.inr (Or.inr (Or.inl ⟨rfl, rfl⟩))) dX3_settle_30 ?_
        refine r_ic_lt C dX3_settle_31 (fun c11 => ?_) (fun c11 => ?_)
        · skip
          have f12 : (u1.toNatClampNeg < 6) := nf_ltI (by omega) (by omega) hn5 rfl c11
          refine r_aload_n C dX3_settle_36 rfl ?_
          refine r_get C hb7 (k := 0) rfl rfl celO_3 fw_X3_11 rfl dX3_settle_37 ?_
          refine r_iload C dX3_settle_40 rfl ?_
          refine r_aaldT C hb7 (k := 1) rfl rfl (vp_in_n hn5 (by omega) (by omega)) (j := u1.toNatClampNeg) (cl_n hn5 (by omega)) dX3_settle_42 ?_
          refine r_astore C dX3_settle_43 (ls' := [.val (.ref o_r), .val (.int kind), .val (.int silver), .val (.int income), .val (.int walls), .val (.int u1), .val (.ref ((o_r + 1) + 2 + u1.toNatClampNeg))]) rfl trivial rfl ?_
          refine r_aload C dX3_settle_45 rfl ?_
          refine r_iconst C dX3_settle_47 (1 : Int32) (by decide) ?_
          refine r_put C hb7 (k := (3 + u1.toNatClampNeg)) (kRiver_3_1 _ (by omega)) (by omega) (by unfold fp1; omega) fw_X3_39 fp_5_0 (Or.inl ⟨rfl, Or.inr rfl⟩) dX3_settle_48 (fun H13 hb15 hq14 => ?_)
          refine r_aload C dX3_settle_51 rfl ?_
          refine r_iconst C dX3_settle_53 (0 : Int32) (by decide) ?_
          refine r_put C hb15 (k := (3 + u1.toNatClampNeg)) (kRiver_3_1 _ (by omega)) (by omega) (by unfold fp1; omega) fw_X3_48 fp_5_1 (Or.inl ⟨rfl, Or.inl rfl⟩) dX3_settle_54 (fun H16 hb18 hq17 => ?_)
          refine r_aload C dX3_settle_57 rfl ?_
          refine r_iload_n C dX3_settle_59 rfl ?_
          refine r_put C hb18 (k := (3 + u1.toNatClampNeg)) (kRiver_3_1 _ (by omega)) (by omega) (by unfold fp1; omega) fw_X3_55 fp_5_2 (Or.inr rfl) dX3_settle_60 (fun H19 hb21 hq20 => ?_)
          refine r_aload C dX3_settle_63 rfl ?_
          refine r_iload_n C dX3_settle_65 rfl ?_
          refine r_put C hb21 (k := (3 + u1.toNatClampNeg)) (kRiver_3_1 _ (by omega)) (by omega) (by unfold fp1; omega) fw_X3_58 fp_5_3 (Or.inr rfl) dX3_settle_66 (fun H22 hb24 hq23 => ?_)
          refine r_aload C dX3_settle_69 rfl ?_
          refine r_iload_n C dX3_settle_71 rfl ?_
          refine r_put C hb24 (k := (3 + u1.toNatClampNeg)) (kRiver_3_1 _ (by omega)) (by omega) (by unfold fp1; omega) fw_X3_61 fp_5_4 (Or.inr rfl) dX3_settle_72 (fun H25 hb27 hq26 => ?_)
          refine r_aload C dX3_settle_75 rfl ?_
          refine r_iload C dX3_settle_77 rfl ?_
          refine r_put C hb27 (k := (3 + u1.toNatClampNeg)) (kRiver_3_1 _ (by omega)) (by omega) (by unfold fp1; omega) fw_X3_64 fp_5_5 (Or.inr rfl) dX3_settle_79 (fun H28 hb30 hq29 => ?_)
          refine r_aload C dX3_settle_82 rfl ?_
          refine r_iconst C dX3_settle_84 (0 : Int32) (by decide) ?_
          refine r_put C hb30 (k := (3 + u1.toNatClampNeg)) (kRiver_3_1 _ (by omega)) (by omega) (by unfold fp1; omega) fw_X3_67 fp_5_6 (Or.inr rfl) dX3_settle_85 (fun H31 hb33 hq32 => ?_)
          refine r_aload C dX3_settle_88 rfl ?_
          refine r_iconst C dX3_settle_90 (0 : Int32) (by decide) ?_
          refine r_put C hb33 (k := (3 + u1.toNatClampNeg)) (kRiver_3_1 _ (by omega)) (by omega) (by unfold fp1; omega) fw_X3_70 fp_5_7 (Or.inr rfl) dX3_settle_91 (fun H34 hb36 hq35 => ?_)
          refine r_iconst C dX3_settle_94 (1 : Int32) (by decide) ?_
          refine r_zret C dX3_settle_95 (Or.inr rfl) ?_
          have er : res = ((1 : Int32), (pt (pt (pt (pt (pt (pt (pt (pt R_r (3 + u1.toNatClampNeg) 0 (1 : Int32)) (3 + u1.toNatClampNeg) 1 (0 : Int32)) (3 + u1.toNatClampNeg) 2 kind) (3 + u1.toNatClampNeg) 3 silver) (3 + u1.toNatClampNeg) 4 income) (3 + u1.toNatClampNeg) 5 walls) (3 + u1.toNatClampNeg) 6 (0 : Int32)) (3 + u1.toNatClampNeg) 7 (0 : Int32))) := by rw [hres, d_X3_settle]; try exact (lt_eq hu1).trans ((if_neg c8).trans ((if_neg c9).trans ((if_neg c10).trans ((if_pos c11).trans (rfl)))))
          rw [er]
          exact ⟨rfl, (Or.inr rfl), hb36⟩
        · skip
          have f37 : ¬ (u1.toNatClampNeg < 6) := nf_ltIn (by omega) (by omega) hn5 rfl c11
          refine r_iconst C dX3_settle_34 (0 : Int32) (by decide) ?_
          refine r_zret C dX3_settle_35 (Or.inl rfl) ?_
          have er : res = ((0 : Int32), R_r) := by rw [hres, d_X3_settle]; try exact (lt_eq hu1).trans ((if_neg c8).trans ((if_neg c9).trans ((if_neg c10).trans ((if_neg c11).trans (rfl)))))
          rw [er]
          exact ⟨rfl, (Or.inl rfl), hb7⟩

def d_X3_man_L73 (u1 : Int32) : Nat → (Nat → Nat → Int32) → Nat → (Nat → Nat → Int32)
  | 0, R, _ => R
  | n26 + 1, R, i =>
    if (6 : Int32) ≤ (nI i) then
      R
    else
      lt (d_X0_believe (shf R (9 + 2 * u1.toNatClampNeg)) (nI i) (0 : Int32)) fun u38 =>
      d_X3_man_L73 u1 n26 (spl R (9 + 2 * u1.toNatClampNeg) 2 u38) (i + 1)
def d_X3_man (R_r : Nat → Nat → Int32) (men : Int32) (hunger : Int32) : Int32 × (Nat → Nat → Int32) :=
  lt (d_X3_crewsThere R_r) fun u1 =>
  if men < (1 : Int32) then
    ((0 : Int32), R_r)
  else
    if (60 : Int32) < men then
      ((0 : Int32), R_r)
    else
      if hunger < (1 : Int32) then
        ((0 : Int32), R_r)
      else
        if (60 : Int32) < hunger then
          ((0 : Int32), R_r)
        else
          if u1 < (nI 3) then
            lt (d_X3_man_L73 u1 7 (pt (pt (pt (pt R_r (9 + 2 * u1.toNatClampNeg) 0 (1 : Int32)) (9 + 2 * u1.toNatClampNeg) 1 (0 : Int32)) (9 + 2 * u1.toNatClampNeg) 2 men) (9 + 2 * u1.toNatClampNeg) 3 hunger) 0) fun s45 =>
            ((1 : Int32), s45)
          else
            ((0 : Int32), R_r)
set_option maxHeartbeats 4000000 in
set_option maxRecDepth 100000 in
theorem c_X3_man (l : Launch) (D : DD) (o_r : Nat) (R_r : Nat → Nat → Int32) (men : Int32) (hunger : Int32)  (res : Int32 × (Nat → Nat → Int32)) (hres : res = d_X3_man R_r men hunger) : Mt l D yX3_man cX3_man 6 (some .boolean) 1 22 0 0 [.ref o_r, .int men, .int hunger] (fun H => blk D ksRiver o_r R_r H) (fun v H => v = some (.int res.1) ∧ bl res.1 ∧ blk D ksRiver o_r res.2 H) (fp1 o_r 15) := by
  refine mt_of (own := RX3) (ls := [.val (.ref o_r), .val (.int men), .val (.int hunger), .unset, .unset, .unset]) rfl (by decide +kernel) rfl ?_
  intro x H C hP
  have hb_r := hP
  refine r_aload_n C dX3_man_0 rfl ?_
  obtain ⟨u1, hu1⟩ : ∃ r, r = d_X3_crewsThere R_r := ⟨_, rfl⟩
  refine r_callV0 C cw_X3_73 (fun l => c_X3_crewsThere l D o_r R_r u1 hu1) (rest := []) hb_r (k := 0) rfl rfl celO_3 hb_r (fun q h => h.elim) rfl rfl rfl (Nat.le_of_ble_eq_true rfl) ⟨Nat.le_of_ble_eq_true rfl, Nat.le_of_ble_eq_true rfl, Nat.le_refl 0, Nat.le_refl 0⟩ dX3_man_1 (fun v H2 hp3 hq4 => ?_)
  subst hp3
  obtain ⟨hn5, hn6⟩ := X3_crewsThere_nat hu1
  have hb7 := blk_kept hb_r (n := 15) rfl (fun q h1 h2 => hq4 q (fun h => h))
  dsimp only [psh]
  refine r_istore_n C dX3_man_4 (ls' := [.val (.ref o_r), .val (.int men), .val (.int hunger), .val (.int u1), .unset, .unset]) rfl trivial rfl ?_
  refine r_iload_n C dX3_man_5 rfl ?_
  refine r_iconst C dX3_man_6 (1 : Int32) (by decide) ?_
  refine r_ic_lt C dX3_man_7 (fun c8 => ?_) (fun c8 => ?_)
  · skip
    refine r_iconst C dX3_man_36 (0 : Int32) (by decide) ?_
    refine r_zret C dX3_man_37 (Or.inl rfl) ?_
    have er : res = ((0 : Int32), R_r) := by rw [hres, d_X3_man]; try exact (lt_eq hu1).trans ((if_pos c8).trans (rfl))
    rw [er]
    exact ⟨rfl, (Or.inl rfl), hb7⟩
  · skip
    refine r_iload_n C dX3_man_10 rfl ?_
    refine r_bipush C dX3_man_11 (60 : Int32) (by decide) ?_
    refine r_ic_gt C dX3_man_13 (fun c9 => ?_) (fun c9 => ?_)
    · skip
      refine r_iconst C dX3_man_36 (0 : Int32) (by decide) ?_
      refine r_zret C dX3_man_37 (Or.inl rfl) ?_
      have er : res = ((0 : Int32), R_r) := by rw [hres, d_X3_man]; try exact (lt_eq hu1).trans ((if_neg c8).trans ((if_pos c9).trans (rfl)))
      rw [er]
      exact ⟨rfl, (Or.inl rfl), hb7⟩
    · skip
      refine r_iload_n C dX3_man_16 rfl ?_
      refine r_iconst C dX3_man_17 (1 : Int32) (by decide) ?_
      refine r_ic_lt C dX3_man_18 (fun c10 => ?_) (fun c10 => ?_)
      · skip
        refine r_iconst C dX3_man_36 (0 : Int32) (by decide) ?_
        refine r_zret C dX3_man_37 (Or.inl rfl) ?_
        have er : res = ((0 : Int32), R_r) := by rw [hres, d_X3_man]; try exact (lt_eq hu1).trans ((if_neg c8).trans ((if_neg c9).trans ((if_pos c10).trans (rfl))))
        rw [er]
        exact ⟨rfl, (Or.inl rfl), hb7⟩
      · skip
        refine r_iload_n C dX3_man_21 rfl ?_
        refine r_bipush C dX3_man_22 (60 : Int32) (by decide) ?_
        refine r_ic_gt C dX3_man_24 (fun c11 => ?_) (fun c11 => ?_)
        · skip
          refine r_iconst C dX3_man_36 (0 : Int32) (by decide) ?_
          refine r_zret C dX3_man_37 (Or.inl rfl) ?_
          have er : res = ((0 : Int32), R_r) := by rw [hres, d_X3_man]; try exact (lt_eq hu1).trans ((if_neg c8).trans ((if_neg c9).trans ((if_neg c10).trans ((if_pos c11).trans (rfl)))))
          rw [er]
          exact ⟨rfl, (Or.inl rfl), hb7⟩
        · skip
          refine r_iload_n C dX3_man_27 rfl ?_
          refine r_aload_n C dX3_man_28 rfl ?_
          refine r_get C hb7 (k := 0) rfl rfl celO_3 fw_X3_19 rfl dX3_man_29 ?_
          refine r_alen C hb7 (k := 2) rfl rfl 3 (Or.inr (Or.inr (Or.inr (Or.inl ⟨rfl, rfl⟩)))) dX3_man_32 ?_
          refine r_ic_lt C dX3_man_33 (fun c12 => ?_) (fun c12 => ?_)
          · skip
            have f13 : (u1.toNatClampNeg < 3) := nf_ltI (by omega) (by omega) hn5 rfl c12
            refine r_aload_n C dX3_man_38 rfl ?_
            refine r_get C hb7 (k := 0) rfl rfl celO_3 fw_X3_19 rfl dX3_man_39 ?_
            refine r_iload_n C dX3_man_42 rfl ?_
            refine r_aaldC C hb7 (k := 2) rfl rfl (vp_in_n hn5 (by omega) (by omega)) (j := u1.toNatClampNeg) (cl_n hn5 (by omega)) dX3_man_43 ?_
            refine r_astore C dX3_man_44 (ls' := [.val (.ref o_r), .val (.int men), .val (.int hunger), .val (.int u1), .val (.ref ((o_r + 2) + 7 + 2 * u1.toNatClampNeg)), .unset]) rfl trivial rfl ?_
            refine r_aload C dX3_man_46 rfl ?_
            refine r_iconst C dX3_man_48 (1 : Int32) (by decide) ?_
            refine r_put C hb7 (k := (9 + 2 * u1.toNatClampNeg)) (kRiver_9_2 _ (by omega)) (by omega) (by unfold fp1; omega) fw_X3_43 fp_0_0 (Or.inl ⟨rfl, Or.inr rfl⟩) dX3_man_49 (fun H14 hb16 hq15 => ?_)
            refine r_aload C dX3_man_52 rfl ?_
            refine r_iconst C dX3_man_54 (0 : Int32) (by decide) ?_
            refine r_put C hb16 (k := (9 + 2 * u1.toNatClampNeg)) (kRiver_9_2 _ (by omega)) (by omega) (by unfold fp1; omega) fw_X3_76 fp_0_1 (Or.inl ⟨rfl, Or.inl rfl⟩) dX3_man_55 (fun H17 hb19 hq18 => ?_)
            refine r_aload C dX3_man_58 rfl ?_
            refine r_iload_n C dX3_man_60 rfl ?_
            refine r_put C hb19 (k := (9 + 2 * u1.toNatClampNeg)) (kRiver_9_2 _ (by omega)) (by omega) (by unfold fp1; omega) fw_X3_79 fp_0_2 (Or.inr rfl) dX3_man_61 (fun H20 hb22 hq21 => ?_)
            refine r_aload C dX3_man_64 rfl ?_
            refine r_iload_n C dX3_man_66 rfl ?_
            refine r_put C hb22 (k := (9 + 2 * u1.toNatClampNeg)) (kRiver_9_2 _ (by omega)) (by omega) (by unfold fp1; omega) fw_X3_82 fp_0_3 (Or.inr rfl) dX3_man_67 (fun H23 hb25 hq24 => ?_)
            refine r_iconst C dX3_man_70 (0 : Int32) (by decide) ?_
            refine r_istore C dX3_man_71 (ls' := [.val (.ref o_r), .val (.int men), .val (.int hunger), .val (.int u1), .val (.ref ((o_r + 2) + 7 + 2 * u1.toNatClampNeg)), .val (.int (0 : Int32))]) rfl trivial rfl ?_
            have d_X3_man_L73_w : ∀ (n26 : Nat) (R : Nat → Nat → Int32) (i : Nat) (H31 : Heap), True → (i ≤ 6) → (6 - i < n26) → blk D ksRiver o_r R H31 → ∀ s28 : (Nat → Nat → Int32), s28 = d_X3_man_L73 u1 n26 R i → (∀ (H' : Heap) (z32 : Slot) (_ : slot1 z32), True → blk D ksRiver o_r s28 H' → WG x (fp1 o_r 15) (Fin x (fun v H => v = some (.int res.1) ∧ bl res.1 ∧ blk D ksRiver o_r res.2 H) (fp1 o_r 15) 0 0) H' 0 0 94 [.val (.ref o_r), .val (.int men), .val (.int hunger), .val (.int u1), .val (.ref ((o_r + 2) + 7 + 2 * u1.toNatClampNeg)), z32] []) → WG x (fp1 o_r 15) (Fin x (fun v H => v = some (.int res.1) ∧ bl res.1 ∧ blk D ksRiver o_r res.2 H) (fp1 o_r 15) 0 0) H31 0 0 73 [.val (.ref o_r), .val (.int men), .val (.int hunger), .val (.int u1), .val (.ref ((o_r + 2) + 7 + 2 * u1.toNatClampNeg)), .val (.int (nI i))] [] := by
              intro n26
              induction n26 with
              | zero => intro R i H31  _ hi hm33; exact absurd hm33 (Nat.not_lt_zero _)
              | succ n26 ih27 =>
                intro R i H31  _ hi hm33 hb30 s28 hs28  kx29
                refine r_iload C dX3_man_73 rfl ?_
                refine r_bipush C dX3_man_75 (6 : Int32) (by decide) ?_
                refine r_ic_ge C dX3_man_77 (fun c34 => ?_) (fun c34 => ?_)
                · skip
                  have f35 : (6 ≤ i) := nf_leI (by omega) (by omega) rfl rfl c34
                  have e36 : s28 = R := by rw [hs28, d_X3_man_L73]; try exact (if_pos c34).trans (rfl)
                  rw [e36] at kx29
                  exact kx29 _ (.val (.int (nI i))) rfl trivial  hb30
                · skip
                  have f37 : ¬ (6 ≤ i) := nf_leIn (by omega) (by omega) rfl rfl c34
                  refine r_aload C dX3_man_80 rfl ?_
                  refine r_iload C dX3_man_82 rfl ?_
                  refine r_iconst C dX3_man_84 (0 : Int32) (by decide) ?_
                  obtain ⟨u38, hu38⟩ : ∃ r, r = d_X0_believe (shf R (9 + 2 * u1.toNatClampNeg)) (nI i) (0 : Int32) := ⟨_, rfl⟩
                  refine r_callV0 C cw_X3_85 (fun l => c_X0_believe l D ((o_r + 2) + 7 + 2 * u1.toNatClampNeg) (shf R (9 + 2 * u1.toNatClampNeg)) (nI i) (0 : Int32) u38 hu38) (rest := []) hb30 (k := (9 + 2 * u1.toNatClampNeg)) (kRiver_9_2 _ (by omega)) (by omega) celO_0 (blk_sub hb30 (9 + 2 * u1.toNatClampNeg) 2 (sRiver_9_2_2 _ (by omega)) (by omega)) (fun q h => by unfold fp1 at h; unfold fp1; omega) rfl rfl rfl (Nat.le_of_ble_eq_true rfl) ⟨Nat.le_of_ble_eq_true rfl, Nat.le_of_ble_eq_true rfl, Nat.le_refl 0, Nat.le_refl 0⟩ dX3_man_85 (fun v H39 hp40 hq41 => ?_)
                  obtain ⟨rfl, hn42⟩ := hp40
                  have hb43 := blk_spl hb30 (9 + 2 * u1.toNatClampNeg) 2 (sRiver_9_2_2 _ (by omega)) (by omega) hn42 (fun q h => hq41 q (by unfold fp1; omega))
                  dsimp only [psh]
                  refine r_iinc C dX3_man_88 (nI (i + 1)) rfl (nI_inc i rfl) (ls' := [.val (.ref o_r), .val (.int men), .val (.int hunger), .val (.int u1), .val (.ref ((o_r + 2) + 7 + 2 * u1.toNatClampNeg)), .val (.int (nI (i + 1)))]) rfl ?_
                  refine r_goto C dX3_man_91 ?_
                  have e44 : s28 = d_X3_man_L73 u1 n26 (spl R (9 + 2 * u1.toNatClampNeg) 2 u38) (i + 1) := by rw [hs28, d_X3_man_L73]; try exact (if_neg c34).trans ((lt_eq hu38).trans (rfl))
                  exact ih27 (spl R (9 + 2 * u1.toNatClampNeg) 2 u38) (i + 1) _  trivial (by omega) (by omega) hb43 s28 e44  kx29
            obtain ⟨s45, hs45⟩ : ∃ r, r = d_X3_man_L73 u1 7 (pt (pt (pt (pt R_r (9 + 2 * u1.toNatClampNeg) 0 (1 : Int32)) (9 + 2 * u1.toNatClampNeg) 1 (0 : Int32)) (9 + 2 * u1.toNatClampNeg) 2 men) (9 + 2 * u1.toNatClampNeg) 3 hunger) 0 := ⟨_, rfl⟩
            refine d_X3_man_L73_w 7 (pt (pt (pt (pt R_r (9 + 2 * u1.toNatClampNeg) 0 (1 : Int32)) (9 + 2 * u1.toNatClampNeg) 1 (0 : Int32)) (9 + 2 * u1.toNatClampNeg) 2 men) (9 + 2 * u1.toNatClampNeg) 3 hunger) 0 _  trivial (by omega) (by omega) hb25 s45 hs45  (fun H47 z32 hz32 e48  hb46 => ?_)
            refine r_iconst C dX3_man_94 (1 : Int32) (by decide) ?_
            refine r_zret C dX3_man_95 (Or.inr rfl) ?_
            have er : res = ((1 : Int32), s45) := by rw [hres, d_X3_man]; try exact (lt_eq hu1).trans ((if_neg c8).trans ((if_neg c9).trans ((if_neg c10).trans ((if_neg c11).trans ((if_pos c12).trans ((lt_eq hs45).trans (rfl)))))))
            rw [er]
            exact ⟨rfl, (Or.inr rfl), hb46⟩
          · skip
            have f49 : ¬ (u1.toNatClampNeg < 3) := nf_ltIn (by omega) (by omega) hn5 rfl c12
            refine r_iconst C dX3_man_36 (0 : Int32) (by decide) ?_
            refine r_zret C dX3_man_37 (Or.inl rfl) ?_
            have er : res = ((0 : Int32), R_r) := by rw [hres, d_X3_man]; try exact (lt_eq hu1).trans ((if_neg c8).trans ((if_neg c9).trans ((if_neg c10).trans ((if_neg c11).trans ((if_neg c12).trans (rfl))))))
            rw [er]
            exact ⟨rfl, (Or.inl rfl), hb7⟩

def d_X3_goWay (R_r : Nat → Nat → Int32) (t : Int32) (k : Int32) : Int32 × (Nat → Nat → Int32) :=
  oc (d_X3_townAt R_r t) (
    ((0 : Int32), R_r)) fun k6 =>
  if k < (4 : Int32) then
    ((1 : Int32), (pt R_r (3 + k6) 6 k))
  else
    ((0 : Int32), R_r)
set_option maxHeartbeats 4000000 in
set_option maxRecDepth 100000 in
theorem c_X3_goWay (l : Launch) (D : DD) (o_r : Nat) (R_r : Nat → Nat → Int32) (t : Int32) (k : Int32)  (res : Int32 × (Nat → Nat → Int32)) (hres : res = d_X3_goWay R_r t k) : Mt l D yX3_goWay cX3_goWay 4 (some .boolean) 1 21 0 0 [.ref o_r, .int t, .int k] (fun H => blk D ksRiver o_r R_r H) (fun v H => v = some (.int res.1) ∧ bl res.1 ∧ blk D ksRiver o_r res.2 H) (fp1 o_r 15) := by
  refine mt_of (own := RX3) (ls := [.val (.ref o_r), .val (.int t), .val (.int k), .unset]) rfl (by decide +kernel) rfl ?_
  intro x H C hP
  have hb_r := hP
  refine r_aload_n C dX3_goWay_0 rfl ?_
  refine r_iload_n C dX3_goWay_1 rfl ?_
  obtain ⟨u1, hu1⟩ : ∃ r, r = d_X3_townAt R_r t := ⟨_, rfl⟩
  refine r_callV0 C cw_X3_44 (fun l => c_X3_townAt l D o_r R_r t u1 hu1) (rest := []) hb_r (k := 0) rfl rfl celO_3 hb_r (fun q h => h.elim) rfl rfl rfl (Nat.le_of_ble_eq_true rfl) ⟨Nat.le_of_ble_eq_true rfl, Nat.le_of_ble_eq_true rfl, Nat.le_refl 0, Nat.le_refl 0⟩ dX3_goWay_2 (fun v H2 hp3 hq4 => ?_)
  subst hp3
  have hb5 := blk_kept hb_r (n := 15) rfl (fun q h1 h2 => hq4 q (fun h => h))
  obtain ho7 | ⟨k6, ho7⟩ := opt_or u1
  · have hu1' : d_X3_townAt R_r t = none := by rw [← hu1, ho7]
    rw [ho7]; dsimp only [psh, optT, optC]
    refine r_astore_nN C dX3_goWay_5 (ls' := [.val (.ref o_r), .val (.int t), .val (.int k), .val (.null)]) rfl trivial rfl ?_
    refine r_aload_nN C dX3_goWay_6 rfl ?_
    refine r_ifnullN C dX3_goWay_7 ?_
    refine r_iconst C dX3_goWay_15 (0 : Int32) (by decide) ?_
    refine r_zret C dX3_goWay_16 (Or.inl rfl) ?_
    have er : res = ((0 : Int32), R_r) := by rw [hres, d_X3_goWay]; try exact (oc_none hu1').trans (rfl)
    rw [er]
    exact ⟨rfl, (Or.inl rfl), hb5⟩
  · have hu1' : d_X3_townAt R_r t = some k6 := by rw [← hu1, ho7]
    rw [ho7]; dsimp only [psh, optT, optC]
    have fk8 := X3_townAt_lt hu1'
    refine r_astore_n C dX3_goWay_5 (ls' := [.val (.ref o_r), .val (.int t), .val (.int k), .val (.ref (o_r + 3 + k6))]) rfl trivial rfl ?_
    refine r_aload_n C dX3_goWay_6 rfl ?_
    refine r_ifnull C dX3_goWay_7 ?_
    refine r_iload_n C dX3_goWay_10 rfl ?_
    refine r_iconst C dX3_goWay_11 (4 : Int32) (by decide) ?_
    refine r_ic_lt C dX3_goWay_12 (fun c9 => ?_) (fun c9 => ?_)
    · skip
      refine r_aload_n C dX3_goWay_17 rfl ?_
      refine r_iload_n C dX3_goWay_18 rfl ?_
      refine r_put C hb5 (k := (3 + k6)) (kRiver_3_1 _ fk8) (by omega) (by unfold fp1; omega) fw_X3_67 fp_5_6 (Or.inr rfl) dX3_goWay_19 (fun H10 hb12 hq11 => ?_)
      refine r_iconst C dX3_goWay_22 (1 : Int32) (by decide) ?_
      refine r_zret C dX3_goWay_23 (Or.inr rfl) ?_
      have er : res = ((1 : Int32), (pt R_r (3 + k6) 6 k)) := by rw [hres, d_X3_goWay]; try exact (oc_some hu1').trans ((if_pos c9).trans (rfl))
      rw [er]
      exact ⟨rfl, (Or.inr rfl), hb12⟩
    · skip
      refine r_iconst C dX3_goWay_15 (0 : Int32) (by decide) ?_
      refine r_zret C dX3_goWay_16 (Or.inl rfl) ?_
      have er : res = ((0 : Int32), R_r) := by rw [hres, d_X3_goWay]; try exact (oc_some hu1').trans ((if_neg c9).trans (rfl))
      rw [er]
      exact ⟨rfl, (Or.inl rfl), hb5⟩

def d_X3_costWalls (R_r : Nat → Nat → Int32) (cost : Int32) : Int32 × (Nat → Nat → Int32) :=
  if cost < (1 : Int32) then
    ((0 : Int32), R_r)
  else
    if cost ≤ (30 : Int32) then
      ((1 : Int32), (pt R_r 0 2 cost))
    else
      ((0 : Int32), R_r)
set_option maxHeartbeats 4000000 in
set_option maxRecDepth 100000 in
theorem c_X3_costWalls (l : Launch) (D : DD) (o_r : Nat) (R_r : Nat → Nat → Int32) (cost : Int32)  (res : Int32 × (Nat → Nat → Int32)) (hres : res = d_X3_costWalls R_r cost) : Mt l D yX3_costWalls cX3_costWalls 2 (some .boolean) 0 0 0 0 [.ref o_r, .int cost] (fun H => blk D ksRiver o_r R_r H) (fun v H => v = some (.int res.1) ∧ bl res.1 ∧ blk D ksRiver o_r res.2 H) (fp1 o_r 15) := by
  refine mt_of (own := RX3) (ls := [.val (.ref o_r), .val (.int cost)]) rfl (by decide +kernel) rfl ?_
  intro x H C hP
  have hb_r := hP
  refine r_iload_n C dX3_costWalls_0 rfl ?_
  refine r_iconst C dX3_costWalls_1 (1 : Int32) (by decide) ?_
  refine r_ic_lt C dX3_costWalls_2 (fun c1 => ?_) (fun c1 => ?_)
  · skip
    refine r_iconst C dX3_costWalls_11 (0 : Int32) (by decide) ?_
    refine r_zret C dX3_costWalls_12 (Or.inl rfl) ?_
    have er : res = ((0 : Int32), R_r) := by rw [hres, d_X3_costWalls]; try exact (if_pos c1).trans (rfl)
    rw [er]
    exact ⟨rfl, (Or.inl rfl), hb_r⟩
  · skip
    refine r_iload_n C dX3_costWalls_5 rfl ?_
    refine r_bipush C dX3_costWalls_6 (30 : Int32) (by decide) ?_
    refine r_ic_le C dX3_costWalls_8 (fun c2 => ?_) (fun c2 => ?_)
    · skip
      refine r_aload_n C dX3_costWalls_13 rfl ?_
      refine r_iload_n C dX3_costWalls_14 rfl ?_
      refine r_put C hb_r (k := 0) rfl rfl (by unfold fp1; omega) fw_X3_32 fp_3_2 (Or.inr rfl) dX3_costWalls_15 (fun H3 hb5 hq4 => ?_)
      refine r_iconst C dX3_costWalls_18 (1 : Int32) (by decide) ?_
      refine r_zret C dX3_costWalls_19 (Or.inr rfl) ?_
      have er : res = ((1 : Int32), (pt R_r 0 2 cost)) := by rw [hres, d_X3_costWalls]; try exact (if_neg c1).trans ((if_pos c2).trans (rfl))
      rw [er]
      exact ⟨rfl, (Or.inr rfl), hb5⟩
    · skip
      refine r_iconst C dX3_costWalls_11 (0 : Int32) (by decide) ?_
      refine r_zret C dX3_costWalls_12 (Or.inl rfl) ?_
      have er : res = ((0 : Int32), R_r) := by rw [hres, d_X3_costWalls]; try exact (if_neg c1).trans ((if_neg c2).trans (rfl))
      rw [er]
      exact ⟨rfl, (Or.inl rfl), hb_r⟩

def d_X3_leaveOnly_L2 (only : Int32) : Nat → (Nat → Nat → Int32) → Nat → (Nat → Nat → Int32)
  | 0, R, _ => R
  | n1 + 1, R, i =>
    if (nI 3) ≤ (nI i) then
      R
    else
      if (R (9 + 2 * i) 0) = 0 then
        d_X3_leaveOnly_L2 only n1 (pt R (9 + 2 * i) 0 (0 : Int32)) (i + 1)
      else
        if (nI i) = only then
          d_X3_leaveOnly_L2 only n1 (pt R (9 + 2 * i) 0 (1 : Int32)) (i + 1)
        else
          d_X3_leaveOnly_L2 only n1 (pt R (9 + 2 * i) 0 (0 : Int32)) (i + 1)
def d_X3_leaveOnly (R_r : Nat → Nat → Int32) (only : Int32) : (Nat → Nat → Int32) :=
  lt (d_X3_leaveOnly_L2 only 4 R_r 0) fun s27 =>
  s27
set_option maxHeartbeats 4000000 in
set_option maxRecDepth 100000 in
theorem c_X3_leaveOnly (l : Launch) (D : DD) (o_r : Nat) (R_r : Nat → Nat → Int32) (only : Int32)  (res : (Nat → Nat → Int32)) (hres : res = d_X3_leaveOnly R_r only) : Mt l D yX3_leaveOnly cX3_leaveOnly 3 none 0 0 0 0 [.ref o_r, .int only] (fun H => blk D ksRiver o_r R_r H) (fun v H => v = none ∧ blk D ksRiver o_r res H) (fp1 o_r 15) := by
  refine mt_of (own := RX3) (ls := [.val (.ref o_r), .val (.int only), .unset]) rfl (by decide +kernel) rfl ?_
  intro x H C hP
  have hb_r := hP
  refine r_iconst C dX3_leaveOnly_0 (0 : Int32) (by decide) ?_
  refine r_istore_n C dX3_leaveOnly_1 (ls' := [.val (.ref o_r), .val (.int only), .val (.int (0 : Int32))]) rfl trivial rfl ?_
  have d_X3_leaveOnly_L2_w : ∀ (n1 : Nat) (R : Nat → Nat → Int32) (i : Nat) (H6 : Heap), True → (i ≤ 3) → (3 - i < n1) → blk D ksRiver o_r R H6 → ∀ s3 : (Nat → Nat → Int32), s3 = d_X3_leaveOnly_L2 only n1 R i → (∀ (H' : Heap) (z7 : Slot) (_ : slot1 z7), True → blk D ksRiver o_r s3 H' → WG x (fp1 o_r 15) (Fin x (fun v H => v = none ∧ blk D ksRiver o_r res H) (fp1 o_r 15) 0 0) H' 0 0 48 [.val (.ref o_r), .val (.int only), z7] []) → WG x (fp1 o_r 15) (Fin x (fun v H => v = none ∧ blk D ksRiver o_r res H) (fp1 o_r 15) 0 0) H6 0 0 2 [.val (.ref o_r), .val (.int only), .val (.int (nI i))] [] := by
    intro n1
    induction n1 with
    | zero => intro R i H6  _ hi hm8; exact absurd hm8 (Nat.not_lt_zero _)
    | succ n1 ih2 =>
      intro R i H6  _ hi hm8 hb5 s3 hs3  kx4
      refine r_iload_n C dX3_leaveOnly_2 rfl ?_
      refine r_aload_n C dX3_leaveOnly_3 rfl ?_
      refine r_get C hb5 (k := 0) rfl rfl celO_3 fw_X3_19 rfl dX3_leaveOnly_4 ?_
      refine r_alen C hb5 (k := 2) rfl rfl 3 (Or.inr (Or.inr (Or.inr (Or.inl ⟨rfl, rfl⟩)))) dX3_leaveOnly_7 ?_
      refine r_ic_ge C dX3_leaveOnly_8 (fun c9 => ?_) (fun c9 => ?_)
      · skip
        have f10 : (3 ≤ i) := nf_leI (by omega) (by omega) rfl rfl c9
        have e11 : s3 = R := by rw [hs3, d_X3_leaveOnly_L2]; try exact (if_pos c9).trans (rfl)
        rw [e11] at kx4
        exact kx4 _ (.val (.int (nI i))) rfl trivial  hb5
      · skip
        have f12 : ¬ (3 ≤ i) := nf_leIn (by omega) (by omega) rfl rfl c9
        refine r_aload_n C dX3_leaveOnly_11 rfl ?_
        refine r_get C hb5 (k := 0) rfl rfl celO_3 fw_X3_19 rfl dX3_leaveOnly_12 ?_
        refine r_iload_n C dX3_leaveOnly_15 rfl ?_
        refine r_aaldC C hb5 (k := 2) rfl rfl (vp_in_n rfl (by omega) (by omega)) (j := i) (cl_n rfl (by omega)) dX3_leaveOnly_16 ?_
        refine r_aload_n C dX3_leaveOnly_17 rfl ?_
        refine r_get C hb5 (k := 0) rfl rfl celO_3 fw_X3_19 rfl dX3_leaveOnly_18 ?_
        refine r_iload_n C dX3_leaveOnly_21 rfl ?_
        refine r_aaldC C hb5 (k := 2) rfl rfl (vp_in_n rfl (by omega) (by omega)) (j := i) (cl_n rfl (by omega)) dX3_leaveOnly_22 ?_
        refine r_get C hb5 (k := (9 + 2 * i)) (kRiver_9_2 _ (by omega)) (by omega) celO_0 fw_X3_43 (z := .int (R (9 + 2 * i) 0)) rfl dX3_leaveOnly_23 ?_
        refine r_if_eq C dX3_leaveOnly_26 (fun c13 => ?_) (fun c13 => ?_)
        · skip
          refine r_iconst C dX3_leaveOnly_38 (0 : Int32) (by decide) ?_
          refine r_put C hb5 (k := (9 + 2 * i)) (kRiver_9_2 _ (by omega)) (by omega) (by unfold fp1; omega) fw_X3_43 fp_0_0 (Or.inl ⟨rfl, Or.inl rfl⟩) dX3_leaveOnly_39 (fun H14 hb16 hq15 => ?_)
          refine r_iinc C dX3_leaveOnly_42 (nI (i + 1)) rfl (nI_inc i rfl) (ls' := [.val (.ref o_r), .val (.int only), .val (.int (nI (i + 1)))]) rfl ?_
          refine r_goto C dX3_leaveOnly_45 ?_
          have e17 : s3 = d_X3_leaveOnly_L2 only n1 (pt R (9 + 2 * i) 0 (0 : Int32)) (i + 1) := by rw [hs3, d_X3_leaveOnly_L2]; try exact (if_neg c9).trans ((if_pos c13).trans (rfl))
          exact ih2 (pt R (9 + 2 * i) 0 (0 : Int32)) (i + 1) _  trivial (by omega) (by omega) hb16 s3 e17  kx4
        · skip
          refine r_iload_n C dX3_leaveOnly_29 rfl ?_
          refine r_iload_n C dX3_leaveOnly_30 rfl ?_
          refine r_ic_ne C dX3_leaveOnly_31 (fun c18 => ?_) (fun c18 => ?_)
          · skip
            refine r_iconst C dX3_leaveOnly_38 (0 : Int32) (by decide) ?_
            refine r_put C hb5 (k := (9 + 2 * i)) (kRiver_9_2 _ (by omega)) (by omega) (by unfold fp1; omega) fw_X3_43 fp_0_0 (Or.inl ⟨rfl, Or.inl rfl⟩) dX3_leaveOnly_39 (fun H19 hb21 hq20 => ?_)
            refine r_iinc C dX3_leaveOnly_42 (nI (i + 1)) rfl (nI_inc i rfl) (ls' := [.val (.ref o_r), .val (.int only), .val (.int (nI (i + 1)))]) rfl ?_
            refine r_goto C dX3_leaveOnly_45 ?_
            have e22 : s3 = d_X3_leaveOnly_L2 only n1 (pt R (9 + 2 * i) 0 (0 : Int32)) (i + 1) := by rw [hs3, d_X3_leaveOnly_L2]; try exact (if_neg c9).trans ((if_neg c13).trans ((if_neg c18).trans (rfl)))
            exact ih2 (pt R (9 + 2 * i) 0 (0 : Int32)) (i + 1) _  trivial (by omega) (by omega) hb21 s3 e22  kx4
          · skip
            refine r_iconst C dX3_leaveOnly_34 (1 : Int32) (by decide) ?_
            refine r_goto C dX3_leaveOnly_35 ?_
            refine r_put C hb5 (k := (9 + 2 * i)) (kRiver_9_2 _ (by omega)) (by omega) (by unfold fp1; omega) fw_X3_43 fp_0_0 (Or.inl ⟨rfl, Or.inr rfl⟩) dX3_leaveOnly_39 (fun H23 hb25 hq24 => ?_)
            refine r_iinc C dX3_leaveOnly_42 (nI (i + 1)) rfl (nI_inc i rfl) (ls' := [.val (.ref o_r), .val (.int only), .val (.int (nI (i + 1)))]) rfl ?_
            refine r_goto C dX3_leaveOnly_45 ?_
            have e26 : s3 = d_X3_leaveOnly_L2 only n1 (pt R (9 + 2 * i) 0 (1 : Int32)) (i + 1) := by rw [hs3, d_X3_leaveOnly_L2]; try exact (if_neg c9).trans ((if_neg c13).trans ((if_pos c18).trans (rfl)))
            exact ih2 (pt R (9 + 2 * i) 0 (1 : Int32)) (i + 1) _  trivial (by omega) (by omega) hb25 s3 e26  kx4
  obtain ⟨s27, hs27⟩ : ∃ r, r = d_X3_leaveOnly_L2 only 4 R_r 0 := ⟨_, rfl⟩
  refine d_X3_leaveOnly_L2_w 4 R_r 0 _  trivial (by omega) (by omega) hb_r s27 hs27  (fun H29 z7 hz7 e30  hb28 => ?_)
  refine r_vret C dX3_leaveOnly_48 ?_
  have er : res = s27 := by rw [hres, d_X3_leaveOnly]; try exact (lt_eq hs27).trans (rfl)
  rw [er]
  exact ⟨rfl, hb28⟩

def d_X3_comeUp_L4 (c : Nat) : Nat → (Nat → Nat → Int32) → Int32 → Nat → (Nat → Nat → Int32)
  | 0, R, _, _ => R
  | n1 + 1, R, home, i =>
    if (nI 6) ≤ (nI i) then
      R
    else
      if home = 0 then
        lt (d_X5_stands (shf R (3 + i))) fun u16 =>
        if u16 = 0 then
          d_X3_comeUp_L4 c n1 R (0 : Int32) (i + 1)
        else
          lt (d_X3_sendsHome (shf R (3 + i)) (shf R (9 + 2 * c)) (nI i)) fun u24 =>
          if u24.1 = 0 then
            d_X3_comeUp_L4 c n1 (spl (spl R (3 + i) 1 u24.2.1) (9 + 2 * c) 2 u24.2.2) (0 : Int32) (i + 1)
          else
            d_X3_comeUp_L4 c n1 (spl (spl R (3 + i) 1 u24.2.1) (9 + 2 * c) 2 u24.2.2) (1 : Int32) (i + 1)
      else
        R
def d_X3_comeUp (R_r : Nat → Nat → Int32) (c : Nat) : (Nat → Nat → Int32) :=
  lt (d_X3_comeUp_L4 c 7 R_r (0 : Int32) 0) fun s35 =>
  lt (d_X0_goHome (shf s35 (9 + 2 * c))) fun u39 =>
  (spl s35 (9 + 2 * c) 2 u39)
set_option maxHeartbeats 4000000 in
set_option maxRecDepth 100000 in
theorem c_X3_comeUp (l : Launch) (D : DD) (o_r : Nat) (R_r : Nat → Nat → Int32) (c : Nat) (hc : c < 3) (res : (Nat → Nat → Int32)) (hres : res = d_X3_comeUp R_r c) : Mt l D yX3_comeUp cX3_comeUp 4 none 3 68 0 0 [.ref o_r, .ref ((o_r + 9) + 2 * c)] (fun H => blk D ksRiver o_r R_r H) (fun v H => v = none ∧ blk D ksRiver o_r res H) (fp1 o_r 15) := by
  refine mt_of (own := RX3) (ls := [.val (.ref o_r), .val (.ref ((o_r + 9) + 2 * c)), .unset, .unset]) rfl (by decide +kernel) rfl ?_
  intro x H C hP
  have hb_r := hP
  refine r_iconst C dX3_comeUp_0 (0 : Int32) (by decide) ?_
  refine r_istore_n C dX3_comeUp_1 (ls' := [.val (.ref o_r), .val (.ref ((o_r + 9) + 2 * c)), .val (.int (0 : Int32)), .unset]) rfl trivial rfl ?_
  refine r_iconst C dX3_comeUp_2 (0 : Int32) (by decide) ?_
  refine r_istore_n C dX3_comeUp_3 (ls' := [.val (.ref o_r), .val (.ref ((o_r + 9) + 2 * c)), .val (.int (0 : Int32)), .val (.int (0 : Int32))]) rfl trivial rfl ?_
  have d_X3_comeUp_L4_w : ∀ (n1 : Nat) (R : Nat → Nat → Int32) (home : Int32) (i : Nat) (H6 : Heap), True → (i ≤ 6) → (6 - i < n1) → blk D ksRiver o_r R H6 → ∀ s3 : (Nat → Nat → Int32), s3 = d_X3_comeUp_L4 c n1 R home i → (∀ (H' : Heap) (z7 : Slot) (_ : slot1 z7) (z8 : Slot) (_ : slot1 z8), True → blk D ksRiver o_r s3 H' → WG x (fp1 o_r 15) (Fin x (fun v H => v = none ∧ blk D ksRiver o_r res H) (fp1 o_r 15) 0 0) H' 0 0 55 [.val (.ref o_r), .val (.ref ((o_r + 9) + 2 * c)), z7, z8] []) → WG x (fp1 o_r 15) (Fin x (fun v H => v = none ∧ blk D ksRiver o_r res H) (fp1 o_r 15) 0 0) H6 0 0 4 [.val (.ref o_r), .val (.ref ((o_r + 9) + 2 * c)), .val (.int home), .val (.int (nI i))] [] := by
    intro n1
    induction n1 with
    | zero => intro R home i H6  _ hi hm9; exact absurd hm9 (Nat.not_lt_zero _)
    | succ n1 ih2 =>
      intro R home i H6  _ hi hm9 hb5 s3 hs3  kx4
      refine r_iload_n C dX3_comeUp_4 rfl ?_
      refine r_aload_n C dX3_comeUp_5 rfl ?_
      refine r_get C hb5 (k := 0) rfl rfl celO_3 fw_X3_11 rfl dX3_comeUp_6 ?_
      refine r_alen C hb5 (k := 1) rfl rfl 6 (Or.inr (Or.inr (Or.inl ⟨rfl, rfl⟩))) dX3_comeUp_9 ?_
      refine r_ic_ge C dX3_comeUp_10 (fun c10 => ?_) (fun c10 => ?_)
      · skip
        have f11 : (6 ≤ i) := nf_leI (by omega) (by omega) rfl rfl c10
        have e12 : s3 = R := by rw [hs3, d_X3_comeUp_L4]; try exact (if_pos c10).trans (rfl)
        rw [e12] at kx4
        exact kx4 _ (.val (.int home)) rfl (.val (.int (nI i))) rfl trivial  hb5
      · skip
        have f13 : ¬ (6 ≤ i) := nf_leIn (by omega) (by omega) rfl rfl c10
        refine r_iload_n C dX3_comeUp_13 rfl ?_
        refine r_if_ne C dX3_comeUp_14 (fun c14 => ?_) (fun c14 => ?_)
        · skip
          have e15 : s3 = R := by rw [hs3, d_X3_comeUp_L4]; try exact (if_neg c10).trans ((if_neg c14).trans (rfl))
          rw [e15] at kx4
          exact kx4 _ (.val (.int home)) rfl (.val (.int (nI i))) rfl trivial  hb5
        · skip
          refine r_aload_n C dX3_comeUp_17 rfl ?_
          refine r_get C hb5 (k := 0) rfl rfl celO_3 fw_X3_11 rfl dX3_comeUp_18 ?_
          refine r_iload_n C dX3_comeUp_21 rfl ?_
          refine r_aaldT C hb5 (k := 1) rfl rfl (vp_in_n rfl (by omega) (by omega)) (j := i) (cl_n rfl (by omega)) dX3_comeUp_22 ?_
          obtain ⟨u16, hu16⟩ : ∃ r, r = d_X5_stands (shf R (3 + i)) := ⟨_, rfl⟩
          refine r_callV0 C cw_X3_99 (fun l => c_X5_stands l D ((o_r + 1) + 2 + i) (shf R (3 + i)) u16 hu16) (rest := []) hb5 (k := (3 + i)) (kRiver_3_1 _ (by omega)) (by omega) celO_5 (blk_sub hb5 (3 + i) 1 (sRiver_3_1_1 _ (by omega)) (by omega)) (fun q h => h.elim) rfl rfl rfl (Nat.le_of_ble_eq_true rfl) ⟨Nat.le_of_ble_eq_true rfl, Nat.le_of_ble_eq_true rfl, Nat.le_refl 0, Nat.le_refl 0⟩ dX3_comeUp_23 (fun v H17 hp18 hq19 => ?_)
          obtain ⟨rfl, hl20⟩ := hp18
          have hb21 := blk_kept hb5 (n := 15) rfl (fun q h1 h2 => hq19 q (fun h => h))
          dsimp only [psh]
          refine r_if_eq C dX3_comeUp_26 (fun c22 => ?_) (fun c22 => ?_)
          · skip
            refine r_iconst C dX3_comeUp_47 (0 : Int32) (by decide) ?_
            refine r_istore_n C dX3_comeUp_48 (ls' := [.val (.ref o_r), .val (.ref ((o_r + 9) + 2 * c)), .val (.int (0 : Int32)), .val (.int (nI i))]) rfl rfl rfl ?_
            refine r_iinc C dX3_comeUp_49 (nI (i + 1)) rfl (nI_inc i rfl) (ls' := [.val (.ref o_r), .val (.ref ((o_r + 9) + 2 * c)), .val (.int (0 : Int32)), .val (.int (nI (i + 1)))]) rfl ?_
            refine r_goto C dX3_comeUp_52 ?_
            have e23 : s3 = d_X3_comeUp_L4 c n1 R (0 : Int32) (i + 1) := by rw [hs3, d_X3_comeUp_L4]; try exact (if_neg c10).trans ((if_pos c14).trans ((lt_eq hu16).trans ((if_pos c22).trans (rfl))))
            exact ih2 R (0 : Int32) (i + 1) _  trivial (by omega) (by omega) hb21 s3 e23  kx4
          · skip
            refine r_aload_n C dX3_comeUp_29 rfl ?_
            refine r_get C hb21 (k := 0) rfl rfl celO_3 fw_X3_11 rfl dX3_comeUp_30 ?_
            refine r_iload_n C dX3_comeUp_33 rfl ?_
            refine r_aaldT C hb21 (k := 1) rfl rfl (vp_in_n rfl (by omega) (by omega)) (j := i) (cl_n rfl (by omega)) dX3_comeUp_34 ?_
            refine r_iload_n C dX3_comeUp_35 rfl ?_
            refine r_aload_n C dX3_comeUp_36 rfl ?_
            obtain ⟨u24, hu24⟩ : ∃ r, r = d_X3_sendsHome (shf R (3 + i)) (shf R (9 + 2 * c)) (nI i) := ⟨_, rfl⟩
            refine r_callS0 C cw_X3_109 (fun l => c_X3_sendsHome l D ((o_r + 1) + 2 + i) ((o_r + 9) + 2 * c) (shf R (3 + i)) (shf R (9 + 2 * c)) (nI i) (by omega) u24 hu24) (rest := []) ⟨(blk_sub hb21 (3 + i) 1 (sRiver_3_1_1 _ (by omega)) (by omega)), (blk_sub hb21 (9 + 2 * c) 2 (sRiver_9_2_2 _ hc) (by omega))⟩ (fun q h => by unfold fp2 at h; unfold fp1; omega) rfl rfl rfl (Nat.le_of_ble_eq_true rfl) ⟨Nat.le_of_ble_eq_true rfl, Nat.le_of_ble_eq_true rfl, Nat.le_refl 0, Nat.le_refl 0⟩ dX3_comeUp_37 (fun v H25 hp26 hq27 => ?_)
            obtain ⟨rfl, hl28, hn29, hn30⟩ := hp26
            have hb31 := blk_spl2 hb21 (3 + i) 1 (sRiver_3_1_1 _ (by omega)) (by omega) hn29 (9 + 2 * c) 2 (sRiver_9_2_2 _ hc) (by omega) hn30 (fun q h => hq27 q (by unfold fp2; omega))
            dsimp only [psh]
            refine r_if_eq C dX3_comeUp_40 (fun c32 => ?_) (fun c32 => ?_)
            · skip
              refine r_iconst C dX3_comeUp_47 (0 : Int32) (by decide) ?_
              refine r_istore_n C dX3_comeUp_48 (ls' := [.val (.ref o_r), .val (.ref ((o_r + 9) + 2 * c)), .val (.int (0 : Int32)), .val (.int (nI i))]) rfl rfl rfl ?_
              refine r_iinc C dX3_comeUp_49 (nI (i + 1)) rfl (nI_inc i rfl) (ls' := [.val (.ref o_r), .val (.ref ((o_r + 9) + 2 * c)), .val (.int (0 : Int32)), .val (.int (nI (i + 1)))]) rfl ?_
              refine r_goto C dX3_comeUp_52 ?_
              have e33 : s3 = d_X3_comeUp_L4 c n1 (spl (spl R (3 + i) 1 u24.2.1) (9 + 2 * c) 2 u24.2.2) (0 : Int32) (i + 1) := by rw [hs3, d_X3_comeUp_L4]; try exact (if_neg c10).trans ((if_pos c14).trans ((lt_eq hu16).trans ((if_neg c22).trans ((lt_eq hu24).trans ((if_pos c32).trans (rfl))))))
              exact ih2 (spl (spl R (3 + i) 1 u24.2.1) (9 + 2 * c) 2 u24.2.2) (0 : Int32) (i + 1) _  trivial (by omega) (by omega) hb31 s3 e33  kx4
            · skip
              refine r_iconst C dX3_comeUp_43 (1 : Int32) (by decide) ?_
              refine r_goto C dX3_comeUp_44 ?_
              refine r_istore_n C dX3_comeUp_48 (ls' := [.val (.ref o_r), .val (.ref ((o_r + 9) + 2 * c)), .val (.int (1 : Int32)), .val (.int (nI i))]) rfl rfl rfl ?_
              refine r_iinc C dX3_comeUp_49 (nI (i + 1)) rfl (nI_inc i rfl) (ls' := [.val (.ref o_r), .val (.ref ((o_r + 9) + 2 * c)), .val (.int (1 : Int32)), .val (.int (nI (i + 1)))]) rfl ?_
              refine r_goto C dX3_comeUp_52 ?_
              have e34 : s3 = d_X3_comeUp_L4 c n1 (spl (spl R (3 + i) 1 u24.2.1) (9 + 2 * c) 2 u24.2.2) (1 : Int32) (i + 1) := by rw [hs3, d_X3_comeUp_L4]; try exact (if_neg c10).trans ((if_pos c14).trans ((lt_eq hu16).trans ((if_neg c22).trans ((lt_eq hu24).trans ((if_neg c32).trans (rfl))))))
              exact ih2 (spl (spl R (3 + i) 1 u24.2.1) (9 + 2 * c) 2 u24.2.2) (1 : Int32) (i + 1) _  trivial (by omega) (by omega) hb31 s3 e34  kx4
  obtain ⟨s35, hs35⟩ : ∃ r, r = d_X3_comeUp_L4 c 7 R_r (0 : Int32) 0 := ⟨_, rfl⟩
  refine d_X3_comeUp_L4_w 7 R_r (0 : Int32) 0 _  trivial (by omega) (by omega) hb_r s35 hs35  (fun H37 z7 hz7 z8 hz8 e38  hb36 => ?_)
  refine r_aload_n C dX3_comeUp_55 rfl ?_
  obtain ⟨u39, hu39⟩ : ∃ r, r = d_X0_goHome (shf s35 (9 + 2 * c)) := ⟨_, rfl⟩
  refine r_callV0 C cw_X3_113 (fun l => c_X0_goHome l D ((o_r + 9) + 2 * c) (shf s35 (9 + 2 * c)) u39 hu39) (rest := []) hb36 (k := (9 + 2 * c)) (kRiver_9_2 _ hc) (by omega) celO_0 (blk_sub hb36 (9 + 2 * c) 2 (sRiver_9_2_2 _ hc) (by omega)) (fun q h => by unfold fp1 at h; unfold fp1; omega) rfl rfl rfl (Nat.le_of_ble_eq_true rfl) ⟨Nat.le_of_ble_eq_true rfl, Nat.le_of_ble_eq_true rfl, Nat.le_refl 0, Nat.le_refl 0⟩ dX3_comeUp_56 (fun v H40 hp41 hq42 => ?_)
  obtain ⟨rfl, hn43⟩ := hp41
  have hb44 := blk_spl hb36 (9 + 2 * c) 2 (sRiver_9_2_2 _ hc) (by omega) hn43 (fun q h => hq42 q (by unfold fp1; omega))
  dsimp only [psh]
  refine r_vret C dX3_comeUp_59 ?_
  have er : res = (spl s35 (9 + 2 * c) 2 u39) := by rw [hres, d_X3_comeUp]; try exact (lt_eq hs35).trans ((lt_eq hu39).trans (rfl))
  rw [er]
  exact ⟨rfl, hb44⟩

def d_X3_earnAndBuild_L2  : Nat → (Nat → Nat → Int32) → Nat → (Nat → Nat → Int32)
  | 0, R, _ => R
  | n1 + 1, R, i =>
    if (nI 6) ≤ (nI i) then
      R
    else
      lt (d_X5_stands (shf R (3 + i))) fun u13 =>
      if u13 = 0 then
        d_X3_earnAndBuild_L2  n1 R (i + 1)
      else
        lt (d_X5_earn (shf R (3 + i))) fun u21 =>
        lt (d_X5_build (shf (spl R (3 + i) 1 u21) (3 + i)) ((spl R (3 + i) 1 u21) 0 2)) fun u27 =>
        d_X3_earnAndBuild_L2  n1 (spl (spl R (3 + i) 1 u21) (3 + i) 1 u27) (i + 1)
def d_X3_earnAndBuild (R_r : Nat → Nat → Int32) : (Nat → Nat → Int32) :=
  lt (d_X3_earnAndBuild_L2 7 R_r 0) fun s34 =>
  s34
set_option maxHeartbeats 4000000 in
set_option maxRecDepth 100000 in
theorem c_X3_earnAndBuild (l : Launch) (D : DD) (o_r : Nat) (R_r : Nat → Nat → Int32)  (res : (Nat → Nat → Int32)) (hres : res = d_X3_earnAndBuild R_r) : Mt l D yX3_earnAndBuild cX3_earnAndBuild 2 none 2 41 0 0 [.ref o_r] (fun H => blk D ksRiver o_r R_r H) (fun v H => v = none ∧ blk D ksRiver o_r res H) (fp1 o_r 15) := by
  refine mt_of (own := RX3) (ls := [.val (.ref o_r), .unset]) rfl (by decide +kernel) rfl ?_
  intro x H C hP
  have hb_r := hP
  refine r_iconst C dX3_earnAndBuild_0 (0 : Int32) (by decide) ?_
  refine r_istore_n C dX3_earnAndBuild_1 (ls' := [.val (.ref o_r), .val (.int (0 : Int32))]) rfl trivial rfl ?_
  have d_X3_earnAndBuild_L2_w : ∀ (n1 : Nat) (R : Nat → Nat → Int32) (i : Nat) (H6 : Heap), True → (i ≤ 6) → (6 - i < n1) → blk D ksRiver o_r R H6 → ∀ s3 : (Nat → Nat → Int32), s3 = d_X3_earnAndBuild_L2  n1 R i → (∀ (H' : Heap) (z7 : Slot) (_ : slot1 z7), True → blk D ksRiver o_r s3 H' → WG x (fp1 o_r 15) (Fin x (fun v H => v = none ∧ blk D ksRiver o_r res H) (fp1 o_r 15) 0 0) H' 0 0 51 [.val (.ref o_r), z7] []) → WG x (fp1 o_r 15) (Fin x (fun v H => v = none ∧ blk D ksRiver o_r res H) (fp1 o_r 15) 0 0) H6 0 0 2 [.val (.ref o_r), .val (.int (nI i))] [] := by
    intro n1
    induction n1 with
    | zero => intro R i H6  _ hi hm8; exact absurd hm8 (Nat.not_lt_zero _)
    | succ n1 ih2 =>
      intro R i H6  _ hi hm8 hb5 s3 hs3  kx4
      refine r_iload_n C dX3_earnAndBuild_2 rfl ?_
      refine r_aload_n C dX3_earnAndBuild_3 rfl ?_
      refine r_get C hb5 (k := 0) rfl rfl celO_3 fw_X3_11 rfl dX3_earnAndBuild_4 ?_
      refine r_alen C hb5 (k := 1) rfl rfl 6 (Or.inr (Or.inr (Or.inl ⟨rfl, rfl⟩))) dX3_earnAndBuild_7 ?_
      refine r_ic_ge C dX3_earnAndBuild_8 (fun c9 => ?_) (fun c9 => ?_)
      · skip
        have f10 : (6 ≤ i) := nf_leI (by omega) (by omega) rfl rfl c9
        have e11 : s3 = R := by rw [hs3, d_X3_earnAndBuild_L2]; try exact (if_pos c9).trans (rfl)
        rw [e11] at kx4
        exact kx4 _ (.val (.int (nI i))) rfl trivial  hb5
      · skip
        have f12 : ¬ (6 ≤ i) := nf_leIn (by omega) (by omega) rfl rfl c9
        refine r_aload_n C dX3_earnAndBuild_11 rfl ?_
        refine r_get C hb5 (k := 0) rfl rfl celO_3 fw_X3_11 rfl dX3_earnAndBuild_12 ?_
        refine r_iload_n C dX3_earnAndBuild_15 rfl ?_
        refine r_aaldT C hb5 (k := 1) rfl rfl (vp_in_n rfl (by omega) (by omega)) (j := i) (cl_n rfl (by omega)) dX3_earnAndBuild_16 ?_
        obtain ⟨u13, hu13⟩ : ∃ r, r = d_X5_stands (shf R (3 + i)) := ⟨_, rfl⟩
        refine r_callV0 C cw_X3_99 (fun l => c_X5_stands l D ((o_r + 1) + 2 + i) (shf R (3 + i)) u13 hu13) (rest := []) hb5 (k := (3 + i)) (kRiver_3_1 _ (by omega)) (by omega) celO_5 (blk_sub hb5 (3 + i) 1 (sRiver_3_1_1 _ (by omega)) (by omega)) (fun q h => h.elim) rfl rfl rfl (Nat.le_of_ble_eq_true rfl) ⟨Nat.le_of_ble_eq_true rfl, Nat.le_of_ble_eq_true rfl, Nat.le_refl 0, Nat.le_refl 0⟩ dX3_earnAndBuild_17 (fun v H14 hp15 hq16 => ?_)
        obtain ⟨rfl, hl17⟩ := hp15
        have hb18 := blk_kept hb5 (n := 15) rfl (fun q h1 h2 => hq16 q (fun h => h))
        dsimp only [psh]
        refine r_if_eq C dX3_earnAndBuild_20 (fun c19 => ?_) (fun c19 => ?_)
        · skip
          refine r_iinc C dX3_earnAndBuild_45 (nI (i + 1)) rfl (nI_inc i rfl) (ls' := [.val (.ref o_r), .val (.int (nI (i + 1)))]) rfl ?_
          refine r_goto C dX3_earnAndBuild_48 ?_
          have e20 : s3 = d_X3_earnAndBuild_L2  n1 R (i + 1) := by rw [hs3, d_X3_earnAndBuild_L2]; try exact (if_neg c9).trans ((lt_eq hu13).trans ((if_pos c19).trans (rfl)))
          exact ih2 R (i + 1) _  trivial (by omega) (by omega) hb18 s3 e20  kx4
        · skip
          refine r_aload_n C dX3_earnAndBuild_23 rfl ?_
          refine r_get C hb18 (k := 0) rfl rfl celO_3 fw_X3_11 rfl dX3_earnAndBuild_24 ?_
          refine r_iload_n C dX3_earnAndBuild_27 rfl ?_
          refine r_aaldT C hb18 (k := 1) rfl rfl (vp_in_n rfl (by omega) (by omega)) (j := i) (cl_n rfl (by omega)) dX3_earnAndBuild_28 ?_
          obtain ⟨u21, hu21⟩ : ∃ r, r = d_X5_earn (shf R (3 + i)) := ⟨_, rfl⟩
          refine r_callV0 C cw_X3_102 (fun l => c_X5_earn l D ((o_r + 1) + 2 + i) (shf R (3 + i)) u21 hu21) (rest := []) hb18 (k := (3 + i)) (kRiver_3_1 _ (by omega)) (by omega) celO_5 (blk_sub hb18 (3 + i) 1 (sRiver_3_1_1 _ (by omega)) (by omega)) (fun q h => by unfold fp1 at h; unfold fp1; omega) rfl rfl rfl (Nat.le_of_ble_eq_true rfl) ⟨Nat.le_of_ble_eq_true rfl, Nat.le_of_ble_eq_true rfl, Nat.le_refl 0, Nat.le_refl 0⟩ dX3_earnAndBuild_29 (fun v H22 hp23 hq24 => ?_)
          obtain ⟨rfl, hn25⟩ := hp23
          have hb26 := blk_spl hb18 (3 + i) 1 (sRiver_3_1_1 _ (by omega)) (by omega) hn25 (fun q h => hq24 q (by unfold fp1; omega))
          dsimp only [psh]
          refine r_aload_n C dX3_earnAndBuild_32 rfl ?_
          refine r_get C hb26 (k := 0) rfl rfl celO_3 fw_X3_11 rfl dX3_earnAndBuild_33 ?_
          refine r_iload_n C dX3_earnAndBuild_36 rfl ?_
          refine r_aaldT C hb26 (k := 1) rfl rfl (vp_in_n rfl (by omega) (by omega)) (j := i) (cl_n rfl (by omega)) dX3_earnAndBuild_37 ?_
          refine r_aload_n C dX3_earnAndBuild_38 rfl ?_
          refine r_get C hb26 (k := 0) rfl rfl celO_3 fw_X3_32 (z := .int ((spl R (3 + i) 1 u21) 0 2)) rfl dX3_earnAndBuild_39 ?_
          obtain ⟨u27, hu27⟩ : ∃ r, r = d_X5_build (shf (spl R (3 + i) 1 u21) (3 + i)) ((spl R (3 + i) 1 u21) 0 2) := ⟨_, rfl⟩
          refine r_callV0 C cw_X3_105 (fun l => c_X5_build l D ((o_r + 1) + 2 + i) (shf (spl R (3 + i) 1 u21) (3 + i)) ((spl R (3 + i) 1 u21) 0 2) u27 hu27) (rest := []) hb26 (k := (3 + i)) (kRiver_3_1 _ (by omega)) (by omega) celO_5 (blk_sub hb26 (3 + i) 1 (sRiver_3_1_1 _ (by omega)) (by omega)) (fun q h => by unfold fp1 at h; unfold fp1; omega) rfl rfl rfl (Nat.le_of_ble_eq_true rfl) ⟨Nat.le_of_ble_eq_true rfl, Nat.le_of_ble_eq_true rfl, Nat.le_refl 0, Nat.le_refl 0⟩ dX3_earnAndBuild_42 (fun v H28 hp29 hq30 => ?_)
          obtain ⟨rfl, hn31⟩ := hp29
          have hb32 := blk_spl hb26 (3 + i) 1 (sRiver_3_1_1 _ (by omega)) (by omega) hn31 (fun q h => hq30 q (by unfold fp1; omega))
          dsimp only [psh]
          refine r_iinc C dX3_earnAndBuild_45 (nI (i + 1)) rfl (nI_inc i rfl) (ls' := [.val (.ref o_r), .val (.int (nI (i + 1)))]) rfl ?_
          refine r_goto C dX3_earnAndBuild_48 ?_
          have e33 : s3 = d_X3_earnAndBuild_L2  n1 (spl (spl R (3 + i) 1 u21) (3 + i) 1 u27) (i + 1) := by rw [hs3, d_X3_earnAndBuild_L2]; try exact (if_neg c9).trans ((lt_eq hu13).trans ((if_neg c19).trans ((lt_eq hu21).trans ((lt_eq hu27).trans (rfl)))))
          exact ih2 (spl (spl R (3 + i) 1 u21) (3 + i) 1 u27) (i + 1) _  trivial (by omega) (by omega) hb32 s3 e33  kx4
  obtain ⟨s34, hs34⟩ : ∃ r, r = d_X3_earnAndBuild_L2 7 R_r 0 := ⟨_, rfl⟩
  refine d_X3_earnAndBuild_L2_w 7 R_r 0 _  trivial (by omega) (by omega) hb_r s34 hs34  (fun H36 z7 hz7 e37  hb35 => ?_)
  refine r_vret C dX3_earnAndBuild_51 ?_
  have er : res = s34 := by rw [hres, d_X3_earnAndBuild]; try exact (lt_eq hs34).trans (rfl)
  rw [er]
  exact ⟨rfl, hb35⟩

def d_X3_goBy_L13  : Nat → (Nat → Nat → Int32) → Nat → (Nat → Nat → Int32)
  | 0, R2, _ => R2
  | n20 + 1, R2, c =>
    if (nI 3) ≤ (nI c) then
      R2
    else
      lt (d_X0_sails (shf R2 (9 + 2 * c))) fun u32 =>
      if u32 = 0 then
        d_X3_goBy_L13  n20 R2 (c + 1)
      else
        lt (d_X3_comeUp R2 c) fun u40 =>
        d_X3_goBy_L13  n20 u40 (c + 1)
def d_X3_goBy_L2 (n : Int32) : Nat → (Nat → Nat → Int32) → Nat → (Nat → Nat → Int32)
  | 0, R, _ => R
  | n1 + 1, R, i =>
    if n ≤ (nI i) then
      R
    else
      lt (d_X3_earnAndBuild R) fun u15 =>
      lt (d_X3_goBy_L13 4 u15 0) fun s46 =>
      d_X3_goBy_L2 n n1 (pt s46 0 3 ((s46 0 3) + (1 : Int32))) (i + 1)
def d_X3_goBy (R_r : Nat → Nat → Int32) (n : Int32) : (Nat → Nat → Int32) :=
  lt (d_X3_goBy_L2 n (n.toNatClampNeg + 1) R_r 0) fun s54 =>
  s54
set_option maxHeartbeats 4000000 in
set_option maxRecDepth 100000 in
theorem c_X3_goBy (l : Launch) (D : DD) (o_r : Nat) (R_r : Nat → Nat → Int32) (n : Int32) (hn : n = nI n.toNatClampNeg) (hN : n.toNatClampNeg ≤ 1000) (res : (Nat → Nat → Int32)) (hres : res = d_X3_goBy R_r n) : Mt l D yX3_goBy cX3_goBy 4 none 4 91 0 0 [.ref o_r, .int n] (fun H => blk D ksRiver o_r R_r H) (fun v H => v = none ∧ blk D ksRiver o_r res H) (fp1 o_r 15) := by
  refine mt_of (own := RX3) (ls := [.val (.ref o_r), .val (.int n), .unset, .unset]) rfl (by decide +kernel) rfl ?_
  intro x H C hP
  have hb_r := hP
  refine r_iconst C dX3_goBy_0 (0 : Int32) (by decide) ?_
  refine r_istore_n C dX3_goBy_1 (ls' := [.val (.ref o_r), .val (.int n), .val (.int (0 : Int32)), .unset]) rfl trivial rfl ?_
  have d_X3_goBy_L2_w : ∀ (n1 : Nat) (R : Nat → Nat → Int32) (i : Nat) (H7 : Heap) (z5 : Slot) (_ : slot1 z5), True → (i ≤ n.toNatClampNeg) → (n.toNatClampNeg - i < n1) → blk D ksRiver o_r R H7 → ∀ s3 : (Nat → Nat → Int32), s3 = d_X3_goBy_L2 n n1 R i → (∀ (H' : Heap) (z8 : Slot) (_ : slot1 z8) (z9 : Slot) (_ : slot1 z9), True → blk D ksRiver o_r s3 H' → WG x (fp1 o_r 15) (Fin x (fun v H => v = none ∧ blk D ksRiver o_r res H) (fp1 o_r 15) 0 0) H' 0 0 66 [.val (.ref o_r), .val (.int n), z8, z9] []) → WG x (fp1 o_r 15) (Fin x (fun v H => v = none ∧ blk D ksRiver o_r res H) (fp1 o_r 15) 0 0) H7 0 0 2 [.val (.ref o_r), .val (.int n), .val (.int (nI i)), z5] [] := by
    intro n1
    induction n1 with
    | zero => intro R i H7 z5 hz5 _ hi hm10; exact absurd hm10 (Nat.not_lt_zero _)
    | succ n1 ih2 =>
      intro R i H7 z5 hz5 _ hi hm10 hb6 s3 hs3  kx4
      refine r_iload_n C dX3_goBy_2 rfl ?_
      refine r_iload_n C dX3_goBy_3 rfl ?_
      refine r_ic_ge C dX3_goBy_4 (fun c11 => ?_) (fun c11 => ?_)
      · skip
        have f12 : (n.toNatClampNeg ≤ i) := nf_leI (by omega) (by omega) hn rfl c11
        have e13 : s3 = R := by rw [hs3, d_X3_goBy_L2]; try exact (if_pos c11).trans (rfl)
        rw [e13] at kx4
        exact kx4 _ (.val (.int (nI i))) rfl z5 hz5 trivial  hb6
      · skip
        have f14 : ¬ (n.toNatClampNeg ≤ i) := nf_leIn (by omega) (by omega) hn rfl c11
        refine r_aload_n C dX3_goBy_7 rfl ?_
        obtain ⟨u15, hu15⟩ : ∃ r, r = d_X3_earnAndBuild R := ⟨_, rfl⟩
        refine r_callV0 C cw_X3_89 (fun l => c_X3_earnAndBuild l D o_r R u15 hu15) (rest := []) hb6 (k := 0) rfl rfl celO_3 hb6 (fun q h => by unfold fp1 at h; unfold fp1; omega) rfl rfl rfl (Nat.le_of_ble_eq_true rfl) ⟨Nat.le_of_ble_eq_true rfl, Nat.le_of_ble_eq_true rfl, Nat.le_refl 0, Nat.le_refl 0⟩ dX3_goBy_8 (fun v H16 hp17 hq18 => ?_)
        obtain ⟨rfl, hn19⟩ := hp17
        dsimp only [psh]
        refine r_iconst C dX3_goBy_11 (0 : Int32) (by decide) ?_
        refine r_istore_n C dX3_goBy_12 (ls' := [.val (.ref o_r), .val (.int n), .val (.int (nI i)), .val (.int (0 : Int32))]) rfl hz5 rfl ?_
        have d_X3_goBy_L13_w : ∀ (n20 : Nat) (R2 : Nat → Nat → Int32) (c : Nat) (H25 : Heap), True → (c ≤ 3) → (3 - c < n20) → blk D ksRiver o_r R2 H25 → ∀ s22 : (Nat → Nat → Int32), s22 = d_X3_goBy_L13  n20 R2 c → (∀ (H' : Heap) (z26 : Slot) (_ : slot1 z26), True → blk D ksRiver o_r s22 H' → WG x (fp1 o_r 15) (Fin x (fun v H => v = none ∧ blk D ksRiver o_r res H) (fp1 o_r 15) 0 0) H' 0 0 50 [.val (.ref o_r), .val (.int n), .val (.int (nI i)), z26] []) → WG x (fp1 o_r 15) (Fin x (fun v H => v = none ∧ blk D ksRiver o_r res H) (fp1 o_r 15) 0 0) H25 0 0 13 [.val (.ref o_r), .val (.int n), .val (.int (nI i)), .val (.int (nI c))] [] := by
          intro n20
          induction n20 with
          | zero => intro R2 c H25  _ hc hm27; exact absurd hm27 (Nat.not_lt_zero _)
          | succ n20 ih21 =>
            intro R2 c H25  _ hc hm27 hb24 s22 hs22  kx23
            refine r_iload_n C dX3_goBy_13 rfl ?_
            refine r_aload_n C dX3_goBy_14 rfl ?_
            refine r_get C hb24 (k := 0) rfl rfl celO_3 fw_X3_19 rfl dX3_goBy_15 ?_
            refine r_alen C hb24 (k := 2) rfl rfl 3 (Or.inr (Or.inr (Or.inr (Or.inl ⟨rfl, rfl⟩)))) dX3_goBy_18 ?_
            refine r_ic_ge C dX3_goBy_19 (fun c28 => ?_) (fun c28 => ?_)
            · skip
              have f29 : (3 ≤ c) := nf_leI (by omega) (by omega) rfl rfl c28
              have e30 : s22 = R2 := by rw [hs22, d_X3_goBy_L13]; try exact (if_pos c28).trans (rfl)
              rw [e30] at kx23
              exact kx23 _ (.val (.int (nI c))) rfl trivial  hb24
            · skip
              have f31 : ¬ (3 ≤ c) := nf_leIn (by omega) (by omega) rfl rfl c28
              refine r_aload_n C dX3_goBy_22 rfl ?_
              refine r_get C hb24 (k := 0) rfl rfl celO_3 fw_X3_19 rfl dX3_goBy_23 ?_
              refine r_iload_n C dX3_goBy_26 rfl ?_
              refine r_aaldC C hb24 (k := 2) rfl rfl (vp_in_n rfl (by omega) (by omega)) (j := c) (cl_n rfl (by omega)) dX3_goBy_27 ?_
              obtain ⟨u32, hu32⟩ : ∃ r, r = d_X0_sails (shf R2 (9 + 2 * c)) := ⟨_, rfl⟩
              refine r_callV0 C cw_X3_92 (fun l => c_X0_sails l D ((o_r + 2) + 7 + 2 * c) (shf R2 (9 + 2 * c)) u32 hu32) (rest := []) hb24 (k := (9 + 2 * c)) (kRiver_9_2 _ (by omega)) (by omega) celO_0 (blk_sub hb24 (9 + 2 * c) 2 (sRiver_9_2_2 _ (by omega)) (by omega)) (fun q h => h.elim) rfl rfl rfl (Nat.le_of_ble_eq_true rfl) ⟨Nat.le_of_ble_eq_true rfl, Nat.le_of_ble_eq_true rfl, Nat.le_refl 0, Nat.le_refl 0⟩ dX3_goBy_28 (fun v H33 hp34 hq35 => ?_)
              obtain ⟨rfl, hl36⟩ := hp34
              have hb37 := blk_kept hb24 (n := 15) rfl (fun q h1 h2 => hq35 q (fun h => h))
              dsimp only [psh]
              refine r_if_eq C dX3_goBy_31 (fun c38 => ?_) (fun c38 => ?_)
              · skip
                refine r_iinc C dX3_goBy_44 (nI (c + 1)) rfl (nI_inc c rfl) (ls' := [.val (.ref o_r), .val (.int n), .val (.int (nI i)), .val (.int (nI (c + 1)))]) rfl ?_
                refine r_goto C dX3_goBy_47 ?_
                have e39 : s22 = d_X3_goBy_L13  n20 R2 (c + 1) := by rw [hs22, d_X3_goBy_L13]; try exact (if_neg c28).trans ((lt_eq hu32).trans ((if_pos c38).trans (rfl)))
                exact ih21 R2 (c + 1) _  trivial (by omega) (by omega) hb37 s22 e39  kx23
              · skip
                refine r_aload_n C dX3_goBy_34 rfl ?_
                refine r_aload_n C dX3_goBy_35 rfl ?_
                refine r_get C hb37 (k := 0) rfl rfl celO_3 fw_X3_19 rfl dX3_goBy_36 ?_
                refine r_iload_n C dX3_goBy_39 rfl ?_
                refine r_aaldC C hb37 (k := 2) rfl rfl (vp_in_n rfl (by omega) (by omega)) (j := c) (cl_n rfl (by omega)) dX3_goBy_40 ?_
                obtain ⟨u40, hu40⟩ : ∃ r, r = d_X3_comeUp R2 c := ⟨_, rfl⟩
                refine r_callV0 C cw_X3_96 (fun l => c_X3_comeUp l D o_r R2 c (by omega) u40 hu40) (rest := []) hb37 (k := 0) rfl rfl celO_3 hb37 (fun q h => by unfold fp1 at h; unfold fp1; omega) rfl rfl rfl (Nat.le_of_ble_eq_true rfl) ⟨Nat.le_of_ble_eq_true rfl, Nat.le_of_ble_eq_true rfl, Nat.le_refl 0, Nat.le_refl 0⟩ dX3_goBy_41 (fun v H41 hp42 hq43 => ?_)
                obtain ⟨rfl, hn44⟩ := hp42
                dsimp only [psh]
                refine r_iinc C dX3_goBy_44 (nI (c + 1)) rfl (nI_inc c rfl) (ls' := [.val (.ref o_r), .val (.int n), .val (.int (nI i)), .val (.int (nI (c + 1)))]) rfl ?_
                refine r_goto C dX3_goBy_47 ?_
                have e45 : s22 = d_X3_goBy_L13  n20 u40 (c + 1) := by rw [hs22, d_X3_goBy_L13]; try exact (if_neg c28).trans ((lt_eq hu32).trans ((if_neg c38).trans ((lt_eq hu40).trans (rfl))))
                exact ih21 u40 (c + 1) _  trivial (by omega) (by omega) hn44 s22 e45  kx23
        obtain ⟨s46, hs46⟩ : ∃ r, r = d_X3_goBy_L13 4 u15 0 := ⟨_, rfl⟩
        refine d_X3_goBy_L13_w 4 u15 0 _  trivial (by omega) (by omega) hn19 s46 hs46  (fun H48 z26 hz26 e49  hb47 => ?_)
        refine r_aload_n C dX3_goBy_50 rfl ?_
        refine r_dup C dX3_goBy_51 rfl ?_
        refine r_get C hb47 (k := 0) rfl rfl celO_3 fw_X3_36 (z := .int (s46 0 3)) rfl dX3_goBy_52 ?_
        refine r_iconst C dX3_goBy_55 (1 : Int32) (by decide) ?_
        refine r_iadd C dX3_goBy_56 ?_
        refine r_put C hb47 (k := 0) rfl rfl (by unfold fp1; omega) fw_X3_36 fp_3_3 (Or.inr rfl) dX3_goBy_57 (fun H50 hb52 hq51 => ?_)
        refine r_iinc C dX3_goBy_60 (nI (i + 1)) rfl (nI_inc i rfl) (ls' := [.val (.ref o_r), .val (.int n), .val (.int (nI (i + 1))), z26]) rfl ?_
        refine r_goto C dX3_goBy_63 ?_
        have e53 : s3 = d_X3_goBy_L2 n n1 (pt s46 0 3 ((s46 0 3) + (1 : Int32))) (i + 1) := by rw [hs3, d_X3_goBy_L2]; try exact (if_neg c11).trans ((lt_eq hu15).trans ((lt_eq hs46).trans (rfl)))
        exact ih2 (pt s46 0 3 ((s46 0 3) + (1 : Int32))) (i + 1) _ z26 hz26 trivial (by omega) (by omega) hb52 s3 e53  kx4
  obtain ⟨s54, hs54⟩ : ∃ r, r = d_X3_goBy_L2 n (n.toNatClampNeg + 1) R_r 0 := ⟨_, rfl⟩
  refine d_X3_goBy_L2_w (n.toNatClampNeg + 1) R_r 0 _ .unset trivial trivial (by omega) (by omega) hb_r s54 hs54  (fun H56 z8 hz8 z9 hz9 e57  hb55 => ?_)
  refine r_vret C dX3_goBy_66 ?_
  have er : res = s54 := by rw [hres, d_X3_goBy]; try exact (lt_eq hs54).trans (rfl)
  rw [er]
  exact ⟨rfl, hb55⟩

def d_X3_joinDrawn_L2 (z : Int32) (k : Int32) : Nat → (Nat → Nat → Int32) → Nat → (Nat → Nat → Int32)
  | 0, R, _ => R
  | n1 + 1, R, c =>
    if (nI 3) ≤ (nI c) then
      R
    else
      lt (d_X0_sails (shf R (9 + 2 * c))) fun u15 =>
      if u15 = 0 then
        d_X3_joinDrawn_L2 z k n1 R (c + 1)
      else
        lt (d_X0_grow (shf R (9 + 2 * c)) ((((((((((7919 : Int64) * z.toInt64) + ((6151 : Int64) * k.toInt64)) + ((331 : Int64) * (nI c).toInt64)) + (1 : Int64)) * (((((7919 : Int64) * z.toInt64) + ((6151 : Int64) * k.toInt64)) + ((331 : Int64) * (nI c).toInt64)) + (1 : Int64))) - ((((((7919 : Int64) * z.toInt64) + ((6151 : Int64) * k.toInt64)) + ((331 : Int64) * (nI c).toInt64)) + (1 : Int64)) * (((((7919 : Int64) * z.toInt64) + ((6151 : Int64) * k.toInt64)) + ((331 : Int64) * (nI c).toInt64)) + (1 : Int64))) / (65521 : Int64) * (65521 : Int64)) / (8 : Int64)) - ((((((((7919 : Int64) * z.toInt64) + ((6151 : Int64) * k.toInt64)) + ((331 : Int64) * (nI c).toInt64)) + (1 : Int64)) * (((((7919 : Int64) * z.toInt64) + ((6151 : Int64) * k.toInt64)) + ((331 : Int64) * (nI c).toInt64)) + (1 : Int64))) - ((((((7919 : Int64) * z.toInt64) + ((6151 : Int64) * k.toInt64)) + ((331 : Int64) * (nI c).toInt64)) + (1 : Int64)) * (((((7919 : Int64) * z.toInt64) + ((6151 : Int64) * k.toInt64)) + ((331 : Int64) * (nI c).toInt64)) + (1 : Int64))) / (65521 : Int64) * (65521 : Int64)) / (8 : Int64)) / (5 : Int64) * (5 : Int64)).toInt32)) fun u23 =>
        d_X3_joinDrawn_L2 z k n1 (spl R (9 + 2 * c) 2 u23) (c + 1)
def d_X3_joinDrawn (R_r : Nat → Nat → Int32) (z : Int32) (k : Int32) : (Nat → Nat → Int32) :=
  lt (d_X3_joinDrawn_L2 z k 4 R_r 0) fun s30 =>
  s30
set_option maxHeartbeats 4000000 in
set_option maxRecDepth 100000 in
theorem c_X3_joinDrawn (l : Launch) (D : DD) (o_r : Nat) (R_r : Nat → Nat → Int32) (z : Int32) (k : Int32)  (res : (Nat → Nat → Int32)) (hres : res = d_X3_joinDrawn R_r z k) : Mt l D yX3_joinDrawn cX3_joinDrawn 6 none 2 42 0 0 [.ref o_r, .int z, .int k] (fun H => blk D ksRiver o_r R_r H) (fun v H => v = none ∧ blk D ksRiver o_r res H) (fp1 o_r 15) := by
  refine mt_of (own := RX3) (ls := [.val (.ref o_r), .val (.int z), .val (.int k), .unset, .unset, .unset]) rfl (by decide +kernel) rfl ?_
  intro x H C hP
  have hb_r := hP
  refine r_iconst C dX3_joinDrawn_0 (0 : Int32) (by decide) ?_
  refine r_istore_n C dX3_joinDrawn_1 (ls' := [.val (.ref o_r), .val (.int z), .val (.int k), .val (.int (0 : Int32)), .unset, .unset]) rfl trivial rfl ?_
  have d_X3_joinDrawn_L2_w : ∀ (n1 : Nat) (R : Nat → Nat → Int32) (c : Nat) (H7 : Heap) (z5 z5b : Slot) (_ : lpair z5 z5b), True → (c ≤ 3) → (3 - c < n1) → blk D ksRiver o_r R H7 → ∀ s3 : (Nat → Nat → Int32), s3 = d_X3_joinDrawn_L2 z k n1 R c → (∀ (H' : Heap) (z8 : Slot) (_ : slot1 z8) (z9 z9b : Slot) (_ : lpair z9 z9b), True → blk D ksRiver o_r s3 H' → WG x (fp1 o_r 15) (Fin x (fun v H => v = none ∧ blk D ksRiver o_r res H) (fp1 o_r 15) 0 0) H' 0 0 80 [.val (.ref o_r), .val (.int z), .val (.int k), z8, z9, z9b] []) → WG x (fp1 o_r 15) (Fin x (fun v H => v = none ∧ blk D ksRiver o_r res H) (fp1 o_r 15) 0 0) H7 0 0 2 [.val (.ref o_r), .val (.int z), .val (.int k), .val (.int (nI c)), z5, z5b] [] := by
    intro n1
    induction n1 with
    | zero => intro R c H7 z5 z5b hz5 _ hc hm10; exact absurd hm10 (Nat.not_lt_zero _)
    | succ n1 ih2 =>
      intro R c H7 z5 z5b hz5 _ hc hm10 hb6 s3 hs3  kx4
      refine r_iload_n C dX3_joinDrawn_2 rfl ?_
      refine r_aload_n C dX3_joinDrawn_3 rfl ?_
      refine r_get C hb6 (k := 0) rfl rfl celO_3 fw_X3_19 rfl dX3_joinDrawn_4 ?_
      refine r_alen C hb6 (k := 2) rfl rfl 3 (Or.inr (Or.inr (Or.inr (Or.inl ⟨rfl, rfl⟩)))) dX3_joinDrawn_7 ?_
      refine r_ic_ge C dX3_joinDrawn_8 (fun c11 => ?_) (fun c11 => ?_)
      · skip
        have f12 : (3 ≤ c) := nf_leI (by omega) (by omega) rfl rfl c11
        have e13 : s3 = R := by rw [hs3, d_X3_joinDrawn_L2]; try exact (if_pos c11).trans (rfl)
        rw [e13] at kx4
        exact kx4 _ (.val (.int (nI c))) rfl z5 z5b hz5 trivial  hb6
      · skip
        have f14 : ¬ (3 ≤ c) := nf_leIn (by omega) (by omega) rfl rfl c11
        refine r_aload_n C dX3_joinDrawn_11 rfl ?_
        refine r_get C hb6 (k := 0) rfl rfl celO_3 fw_X3_19 rfl dX3_joinDrawn_12 ?_
        refine r_iload_n C dX3_joinDrawn_15 rfl ?_
        refine r_aaldC C hb6 (k := 2) rfl rfl (vp_in_n rfl (by omega) (by omega)) (j := c) (cl_n rfl (by omega)) dX3_joinDrawn_16 ?_
        obtain ⟨u15, hu15⟩ : ∃ r, r = d_X0_sails (shf R (9 + 2 * c)) := ⟨_, rfl⟩
        refine r_callV0 C cw_X3_92 (fun l => c_X0_sails l D ((o_r + 2) + 7 + 2 * c) (shf R (9 + 2 * c)) u15 hu15) (rest := []) hb6 (k := (9 + 2 * c)) (kRiver_9_2 _ (by omega)) (by omega) celO_0 (blk_sub hb6 (9 + 2 * c) 2 (sRiver_9_2_2 _ (by omega)) (by omega)) (fun q h => h.elim) rfl rfl rfl (Nat.le_of_ble_eq_true rfl) ⟨Nat.le_of_ble_eq_true rfl, Nat.le_of_ble_eq_true rfl, Nat.le_refl 0, Nat.le_refl 0⟩ dX3_joinDrawn_17 (fun v H16 hp17 hq18 => ?_)
        obtain ⟨rfl, hl19⟩ := hp17
        have hb20 := blk_kept hb6 (n := 15) rfl (fun q h1 h2 => hq18 q (fun h => h))
        dsimp only [psh]
        refine r_if_eq C dX3_joinDrawn_20 (fun c21 => ?_) (fun c21 => ?_)
        · skip
          refine r_iinc C dX3_joinDrawn_74 (nI (c + 1)) rfl (nI_inc c rfl) (ls' := [.val (.ref o_r), .val (.int z), .val (.int k), .val (.int (nI (c + 1))), z5, z5b]) rfl ?_
          refine r_goto C dX3_joinDrawn_77 ?_
          have e22 : s3 = d_X3_joinDrawn_L2 z k n1 R (c + 1) := by rw [hs3, d_X3_joinDrawn_L2]; try exact (if_neg c11).trans ((lt_eq hu15).trans ((if_pos c21).trans (rfl)))
          exact ih2 R (c + 1) _ z5 z5b hz5 trivial (by omega) (by omega) hb20 s3 e22  kx4
        · skip
          refine r_ldc2 C dX3_joinDrawn_23 (v := 7919) (wd_of 683 (by decide +kernel) (by decide +kernel)) ?_
          refine r_iload_n C dX3_joinDrawn_26 rfl ?_
          refine r_i2l C dX3_joinDrawn_27 ?_
          refine r_lmul C dX3_joinDrawn_28 ?_
          refine r_ldc2 C dX3_joinDrawn_29 (v := 6151) (wd_of 684 (by decide +kernel) (by decide +kernel)) ?_
          refine r_iload_n C dX3_joinDrawn_32 rfl ?_
          refine r_i2l C dX3_joinDrawn_33 ?_
          refine r_lmul C dX3_joinDrawn_34 ?_
          refine r_ladd C dX3_joinDrawn_35 ?_
          refine r_ldc2 C dX3_joinDrawn_36 (v := 331) (wd_of 685 (by decide +kernel) (by decide +kernel)) ?_
          refine r_iload_n C dX3_joinDrawn_39 rfl ?_
          refine r_i2l C dX3_joinDrawn_40 ?_
          refine r_lmul C dX3_joinDrawn_41 ?_
          refine r_ladd C dX3_joinDrawn_42 ?_
          refine r_lconst1 C dX3_joinDrawn_43 ?_
          refine r_ladd C dX3_joinDrawn_44 ?_
          refine r_lstoreP C dX3_joinDrawn_45 rfl rfl hz5 (ls' := [.val (.ref o_r), .val (.int z), .val (.int k), .val (.int (nI c)), .val (.long (((((7919 : Int64) * z.toInt64) + ((6151 : Int64) * k.toInt64)) + ((331 : Int64) * (nI c).toInt64)) + (1 : Int64))), .second]) rfl ?_
          refine r_aload_n C dX3_joinDrawn_47 rfl ?_
          refine r_get C hb20 (k := 0) rfl rfl celO_3 fw_X3_19 rfl dX3_joinDrawn_48 ?_
          refine r_iload_n C dX3_joinDrawn_51 rfl ?_
          refine r_aaldC C hb20 (k := 2) rfl rfl (vp_in_n rfl (by omega) (by omega)) (j := c) (cl_n rfl (by omega)) dX3_joinDrawn_52 ?_
          refine r_lload C dX3_joinDrawn_53 rfl ?_
          refine r_lload C dX3_joinDrawn_55 rfl ?_
          refine r_lmul C dX3_joinDrawn_57 ?_
          refine r_ldc2 C dX3_joinDrawn_58 (v := 65521) (wd_of 686 (by decide +kernel) (by decide +kernel)) ?_
          refine r_lrem C dX3_joinDrawn_61 (by decide) ?_
          refine r_ldc2 C dX3_joinDrawn_62 (v := 8) (wd_of 687 (by decide +kernel) (by decide +kernel)) ?_
          refine r_ldiv C dX3_joinDrawn_65 (by decide) ?_
          refine r_ldc2 C dX3_joinDrawn_66 (v := 5) (wd_of 688 (by decide +kernel) (by decide +kernel)) ?_
          refine r_lrem C dX3_joinDrawn_69 (by decide) ?_
          refine r_l2i C dX3_joinDrawn_70 ?_
          obtain ⟨u23, hu23⟩ : ∃ r, r = d_X0_grow (shf R (9 + 2 * c)) ((((((((((7919 : Int64) * z.toInt64) + ((6151 : Int64) * k.toInt64)) + ((331 : Int64) * (nI c).toInt64)) + (1 : Int64)) * (((((7919 : Int64) * z.toInt64) + ((6151 : Int64) * k.toInt64)) + ((331 : Int64) * (nI c).toInt64)) + (1 : Int64))) - ((((((7919 : Int64) * z.toInt64) + ((6151 : Int64) * k.toInt64)) + ((331 : Int64) * (nI c).toInt64)) + (1 : Int64)) * (((((7919 : Int64) * z.toInt64) + ((6151 : Int64) * k.toInt64)) + ((331 : Int64) * (nI c).toInt64)) + (1 : Int64))) / (65521 : Int64) * (65521 : Int64)) / (8 : Int64)) - ((((((((7919 : Int64) * z.toInt64) + ((6151 : Int64) * k.toInt64)) + ((331 : Int64) * (nI c).toInt64)) + (1 : Int64)) * (((((7919 : Int64) * z.toInt64) + ((6151 : Int64) * k.toInt64)) + ((331 : Int64) * (nI c).toInt64)) + (1 : Int64))) - ((((((7919 : Int64) * z.toInt64) + ((6151 : Int64) * k.toInt64)) + ((331 : Int64) * (nI c).toInt64)) + (1 : Int64)) * (((((7919 : Int64) * z.toInt64) + ((6151 : Int64) * k.toInt64)) + ((331 : Int64) * (nI c).toInt64)) + (1 : Int64))) / (65521 : Int64) * (65521 : Int64)) / (8 : Int64)) / (5 : Int64) * (5 : Int64)).toInt32) := ⟨_, rfl⟩
          refine r_callV0 C cw_X3_149 (fun l => c_X0_grow l D ((o_r + 2) + 7 + 2 * c) (shf R (9 + 2 * c)) ((((((((((7919 : Int64) * z.toInt64) + ((6151 : Int64) * k.toInt64)) + ((331 : Int64) * (nI c).toInt64)) + (1 : Int64)) * (((((7919 : Int64) * z.toInt64) + ((6151 : Int64) * k.toInt64)) + ((331 : Int64) * (nI c).toInt64)) + (1 : Int64))) - ((((((7919 : Int64) * z.toInt64) + ((6151 : Int64) * k.toInt64)) + ((331 : Int64) * (nI c).toInt64)) + (1 : Int64)) * (((((7919 : Int64) * z.toInt64) + ((6151 : Int64) * k.toInt64)) + ((331 : Int64) * (nI c).toInt64)) + (1 : Int64))) / (65521 : Int64) * (65521 : Int64)) / (8 : Int64)) - ((((((((7919 : Int64) * z.toInt64) + ((6151 : Int64) * k.toInt64)) + ((331 : Int64) * (nI c).toInt64)) + (1 : Int64)) * (((((7919 : Int64) * z.toInt64) + ((6151 : Int64) * k.toInt64)) + ((331 : Int64) * (nI c).toInt64)) + (1 : Int64))) - ((((((7919 : Int64) * z.toInt64) + ((6151 : Int64) * k.toInt64)) + ((331 : Int64) * (nI c).toInt64)) + (1 : Int64)) * (((((7919 : Int64) * z.toInt64) + ((6151 : Int64) * k.toInt64)) + ((331 : Int64) * (nI c).toInt64)) + (1 : Int64))) / (65521 : Int64) * (65521 : Int64)) / (8 : Int64)) / (5 : Int64) * (5 : Int64)).toInt32) u23 hu23) (rest := []) hb20 (k := (9 + 2 * c)) (kRiver_9_2 _ (by omega)) (by omega) celO_0 (blk_sub hb20 (9 + 2 * c) 2 (sRiver_9_2_2 _ (by omega)) (by omega)) (fun q h => by unfold fp1 at h; unfold fp1; omega) rfl rfl rfl (Nat.le_of_ble_eq_true rfl) ⟨Nat.le_of_ble_eq_true rfl, Nat.le_of_ble_eq_true rfl, Nat.le_refl 0, Nat.le_refl 0⟩ dX3_joinDrawn_71 (fun v H24 hp25 hq26 => ?_)
          obtain ⟨rfl, hn27⟩ := hp25
          have hb28 := blk_spl hb20 (9 + 2 * c) 2 (sRiver_9_2_2 _ (by omega)) (by omega) hn27 (fun q h => hq26 q (by unfold fp1; omega))
          dsimp only [psh]
          refine r_iinc C dX3_joinDrawn_74 (nI (c + 1)) rfl (nI_inc c rfl) (ls' := [.val (.ref o_r), .val (.int z), .val (.int k), .val (.int (nI (c + 1))), .val (.long (((((7919 : Int64) * z.toInt64) + ((6151 : Int64) * k.toInt64)) + ((331 : Int64) * (nI c).toInt64)) + (1 : Int64))), .second]) rfl ?_
          refine r_goto C dX3_joinDrawn_77 ?_
          have e29 : s3 = d_X3_joinDrawn_L2 z k n1 (spl R (9 + 2 * c) 2 u23) (c + 1) := by rw [hs3, d_X3_joinDrawn_L2]; try exact (if_neg c11).trans ((lt_eq hu15).trans ((if_neg c21).trans ((lt_eq hu23).trans (rfl))))
          exact ih2 (spl R (9 + 2 * c) 2 u23) (c + 1) _ (.val (.long (((((7919 : Int64) * z.toInt64) + ((6151 : Int64) * k.toInt64)) + ((331 : Int64) * (nI c).toInt64)) + (1 : Int64)))) .second (Or.inr ⟨_, rfl, rfl⟩) trivial (by omega) (by omega) hb28 s3 e29  kx4
  obtain ⟨s30, hs30⟩ : ∃ r, r = d_X3_joinDrawn_L2 z k 4 R_r 0 := ⟨_, rfl⟩
  refine d_X3_joinDrawn_L2_w 4 R_r 0 _ .unset .unset (Or.inl ⟨rfl, rfl⟩) trivial (by omega) (by omega) hb_r s30 hs30  (fun H32 z8 hz8 z9 z9b hz9 e33  hb31 => ?_)
  refine r_vret C dX3_joinDrawn_80 ?_
  have er : res = s30 := by rw [hres, d_X3_joinDrawn]; try exact (lt_eq hs30).trans (rfl)
  rw [er]
  exact ⟨rfl, hb31⟩

def d_X3_firstBurntSince_L2 (R_r : Nat → Nat → Int32) (R_b : Nat → Nat → Int32) : Nat → Nat → (Int32) ⊕ (Unit)
  | 0, _ => .inr ()
  | n1 + 1, i =>
    if (nI 6) ≤ (nI i) then
      .inr ()
    else
      lt (d_X3_standsAt R_b (nI i)) fun u16 =>
      if u16 = 0 then
        d_X3_firstBurntSince_L2 R_r R_b n1 (i + 1)
      else
        lt (d_X3_standsAt R_r (nI i)) fun u25 =>
        if u25 = 0 then
          .inl (nI i)
        else
          d_X3_firstBurntSince_L2 R_r R_b n1 (i + 1)
def d_X3_firstBurntSince (R_r : Nat → Nat → Int32) (R_b : Nat → Nat → Int32) : Int32 :=
  sc (d_X3_firstBurntSince_L2 R_r R_b 7 0) (fun r => r) fun w35 =>
  (-4 : Int32)
set_option maxHeartbeats 4000000 in
set_option maxRecDepth 100000 in
theorem c_X3_firstBurntSince (l : Launch) (D : DD) (o_r o_b : Nat) (R_r : Nat → Nat → Int32) (R_b : Nat → Nat → Int32)  (res : Int32) (hres : res = d_X3_firstBurntSince R_r R_b) : Mt l D yX3_firstBurntSince cX3_firstBurntSince 3 (some .int) 2 43 0 0 [.ref o_r, .ref o_b] (fun H => blk D ksRiver o_r R_r H ∧ blk D ksRiver o_b R_b H) (fun v H => v = some (.int res)) fp0 := by
  refine mt_of (own := RX3) (ls := [.val (.ref o_r), .val (.ref o_b), .unset]) rfl (by decide +kernel) rfl ?_
  intro x H C hP
  obtain ⟨hb_r, hb_b⟩ := hP
  refine r_iconst C dX3_firstBurntSince_0 (0 : Int32) (by decide) ?_
  refine r_istore_n C dX3_firstBurntSince_1 (ls' := [.val (.ref o_r), .val (.ref o_b), .val (.int (0 : Int32))]) rfl trivial rfl ?_
  have d_X3_firstBurntSince_L2_w : ∀ (n1 : Nat) (i : Nat) (H7 : Heap), True → (i ≤ 6) → (6 - i < n1) → blk D ksRiver o_r R_r H7 → blk D ksRiver o_b R_b H7 → ∀ s3 : (Int32) ⊕ (Unit), s3 = d_X3_firstBurntSince_L2 R_r R_b n1 i → (∀ r, s3 = .inl r → res = r) → (∀ (w8 : Unit) (H' : Heap) (z9 : Slot) (_ : slot1 z9), s3 = .inr w8 → blk D ksRiver o_r R_r H' → blk D ksRiver o_b R_b H' → WG x fp0 (Fin x (fun v H => v = some (.int res)) fp0 0 0) H' 0 0 35 [.val (.ref o_r), .val (.ref o_b), z9] []) → WG x fp0 (Fin x (fun v H => v = some (.int res)) fp0 0 0) H7 0 0 2 [.val (.ref o_r), .val (.ref o_b), .val (.int (nI i))] [] := by
    intro n1
    induction n1 with
    | zero => intro i H7  _ hi hm10; exact absurd hm10 (Nat.not_lt_zero _)
    | succ n1 ih2 =>
      intro i H7  _ hi hm10 hb5 hb6 s3 hs3 hr11 kx4
      refine r_iload_n C dX3_firstBurntSince_2 rfl ?_
      refine r_aload_n C dX3_firstBurntSince_3 rfl ?_
      refine r_get C hb5 (k := 0) rfl rfl celO_3 fw_X3_11 rfl dX3_firstBurntSince_4 ?_
      refine r_alen C hb5 (k := 1) rfl rfl 6 (Or.inr (Or.inr (Or.inl ⟨rfl, rfl⟩))) dX3_firstBurntSince_7 ?_
      refine r_ic_ge C dX3_firstBurntSince_8 (fun c12 => ?_) (fun c12 => ?_)
      · skip
        have f13 : (6 ≤ i) := nf_leI (by omega) (by omega) rfl rfl c12
        have e14 : s3 = .inr () := by rw [hs3, d_X3_firstBurntSince_L2]; try exact (if_pos c12).trans (rfl)
        exact kx4 () _ (.val (.int (nI i))) rfl e14  hb5 hb6
      · skip
        have f15 : ¬ (6 ≤ i) := nf_leIn (by omega) (by omega) rfl rfl c12
        refine r_aload_n C dX3_firstBurntSince_11 rfl ?_
        refine r_iload_n C dX3_firstBurntSince_12 rfl ?_
        obtain ⟨u16, hu16⟩ : ∃ r, r = d_X3_standsAt R_b (nI i) := ⟨_, rfl⟩
        refine r_callV0 C cw_X3_152 (fun l => c_X3_standsAt l D o_b R_b (nI i) u16 hu16) (rest := []) hb6 (k := 0) rfl rfl celO_3 hb6 (fun q h => h.elim) rfl rfl rfl (Nat.le_of_ble_eq_true rfl) ⟨Nat.le_of_ble_eq_true rfl, Nat.le_of_ble_eq_true rfl, Nat.le_refl 0, Nat.le_refl 0⟩ dX3_firstBurntSince_13 (fun v H17 hp18 hq19 => ?_)
        obtain ⟨rfl, hl20⟩ := hp18
        have hb21 := blk_kept hb5 (n := 15) rfl (fun q h1 h2 => hq19 q (fun h => h))
        have hb22 := blk_kept hb6 (n := 15) rfl (fun q h1 h2 => hq19 q (fun h => h))
        dsimp only [psh]
        refine r_if_eq C dX3_firstBurntSince_16 (fun c23 => ?_) (fun c23 => ?_)
        · skip
          refine r_iinc C dX3_firstBurntSince_29 (nI (i + 1)) rfl (nI_inc i rfl) (ls' := [.val (.ref o_r), .val (.ref o_b), .val (.int (nI (i + 1)))]) rfl ?_
          refine r_goto C dX3_firstBurntSince_32 ?_
          have e24 : s3 = d_X3_firstBurntSince_L2 R_r R_b n1 (i + 1) := by rw [hs3, d_X3_firstBurntSince_L2]; try exact (if_neg c12).trans ((lt_eq hu16).trans ((if_pos c23).trans (rfl)))
          exact ih2 (i + 1) _  trivial (by omega) (by omega) hb21 hb22 s3 e24 hr11 kx4
        · skip
          refine r_aload_n C dX3_firstBurntSince_19 rfl ?_
          refine r_iload_n C dX3_firstBurntSince_20 rfl ?_
          obtain ⟨u25, hu25⟩ : ∃ r, r = d_X3_standsAt R_r (nI i) := ⟨_, rfl⟩
          refine r_callV0 C cw_X3_152 (fun l => c_X3_standsAt l D o_r R_r (nI i) u25 hu25) (rest := []) hb21 (k := 0) rfl rfl celO_3 hb21 (fun q h => h.elim) rfl rfl rfl (Nat.le_of_ble_eq_true rfl) ⟨Nat.le_of_ble_eq_true rfl, Nat.le_of_ble_eq_true rfl, Nat.le_refl 0, Nat.le_refl 0⟩ dX3_firstBurntSince_21 (fun v H26 hp27 hq28 => ?_)
          obtain ⟨rfl, hl29⟩ := hp27
          have hb30 := blk_kept hb21 (n := 15) rfl (fun q h1 h2 => hq28 q (fun h => h))
          have hb31 := blk_kept hb22 (n := 15) rfl (fun q h1 h2 => hq28 q (fun h => h))
          dsimp only [psh]
          refine r_if_ne C dX3_firstBurntSince_24 (fun c32 => ?_) (fun c32 => ?_)
          · skip
            refine r_iinc C dX3_firstBurntSince_29 (nI (i + 1)) rfl (nI_inc i rfl) (ls' := [.val (.ref o_r), .val (.ref o_b), .val (.int (nI (i + 1)))]) rfl ?_
            refine r_goto C dX3_firstBurntSince_32 ?_
            have e33 : s3 = d_X3_firstBurntSince_L2 R_r R_b n1 (i + 1) := by rw [hs3, d_X3_firstBurntSince_L2]; try exact (if_neg c12).trans ((lt_eq hu16).trans ((if_neg c23).trans ((lt_eq hu25).trans ((if_neg c32).trans (rfl)))))
            exact ih2 (i + 1) _  trivial (by omega) (by omega) hb30 hb31 s3 e33 hr11 kx4
          · skip
            refine r_iload_n C dX3_firstBurntSince_27 rfl ?_
            refine r_iret C dX3_firstBurntSince_28 ?_
            have er : res = (nI i) := hr11 _ (by rw [hs3, d_X3_firstBurntSince_L2]; try exact (if_neg c12).trans ((lt_eq hu16).trans ((if_neg c23).trans ((lt_eq hu25).trans ((if_pos c32).trans (rfl))))))
            rw [er]
  obtain ⟨s34, hs34⟩ : ∃ r, r = d_X3_firstBurntSince_L2 R_r R_b 7 0 := ⟨_, rfl⟩
  refine d_X3_firstBurntSince_L2_w 7 0 _  trivial (by omega) (by omega) hb_r hb_b s34 hs34 (fun r e => by rw [hres, d_X3_firstBurntSince]; exact sc_inl (hs34.symm.trans e)) (fun w35 H38 z9 hz9 e39  hb36 hb37 => ?_)
  have hx40 : d_X3_firstBurntSince_L2 R_r R_b 7 0 = .inr w35 := hs34.symm.trans e39
  refine r_bipush C dX3_firstBurntSince_35 (-4 : Int32) (by decide) ?_
  refine r_iret C dX3_firstBurntSince_37 ?_
  have er : res = (-4 : Int32) := by rw [hres, d_X3_firstBurntSince]; try exact (sc_inr hx40).trans (rfl)
  rw [er]
