def d_X6_write (R_b : Nat → Nat → Int32) (letter : Int32) : Int32 × (Nat → Nat → Int32) :=
  if letter < (32 : Int32) then
    ((-1 : Int32), R_b)
  else
    if letter ≤ (126 : Int32) then
      if (R_b 0 1) < 0 then
        ((-3 : Int32), R_b)
      else
        if (R_b 0 1) < (nI 200) then
          (((R_b 0 1) + (1 : Int32)), (pt (pt R_b 1 ((R_b 0 1).toNatClampNeg) (vp_nar .char ((letter.toUInt32 % 65536).toInt32))) 0 1 ((R_b 0 1) + (1 : Int32))))
        else
          ((-3 : Int32), R_b)
    else
      ((-1 : Int32), R_b)
set_option maxHeartbeats 4000000 in
set_option maxRecDepth 100000 in
theorem c_X6_write (l : Launch) (D : DD) (o_b : Nat) (R_b : Nat → Nat → Int32) (letter : Int32)  (res : Int32 × (Nat → Nat → Int32)) (hres : res = d_X6_write R_b letter) : Mt l D yX6_write cX6_write 2 (some .int) 0 0 0 0 [.ref o_b, .int letter] (fun H => blk D ksMain o_b R_b H) (fun v H => v = some (.int res.1) ∧ blk D ksMain o_b res.2 H) (fp1 o_b 215) := by
  refine mt_of (own := RX6) (ls := [.val (.ref o_b), .val (.int letter)]) rfl (by decide +kernel) rfl ?_
  intro x H C hP
  have hb_b := hP
  refine r_iload_n C dX6_write_0 rfl ?_
  refine r_bipush C dX6_write_1 (32 : Int32) (by decide) ?_
  refine r_ic_lt C dX6_write_3 (fun c1 => ?_) (fun c1 => ?_)
  · skip
    refine r_iconst C dX6_write_12 (-1 : Int32) (by decide) ?_
    refine r_iret C dX6_write_13 ?_
    have er : res = ((-1 : Int32), R_b) := by rw [hres, d_X6_write]; try exact (if_pos c1).trans (rfl)
    rw [er]
    exact ⟨rfl, hb_b⟩
  · skip
    refine r_iload_n C dX6_write_6 rfl ?_
    refine r_bipush C dX6_write_7 (126 : Int32) (by decide) ?_
    refine r_ic_le C dX6_write_9 (fun c2 => ?_) (fun c2 => ?_)
    · skip
      refine r_aload_n C dX6_write_14 rfl ?_
      refine r_get C hb_b (k := 0) rfl rfl celO_6 fw_X6_79 (z := .int (R_b 0 1)) rfl dX6_write_15 ?_
      refine r_if_lt C dX6_write_18 (fun c3 => ?_) (fun c3 => ?_)
      · skip
        refine r_bipush C dX6_write_33 (-3 : Int32) (by decide) ?_
        refine r_iret C dX6_write_35 ?_
        have er : res = ((-3 : Int32), R_b) := by rw [hres, d_X6_write]; try exact (if_neg c1).trans ((if_pos c2).trans ((if_pos c3).trans (rfl)))
        rw [er]
        exact ⟨rfl, hb_b⟩
      · skip
        refine r_aload_n C dX6_write_21 rfl ?_
        refine r_get C hb_b (k := 0) rfl rfl celO_6 fw_X6_79 (z := .int (R_b 0 1)) rfl dX6_write_22 ?_
        refine r_aload_n C dX6_write_25 rfl ?_
        refine r_get C hb_b (k := 0) rfl rfl celO_6 fw_X6_9 rfl dX6_write_26 ?_
        refine r_alen C hb_b (k := 1) rfl rfl 200 (Or.inr (Or.inl ⟨rfl, rfl⟩)) dX6_write_29 ?_
        refine r_ic_lt C dX6_write_30 (fun c4 => ?_) (fun c4 => ?_)
        · skip
          refine r_aload_n C dX6_write_36 rfl ?_
          refine r_get C hb_b (k := 0) rfl rfl celO_6 fw_X6_9 rfl dX6_write_37 ?_
          refine r_aload_n C dX6_write_40 rfl ?_
          refine r_get C hb_b (k := 0) rfl rfl celO_6 fw_X6_79 (z := .int (R_b 0 1)) rfl dX6_write_41 ?_
          refine r_iload_n C dX6_write_44 rfl ?_
          refine r_i2c C dX6_write_45 ?_
          refine r_cast C hb_b (k := 1) rfl rfl (by unfold fp1; omega) (vp_in_lh (x_lo1 c3) (x_hi2 (N := 200) c4 (by omega)) (by omega)) (j := (R_b 0 1).toNatClampNeg) rfl dX6_write_46 (fun H5 hb7 hq6 => ?_)
          refine r_aload_n C dX6_write_47 rfl ?_
          refine r_dup C dX6_write_48 rfl ?_
          refine r_get C hb7 (k := 0) rfl rfl celO_6 fw_X6_79 (z := .int (R_b 0 1)) rfl dX6_write_49 ?_
          refine r_iconst C dX6_write_52 (1 : Int32) (by decide) ?_
          refine r_iadd C dX6_write_53 ?_
          refine r_put C hb7 (k := 0) rfl rfl (by unfold fp1; omega) fw_X6_79 fp_6_1 (Or.inr rfl) dX6_write_54 (fun H8 hb10 hq9 => ?_)
          refine r_aload_n C dX6_write_57 rfl ?_
          refine r_get C hb10 (k := 0) rfl rfl celO_6 fw_X6_79 (z := .int ((R_b 0 1) + (1 : Int32))) rfl dX6_write_58 ?_
          refine r_iret C dX6_write_61 ?_
          have er : res = (((R_b 0 1) + (1 : Int32)), (pt (pt R_b 1 ((R_b 0 1).toNatClampNeg) (vp_nar .char ((letter.toUInt32 % 65536).toInt32))) 0 1 ((R_b 0 1) + (1 : Int32)))) := by rw [hres, d_X6_write]; try exact (if_neg c1).trans ((if_pos c2).trans ((if_neg c3).trans ((if_pos c4).trans (rfl))))
          rw [er]
          exact ⟨rfl, hb10⟩
        · skip
          refine r_bipush C dX6_write_33 (-3 : Int32) (by decide) ?_
          refine r_iret C dX6_write_35 ?_
          have er : res = ((-3 : Int32), R_b) := by rw [hres, d_X6_write]; try exact (if_neg c1).trans ((if_pos c2).trans ((if_neg c3).trans ((if_neg c4).trans (rfl))))
          rw [er]
          exact ⟨rfl, hb_b⟩
    · skip
      refine r_iconst C dX6_write_12 (-1 : Int32) (by decide) ?_
      refine r_iret C dX6_write_13 ?_
      have er : res = ((-1 : Int32), R_b) := by rw [hres, d_X6_write]; try exact (if_neg c1).trans ((if_neg c2).trans (rfl))
      rw [er]
      exact ⟨rfl, hb_b⟩

def d_X6_wipe (R_b : Nat → Nat → Int32) : Int32 × (Nat → Nat → Int32) :=
  ((R_b 0 1), (pt R_b 0 1 (0 : Int32)))
set_option maxHeartbeats 4000000 in
set_option maxRecDepth 100000 in
theorem c_X6_wipe (l : Launch) (D : DD) (o_b : Nat) (R_b : Nat → Nat → Int32)  (res : Int32 × (Nat → Nat → Int32)) (hres : res = d_X6_wipe R_b) : Mt l D yX6_wipe cX6_wipe 2 (some .int) 0 0 0 0 [.ref o_b] (fun H => blk D ksMain o_b R_b H) (fun v H => v = some (.int res.1) ∧ blk D ksMain o_b res.2 H) (fp1 o_b 215) := by
  refine mt_of (own := RX6) (ls := [.val (.ref o_b), .unset]) rfl (by decide +kernel) rfl ?_
  intro x H C hP
  have hb_b := hP
  refine r_aload_n C dX6_wipe_0 rfl ?_
  refine r_get C hb_b (k := 0) rfl rfl celO_6 fw_X6_79 (z := .int (R_b 0 1)) rfl dX6_wipe_1 ?_
  refine r_istore_n C dX6_wipe_4 (ls' := [.val (.ref o_b), .val (.int (R_b 0 1))]) rfl trivial rfl ?_
  refine r_aload_n C dX6_wipe_5 rfl ?_
  refine r_iconst C dX6_wipe_6 (0 : Int32) (by decide) ?_
  refine r_put C hb_b (k := 0) rfl rfl (by unfold fp1; omega) fw_X6_79 fp_6_1 (Or.inr rfl) dX6_wipe_7 (fun H1 hb3 hq2 => ?_)
  refine r_iload_n C dX6_wipe_10 rfl ?_
  refine r_iret C dX6_wipe_11 ?_
  have er : res = ((R_b 0 1), (pt R_b 0 1 (0 : Int32))) := by rw [hres, d_X6_wipe]; try exact rfl
  rw [er]
  exact ⟨rfl, hb3⟩

def d_X6_fault (R_b : Nat → Nat → Int32) : Int32 × (Nat → Nat → Int32) :=
  lt (d_X2_read (shf R_b 2) (shf R_b 1) (shf R_b 40) 200 (R_b 0 1)) fun u1 =>
  (u1.1, (spl (spl R_b 2 2 u1.2.1) 40 15 u1.2.2))
set_option maxHeartbeats 4000000 in
set_option maxRecDepth 100000 in
theorem c_X6_fault (l : Launch) (D : DD) (o_b : Nat) (R_b : Nat → Nat → Int32) (hlen : R_b 0 1 = nI (R_b 0 1).toNatClampNeg) (hlen2 : (R_b 0 1).toNatClampNeg ≤ 200) (res : Int32 × (Nat → Nat → Int32)) (hres : res = d_X6_fault R_b) : Mt l D yX6_fault cX6_fault 1 (some .int) 4 102 0 0 [.ref o_b] (fun H => blk D ksMain o_b R_b H) (fun v H => v = some (.int res.1) ∧ blk D ksMain o_b res.2 H) (fp1 o_b 215) := by
  refine mt_of (own := RX6) (ls := [.val (.ref o_b)]) rfl (by decide +kernel) rfl ?_
  intro x H C hP
  have hb_b := hP
  refine r_aload_n C dX6_fault_0 rfl ?_
  refine r_get C hb_b (k := 0) rfl rfl celO_6 fw_X6_16 rfl dX6_fault_1 ?_
  refine r_aload_n C dX6_fault_4 rfl ?_
  refine r_get C hb_b (k := 0) rfl rfl celO_6 fw_X6_9 rfl dX6_fault_5 ?_
  refine r_aload_n C dX6_fault_8 rfl ?_
  refine r_get C hb_b (k := 0) rfl rfl celO_6 fw_X6_79 (z := .int (R_b 0 1)) rfl dX6_fault_9 ?_
  refine r_aload_n C dX6_fault_12 rfl ?_
  refine r_get C hb_b (k := 0) rfl rfl celO_6 fw_X6_34 rfl dX6_fault_13 ?_
  obtain ⟨u1, hu1⟩ : ∃ r, r = d_X2_read (shf R_b 2) (shf R_b 1) (shf R_b 40) 200 (R_b 0 1) := ⟨_, rfl⟩
  refine r_callV0 C cw_X6_75 (fun l => c_X2_read l D (o_b + 2) (o_b + 1) (o_b + 40) (shf R_b 2) (shf R_b 1) (shf R_b 40) 200 (R_b 0 1) (by omega) hlen (by omega) (by omega) (by omega) (by omega) u1 hu1) (rest := []) hb_b (k := 2) rfl rfl celO_2 ⟨(blk_sub hb_b 2 2 rfl rfl), (blk_sub hb_b 1 1 rfl rfl), (blk_sub hb_b 40 15 rfl rfl)⟩ (fun q h => by unfold fp2 at h; unfold fp1; omega) rfl rfl rfl (Nat.le_of_ble_eq_true rfl) ⟨Nat.le_of_ble_eq_true rfl, Nat.le_of_ble_eq_true rfl, Nat.le_refl 0, Nat.le_refl 0⟩ dX6_fault_16 (fun v H2 hp3 hq4 => ?_)
  obtain ⟨rfl, hn5, hn6⟩ := hp3
  have hb7 := blk_spl2 hb_b 2 2 rfl rfl hn5 40 15 rfl rfl hn6 (fun q h => hq4 q (by unfold fp2; omega))
  dsimp only [psh]
  refine r_iret C dX6_fault_19 ?_
  have er : res = (u1.1, (spl (spl R_b 2 2 u1.2.1) 40 15 u1.2.2)) := by rw [hres, d_X6_fault]; try exact (lt_eq hu1).trans (rfl)
  rw [er]
  exact ⟨rfl, hb7⟩

def d_X6_lay (R_b : Nat → Nat → Int32) : Int32 × (Nat → Nat → Int32) :=
  lt (d_X2_read (shf R_b 2) (shf R_b 1) (shf R_b 40) 200 (R_b 0 1)) fun u1 =>
  if u1.1 = (-4 : Int32) then
    lt (d_X3_townsThere (shf (spl (spl R_b 2 2 u1.2.1) 40 15 u1.2.2) 40)) fun u9 =>
    if u9 = 0 then
      ((-2 : Int32), (spl (spl R_b 2 2 u1.2.1) 40 15 u1.2.2))
    else
      lt (d_X3_crewsThere (shf (spl (spl R_b 2 2 u1.2.1) 40 15 u1.2.2) 40)) fun u19 =>
      if u19 = 0 then
        ((-2 : Int32), (spl (spl R_b 2 2 u1.2.1) 40 15 u1.2.2))
      else
        lt (d_X3_copy (shf (spl (spl R_b 2 2 u1.2.1) 40 15 u1.2.2) 4) (shf (spl (spl R_b 2 2 u1.2.1) 40 15 u1.2.2) 40)) fun u28 =>
        lt (d_X3_copy (shf (spl (spl (spl R_b 2 2 u1.2.1) 40 15 u1.2.2) 4 15 u28) 22) (shf (spl (spl (spl R_b 2 2 u1.2.1) 40 15 u1.2.2) 4 15 u28) 4)) fun u34 =>
        lt (d_X3_townsThere (shf (pt (pt (pt (spl (spl (spl (spl R_b 2 2 u1.2.1) 40 15 u1.2.2) 4 15 u28) 22 15 u34) 209 3 (0 : Int32)) 55 1 (0 : Int32)) 177 1 (0 : Int32)) 22)) fun u49 =>
        (u49, (pt (pt (pt (spl (spl (spl (spl R_b 2 2 u1.2.1) 40 15 u1.2.2) 4 15 u28) 22 15 u34) 209 3 (0 : Int32)) 55 1 (0 : Int32)) 177 1 (0 : Int32)))
  else
    ((-2 : Int32), (spl (spl R_b 2 2 u1.2.1) 40 15 u1.2.2))
set_option maxHeartbeats 4000000 in
set_option maxRecDepth 100000 in
theorem c_X6_lay (l : Launch) (D : DD) (o_b : Nat) (R_b : Nat → Nat → Int32) (hlen : R_b 0 1 = nI (R_b 0 1).toNatClampNeg) (hlen2 : (R_b 0 1).toNatClampNeg ≤ 200) (res : Int32 × (Nat → Nat → Int32)) (hres : res = d_X6_lay R_b) : Mt l D yX6_lay cX6_lay 1 (some .int) 4 102 0 0 [.ref o_b] (fun H => blk D ksMain o_b R_b H) (fun v H => v = some (.int res.1) ∧ blk D ksMain o_b res.2 H) (fp1 o_b 215) := by
  refine mt_of (own := RX6) (ls := [.val (.ref o_b)]) rfl (by decide +kernel) rfl ?_
  intro x H C hP
  have hb_b := hP
  refine r_aload_n C dX6_lay_0 rfl ?_
  refine r_get C hb_b (k := 0) rfl rfl celO_6 fw_X6_16 rfl dX6_lay_1 ?_
  refine r_aload_n C dX6_lay_4 rfl ?_
  refine r_get C hb_b (k := 0) rfl rfl celO_6 fw_X6_9 rfl dX6_lay_5 ?_
  refine r_aload_n C dX6_lay_8 rfl ?_
  refine r_get C hb_b (k := 0) rfl rfl celO_6 fw_X6_79 (z := .int (R_b 0 1)) rfl dX6_lay_9 ?_
  refine r_aload_n C dX6_lay_12 rfl ?_
  refine r_get C hb_b (k := 0) rfl rfl celO_6 fw_X6_34 rfl dX6_lay_13 ?_
  obtain ⟨u1, hu1⟩ : ∃ r, r = d_X2_read (shf R_b 2) (shf R_b 1) (shf R_b 40) 200 (R_b 0 1) := ⟨_, rfl⟩
  refine r_callV0 C cw_X6_75 (fun l => c_X2_read l D (o_b + 2) (o_b + 1) (o_b + 40) (shf R_b 2) (shf R_b 1) (shf R_b 40) 200 (R_b 0 1) (by omega) hlen (by omega) (by omega) (by omega) (by omega) u1 hu1) (rest := []) hb_b (k := 2) rfl rfl celO_2 ⟨(blk_sub hb_b 2 2 rfl rfl), (blk_sub hb_b 1 1 rfl rfl), (blk_sub hb_b 40 15 rfl rfl)⟩ (fun q h => by unfold fp2 at h; unfold fp1; omega) rfl rfl rfl (Nat.le_of_ble_eq_true rfl) ⟨Nat.le_of_ble_eq_true rfl, Nat.le_of_ble_eq_true rfl, Nat.le_refl 0, Nat.le_refl 0⟩ dX6_lay_16 (fun v H2 hp3 hq4 => ?_)
  obtain ⟨rfl, hn5, hn6⟩ := hp3
  have hb7 := blk_spl2 hb_b 2 2 rfl rfl hn5 40 15 rfl rfl hn6 (fun q h => hq4 q (by unfold fp2; omega))
  dsimp only [psh]
  refine r_bipush C dX6_lay_19 (-4 : Int32) (by decide) ?_
  refine r_ic_ne C dX6_lay_21 (fun c8 => ?_) (fun c8 => ?_)
  · skip
    refine r_bipush C dX6_lay_44 (-2 : Int32) (by decide) ?_
    refine r_iret C dX6_lay_46 ?_
    have er : res = ((-2 : Int32), (spl (spl R_b 2 2 u1.2.1) 40 15 u1.2.2)) := by rw [hres, d_X6_lay]; try exact (lt_eq hu1).trans ((if_neg c8).trans (rfl))
    rw [er]
    exact ⟨rfl, hb7⟩
  · skip
    refine r_aload_n C dX6_lay_24 rfl ?_
    refine r_get C hb7 (k := 0) rfl rfl celO_6 fw_X6_34 rfl dX6_lay_25 ?_
    obtain ⟨u9, hu9⟩ : ∃ r, r = d_X3_townsThere (shf (spl (spl R_b 2 2 u1.2.1) 40 15 u1.2.2) 40) := ⟨_, rfl⟩
    refine r_callV0 C cw_X6_82 (fun l => c_X3_townsThere l D (o_b + 40) (shf (spl (spl R_b 2 2 u1.2.1) 40 15 u1.2.2) 40) u9 hu9) (rest := []) hb7 (k := 40) rfl rfl celO_3 (blk_sub hb7 40 15 rfl rfl) (fun q h => h.elim) rfl rfl rfl (Nat.le_of_ble_eq_true rfl) ⟨Nat.le_of_ble_eq_true rfl, Nat.le_of_ble_eq_true rfl, Nat.le_refl 0, Nat.le_refl 0⟩ dX6_lay_28 (fun v H10 hp11 hq12 => ?_)
    subst hp11
    obtain ⟨hn13, hn14⟩ := X3_townsThere_nat hu9
    have hb15 := blk_kept hb7 (n := 215) rfl (fun q h1 h2 => hq12 q (fun h => h))
    dsimp only [psh]
    refine r_if_eq C dX6_lay_31 (fun c16 => ?_) (fun c16 => ?_)
    · skip
      have f17 : (u9.toNatClampNeg = 0) := nf_eq (by omega) (by omega) hn13 rfl c16
      refine r_bipush C dX6_lay_44 (-2 : Int32) (by decide) ?_
      refine r_iret C dX6_lay_46 ?_
      have er : res = ((-2 : Int32), (spl (spl R_b 2 2 u1.2.1) 40 15 u1.2.2)) := by rw [hres, d_X6_lay]; try exact (lt_eq hu1).trans ((if_pos c8).trans ((lt_eq hu9).trans ((if_pos c16).trans (rfl))))
      rw [er]
      exact ⟨rfl, hb15⟩
    · skip
      have f18 : ¬ (u9.toNatClampNeg = 0) := nf_eqn (by omega) (by omega) hn13 rfl c16
      refine r_aload_n C dX6_lay_34 rfl ?_
      refine r_get C hb15 (k := 0) rfl rfl celO_6 fw_X6_34 rfl dX6_lay_35 ?_
      obtain ⟨u19, hu19⟩ : ∃ r, r = d_X3_crewsThere (shf (spl (spl R_b 2 2 u1.2.1) 40 15 u1.2.2) 40) := ⟨_, rfl⟩
      refine r_callV0 C cw_X6_85 (fun l => c_X3_crewsThere l D (o_b + 40) (shf (spl (spl R_b 2 2 u1.2.1) 40 15 u1.2.2) 40) u19 hu19) (rest := []) hb15 (k := 40) rfl rfl celO_3 (blk_sub hb15 40 15 rfl rfl) (fun q h => h.elim) rfl rfl rfl (Nat.le_of_ble_eq_true rfl) ⟨Nat.le_of_ble_eq_true rfl, Nat.le_of_ble_eq_true rfl, Nat.le_refl 0, Nat.le_refl 0⟩ dX6_lay_38 (fun v H20 hp21 hq22 => ?_)
      subst hp21
      obtain ⟨hn23, hn24⟩ := X3_crewsThere_nat hu19
      have hb25 := blk_kept hb15 (n := 215) rfl (fun q h1 h2 => hq22 q (fun h => h))
      dsimp only [psh]
      refine r_if_ne C dX6_lay_41 (fun c26 => ?_) (fun c26 => ?_)
      · skip
        have f27 : ¬ (u19.toNatClampNeg = 0) := nf_eqn (by omega) (by omega) hn23 rfl c26
        refine r_aload_n C dX6_lay_47 rfl ?_
        refine r_get C hb25 (k := 0) rfl rfl celO_6 fw_X6_24 rfl dX6_lay_48 ?_
        refine r_aload_n C dX6_lay_51 rfl ?_
        refine r_get C hb25 (k := 0) rfl rfl celO_6 fw_X6_34 rfl dX6_lay_52 ?_
        obtain ⟨u28, hu28⟩ : ∃ r, r = d_X3_copy (shf (spl (spl R_b 2 2 u1.2.1) 40 15 u1.2.2) 4) (shf (spl (spl R_b 2 2 u1.2.1) 40 15 u1.2.2) 40) := ⟨_, rfl⟩
        refine r_callV0 C cw_X6_88 (fun l => c_X3_copy l D (o_b + 4) (o_b + 40) (shf (spl (spl R_b 2 2 u1.2.1) 40 15 u1.2.2) 4) (shf (spl (spl R_b 2 2 u1.2.1) 40 15 u1.2.2) 40) (by omega) u28 hu28) (rest := []) hb25 (k := 4) rfl rfl celO_3 ⟨(blk_sub hb25 4 15 rfl rfl), (blk_sub hb25 40 15 rfl rfl)⟩ (fun q h => by unfold fp1 at h; unfold fp1; omega) rfl rfl rfl (Nat.le_of_ble_eq_true rfl) ⟨Nat.le_of_ble_eq_true rfl, Nat.le_of_ble_eq_true rfl, Nat.le_refl 0, Nat.le_refl 0⟩ dX6_lay_55 (fun v H29 hp30 hq31 => ?_)
        obtain ⟨rfl, hn32⟩ := hp30
        have hb33 := blk_spl hb25 4 15 rfl rfl hn32 (fun q h => hq31 q (by unfold fp1; omega))
        dsimp only [psh]
        refine r_aload_n C dX6_lay_58 rfl ?_
        refine r_get C hb33 (k := 0) rfl rfl celO_6 fw_X6_28 rfl dX6_lay_59 ?_
        refine r_aload_n C dX6_lay_62 rfl ?_
        refine r_get C hb33 (k := 0) rfl rfl celO_6 fw_X6_24 rfl dX6_lay_63 ?_
        obtain ⟨u34, hu34⟩ : ∃ r, r = d_X3_copy (shf (spl (spl (spl R_b 2 2 u1.2.1) 40 15 u1.2.2) 4 15 u28) 22) (shf (spl (spl (spl R_b 2 2 u1.2.1) 40 15 u1.2.2) 4 15 u28) 4) := ⟨_, rfl⟩
        refine r_callV0 C cw_X6_88 (fun l => c_X3_copy l D (o_b + 22) (o_b + 4) (shf (spl (spl (spl R_b 2 2 u1.2.1) 40 15 u1.2.2) 4 15 u28) 22) (shf (spl (spl (spl R_b 2 2 u1.2.1) 40 15 u1.2.2) 4 15 u28) 4) (by omega) u34 hu34) (rest := []) hb33 (k := 22) rfl rfl celO_3 ⟨(blk_sub hb33 22 15 rfl rfl), (blk_sub hb33 4 15 rfl rfl)⟩ (fun q h => by unfold fp1 at h; unfold fp1; omega) rfl rfl rfl (Nat.le_of_ble_eq_true rfl) ⟨Nat.le_of_ble_eq_true rfl, Nat.le_of_ble_eq_true rfl, Nat.le_refl 0, Nat.le_refl 0⟩ dX6_lay_66 (fun v H35 hp36 hq37 => ?_)
        obtain ⟨rfl, hn38⟩ := hp36
        have hb39 := blk_spl hb33 22 15 rfl rfl hn38 (fun q h => hq37 q (by unfold fp1; omega))
        dsimp only [psh]
        refine r_aload_n C dX6_lay_69 rfl ?_
        refine r_get C hb39 (k := 0) rfl rfl celO_6 fw_X6_52 rfl dX6_lay_70 ?_
        refine r_iconst C dX6_lay_73 (0 : Int32) (by decide) ?_
        refine r_put C hb39 (k := 209) rfl rfl (by unfold fp1; omega) fw_X6_92 fp_1_3 (Or.inr rfl) dX6_lay_74 (fun H40 hb42 hq41 => ?_)
        refine r_aload_n C dX6_lay_77 rfl ?_
        refine r_get C hb42 (k := 0) rfl rfl celO_6 fw_X6_42 rfl dX6_lay_78 ?_
        refine r_iconst C dX6_lay_81 (0 : Int32) (by decide) ?_
        refine r_put C hb42 (k := 55) rfl rfl (by unfold fp1; omega) fw_X6_95 fp_4_1 (Or.inr rfl) dX6_lay_82 (fun H43 hb45 hq44 => ?_)
        refine r_aload_n C dX6_lay_85 rfl ?_
        refine r_get C hb45 (k := 0) rfl rfl celO_6 fw_X6_46 rfl dX6_lay_86 ?_
        refine r_iconst C dX6_lay_89 (0 : Int32) (by decide) ?_
        refine r_put C hb45 (k := 177) rfl rfl (by unfold fp1; omega) fw_X6_95 fp_4_1 (Or.inr rfl) dX6_lay_90 (fun H46 hb48 hq47 => ?_)
        refine r_aload_n C dX6_lay_93 rfl ?_
        refine r_get C hb48 (k := 0) rfl rfl celO_6 fw_X6_28 rfl dX6_lay_94 ?_
        obtain ⟨u49, hu49⟩ : ∃ r, r = d_X3_townsThere (shf (pt (pt (pt (spl (spl (spl (spl R_b 2 2 u1.2.1) 40 15 u1.2.2) 4 15 u28) 22 15 u34) 209 3 (0 : Int32)) 55 1 (0 : Int32)) 177 1 (0 : Int32)) 22) := ⟨_, rfl⟩
        refine r_callV0 C cw_X6_82 (fun l => c_X3_townsThere l D (o_b + 22) (shf (pt (pt (pt (spl (spl (spl (spl R_b 2 2 u1.2.1) 40 15 u1.2.2) 4 15 u28) 22 15 u34) 209 3 (0 : Int32)) 55 1 (0 : Int32)) 177 1 (0 : Int32)) 22) u49 hu49) (rest := []) hb48 (k := 22) rfl rfl celO_3 (blk_sub hb48 22 15 rfl rfl) (fun q h => h.elim) rfl rfl rfl (Nat.le_of_ble_eq_true rfl) ⟨Nat.le_of_ble_eq_true rfl, Nat.le_of_ble_eq_true rfl, Nat.le_refl 0, Nat.le_refl 0⟩ dX6_lay_97 (fun v H50 hp51 hq52 => ?_)
        subst hp51
        obtain ⟨hn53, hn54⟩ := X3_townsThere_nat hu49
        have hb55 := blk_kept hb48 (n := 215) rfl (fun q h1 h2 => hq52 q (fun h => h))
        dsimp only [psh]
        refine r_iret C dX6_lay_100 ?_
        have er : res = (u49, (pt (pt (pt (spl (spl (spl (spl R_b 2 2 u1.2.1) 40 15 u1.2.2) 4 15 u28) 22 15 u34) 209 3 (0 : Int32)) 55 1 (0 : Int32)) 177 1 (0 : Int32))) := by rw [hres, d_X6_lay]; try exact (lt_eq hu1).trans ((if_pos c8).trans ((lt_eq hu9).trans ((if_neg c16).trans ((lt_eq hu19).trans ((if_neg c26).trans ((lt_eq hu28).trans ((lt_eq hu34).trans ((lt_eq hu49).trans (rfl)))))))))
        rw [er]
        exact ⟨rfl, hb55⟩
      · skip
        have f56 : (u19.toNatClampNeg = 0) := nf_eq (by omega) (by omega) hn23 rfl c26
        refine r_bipush C dX6_lay_44 (-2 : Int32) (by decide) ?_
        refine r_iret C dX6_lay_46 ?_
        have er : res = ((-2 : Int32), (spl (spl R_b 2 2 u1.2.1) 40 15 u1.2.2)) := by rw [hres, d_X6_lay]; try exact (lt_eq hu1).trans ((if_pos c8).trans ((lt_eq hu9).trans ((if_neg c16).trans ((lt_eq hu19).trans ((if_pos c26).trans (rfl))))))
        rw [er]
        exact ⟨rfl, hb25⟩

def d_X6_town (R_b : Nat → Nat → Int32) (t : Int32) (what : Int32) : Int32 :=
  oc (d_X3_townAt (shf R_b 22) t) (
    (-1 : Int32)) fun k6 =>
  if what = (0 : Int32) then
    (R_b (25 + k6) 2)
  else
    if what = (1 : Int32) then
      (R_b (25 + k6) 3)
    else
      if what = (2 : Int32) then
        (R_b (25 + k6) 4)
      else
        if what = (3 : Int32) then
          (R_b (25 + k6) 5)
        else
          if what = (4 : Int32) then
            (R_b (25 + k6) 6)
          else
            if what = (5 : Int32) then
              if (R_b (25 + k6) 1) = 0 then
                (0 : Int32)
              else
                (1 : Int32)
            else
              if what = (6 : Int32) then
                (R_b (25 + k6) 7)
              else
                (-1 : Int32)
set_option maxHeartbeats 4000000 in
set_option maxRecDepth 100000 in
theorem c_X6_town (l : Launch) (D : DD) (o_b : Nat) (R_b : Nat → Nat → Int32) (t : Int32) (what : Int32)  (res : Int32) (hres : res = d_X6_town R_b t what) : Mt l D yX6_town cX6_town 4 (some .int) 1 21 0 0 [.ref o_b, .int t, .int what] (fun H => blk D ksMain o_b R_b H) (fun v H => v = some (.int res)) fp0 := by
  refine mt_of (own := RX6) (ls := [.val (.ref o_b), .val (.int t), .val (.int what), .unset]) rfl (by decide +kernel) rfl ?_
  intro x H C hP
  have hb_b := hP
  refine r_aload_n C dX6_town_0 rfl ?_
  refine r_get C hb_b (k := 0) rfl rfl celO_6 fw_X6_28 rfl dX6_town_1 ?_
  refine r_iload_n C dX6_town_4 rfl ?_
  obtain ⟨u1, hu1⟩ : ∃ r, r = d_X3_townAt (shf R_b 22) t := ⟨_, rfl⟩
  refine r_callV0 C cw_X6_96 (fun l => c_X3_townAt l D (o_b + 22) (shf R_b 22) t u1 hu1) (rest := []) hb_b (k := 22) rfl rfl celO_3 (blk_sub hb_b 22 15 rfl rfl) (fun q h => h.elim) rfl rfl rfl (Nat.le_of_ble_eq_true rfl) ⟨Nat.le_of_ble_eq_true rfl, Nat.le_of_ble_eq_true rfl, Nat.le_refl 0, Nat.le_refl 0⟩ dX6_town_5 (fun v H2 hp3 hq4 => ?_)
  subst hp3
  have hb5 := blk_kept hb_b (n := 215) rfl (fun q h1 h2 => hq4 q (fun h => h))
  obtain ho7 | ⟨k6, ho7⟩ := opt_or u1
  · have hu1' : d_X3_townAt (shf R_b 22) t = none := by rw [← hu1, ho7]
    rw [ho7]; dsimp only [psh, optT, optC]
    refine r_astore_nN C dX6_town_8 (ls' := [.val (.ref o_b), .val (.int t), .val (.int what), .val (.null)]) rfl trivial rfl ?_
    refine r_aload_nN C dX6_town_9 rfl ?_
    refine r_ifnonnullN C dX6_town_10 ?_
    refine r_iconst C dX6_town_13 (-1 : Int32) (by decide) ?_
    refine r_iret C dX6_town_14 ?_
    have er : res = (-1 : Int32) := by rw [hres, d_X6_town]; try exact (oc_none hu1').trans (rfl)
    rw [er]
  · have hu1' : d_X3_townAt (shf R_b 22) t = some k6 := by rw [← hu1, ho7]
    rw [ho7]; dsimp only [psh, optT, optC]
    have fk8 := X3_townAt_lt hu1'
    refine r_astore_n C dX6_town_8 (ls' := [.val (.ref o_b), .val (.int t), .val (.int what), .val (.ref ((o_b + 22) + 3 + k6))]) rfl trivial rfl ?_
    refine r_aload_n C dX6_town_9 rfl ?_
    refine r_ifnonnull C dX6_town_10 ?_
    refine r_iload_n C dX6_town_15 rfl ?_
    by_cases c9 : what = (0 : Int32)
    · skip
      refine r_tswI C dX6_town_16 c9 (by decide) (by decide) (off := 44) (by decide) (tgt := 60) rfl ?_
      refine r_aload_n C dX6_town_60 rfl ?_
      refine r_get C hb5 (k := (25 + k6)) (kMain_25_1 _ fk8) (by omega) celO_5 fw_X6_100 (z := .int (R_b (25 + k6) 2)) rfl dX6_town_61 ?_
      refine r_iret C dX6_town_64 ?_
      have er : res = (R_b (25 + k6) 2) := by rw [hres, d_X6_town]; try exact (oc_some hu1').trans ((if_pos c9).trans (rfl))
      rw [er]
    · skip
      by_cases c10 : what = (1 : Int32)
      · skip
        refine r_tswI C dX6_town_16 c10 (by decide) (by decide) (off := 49) (by decide) (tgt := 65) rfl ?_
        refine r_aload_n C dX6_town_65 rfl ?_
        refine r_get C hb5 (k := (25 + k6)) (kMain_25_1 _ fk8) (by omega) celO_5 fw_X6_105 (z := .int (R_b (25 + k6) 3)) rfl dX6_town_66 ?_
        refine r_iret C dX6_town_69 ?_
        have er : res = (R_b (25 + k6) 3) := by rw [hres, d_X6_town]; try exact (oc_some hu1').trans ((if_neg c9).trans ((if_pos c10).trans (rfl)))
        rw [er]
      · skip
        by_cases c11 : what = (2 : Int32)
        · skip
          refine r_tswI C dX6_town_16 c11 (by decide) (by decide) (off := 54) (by decide) (tgt := 70) rfl ?_
          refine r_aload_n C dX6_town_70 rfl ?_
          refine r_get C hb5 (k := (25 + k6)) (kMain_25_1 _ fk8) (by omega) celO_5 fw_X6_108 (z := .int (R_b (25 + k6) 4)) rfl dX6_town_71 ?_
          refine r_iret C dX6_town_74 ?_
          have er : res = (R_b (25 + k6) 4) := by rw [hres, d_X6_town]; try exact (oc_some hu1').trans ((if_neg c9).trans ((if_neg c10).trans ((if_pos c11).trans (rfl))))
          rw [er]
        · skip
          by_cases c12 : what = (3 : Int32)
          · skip
            refine r_tswI C dX6_town_16 c12 (by decide) (by decide) (off := 59) (by decide) (tgt := 75) rfl ?_
            refine r_aload_n C dX6_town_75 rfl ?_
            refine r_get C hb5 (k := (25 + k6)) (kMain_25_1 _ fk8) (by omega) celO_5 fw_X6_111 (z := .int (R_b (25 + k6) 5)) rfl dX6_town_76 ?_
            refine r_iret C dX6_town_79 ?_
            have er : res = (R_b (25 + k6) 5) := by rw [hres, d_X6_town]; try exact (oc_some hu1').trans ((if_neg c9).trans ((if_neg c10).trans ((if_neg c11).trans ((if_pos c12).trans (rfl)))))
            rw [er]
          · skip
            by_cases c13 : what = (4 : Int32)
            · skip
              refine r_tswI C dX6_town_16 c13 (by decide) (by decide) (off := 64) (by decide) (tgt := 80) rfl ?_
              refine r_aload_n C dX6_town_80 rfl ?_
              refine r_get C hb5 (k := (25 + k6)) (kMain_25_1 _ fk8) (by omega) celO_5 fw_X6_114 (z := .int (R_b (25 + k6) 6)) rfl dX6_town_81 ?_
              refine r_iret C dX6_town_84 ?_
              have er : res = (R_b (25 + k6) 6) := by rw [hres, d_X6_town]; try exact (oc_some hu1').trans ((if_neg c9).trans ((if_neg c10).trans ((if_neg c11).trans ((if_neg c12).trans ((if_pos c13).trans (rfl))))))
              rw [er]
            · skip
              by_cases c14 : what = (5 : Int32)
              · skip
                refine r_tswI C dX6_town_16 c14 (by decide) (by decide) (off := 69) (by decide) (tgt := 85) rfl ?_
                refine r_aload_n C dX6_town_85 rfl ?_
                refine r_get C hb5 (k := (25 + k6)) (kMain_25_1 _ fk8) (by omega) celO_5 fw_X6_117 (z := .int (R_b (25 + k6) 1)) rfl dX6_town_86 ?_
                refine r_if_eq C dX6_town_89 (fun c15 => ?_) (fun c15 => ?_)
                · skip
                  refine r_iconst C dX6_town_96 (0 : Int32) (by decide) ?_
                  refine r_iret C dX6_town_97 ?_
                  have er : res = (0 : Int32) := by rw [hres, d_X6_town]; try exact (oc_some hu1').trans ((if_neg c9).trans ((if_neg c10).trans ((if_neg c11).trans ((if_neg c12).trans ((if_neg c13).trans ((if_pos c14).trans ((if_pos c15).trans (rfl))))))))
                  rw [er]
                · skip
                  refine r_iconst C dX6_town_92 (1 : Int32) (by decide) ?_
                  refine r_goto C dX6_town_93 ?_
                  refine r_iret C dX6_town_97 ?_
                  have er : res = (1 : Int32) := by rw [hres, d_X6_town]; try exact (oc_some hu1').trans ((if_neg c9).trans ((if_neg c10).trans ((if_neg c11).trans ((if_neg c12).trans ((if_neg c13).trans ((if_pos c14).trans ((if_neg c15).trans (rfl))))))))
                  rw [er]
              · skip
                by_cases c16 : what = (6 : Int32)
                · skip
                  refine r_tswI C dX6_town_16 c16 (by decide) (by decide) (off := 82) (by decide) (tgt := 98) rfl ?_
                  refine r_aload_n C dX6_town_98 rfl ?_
                  refine r_get C hb5 (k := (25 + k6)) (kMain_25_1 _ fk8) (by omega) celO_5 fw_X6_121 (z := .int (R_b (25 + k6) 7)) rfl dX6_town_99 ?_
                  refine r_iret C dX6_town_102 ?_
                  have er : res = (R_b (25 + k6) 7) := by rw [hres, d_X6_town]; try exact (oc_some hu1').trans ((if_neg c9).trans ((if_neg c10).trans ((if_neg c11).trans ((if_neg c12).trans ((if_neg c13).trans ((if_neg c14).trans ((if_pos c16).trans (rfl))))))))
                  rw [er]
                · skip
                  refine r_tswO C dX6_town_16 (tsw_out 6 (by decide) (by intro k hk; match k, hk with | 0, _ => exact c9 | 1, _ => exact c10 | 2, _ => exact c11 | 3, _ => exact c12 | 4, _ => exact c13 | 5, _ => exact c14 | 6, _ => exact c16 | (n + 7), h => omega)) (tgt := 103) rfl ?_
                  refine r_iconst C dX6_town_103 (-1 : Int32) (by decide) ?_
                  refine r_iret C dX6_town_104 ?_
                  have er : res = (-1 : Int32) := by rw [hres, d_X6_town]; try exact (oc_some hu1').trans ((if_neg c9).trans ((if_neg c10).trans ((if_neg c11).trans ((if_neg c12).trans ((if_neg c13).trans ((if_neg c14).trans ((if_neg c16).trans (rfl))))))))
                  rw [er]

def d_X6_crew (R_b : Nat → Nat → Int32) (c : Int32) (what : Int32) : Int32 :=
  oc (d_X3_crewAt (shf R_b 22) c) (
    (-1 : Int32)) fun k6 =>
  if what = (0 : Int32) then
    (R_b (31 + 2 * k6) 2)
  else
    if what = (1 : Int32) then
      (R_b (31 + 2 * k6) 3)
    else
      if what = (2 : Int32) then
        if (R_b (31 + 2 * k6) 1) = 0 then
          (0 : Int32)
        else
          (1 : Int32)
      else
        (-1 : Int32)
set_option maxHeartbeats 4000000 in
set_option maxRecDepth 100000 in
theorem c_X6_crew (l : Launch) (D : DD) (o_b : Nat) (R_b : Nat → Nat → Int32) (c : Int32) (what : Int32)  (res : Int32) (hres : res = d_X6_crew R_b c what) : Mt l D yX6_crew cX6_crew 4 (some .int) 1 21 0 0 [.ref o_b, .int c, .int what] (fun H => blk D ksMain o_b R_b H) (fun v H => v = some (.int res)) fp0 := by
  refine mt_of (own := RX6) (ls := [.val (.ref o_b), .val (.int c), .val (.int what), .unset]) rfl (by decide +kernel) rfl ?_
  intro x H C hP
  have hb_b := hP
  refine r_aload_n C dX6_crew_0 rfl ?_
  refine r_get C hb_b (k := 0) rfl rfl celO_6 fw_X6_28 rfl dX6_crew_1 ?_
  refine r_iload_n C dX6_crew_4 rfl ?_
  obtain ⟨u1, hu1⟩ : ∃ r, r = d_X3_crewAt (shf R_b 22) c := ⟨_, rfl⟩
  refine r_callV0 C cw_X6_124 (fun l => c_X3_crewAt l D (o_b + 22) (shf R_b 22) c u1 hu1) (rest := []) hb_b (k := 22) rfl rfl celO_3 (blk_sub hb_b 22 15 rfl rfl) (fun q h => h.elim) rfl rfl rfl (Nat.le_of_ble_eq_true rfl) ⟨Nat.le_of_ble_eq_true rfl, Nat.le_of_ble_eq_true rfl, Nat.le_refl 0, Nat.le_refl 0⟩ dX6_crew_5 (fun v H2 hp3 hq4 => ?_)
  subst hp3
  have hb5 := blk_kept hb_b (n := 215) rfl (fun q h1 h2 => hq4 q (fun h => h))
  obtain ho7 | ⟨k6, ho7⟩ := opt_or u1
  · have hu1' : d_X3_crewAt (shf R_b 22) c = none := by rw [← hu1, ho7]
    rw [ho7]; dsimp only [psh, optT, optC]
    refine r_astore_nN C dX6_crew_8 (ls' := [.val (.ref o_b), .val (.int c), .val (.int what), .val (.null)]) rfl trivial rfl ?_
    refine r_aload_nN C dX6_crew_9 rfl ?_
    refine r_ifnonnullN C dX6_crew_10 ?_
    refine r_iconst C dX6_crew_13 (-1 : Int32) (by decide) ?_
    refine r_iret C dX6_crew_14 ?_
    have er : res = (-1 : Int32) := by rw [hres, d_X6_crew]; try exact (oc_none hu1').trans (rfl)
    rw [er]
  · have hu1' : d_X3_crewAt (shf R_b 22) c = some k6 := by rw [← hu1, ho7]
    rw [ho7]; dsimp only [psh, optT, optC]
    have fk8 := X3_crewAt_lt hu1'
    refine r_astore_n C dX6_crew_8 (ls' := [.val (.ref o_b), .val (.int c), .val (.int what), .val (.ref ((o_b + 22) + 9 + 2 * k6))]) rfl trivial rfl ?_
    refine r_aload_n C dX6_crew_9 rfl ?_
    refine r_ifnonnull C dX6_crew_10 ?_
    refine r_iload_n C dX6_crew_15 rfl ?_
    by_cases c9 : what = (0 : Int32)
    · skip
      refine r_tswI C dX6_crew_16 c9 (by decide) (by decide) (off := 28) (by decide) (tgt := 44) rfl ?_
      refine r_aload_n C dX6_crew_44 rfl ?_
      refine r_get C hb5 (k := (31 + 2 * k6)) (kMain_31_2 _ fk8) (by omega) celO_0 fw_X6_128 (z := .int (R_b (31 + 2 * k6) 2)) rfl dX6_crew_45 ?_
      refine r_iret C dX6_crew_48 ?_
      have er : res = (R_b (31 + 2 * k6) 2) := by rw [hres, d_X6_crew]; try exact (oc_some hu1').trans ((if_pos c9).trans (rfl))
      rw [er]
    · skip
      by_cases c10 : what = (1 : Int32)
      · skip
        refine r_tswI C dX6_crew_16 c10 (by decide) (by decide) (off := 33) (by decide) (tgt := 49) rfl ?_
        refine r_aload_n C dX6_crew_49 rfl ?_
        refine r_get C hb5 (k := (31 + 2 * k6)) (kMain_31_2 _ fk8) (by omega) celO_0 fw_X6_133 (z := .int (R_b (31 + 2 * k6) 3)) rfl dX6_crew_50 ?_
        refine r_iret C dX6_crew_53 ?_
        have er : res = (R_b (31 + 2 * k6) 3) := by rw [hres, d_X6_crew]; try exact (oc_some hu1').trans ((if_neg c9).trans ((if_pos c10).trans (rfl)))
        rw [er]
      · skip
        by_cases c11 : what = (2 : Int32)
        · skip
          refine r_tswI C dX6_crew_16 c11 (by decide) (by decide) (off := 38) (by decide) (tgt := 54) rfl ?_
          refine r_aload_n C dX6_crew_54 rfl ?_
          refine r_get C hb5 (k := (31 + 2 * k6)) (kMain_31_2 _ fk8) (by omega) celO_0 fw_X6_136 (z := .int (R_b (31 + 2 * k6) 1)) rfl dX6_crew_55 ?_
          refine r_if_eq C dX6_crew_58 (fun c12 => ?_) (fun c12 => ?_)
          · skip
            refine r_iconst C dX6_crew_65 (0 : Int32) (by decide) ?_
            refine r_iret C dX6_crew_66 ?_
            have er : res = (0 : Int32) := by rw [hres, d_X6_crew]; try exact (oc_some hu1').trans ((if_neg c9).trans ((if_neg c10).trans ((if_pos c11).trans ((if_pos c12).trans (rfl)))))
            rw [er]
          · skip
            refine r_iconst C dX6_crew_61 (1 : Int32) (by decide) ?_
            refine r_goto C dX6_crew_62 ?_
            refine r_iret C dX6_crew_66 ?_
            have er : res = (1 : Int32) := by rw [hres, d_X6_crew]; try exact (oc_some hu1').trans ((if_neg c9).trans ((if_neg c10).trans ((if_pos c11).trans ((if_neg c12).trans (rfl)))))
            rw [er]
        · skip
          refine r_tswO C dX6_crew_16 (tsw_out 2 (by decide) (by intro k hk; match k, hk with | 0, _ => exact c9 | 1, _ => exact c10 | 2, _ => exact c11 | (n + 3), h => omega)) (tgt := 67) rfl ?_
          refine r_iconst C dX6_crew_67 (-1 : Int32) (by decide) ?_
          refine r_iret C dX6_crew_68 ?_
          have er : res = (-1 : Int32) := by rw [hres, d_X6_crew]; try exact (oc_some hu1').trans ((if_neg c9).trans ((if_neg c10).trans ((if_neg c11).trans (rfl))))
          rw [er]

def d_X6_believes (R_b : Nat → Nat → Int32) (c : Int32) (t : Int32) : Int32 :=
  oc (d_X3_crewAt (shf R_b 22) c) (
    (-1 : Int32)) fun k6 =>
  oc (d_X3_townAt (shf R_b 22) t) (
    (-1 : Int32)) fun k14 =>
  lt (d_X0_beliefOf (shf R_b (31 + 2 * k6)) t) fun u17 =>
  u17
set_option maxHeartbeats 4000000 in
set_option maxRecDepth 100000 in
theorem c_X6_believes (l : Launch) (D : DD) (o_b : Nat) (R_b : Nat → Nat → Int32) (c : Int32) (t : Int32)  (res : Int32) (hres : res = d_X6_believes R_b c t) : Mt l D yX6_believes cX6_believes 4 (some .int) 1 21 0 0 [.ref o_b, .int c, .int t] (fun H => blk D ksMain o_b R_b H) (fun v H => v = some (.int res)) fp0 := by
  refine mt_of (own := RX6) (ls := [.val (.ref o_b), .val (.int c), .val (.int t), .unset]) rfl (by decide +kernel) rfl ?_
  intro x H C hP
  have hb_b := hP
  refine r_aload_n C dX6_believes_0 rfl ?_
  refine r_get C hb_b (k := 0) rfl rfl celO_6 fw_X6_28 rfl dX6_believes_1 ?_
  refine r_iload_n C dX6_believes_4 rfl ?_
  obtain ⟨u1, hu1⟩ : ∃ r, r = d_X3_crewAt (shf R_b 22) c := ⟨_, rfl⟩
  refine r_callV0 C cw_X6_124 (fun l => c_X3_crewAt l D (o_b + 22) (shf R_b 22) c u1 hu1) (rest := []) hb_b (k := 22) rfl rfl celO_3 (blk_sub hb_b 22 15 rfl rfl) (fun q h => h.elim) rfl rfl rfl (Nat.le_of_ble_eq_true rfl) ⟨Nat.le_of_ble_eq_true rfl, Nat.le_of_ble_eq_true rfl, Nat.le_refl 0, Nat.le_refl 0⟩ dX6_believes_5 (fun v H2 hp3 hq4 => ?_)
  subst hp3
  have hb5 := blk_kept hb_b (n := 215) rfl (fun q h1 h2 => hq4 q (fun h => h))
  obtain ho7 | ⟨k6, ho7⟩ := opt_or u1
  · have hu1' : d_X3_crewAt (shf R_b 22) c = none := by rw [← hu1, ho7]
    rw [ho7]; dsimp only [psh, optT, optC]
    refine r_astore_nN C dX6_believes_8 (ls' := [.val (.ref o_b), .val (.int c), .val (.int t), .val (.null)]) rfl trivial rfl ?_
    refine r_aload_nN C dX6_believes_9 rfl ?_
    refine r_ifnullN C dX6_believes_10 ?_
    refine r_iconst C dX6_believes_24 (-1 : Int32) (by decide) ?_
    refine r_iret C dX6_believes_25 ?_
    have er : res = (-1 : Int32) := by rw [hres, d_X6_believes]; try exact (oc_none hu1').trans (rfl)
    rw [er]
  · have hu1' : d_X3_crewAt (shf R_b 22) c = some k6 := by rw [← hu1, ho7]
    rw [ho7]; dsimp only [psh, optT, optC]
    have fk8 := X3_crewAt_lt hu1'
    refine r_astore_n C dX6_believes_8 (ls' := [.val (.ref o_b), .val (.int c), .val (.int t), .val (.ref ((o_b + 22) + 9 + 2 * k6))]) rfl trivial rfl ?_
    refine r_aload_n C dX6_believes_9 rfl ?_
    refine r_ifnull C dX6_believes_10 ?_
    refine r_aload_n C dX6_believes_13 rfl ?_
    refine r_get C hb5 (k := 0) rfl rfl celO_6 fw_X6_28 rfl dX6_believes_14 ?_
    refine r_iload_n C dX6_believes_17 rfl ?_
    obtain ⟨u9, hu9⟩ : ∃ r, r = d_X3_townAt (shf R_b 22) t := ⟨_, rfl⟩
    refine r_callV0 C cw_X6_96 (fun l => c_X3_townAt l D (o_b + 22) (shf R_b 22) t u9 hu9) (rest := []) hb5 (k := 22) rfl rfl celO_3 (blk_sub hb5 22 15 rfl rfl) (fun q h => h.elim) rfl rfl rfl (Nat.le_of_ble_eq_true rfl) ⟨Nat.le_of_ble_eq_true rfl, Nat.le_of_ble_eq_true rfl, Nat.le_refl 0, Nat.le_refl 0⟩ dX6_believes_18 (fun v H10 hp11 hq12 => ?_)
    subst hp11
    have hb13 := blk_kept hb5 (n := 215) rfl (fun q h1 h2 => hq12 q (fun h => h))
    obtain ho15 | ⟨k14, ho15⟩ := opt_or u9
    · have hu9' : d_X3_townAt (shf R_b 22) t = none := by rw [← hu9, ho15]
      rw [ho15]; dsimp only [psh, optT, optC]
      refine r_ifnonnullN C dX6_believes_21 ?_
      refine r_iconst C dX6_believes_24 (-1 : Int32) (by decide) ?_
      refine r_iret C dX6_believes_25 ?_
      have er : res = (-1 : Int32) := by rw [hres, d_X6_believes]; try exact (oc_some hu1').trans ((oc_none hu9').trans (rfl))
      rw [er]
    · have hu9' : d_X3_townAt (shf R_b 22) t = some k14 := by rw [← hu9, ho15]
      rw [ho15]; dsimp only [psh, optT, optC]
      have fk16 := X3_townAt_lt hu9'
      refine r_ifnonnull C dX6_believes_21 ?_
      refine r_aload_n C dX6_believes_26 rfl ?_
      refine r_iload_n C dX6_believes_27 rfl ?_
      obtain ⟨u17, hu17⟩ : ∃ r, r = d_X0_beliefOf (shf R_b (31 + 2 * k6)) t := ⟨_, rfl⟩
      refine r_callV0 C cw_X6_139 (fun l => c_X0_beliefOf l D ((o_b + 22) + 9 + 2 * k6) (shf R_b (31 + 2 * k6)) t u17 hu17) (rest := []) hb13 (k := (31 + 2 * k6)) (kMain_31_2 _ fk8) (by omega) celO_0 (blk_sub hb13 (31 + 2 * k6) 2 (sMain_31_2_2 _ fk8) (by omega)) (fun q h => h.elim) rfl rfl rfl (Nat.le_of_ble_eq_true rfl) ⟨Nat.le_of_ble_eq_true rfl, Nat.le_of_ble_eq_true rfl, Nat.le_refl 0, Nat.le_refl 0⟩ dX6_believes_28 (fun v H18 hp19 hq20 => ?_)
      subst hp19
      have hb21 := blk_kept hb13 (n := 215) rfl (fun q h1 h2 => hq20 q (fun h => h))
      dsimp only [psh]
      refine r_iret C dX6_believes_31 ?_
      have er : res = u17 := by rw [hres, d_X6_believes]; try exact (oc_some hu1').trans ((oc_some hu9').trans ((lt_eq hu17).trans (rfl)))
      rw [er]

def d_X6_asks (R_b : Nat → Nat → Int32) (c : Int32) (t : Int32) : Int32 :=
  oc (d_X3_crewAt (shf R_b 22) c) (
    oc (d_X3_townAt (shf R_b 22) t) (
      (-1 : Int32)) fun k13 =>
    (-1 : Int32)) fun k6 =>
  oc (d_X3_townAt (shf R_b 22) t) (
    (-1 : Int32)) fun k22 =>
  if (R_b (31 + 2 * k6) 1) = 0 then
    if (R_b (25 + k22) 1) = 0 then
      lt (d_X0_wouldAsk (shf R_b (31 + 2 * k6)) (shf R_b (25 + k22)) t) fun u27 =>
      u27
    else
      (-2 : Int32)
  else
    (-2 : Int32)
set_option maxHeartbeats 4000000 in
set_option maxRecDepth 100000 in
theorem c_X6_asks (l : Launch) (D : DD) (o_b : Nat) (R_b : Nat → Nat → Int32) (c : Int32) (t : Int32)  (res : Int32) (hres : res = d_X6_asks R_b c t) : Mt l D yX6_asks cX6_asks 5 (some .int) 2 44 0 0 [.ref o_b, .int c, .int t] (fun H => blk D ksMain o_b R_b H) (fun v H => v = some (.int res)) fp0 := by
  refine mt_of (own := RX6) (ls := [.val (.ref o_b), .val (.int c), .val (.int t), .unset, .unset]) rfl (by decide +kernel) rfl ?_
  intro x H C hP
  have hb_b := hP
  refine r_aload_n C dX6_asks_0 rfl ?_
  refine r_get C hb_b (k := 0) rfl rfl celO_6 fw_X6_28 rfl dX6_asks_1 ?_
  refine r_iload_n C dX6_asks_4 rfl ?_
  obtain ⟨u1, hu1⟩ : ∃ r, r = d_X3_crewAt (shf R_b 22) c := ⟨_, rfl⟩
  refine r_callV0 C cw_X6_124 (fun l => c_X3_crewAt l D (o_b + 22) (shf R_b 22) c u1 hu1) (rest := []) hb_b (k := 22) rfl rfl celO_3 (blk_sub hb_b 22 15 rfl rfl) (fun q h => h.elim) rfl rfl rfl (Nat.le_of_ble_eq_true rfl) ⟨Nat.le_of_ble_eq_true rfl, Nat.le_of_ble_eq_true rfl, Nat.le_refl 0, Nat.le_refl 0⟩ dX6_asks_5 (fun v H2 hp3 hq4 => ?_)
  subst hp3
  have hb5 := blk_kept hb_b (n := 215) rfl (fun q h1 h2 => hq4 q (fun h => h))
  obtain ho7 | ⟨k6, ho7⟩ := opt_or u1
  · have hu1' : d_X3_crewAt (shf R_b 22) c = none := by rw [← hu1, ho7]
    rw [ho7]; dsimp only [psh, optT, optC]
    refine r_astore_nN C dX6_asks_8 (ls' := [.val (.ref o_b), .val (.int c), .val (.int t), .val (.null), .unset]) rfl trivial rfl ?_
    refine r_aload_n C dX6_asks_9 rfl ?_
    refine r_get C hb5 (k := 0) rfl rfl celO_6 fw_X6_28 rfl dX6_asks_10 ?_
    refine r_iload_n C dX6_asks_13 rfl ?_
    obtain ⟨u8, hu8⟩ : ∃ r, r = d_X3_townAt (shf R_b 22) t := ⟨_, rfl⟩
    refine r_callV0 C cw_X6_96 (fun l => c_X3_townAt l D (o_b + 22) (shf R_b 22) t u8 hu8) (rest := []) hb5 (k := 22) rfl rfl celO_3 (blk_sub hb5 22 15 rfl rfl) (fun q h => h.elim) rfl rfl rfl (Nat.le_of_ble_eq_true rfl) ⟨Nat.le_of_ble_eq_true rfl, Nat.le_of_ble_eq_true rfl, Nat.le_refl 0, Nat.le_refl 0⟩ dX6_asks_14 (fun v H9 hp10 hq11 => ?_)
    subst hp10
    have hb12 := blk_kept hb5 (n := 215) rfl (fun q h1 h2 => hq11 q (fun h => h))
    obtain ho14 | ⟨k13, ho14⟩ := opt_or u8
    · have hu8' : d_X3_townAt (shf R_b 22) t = none := by rw [← hu8, ho14]
      rw [ho14]; dsimp only [psh, optT, optC]
      refine r_astoreN C dX6_asks_17 (ls' := [.val (.ref o_b), .val (.int c), .val (.int t), .val (.null), .val (.null)]) rfl trivial rfl ?_
      refine r_aload_nN C dX6_asks_19 rfl ?_
      refine r_ifnullN C dX6_asks_20 ?_
      refine r_iconst C dX6_asks_28 (-1 : Int32) (by decide) ?_
      refine r_iret C dX6_asks_29 ?_
      have er : res = (-1 : Int32) := by rw [hres, d_X6_asks]; try exact (oc_none hu1').trans ((oc_none hu8').trans (rfl))
      rw [er]
    · have hu8' : d_X3_townAt (shf R_b 22) t = some k13 := by rw [← hu8, ho14]
      rw [ho14]; dsimp only [psh, optT, optC]
      have fk15 := X3_townAt_lt hu8'
      refine r_astore C dX6_asks_17 (ls' := [.val (.ref o_b), .val (.int c), .val (.int t), .val (.null), .val (.ref ((o_b + 22) + 3 + k13))]) rfl trivial rfl ?_
      refine r_aload_nN C dX6_asks_19 rfl ?_
      refine r_ifnullN C dX6_asks_20 ?_
      refine r_iconst C dX6_asks_28 (-1 : Int32) (by decide) ?_
      refine r_iret C dX6_asks_29 ?_
      have er : res = (-1 : Int32) := by rw [hres, d_X6_asks]; try exact (oc_none hu1').trans ((oc_some hu8').trans (rfl))
      rw [er]
  · have hu1' : d_X3_crewAt (shf R_b 22) c = some k6 := by rw [← hu1, ho7]
    rw [ho7]; dsimp only [psh, optT, optC]
    have fk16 := X3_crewAt_lt hu1'
    refine r_astore_n C dX6_asks_8 (ls' := [.val (.ref o_b), .val (.int c), .val (.int t), .val (.ref ((o_b + 22) + 9 + 2 * k6)), .unset]) rfl trivial rfl ?_
    refine r_aload_n C dX6_asks_9 rfl ?_
    refine r_get C hb5 (k := 0) rfl rfl celO_6 fw_X6_28 rfl dX6_asks_10 ?_
    refine r_iload_n C dX6_asks_13 rfl ?_
    obtain ⟨u17, hu17⟩ : ∃ r, r = d_X3_townAt (shf R_b 22) t := ⟨_, rfl⟩
    refine r_callV0 C cw_X6_96 (fun l => c_X3_townAt l D (o_b + 22) (shf R_b 22) t u17 hu17) (rest := []) hb5 (k := 22) rfl rfl celO_3 (blk_sub hb5 22 15 rfl rfl) (fun q h => h.elim) rfl rfl rfl (Nat.le_of_ble_eq_true rfl) ⟨Nat.le_of_ble_eq_true rfl, Nat.le_of_ble_eq_true rfl, Nat.le_refl 0, Nat.le_refl 0⟩ dX6_asks_14 (fun v H18 hp19 hq20 => ?_)
    subst hp19
    have hb21 := blk_kept hb5 (n := 215) rfl (fun q h1 h2 => hq20 q (fun h => h))
    obtain ho23 | ⟨k22, ho23⟩ := opt_or u17
    · have hu17' : d_X3_townAt (shf R_b 22) t = none := by rw [← hu17, ho23]
      rw [ho23]; dsimp only [psh, optT, optC]
      refine r_astoreN C dX6_asks_17 (ls' := [.val (.ref o_b), .val (.int c), .val (.int t), .val (.ref ((o_b + 22) + 9 + 2 * k6)), .val (.null)]) rfl trivial rfl ?_
      refine r_aload_n C dX6_asks_19 rfl ?_
      refine r_ifnull C dX6_asks_20 ?_
      refine r_aloadN C dX6_asks_23 rfl ?_
      refine r_ifnonnullN C dX6_asks_25 ?_
      refine r_iconst C dX6_asks_28 (-1 : Int32) (by decide) ?_
      refine r_iret C dX6_asks_29 ?_
      have er : res = (-1 : Int32) := by rw [hres, d_X6_asks]; try exact (oc_some hu1').trans ((oc_none hu17').trans (rfl))
      rw [er]
    · have hu17' : d_X3_townAt (shf R_b 22) t = some k22 := by rw [← hu17, ho23]
      rw [ho23]; dsimp only [psh, optT, optC]
      have fk24 := X3_townAt_lt hu17'
      refine r_astore C dX6_asks_17 (ls' := [.val (.ref o_b), .val (.int c), .val (.int t), .val (.ref ((o_b + 22) + 9 + 2 * k6)), .val (.ref ((o_b + 22) + 3 + k22))]) rfl trivial rfl ?_
      refine r_aload_n C dX6_asks_19 rfl ?_
      refine r_ifnull C dX6_asks_20 ?_
      refine r_aload C dX6_asks_23 rfl ?_
      refine r_ifnonnull C dX6_asks_25 ?_
      refine r_aload_n C dX6_asks_30 rfl ?_
      refine r_get C hb21 (k := (31 + 2 * k6)) (kMain_31_2 _ fk16) (by omega) celO_0 fw_X6_136 (z := .int (R_b (31 + 2 * k6) 1)) rfl dX6_asks_31 ?_
      refine r_if_ne C dX6_asks_34 (fun c25 => ?_) (fun c25 => ?_)
      · skip
        refine r_bipush C dX6_asks_45 (-2 : Int32) (by decide) ?_
        refine r_iret C dX6_asks_47 ?_
        have er : res = (-2 : Int32) := by rw [hres, d_X6_asks]; try exact (oc_some hu1').trans ((oc_some hu17').trans ((if_neg c25).trans (rfl)))
        rw [er]
      · skip
        refine r_aload C dX6_asks_37 rfl ?_
        refine r_get C hb21 (k := (25 + k22)) (kMain_25_1 _ fk24) (by omega) celO_5 fw_X6_117 (z := .int (R_b (25 + k22) 1)) rfl dX6_asks_39 ?_
        refine r_if_eq C dX6_asks_42 (fun c26 => ?_) (fun c26 => ?_)
        · skip
          refine r_aload_n C dX6_asks_48 rfl ?_
          refine r_aload C dX6_asks_49 rfl ?_
          refine r_iload_n C dX6_asks_51 rfl ?_
          obtain ⟨u27, hu27⟩ : ∃ r, r = d_X0_wouldAsk (shf R_b (31 + 2 * k6)) (shf R_b (25 + k22)) t := ⟨_, rfl⟩
          refine r_callV0 C cw_X6_143 (fun l => c_X0_wouldAsk l D ((o_b + 22) + 9 + 2 * k6) ((o_b + 22) + 3 + k22) (shf R_b (31 + 2 * k6)) (shf R_b (25 + k22)) t u27 hu27) (rest := []) hb21 (k := (31 + 2 * k6)) (kMain_31_2 _ fk16) (by omega) celO_0 ⟨(blk_sub hb21 (31 + 2 * k6) 2 (sMain_31_2_2 _ fk16) (by omega)), (blk_sub hb21 (25 + k22) 1 (sMain_25_1_1 _ fk24) (by omega))⟩ (fun q h => h.elim) rfl rfl rfl (Nat.le_of_ble_eq_true rfl) ⟨Nat.le_of_ble_eq_true rfl, Nat.le_of_ble_eq_true rfl, Nat.le_refl 0, Nat.le_refl 0⟩ dX6_asks_52 (fun v H28 hp29 hq30 => ?_)
          subst hp29
          have hb31 := blk_kept hb21 (n := 215) rfl (fun q h1 h2 => hq30 q (fun h => h))
          dsimp only [psh]
          refine r_iret C dX6_asks_55 ?_
          have er : res = u27 := by rw [hres, d_X6_asks]; try exact (oc_some hu1').trans ((oc_some hu17').trans ((if_pos c25).trans ((if_pos c26).trans ((lt_eq hu27).trans (rfl)))))
          rw [er]
        · skip
          refine r_bipush C dX6_asks_45 (-2 : Int32) (by decide) ?_
          refine r_iret C dX6_asks_47 ?_
          have er : res = (-2 : Int32) := by rw [hres, d_X6_asks]; try exact (oc_some hu1').trans ((oc_some hu17').trans ((if_pos c25).trans ((if_neg c26).trans (rfl))))
          rw [er]

def d_X6_pass (R_b : Nat → Nat → Int32) (n : Int32) : Int32 × (Nat → Nat → Int32) :=
  if n < (1 : Int32) then
    ((-1 : Int32), R_b)
  else
    if n ≤ (10 : Int32) then
      lt (d_X4_put (shf R_b 55) (shf R_b 22) 8) fun u3 =>
      lt (d_X3_goBy (shf (spl R_b 55 122 u3) 22) n) fun u11 =>
      ((u11 0 3), (spl (spl R_b 55 122 u3) 22 15 u11))
    else
      ((-1 : Int32), R_b)
set_option maxHeartbeats 4000000 in
set_option maxRecDepth 100000 in
theorem c_X6_pass (l : Launch) (D : DD) (o_b : Nat) (R_b : Nat → Nat → Int32) (n : Int32) (hw8 : ∀ j, j < 8 → (R_b 56 j).toNatClampNeg < 8) (res : Int32 × (Nat → Nat → Int32)) (hres : res = d_X6_pass R_b n) : Mt l D yX6_pass cX6_pass 2 (some .int) 5 114 0 0 [.ref o_b, .int n] (fun H => blk D ksMain o_b R_b H) (fun v H => v = some (.int res.1) ∧ blk D ksMain o_b res.2 H) (fp1 o_b 215) := by
  refine mt_of (own := RX6) (ls := [.val (.ref o_b), .val (.int n)]) rfl (by decide +kernel) rfl ?_
  intro x H C hP
  have hb_b := hP
  refine r_iload_n C dX6_pass_0 rfl ?_
  refine r_iconst C dX6_pass_1 (1 : Int32) (by decide) ?_
  refine r_ic_lt C dX6_pass_2 (fun c1 => ?_) (fun c1 => ?_)
  · skip
    refine r_iconst C dX6_pass_11 (-1 : Int32) (by decide) ?_
    refine r_iret C dX6_pass_12 ?_
    have er : res = ((-1 : Int32), R_b) := by rw [hres, d_X6_pass]; try exact (if_pos c1).trans (rfl)
    rw [er]
    exact ⟨rfl, hb_b⟩
  · skip
    refine r_iload_n C dX6_pass_5 rfl ?_
    refine r_bipush C dX6_pass_6 (10 : Int32) (by decide) ?_
    refine r_ic_le C dX6_pass_8 (fun c2 => ?_) (fun c2 => ?_)
    · skip
      refine r_aload_n C dX6_pass_13 rfl ?_
      refine r_get C hb_b (k := 0) rfl rfl celO_6 fw_X6_42 rfl dX6_pass_14 ?_
      refine r_aload_n C dX6_pass_17 rfl ?_
      refine r_get C hb_b (k := 0) rfl rfl celO_6 fw_X6_28 rfl dX6_pass_18 ?_
      obtain ⟨u3, hu3⟩ : ∃ r, r = d_X4_put (shf R_b 55) (shf R_b 22) 8 := ⟨_, rfl⟩
      refine r_callV0 C cw_X6_147 (fun l => c_X4_put l D (o_b + 55) (o_b + 22) (shf R_b 55) (shf R_b 22) 8 (by omega) (by omega) hw8 (by omega) u3 hu3) (rest := []) hb_b (k := 55) rfl rfl celO_4 ⟨(blk_sub hb_b 55 122 rfl rfl), (blk_sub hb_b 22 15 rfl rfl)⟩ (fun q h => by unfold fp1 at h; unfold fp1; omega) rfl rfl rfl (Nat.le_of_ble_eq_true rfl) ⟨Nat.le_of_ble_eq_true rfl, Nat.le_of_ble_eq_true rfl, Nat.le_refl 0, Nat.le_refl 0⟩ dX6_pass_21 (fun v H4 hp5 hq6 => ?_)
      obtain ⟨rfl, hn7⟩ := hp5
      have hb8 := blk_spl hb_b 55 122 rfl rfl hn7 (fun q h => hq6 q (by unfold fp1; omega))
      dsimp only [psh]
      refine r_aload_n C dX6_pass_24 rfl ?_
      refine r_get C hb8 (k := 0) rfl rfl celO_6 fw_X6_28 rfl dX6_pass_25 ?_
      refine r_iload_n C dX6_pass_28 rfl ?_
      have hn9 : n = nI n.toNatClampNeg := nn_of (x_lo3 c1 (by decide))
      have hn10 := (x_le2 (M := 10) c2 (by decide))
      obtain ⟨u11, hu11⟩ : ∃ r, r = d_X3_goBy (shf (spl R_b 55 122 u3) 22) n := ⟨_, rfl⟩
      refine r_callV0 C cw_X6_150 (fun l => c_X3_goBy l D (o_b + 22) (shf (spl R_b 55 122 u3) 22) n hn9 (by omega) u11 hu11) (rest := []) hb8 (k := 22) rfl rfl celO_3 (blk_sub hb8 22 15 rfl rfl) (fun q h => by unfold fp1 at h; unfold fp1; omega) rfl rfl rfl (Nat.le_of_ble_eq_true rfl) ⟨Nat.le_of_ble_eq_true rfl, Nat.le_of_ble_eq_true rfl, Nat.le_refl 0, Nat.le_refl 0⟩ dX6_pass_29 (fun v H12 hp13 hq14 => ?_)
      obtain ⟨rfl, hn15⟩ := hp13
      have hb16 := blk_spl hb8 22 15 rfl rfl hn15 (fun q h => hq14 q (by unfold fp1; omega))
      dsimp only [psh]
      refine r_aload_n C dX6_pass_32 rfl ?_
      refine r_get C hb16 (k := 0) rfl rfl celO_6 fw_X6_28 rfl dX6_pass_33 ?_
      refine r_get C hb16 (k := 22) rfl rfl celO_3 fw_X6_153 (z := .int (u11 0 3)) rfl dX6_pass_36 ?_
      refine r_iret C dX6_pass_39 ?_
      have er : res = ((u11 0 3), (spl (spl R_b 55 122 u3) 22 15 u11)) := by rw [hres, d_X6_pass]; try exact (if_neg c1).trans ((if_pos c2).trans ((lt_eq hu3).trans ((lt_eq hu11).trans (rfl))))
      rw [er]
      exact ⟨rfl, hb16⟩
    · skip
      refine r_iconst C dX6_pass_11 (-1 : Int32) (by decide) ?_
      refine r_iret C dX6_pass_12 ?_
      have er : res = ((-1 : Int32), R_b) := by rw [hres, d_X6_pass]; try exact (if_neg c1).trans ((if_neg c2).trans (rfl))
      rw [er]
      exact ⟨rfl, hb_b⟩

def d_X6_way (R_b : Nat → Nat → Int32) (t : Int32) (k : Int32) : Int32 × (Nat → Nat → Int32) :=
  oc (d_X3_townAt (shf R_b 22) t) (
    ((-1 : Int32), R_b)) fun k6 =>
  if k < 0 then
    ((-1 : Int32), R_b)
  else
    if k < (4 : Int32) then
      lt (d_X4_put (shf R_b 55) (shf R_b 22) 8) fun u11 =>
      (((spl R_b 55 122 u11) (25 + k6) 6), (pt (spl R_b 55 122 u11) (25 + k6) 6 k))
    else
      ((-1 : Int32), R_b)
set_option maxHeartbeats 4000000 in
set_option maxRecDepth 100000 in
theorem c_X6_way (l : Launch) (D : DD) (o_b : Nat) (R_b : Nat → Nat → Int32) (t : Int32) (k : Int32) (hw8 : ∀ j, j < 8 → (R_b 56 j).toNatClampNeg < 8) (res : Int32 × (Nat → Nat → Int32)) (hres : res = d_X6_way R_b t k) : Mt l D yX6_way cX6_way 5 (some .int) 4 86 0 0 [.ref o_b, .int t, .int k] (fun H => blk D ksMain o_b R_b H) (fun v H => v = some (.int res.1) ∧ blk D ksMain o_b res.2 H) (fp1 o_b 215) := by
  refine mt_of (own := RX6) (ls := [.val (.ref o_b), .val (.int t), .val (.int k), .unset, .unset]) rfl (by decide +kernel) rfl ?_
  intro x H C hP
  have hb_b := hP
  refine r_aload_n C dX6_way_0 rfl ?_
  refine r_get C hb_b (k := 0) rfl rfl celO_6 fw_X6_28 rfl dX6_way_1 ?_
  refine r_iload_n C dX6_way_4 rfl ?_
  obtain ⟨u1, hu1⟩ : ∃ r, r = d_X3_townAt (shf R_b 22) t := ⟨_, rfl⟩
  refine r_callV0 C cw_X6_96 (fun l => c_X3_townAt l D (o_b + 22) (shf R_b 22) t u1 hu1) (rest := []) hb_b (k := 22) rfl rfl celO_3 (blk_sub hb_b 22 15 rfl rfl) (fun q h => h.elim) rfl rfl rfl (Nat.le_of_ble_eq_true rfl) ⟨Nat.le_of_ble_eq_true rfl, Nat.le_of_ble_eq_true rfl, Nat.le_refl 0, Nat.le_refl 0⟩ dX6_way_5 (fun v H2 hp3 hq4 => ?_)
  subst hp3
  have hb5 := blk_kept hb_b (n := 215) rfl (fun q h1 h2 => hq4 q (fun h => h))
  obtain ho7 | ⟨k6, ho7⟩ := opt_or u1
  · have hu1' : d_X3_townAt (shf R_b 22) t = none := by rw [← hu1, ho7]
    rw [ho7]; dsimp only [psh, optT, optC]
    refine r_astore_nN C dX6_way_8 (ls' := [.val (.ref o_b), .val (.int t), .val (.int k), .val (.null), .unset]) rfl trivial rfl ?_
    refine r_aload_nN C dX6_way_9 rfl ?_
    refine r_ifnullN C dX6_way_10 ?_
    refine r_iconst C dX6_way_22 (-1 : Int32) (by decide) ?_
    refine r_iret C dX6_way_23 ?_
    have er : res = ((-1 : Int32), R_b) := by rw [hres, d_X6_way]; try exact (oc_none hu1').trans (rfl)
    rw [er]
    exact ⟨rfl, hb5⟩
  · have hu1' : d_X3_townAt (shf R_b 22) t = some k6 := by rw [← hu1, ho7]
    rw [ho7]; dsimp only [psh, optT, optC]
    have fk8 := X3_townAt_lt hu1'
    refine r_astore_n C dX6_way_8 (ls' := [.val (.ref o_b), .val (.int t), .val (.int k), .val (.ref ((o_b + 22) + 3 + k6)), .unset]) rfl trivial rfl ?_
    refine r_aload_n C dX6_way_9 rfl ?_
    refine r_ifnull C dX6_way_10 ?_
    refine r_iload_n C dX6_way_13 rfl ?_
    refine r_if_lt C dX6_way_14 (fun c9 => ?_) (fun c9 => ?_)
    · skip
      refine r_iconst C dX6_way_22 (-1 : Int32) (by decide) ?_
      refine r_iret C dX6_way_23 ?_
      have er : res = ((-1 : Int32), R_b) := by rw [hres, d_X6_way]; try exact (oc_some hu1').trans ((if_pos c9).trans (rfl))
      rw [er]
      exact ⟨rfl, hb5⟩
    · skip
      refine r_iload_n C dX6_way_17 rfl ?_
      refine r_iconst C dX6_way_18 (4 : Int32) (by decide) ?_
      refine r_ic_lt C dX6_way_19 (fun c10 => ?_) (fun c10 => ?_)
      · skip
        refine r_aload_n C dX6_way_24 rfl ?_
        refine r_get C hb5 (k := 0) rfl rfl celO_6 fw_X6_42 rfl dX6_way_25 ?_
        refine r_aload_n C dX6_way_28 rfl ?_
        refine r_get C hb5 (k := 0) rfl rfl celO_6 fw_X6_28 rfl dX6_way_29 ?_
        obtain ⟨u11, hu11⟩ : ∃ r, r = d_X4_put (shf R_b 55) (shf R_b 22) 8 := ⟨_, rfl⟩
        refine r_callV0 C cw_X6_147 (fun l => c_X4_put l D (o_b + 55) (o_b + 22) (shf R_b 55) (shf R_b 22) 8 (by omega) (by omega) hw8 (by omega) u11 hu11) (rest := []) hb5 (k := 55) rfl rfl celO_4 ⟨(blk_sub hb5 55 122 rfl rfl), (blk_sub hb5 22 15 rfl rfl)⟩ (fun q h => by unfold fp1 at h; unfold fp1; omega) rfl rfl rfl (Nat.le_of_ble_eq_true rfl) ⟨Nat.le_of_ble_eq_true rfl, Nat.le_of_ble_eq_true rfl, Nat.le_refl 0, Nat.le_refl 0⟩ dX6_way_32 (fun v H12 hp13 hq14 => ?_)
        obtain ⟨rfl, hn15⟩ := hp13
        have hb16 := blk_spl hb5 55 122 rfl rfl hn15 (fun q h => hq14 q (by unfold fp1; omega))
        dsimp only [psh]
        refine r_aload_n C dX6_way_35 rfl ?_
        refine r_get C hb16 (k := (25 + k6)) (kMain_25_1 _ fk8) (by omega) celO_5 fw_X6_114 (z := .int ((spl R_b 55 122 u11) (25 + k6) 6)) rfl dX6_way_36 ?_
        refine r_istore C dX6_way_39 (ls' := [.val (.ref o_b), .val (.int t), .val (.int k), .val (.ref ((o_b + 22) + 3 + k6)), .val (.int ((spl R_b 55 122 u11) (25 + k6) 6))]) rfl trivial rfl ?_
        refine r_aload_n C dX6_way_41 rfl ?_
        refine r_iload_n C dX6_way_42 rfl ?_
        refine r_put C hb16 (k := (25 + k6)) (kMain_25_1 _ fk8) (by omega) (by unfold fp1; omega) fw_X6_114 fp_5_6 (Or.inr rfl) dX6_way_43 (fun H17 hb19 hq18 => ?_)
        refine r_iload C dX6_way_46 rfl ?_
        refine r_iret C dX6_way_48 ?_
        have er : res = (((spl R_b 55 122 u11) (25 + k6) 6), (pt (spl R_b 55 122 u11) (25 + k6) 6 k)) := by rw [hres, d_X6_way]; try exact (oc_some hu1').trans ((if_neg c9).trans ((if_pos c10).trans ((lt_eq hu11).trans (rfl))))
        rw [er]
        exact ⟨rfl, hb19⟩
      · skip
        refine r_iconst C dX6_way_22 (-1 : Int32) (by decide) ?_
        refine r_iret C dX6_way_23 ?_
        have er : res = ((-1 : Int32), R_b) := by rw [hres, d_X6_way]; try exact (oc_some hu1').trans ((if_neg c9).trans ((if_neg c10).trans (rfl)))
        rw [er]
        exact ⟨rfl, hb5⟩

def d_X6_hire (R_b : Nat → Nat → Int32) (t : Int32) (a : Int32) (b : Int32) : Int32 × (Nat → Nat → Int32) :=
  oc (d_X3_townAt (shf R_b 22) t) (
    oc (d_X3_crewAt (shf R_b 22) a) (
      oc (d_X3_crewAt (shf R_b 22) b) (
        ((-1 : Int32), R_b)) fun k20 =>
      ((-1 : Int32), R_b)) fun k13 =>
    oc (d_X3_crewAt (shf R_b 22) b) (
      ((-1 : Int32), R_b)) fun k29 =>
    ((-1 : Int32), R_b)) fun k6 =>
  oc (d_X3_crewAt (shf R_b 22) a) (
    oc (d_X3_crewAt (shf R_b 22) b) (
      ((-1 : Int32), R_b)) fun k45 =>
    ((-1 : Int32), R_b)) fun k38 =>
  oc (d_X3_crewAt (shf R_b 22) b) (
    ((-1 : Int32), R_b)) fun k54 =>
  if a = b then
    ((-1 : Int32), R_b)
  else
    if (R_b (25 + k6) 1) = 0 then
      if (R_b (31 + 2 * k38) 1) = 0 then
        if (R_b (31 + 2 * k54) 1) = 0 then
          if (R_b (31 + 2 * k38) 3) ≤ (R_b (25 + k6) 3) then
            lt (d_X4_put (shf R_b 55) (shf R_b 22) 8) fun u62 =>
            lt (d_X0_fightLosing (shf (pt (spl R_b 55 122 u62) (25 + k6) 3 (((spl R_b 55 122 u62) (25 + k6) 3) - ((spl R_b 55 122 u62) (31 + 2 * k38) 3))) (31 + 2 * k38)) (imin ((pt (spl R_b 55 122 u62) (25 + k6) 3 (((spl R_b 55 122 u62) (25 + k6) 3) - ((spl R_b 55 122 u62) (31 + 2 * k38) 3))) (31 + 2 * k38) 2) ((pt (spl R_b 55 122 u62) (25 + k6) 3 (((spl R_b 55 122 u62) (25 + k6) 3) - ((spl R_b 55 122 u62) (31 + 2 * k38) 3))) (31 + 2 * k54) 2))) fun u71 =>
            lt (d_X0_fightLosing (shf (spl (pt (spl R_b 55 122 u62) (25 + k6) 3 (((spl R_b 55 122 u62) (25 + k6) 3) - ((spl R_b 55 122 u62) (31 + 2 * k38) 3))) (31 + 2 * k38) 2 u71) (31 + 2 * k54)) (imin ((pt (spl R_b 55 122 u62) (25 + k6) 3 (((spl R_b 55 122 u62) (25 + k6) 3) - ((spl R_b 55 122 u62) (31 + 2 * k38) 3))) (31 + 2 * k38) 2) ((pt (spl R_b 55 122 u62) (25 + k6) 3 (((spl R_b 55 122 u62) (25 + k6) 3) - ((spl R_b 55 122 u62) (31 + 2 * k38) 3))) (31 + 2 * k54) 2))) fun u77 =>
            (((spl (spl (pt (spl R_b 55 122 u62) (25 + k6) 3 (((spl R_b 55 122 u62) (25 + k6) 3) - ((spl R_b 55 122 u62) (31 + 2 * k38) 3))) (31 + 2 * k38) 2 u71) (31 + 2 * k54) 2 u77) (31 + 2 * k38) 2), (spl (spl (pt (spl R_b 55 122 u62) (25 + k6) 3 (((spl R_b 55 122 u62) (25 + k6) 3) - ((spl R_b 55 122 u62) (31 + 2 * k38) 3))) (31 + 2 * k38) 2 u71) (31 + 2 * k54) 2 u77))
          else
            ((-2 : Int32), R_b)
        else
          ((-2 : Int32), R_b)
      else
        ((-2 : Int32), R_b)
    else
      ((-2 : Int32), R_b)
set_option maxHeartbeats 4000000 in
set_option maxRecDepth 100000 in
theorem c_X6_hire (l : Launch) (D : DD) (o_b : Nat) (R_b : Nat → Nat → Int32) (t : Int32) (a : Int32) (b : Int32) (hw8 : ∀ j, j < 8 → (R_b 56 j).toNatClampNeg < 8) (res : Int32 × (Nat → Nat → Int32)) (hres : res = d_X6_hire R_b t a b) : Mt l D yX6_hire cX6_hire 8 (some .int) 4 86 0 0 [.ref o_b, .int t, .int a, .int b] (fun H => blk D ksMain o_b R_b H) (fun v H => v = some (.int res.1) ∧ blk D ksMain o_b res.2 H) (fp1 o_b 215) := by
  refine mt_of (own := RX6) (ls := [.val (.ref o_b), .val (.int t), .val (.int a), .val (.int b), .unset, .unset, .unset, .unset]) rfl (by decide +kernel) rfl ?_
  intro x H C hP
  have hb_b := hP
  refine r_aload_n C dX6_hire_0 rfl ?_
  refine r_get C hb_b (k := 0) rfl rfl celO_6 fw_X6_28 rfl dX6_hire_1 ?_
  refine r_iload_n C dX6_hire_4 rfl ?_
  obtain ⟨u1, hu1⟩ : ∃ r, r = d_X3_townAt (shf R_b 22) t := ⟨_, rfl⟩
  refine r_callV0 C cw_X6_96 (fun l => c_X3_townAt l D (o_b + 22) (shf R_b 22) t u1 hu1) (rest := []) hb_b (k := 22) rfl rfl celO_3 (blk_sub hb_b 22 15 rfl rfl) (fun q h => h.elim) rfl rfl rfl (Nat.le_of_ble_eq_true rfl) ⟨Nat.le_of_ble_eq_true rfl, Nat.le_of_ble_eq_true rfl, Nat.le_refl 0, Nat.le_refl 0⟩ dX6_hire_5 (fun v H2 hp3 hq4 => ?_)
  subst hp3
  have hb5 := blk_kept hb_b (n := 215) rfl (fun q h1 h2 => hq4 q (fun h => h))
  obtain ho7 | ⟨k6, ho7⟩ := opt_or u1
  · have hu1' : d_X3_townAt (shf R_b 22) t = none := by rw [← hu1, ho7]
    rw [ho7]; dsimp only [psh, optT, optC]
    refine r_astoreN C dX6_hire_8 (ls' := [.val (.ref o_b), .val (.int t), .val (.int a), .val (.int b), .val (.null), .unset, .unset, .unset]) rfl trivial rfl ?_
    refine r_aload_n C dX6_hire_10 rfl ?_
    refine r_get C hb5 (k := 0) rfl rfl celO_6 fw_X6_28 rfl dX6_hire_11 ?_
    refine r_iload_n C dX6_hire_14 rfl ?_
    obtain ⟨u8, hu8⟩ : ∃ r, r = d_X3_crewAt (shf R_b 22) a := ⟨_, rfl⟩
    refine r_callV0 C cw_X6_124 (fun l => c_X3_crewAt l D (o_b + 22) (shf R_b 22) a u8 hu8) (rest := []) hb5 (k := 22) rfl rfl celO_3 (blk_sub hb5 22 15 rfl rfl) (fun q h => h.elim) rfl rfl rfl (Nat.le_of_ble_eq_true rfl) ⟨Nat.le_of_ble_eq_true rfl, Nat.le_of_ble_eq_true rfl, Nat.le_refl 0, Nat.le_refl 0⟩ dX6_hire_15 (fun v H9 hp10 hq11 => ?_)
    subst hp10
    have hb12 := blk_kept hb5 (n := 215) rfl (fun q h1 h2 => hq11 q (fun h => h))
    obtain ho14 | ⟨k13, ho14⟩ := opt_or u8
    · have hu8' : d_X3_crewAt (shf R_b 22) a = none := by rw [← hu8, ho14]
      rw [ho14]; dsimp only [psh, optT, optC]
      refine r_astoreN C dX6_hire_18 (ls' := [.val (.ref o_b), .val (.int t), .val (.int a), .val (.int b), .val (.null), .val (.null), .unset, .unset]) rfl trivial rfl ?_
      refine r_aload_n C dX6_hire_20 rfl ?_
      refine r_get C hb12 (k := 0) rfl rfl celO_6 fw_X6_28 rfl dX6_hire_21 ?_
      refine r_iload_n C dX6_hire_24 rfl ?_
      obtain ⟨u15, hu15⟩ : ∃ r, r = d_X3_crewAt (shf R_b 22) b := ⟨_, rfl⟩
      refine r_callV0 C cw_X6_124 (fun l => c_X3_crewAt l D (o_b + 22) (shf R_b 22) b u15 hu15) (rest := []) hb12 (k := 22) rfl rfl celO_3 (blk_sub hb12 22 15 rfl rfl) (fun q h => h.elim) rfl rfl rfl (Nat.le_of_ble_eq_true rfl) ⟨Nat.le_of_ble_eq_true rfl, Nat.le_of_ble_eq_true rfl, Nat.le_refl 0, Nat.le_refl 0⟩ dX6_hire_25 (fun v H16 hp17 hq18 => ?_)
      subst hp17
      have hb19 := blk_kept hb12 (n := 215) rfl (fun q h1 h2 => hq18 q (fun h => h))
      obtain ho21 | ⟨k20, ho21⟩ := opt_or u15
      · have hu15' : d_X3_crewAt (shf R_b 22) b = none := by rw [← hu15, ho21]
        rw [ho21]; dsimp only [psh, optT, optC]
        refine r_astoreN C dX6_hire_28 (ls' := [.val (.ref o_b), .val (.int t), .val (.int a), .val (.int b), .val (.null), .val (.null), .val (.null), .unset]) rfl trivial rfl ?_
        refine r_aloadN C dX6_hire_30 rfl ?_
        refine r_ifnullN C dX6_hire_32 ?_
        refine r_iconst C dX6_hire_50 (-1 : Int32) (by decide) ?_
        refine r_iret C dX6_hire_51 ?_
        have er : res = ((-1 : Int32), R_b) := by rw [hres, d_X6_hire]; try exact (oc_none hu1').trans ((oc_none hu8').trans ((oc_none hu15').trans (rfl)))
        rw [er]
        exact ⟨rfl, hb19⟩
      · have hu15' : d_X3_crewAt (shf R_b 22) b = some k20 := by rw [← hu15, ho21]
        rw [ho21]; dsimp only [psh, optT, optC]
        have fk22 := X3_crewAt_lt hu15'
        refine r_astore C dX6_hire_28 (ls' := [.val (.ref o_b), .val (.int t), .val (.int a), .val (.int b), .val (.null), .val (.null), .val (.ref ((o_b + 22) + 9 + 2 * k20)), .unset]) rfl trivial rfl ?_
        refine r_aloadN C dX6_hire_30 rfl ?_
        refine r_ifnullN C dX6_hire_32 ?_
        refine r_iconst C dX6_hire_50 (-1 : Int32) (by decide) ?_
        refine r_iret C dX6_hire_51 ?_
        have er : res = ((-1 : Int32), R_b) := by rw [hres, d_X6_hire]; try exact (oc_none hu1').trans ((oc_none hu8').trans ((oc_some hu15').trans (rfl)))
        rw [er]
        exact ⟨rfl, hb19⟩
    · have hu8' : d_X3_crewAt (shf R_b 22) a = some k13 := by rw [← hu8, ho14]
      rw [ho14]; dsimp only [psh, optT, optC]
      have fk23 := X3_crewAt_lt hu8'
      refine r_astore C dX6_hire_18 (ls' := [.val (.ref o_b), .val (.int t), .val (.int a), .val (.int b), .val (.null), .val (.ref ((o_b + 22) + 9 + 2 * k13)), .unset, .unset]) rfl trivial rfl ?_
      refine r_aload_n C dX6_hire_20 rfl ?_
      refine r_get C hb12 (k := 0) rfl rfl celO_6 fw_X6_28 rfl dX6_hire_21 ?_
      refine r_iload_n C dX6_hire_24 rfl ?_
      obtain ⟨u24, hu24⟩ : ∃ r, r = d_X3_crewAt (shf R_b 22) b := ⟨_, rfl⟩
      refine r_callV0 C cw_X6_124 (fun l => c_X3_crewAt l D (o_b + 22) (shf R_b 22) b u24 hu24) (rest := []) hb12 (k := 22) rfl rfl celO_3 (blk_sub hb12 22 15 rfl rfl) (fun q h => h.elim) rfl rfl rfl (Nat.le_of_ble_eq_true rfl) ⟨Nat.le_of_ble_eq_true rfl, Nat.le_of_ble_eq_true rfl, Nat.le_refl 0, Nat.le_refl 0⟩ dX6_hire_25 (fun v H25 hp26 hq27 => ?_)
      subst hp26
      have hb28 := blk_kept hb12 (n := 215) rfl (fun q h1 h2 => hq27 q (fun h => h))
      obtain ho30 | ⟨k29, ho30⟩ := opt_or u24
      · have hu24' : d_X3_crewAt (shf R_b 22) b = none := by rw [← hu24, ho30]
        rw [ho30]; dsimp only [psh, optT, optC]
        refine r_astoreN C dX6_hire_28 (ls' := [.val (.ref o_b), .val (.int t), .val (.int a), .val (.int b), .val (.null), .val (.ref ((o_b + 22) + 9 + 2 * k13)), .val (.null), .unset]) rfl trivial rfl ?_
        refine r_aloadN C dX6_hire_30 rfl ?_
        refine r_ifnullN C dX6_hire_32 ?_
        refine r_iconst C dX6_hire_50 (-1 : Int32) (by decide) ?_
        refine r_iret C dX6_hire_51 ?_
        have er : res = ((-1 : Int32), R_b) := by rw [hres, d_X6_hire]; try exact (oc_none hu1').trans ((oc_some hu8').trans ((oc_none hu24').trans (rfl)))
        rw [er]
        exact ⟨rfl, hb28⟩
      · have hu24' : d_X3_crewAt (shf R_b 22) b = some k29 := by rw [← hu24, ho30]
        rw [ho30]; dsimp only [psh, optT, optC]
        have fk31 := X3_crewAt_lt hu24'
        refine r_astore C dX6_hire_28 (ls' := [.val (.ref o_b), .val (.int t), .val (.int a), .val (.int b), .val (.null), .val (.ref ((o_b + 22) + 9 + 2 * k13)), .val (.ref ((o_b + 22) + 9 + 2 * k29)), .unset]) rfl trivial rfl ?_
        refine r_aloadN C dX6_hire_30 rfl ?_
        refine r_ifnullN C dX6_hire_32 ?_
        refine r_iconst C dX6_hire_50 (-1 : Int32) (by decide) ?_
        refine r_iret C dX6_hire_51 ?_
        have er : res = ((-1 : Int32), R_b) := by rw [hres, d_X6_hire]; try exact (oc_none hu1').trans ((oc_some hu8').trans ((oc_some hu24').trans (rfl)))
        rw [er]
        exact ⟨rfl, hb28⟩
  · have hu1' : d_X3_townAt (shf R_b 22) t = some k6 := by rw [← hu1, ho7]
    rw [ho7]; dsimp only [psh, optT, optC]
    have fk32 := X3_townAt_lt hu1'
    refine r_astore C dX6_hire_8 (ls' := [.val (.ref o_b), .val (.int t), .val (.int a), .val (.int b), .val (.ref ((o_b + 22) + 3 + k6)), .unset, .unset, .unset]) rfl trivial rfl ?_
    refine r_aload_n C dX6_hire_10 rfl ?_
    refine r_get C hb5 (k := 0) rfl rfl celO_6 fw_X6_28 rfl dX6_hire_11 ?_
    refine r_iload_n C dX6_hire_14 rfl ?_
    obtain ⟨u33, hu33⟩ : ∃ r, r = d_X3_crewAt (shf R_b 22) a := ⟨_, rfl⟩
    refine r_callV0 C cw_X6_124 (fun l => c_X3_crewAt l D (o_b + 22) (shf R_b 22) a u33 hu33) (rest := []) hb5 (k := 22) rfl rfl celO_3 (blk_sub hb5 22 15 rfl rfl) (fun q h => h.elim) rfl rfl rfl (Nat.le_of_ble_eq_true rfl) ⟨Nat.le_of_ble_eq_true rfl, Nat.le_of_ble_eq_true rfl, Nat.le_refl 0, Nat.le_refl 0⟩ dX6_hire_15 (fun v H34 hp35 hq36 => ?_)
    subst hp35
    have hb37 := blk_kept hb5 (n := 215) rfl (fun q h1 h2 => hq36 q (fun h => h))
    obtain ho39 | ⟨k38, ho39⟩ := opt_or u33
    · have hu33' : d_X3_crewAt (shf R_b 22) a = none := by rw [← hu33, ho39]
      rw [ho39]; dsimp only [psh, optT, optC]
      refine r_astoreN C dX6_hire_18 (ls' := [.val (.ref o_b), .val (.int t), .val (.int a), .val (.int b), .val (.ref ((o_b + 22) + 3 + k6)), .val (.null), .unset, .unset]) rfl trivial rfl ?_
      refine r_aload_n C dX6_hire_20 rfl ?_
      refine r_get C hb37 (k := 0) rfl rfl celO_6 fw_X6_28 rfl dX6_hire_21 ?_
      refine r_iload_n C dX6_hire_24 rfl ?_
      obtain ⟨u40, hu40⟩ : ∃ r, r = d_X3_crewAt (shf R_b 22) b := ⟨_, rfl⟩
      refine r_callV0 C cw_X6_124 (fun l => c_X3_crewAt l D (o_b + 22) (shf R_b 22) b u40 hu40) (rest := []) hb37 (k := 22) rfl rfl celO_3 (blk_sub hb37 22 15 rfl rfl) (fun q h => h.elim) rfl rfl rfl (Nat.le_of_ble_eq_true rfl) ⟨Nat.le_of_ble_eq_true rfl, Nat.le_of_ble_eq_true rfl, Nat.le_refl 0, Nat.le_refl 0⟩ dX6_hire_25 (fun v H41 hp42 hq43 => ?_)
      subst hp42
      have hb44 := blk_kept hb37 (n := 215) rfl (fun q h1 h2 => hq43 q (fun h => h))
      obtain ho46 | ⟨k45, ho46⟩ := opt_or u40
      · have hu40' : d_X3_crewAt (shf R_b 22) b = none := by rw [← hu40, ho46]
        rw [ho46]; dsimp only [psh, optT, optC]
        refine r_astoreN C dX6_hire_28 (ls' := [.val (.ref o_b), .val (.int t), .val (.int a), .val (.int b), .val (.ref ((o_b + 22) + 3 + k6)), .val (.null), .val (.null), .unset]) rfl trivial rfl ?_
        refine r_aload C dX6_hire_30 rfl ?_
        refine r_ifnull C dX6_hire_32 ?_
        refine r_aloadN C dX6_hire_35 rfl ?_
        refine r_ifnullN C dX6_hire_37 ?_
        refine r_iconst C dX6_hire_50 (-1 : Int32) (by decide) ?_
        refine r_iret C dX6_hire_51 ?_
        have er : res = ((-1 : Int32), R_b) := by rw [hres, d_X6_hire]; try exact (oc_some hu1').trans ((oc_none hu33').trans ((oc_none hu40').trans (rfl)))
        rw [er]
        exact ⟨rfl, hb44⟩
      · have hu40' : d_X3_crewAt (shf R_b 22) b = some k45 := by rw [← hu40, ho46]
        rw [ho46]; dsimp only [psh, optT, optC]
        have fk47 := X3_crewAt_lt hu40'
        refine r_astore C dX6_hire_28 (ls' := [.val (.ref o_b), .val (.int t), .val (.int a), .val (.int b), .val (.ref ((o_b + 22) + 3 + k6)), .val (.null), .val (.ref ((o_b + 22) + 9 + 2 * k45)), .unset]) rfl trivial rfl ?_
        refine r_aload C dX6_hire_30 rfl ?_
        refine r_ifnull C dX6_hire_32 ?_
        refine r_aloadN C dX6_hire_35 rfl ?_
        refine r_ifnullN C dX6_hire_37 ?_
        refine r_iconst C dX6_hire_50 (-1 : Int32) (by decide) ?_
        refine r_iret C dX6_hire_51 ?_
        have er : res = ((-1 : Int32), R_b) := by rw [hres, d_X6_hire]; try exact (oc_some hu1').trans ((oc_none hu33').trans ((oc_some hu40').trans (rfl)))
        rw [er]
        exact ⟨rfl, hb44⟩
    · have hu33' : d_X3_crewAt (shf R_b 22) a = some k38 := by rw [← hu33, ho39]
      rw [ho39]; dsimp only [psh, optT, optC]
      have fk48 := X3_crewAt_lt hu33'
      refine r_astore C dX6_hire_18 (ls' := [.val (.ref o_b), .val (.int t), .val (.int a), .val (.int b), .val (.ref ((o_b + 22) + 3 + k6)), .val (.ref ((o_b + 22) + 9 + 2 * k38)), .unset, .unset]) rfl trivial rfl ?_
      refine r_aload_n C dX6_hire_20 rfl ?_
      refine r_get C hb37 (k := 0) rfl rfl celO_6 fw_X6_28 rfl dX6_hire_21 ?_
      refine r_iload_n C dX6_hire_24 rfl ?_
      obtain ⟨u49, hu49⟩ : ∃ r, r = d_X3_crewAt (shf R_b 22) b := ⟨_, rfl⟩
      refine r_callV0 C cw_X6_124 (fun l => c_X3_crewAt l D (o_b + 22) (shf R_b 22) b u49 hu49) (rest := []) hb37 (k := 22) rfl rfl celO_3 (blk_sub hb37 22 15 rfl rfl) (fun q h => h.elim) rfl rfl rfl (Nat.le_of_ble_eq_true rfl) ⟨Nat.le_of_ble_eq_true rfl, Nat.le_of_ble_eq_true rfl, Nat.le_refl 0, Nat.le_refl 0⟩ dX6_hire_25 (fun v H50 hp51 hq52 => ?_)
      subst hp51
      have hb53 := blk_kept hb37 (n := 215) rfl (fun q h1 h2 => hq52 q (fun h => h))
      obtain ho55 | ⟨k54, ho55⟩ := opt_or u49
      · have hu49' : d_X3_crewAt (shf R_b 22) b = none := by rw [← hu49, ho55]
        rw [ho55]; dsimp only [psh, optT, optC]
        refine r_astoreN C dX6_hire_28 (ls' := [.val (.ref o_b), .val (.int t), .val (.int a), .val (.int b), .val (.ref ((o_b + 22) + 3 + k6)), .val (.ref ((o_b + 22) + 9 + 2 * k38)), .val (.null), .unset]) rfl trivial rfl ?_
        refine r_aload C dX6_hire_30 rfl ?_
        refine r_ifnull C dX6_hire_32 ?_
        refine r_aload C dX6_hire_35 rfl ?_
        refine r_ifnull C dX6_hire_37 ?_
        refine r_aloadN C dX6_hire_40 rfl ?_
        refine r_ifnullN C dX6_hire_42 ?_
        refine r_iconst C dX6_hire_50 (-1 : Int32) (by decide) ?_
        refine r_iret C dX6_hire_51 ?_
        have er : res = ((-1 : Int32), R_b) := by rw [hres, d_X6_hire]; try exact (oc_some hu1').trans ((oc_some hu33').trans ((oc_none hu49').trans (rfl)))
        rw [er]
        exact ⟨rfl, hb53⟩
      · have hu49' : d_X3_crewAt (shf R_b 22) b = some k54 := by rw [← hu49, ho55]
        rw [ho55]; dsimp only [psh, optT, optC]
        have fk56 := X3_crewAt_lt hu49'
        refine r_astore C dX6_hire_28 (ls' := [.val (.ref o_b), .val (.int t), .val (.int a), .val (.int b), .val (.ref ((o_b + 22) + 3 + k6)), .val (.ref ((o_b + 22) + 9 + 2 * k38)), .val (.ref ((o_b + 22) + 9 + 2 * k54)), .unset]) rfl trivial rfl ?_
        refine r_aload C dX6_hire_30 rfl ?_
        refine r_ifnull C dX6_hire_32 ?_
        refine r_aload C dX6_hire_35 rfl ?_
        refine r_ifnull C dX6_hire_37 ?_
        refine r_aload C dX6_hire_40 rfl ?_
        refine r_ifnull C dX6_hire_42 ?_
        refine r_iload_n C dX6_hire_45 rfl ?_
        refine r_iload_n C dX6_hire_46 rfl ?_
        refine r_ic_ne C dX6_hire_47 (fun c57 => ?_) (fun c57 => ?_)
        · skip
          refine r_aload C dX6_hire_52 rfl ?_
          refine r_get C hb53 (k := (25 + k6)) (kMain_25_1 _ fk32) (by omega) celO_5 fw_X6_117 (z := .int (R_b (25 + k6) 1)) rfl dX6_hire_54 ?_
          refine r_if_ne C dX6_hire_57 (fun c58 => ?_) (fun c58 => ?_)
          · skip
            refine r_bipush C dX6_hire_89 (-2 : Int32) (by decide) ?_
            refine r_iret C dX6_hire_91 ?_
            have er : res = ((-2 : Int32), R_b) := by rw [hres, d_X6_hire]; try exact (oc_some hu1').trans ((oc_some hu33').trans ((oc_some hu49').trans ((if_neg c57).trans ((if_neg c58).trans (rfl)))))
            rw [er]
            exact ⟨rfl, hb53⟩
          · skip
            refine r_aload C dX6_hire_60 rfl ?_
            refine r_get C hb53 (k := (31 + 2 * k38)) (kMain_31_2 _ fk48) (by omega) celO_0 fw_X6_136 (z := .int (R_b (31 + 2 * k38) 1)) rfl dX6_hire_62 ?_
            refine r_if_ne C dX6_hire_65 (fun c59 => ?_) (fun c59 => ?_)
            · skip
              refine r_bipush C dX6_hire_89 (-2 : Int32) (by decide) ?_
              refine r_iret C dX6_hire_91 ?_
              have er : res = ((-2 : Int32), R_b) := by rw [hres, d_X6_hire]; try exact (oc_some hu1').trans ((oc_some hu33').trans ((oc_some hu49').trans ((if_neg c57).trans ((if_pos c58).trans ((if_neg c59).trans (rfl))))))
              rw [er]
              exact ⟨rfl, hb53⟩
            · skip
              refine r_aload C dX6_hire_68 rfl ?_
              refine r_get C hb53 (k := (31 + 2 * k54)) (kMain_31_2 _ fk56) (by omega) celO_0 fw_X6_136 (z := .int (R_b (31 + 2 * k54) 1)) rfl dX6_hire_70 ?_
              refine r_if_ne C dX6_hire_73 (fun c60 => ?_) (fun c60 => ?_)
              · skip
                refine r_bipush C dX6_hire_89 (-2 : Int32) (by decide) ?_
                refine r_iret C dX6_hire_91 ?_
                have er : res = ((-2 : Int32), R_b) := by rw [hres, d_X6_hire]; try exact (oc_some hu1').trans ((oc_some hu33').trans ((oc_some hu49').trans ((if_neg c57).trans ((if_pos c58).trans ((if_pos c59).trans ((if_neg c60).trans (rfl)))))))
                rw [er]
                exact ⟨rfl, hb53⟩
              · skip
                refine r_aload C dX6_hire_76 rfl ?_
                refine r_get C hb53 (k := (25 + k6)) (kMain_25_1 _ fk32) (by omega) celO_5 fw_X6_105 (z := .int (R_b (25 + k6) 3)) rfl dX6_hire_78 ?_
                refine r_aload C dX6_hire_81 rfl ?_
                refine r_get C hb53 (k := (31 + 2 * k38)) (kMain_31_2 _ fk48) (by omega) celO_0 fw_X6_133 (z := .int (R_b (31 + 2 * k38) 3)) rfl dX6_hire_83 ?_
                refine r_ic_ge C dX6_hire_86 (fun c61 => ?_) (fun c61 => ?_)
                · skip
                  refine r_aload_n C dX6_hire_92 rfl ?_
                  refine r_get C hb53 (k := 0) rfl rfl celO_6 fw_X6_42 rfl dX6_hire_93 ?_
                  refine r_aload_n C dX6_hire_96 rfl ?_
                  refine r_get C hb53 (k := 0) rfl rfl celO_6 fw_X6_28 rfl dX6_hire_97 ?_
                  obtain ⟨u62, hu62⟩ : ∃ r, r = d_X4_put (shf R_b 55) (shf R_b 22) 8 := ⟨_, rfl⟩
                  refine r_callV0 C cw_X6_147 (fun l => c_X4_put l D (o_b + 55) (o_b + 22) (shf R_b 55) (shf R_b 22) 8 (by omega) (by omega) hw8 (by omega) u62 hu62) (rest := []) hb53 (k := 55) rfl rfl celO_4 ⟨(blk_sub hb53 55 122 rfl rfl), (blk_sub hb53 22 15 rfl rfl)⟩ (fun q h => by unfold fp1 at h; unfold fp1; omega) rfl rfl rfl (Nat.le_of_ble_eq_true rfl) ⟨Nat.le_of_ble_eq_true rfl, Nat.le_of_ble_eq_true rfl, Nat.le_refl 0, Nat.le_refl 0⟩ dX6_hire_100 (fun v H63 hp64 hq65 => ?_)
                  obtain ⟨rfl, hn66⟩ := hp64
                  have hb67 := blk_spl hb53 55 122 rfl rfl hn66 (fun q h => hq65 q (by unfold fp1; omega))
                  dsimp only [psh]
                  refine r_aload C dX6_hire_103 rfl ?_
                  refine r_dup C dX6_hire_105 rfl ?_
                  refine r_get C hb67 (k := (25 + k6)) (kMain_25_1 _ fk32) (by omega) celO_5 fw_X6_105 (z := .int ((spl R_b 55 122 u62) (25 + k6) 3)) rfl dX6_hire_106 ?_
                  refine r_aload C dX6_hire_109 rfl ?_
                  refine r_get C hb67 (k := (31 + 2 * k38)) (kMain_31_2 _ fk48) (by omega) celO_0 fw_X6_133 (z := .int ((spl R_b 55 122 u62) (31 + 2 * k38) 3)) rfl dX6_hire_111 ?_
                  refine r_isub C dX6_hire_114 ?_
                  refine r_put C hb67 (k := (25 + k6)) (kMain_25_1 _ fk32) (by omega) (by unfold fp1; omega) fw_X6_105 fp_5_3 (Or.inr rfl) dX6_hire_115 (fun H68 hb70 hq69 => ?_)
                  refine r_aload C dX6_hire_118 rfl ?_
                  refine r_get C hb70 (k := (31 + 2 * k38)) (kMain_31_2 _ fk48) (by omega) celO_0 fw_X6_128 (z := .int ((pt (spl R_b 55 122 u62) (25 + k6) 3 (((spl R_b 55 122 u62) (25 + k6) 3) - ((spl R_b 55 122 u62) (31 + 2 * k38) 3))) (31 + 2 * k38) 2)) rfl dX6_hire_120 ?_
                  refine r_aload C dX6_hire_123 rfl ?_
                  refine r_get C hb70 (k := (31 + 2 * k54)) (kMain_31_2 _ fk56) (by omega) celO_0 fw_X6_128 (z := .int ((pt (spl R_b 55 122 u62) (25 + k6) 3 (((spl R_b 55 122 u62) (25 + k6) 3) - ((spl R_b 55 122 u62) (31 + 2 * k38) 3))) (31 + 2 * k54) 2)) rfl dX6_hire_125 ?_
                  refine r_mmin C mw_X6_156 rfl ⟨Nat.le_of_ble_eq_true rfl, Nat.le_of_ble_eq_true rfl, Nat.le_refl 0, Nat.le_refl 0⟩ dX6_hire_128 ?_
                  refine r_istore C dX6_hire_131 (ls' := [.val (.ref o_b), .val (.int t), .val (.int a), .val (.int b), .val (.ref ((o_b + 22) + 3 + k6)), .val (.ref ((o_b + 22) + 9 + 2 * k38)), .val (.ref ((o_b + 22) + 9 + 2 * k54)), .val (.int (imin ((pt (spl R_b 55 122 u62) (25 + k6) 3 (((spl R_b 55 122 u62) (25 + k6) 3) - ((spl R_b 55 122 u62) (31 + 2 * k38) 3))) (31 + 2 * k38) 2) ((pt (spl R_b 55 122 u62) (25 + k6) 3 (((spl R_b 55 122 u62) (25 + k6) 3) - ((spl R_b 55 122 u62) (31 + 2 * k38) 3))) (31 + 2 * k54) 2)))]) rfl trivial rfl ?_
                  refine r_aload C dX6_hire_133 rfl ?_
                  refine r_iload C dX6_hire_135 rfl ?_
                  obtain ⟨u71, hu71⟩ : ∃ r, r = d_X0_fightLosing (shf (pt (spl R_b 55 122 u62) (25 + k6) 3 (((spl R_b 55 122 u62) (25 + k6) 3) - ((spl R_b 55 122 u62) (31 + 2 * k38) 3))) (31 + 2 * k38)) (imin ((pt (spl R_b 55 122 u62) (25 + k6) 3 (((spl R_b 55 122 u62) (25 + k6) 3) - ((spl R_b 55 122 u62) (31 + 2 * k38) 3))) (31 + 2 * k38) 2) ((pt (spl R_b 55 122 u62) (25 + k6) 3 (((spl R_b 55 122 u62) (25 + k6) 3) - ((spl R_b 55 122 u62) (31 + 2 * k38) 3))) (31 + 2 * k54) 2)) := ⟨_, rfl⟩
                  refine r_callV0 C cw_X6_162 (fun l => c_X0_fightLosing l D ((o_b + 22) + 9 + 2 * k38) (shf (pt (spl R_b 55 122 u62) (25 + k6) 3 (((spl R_b 55 122 u62) (25 + k6) 3) - ((spl R_b 55 122 u62) (31 + 2 * k38) 3))) (31 + 2 * k38)) (imin ((pt (spl R_b 55 122 u62) (25 + k6) 3 (((spl R_b 55 122 u62) (25 + k6) 3) - ((spl R_b 55 122 u62) (31 + 2 * k38) 3))) (31 + 2 * k38) 2) ((pt (spl R_b 55 122 u62) (25 + k6) 3 (((spl R_b 55 122 u62) (25 + k6) 3) - ((spl R_b 55 122 u62) (31 + 2 * k38) 3))) (31 + 2 * k54) 2)) u71 hu71) (rest := []) hb70 (k := (31 + 2 * k38)) (kMain_31_2 _ fk48) (by omega) celO_0 (blk_sub hb70 (31 + 2 * k38) 2 (sMain_31_2_2 _ fk48) (by omega)) (fun q h => by unfold fp1 at h; unfold fp1; omega) rfl rfl rfl (Nat.le_of_ble_eq_true rfl) ⟨Nat.le_of_ble_eq_true rfl, Nat.le_of_ble_eq_true rfl, Nat.le_refl 0, Nat.le_refl 0⟩ dX6_hire_137 (fun v H72 hp73 hq74 => ?_)
                  obtain ⟨rfl, hn75⟩ := hp73
                  have hb76 := blk_spl hb70 (31 + 2 * k38) 2 (sMain_31_2_2 _ fk48) (by omega) hn75 (fun q h => hq74 q (by unfold fp1; omega))
                  dsimp only [psh]
                  refine r_aload C dX6_hire_140 rfl ?_
                  refine r_iload C dX6_hire_142 rfl ?_
                  obtain ⟨u77, hu77⟩ : ∃ r, r = d_X0_fightLosing (shf (spl (pt (spl R_b 55 122 u62) (25 + k6) 3 (((spl R_b 55 122 u62) (25 + k6) 3) - ((spl R_b 55 122 u62) (31 + 2 * k38) 3))) (31 + 2 * k38) 2 u71) (31 + 2 * k54)) (imin ((pt (spl R_b 55 122 u62) (25 + k6) 3 (((spl R_b 55 122 u62) (25 + k6) 3) - ((spl R_b 55 122 u62) (31 + 2 * k38) 3))) (31 + 2 * k38) 2) ((pt (spl R_b 55 122 u62) (25 + k6) 3 (((spl R_b 55 122 u62) (25 + k6) 3) - ((spl R_b 55 122 u62) (31 + 2 * k38) 3))) (31 + 2 * k54) 2)) := ⟨_, rfl⟩
                  refine r_callV0 C cw_X6_162 (fun l => c_X0_fightLosing l D ((o_b + 22) + 9 + 2 * k54) (shf (spl (pt (spl R_b 55 122 u62) (25 + k6) 3 (((spl R_b 55 122 u62) (25 + k6) 3) - ((spl R_b 55 122 u62) (31 + 2 * k38) 3))) (31 + 2 * k38) 2 u71) (31 + 2 * k54)) (imin ((pt (spl R_b 55 122 u62) (25 + k6) 3 (((spl R_b 55 122 u62) (25 + k6) 3) - ((spl R_b 55 122 u62) (31 + 2 * k38) 3))) (31 + 2 * k38) 2) ((pt (spl R_b 55 122 u62) (25 + k6) 3 (((spl R_b 55 122 u62) (25 + k6) 3) - ((spl R_b 55 122 u62) (31 + 2 * k38) 3))) (31 + 2 * k54) 2)) u77 hu77) (rest := []) hb76 (k := (31 + 2 * k54)) (kMain_31_2 _ fk56) (by omega) celO_0 (blk_sub hb76 (31 + 2 * k54) 2 (sMain_31_2_2 _ fk56) (by omega)) (fun q h => by unfold fp1 at h; unfold fp1; omega) rfl rfl rfl (Nat.le_of_ble_eq_true rfl) ⟨Nat.le_of_ble_eq_true rfl, Nat.le_of_ble_eq_true rfl, Nat.le_refl 0, Nat.le_refl 0⟩ dX6_hire_144 (fun v H78 hp79 hq80 => ?_)
                  obtain ⟨rfl, hn81⟩ := hp79
                  have hb82 := blk_spl hb76 (31 + 2 * k54) 2 (sMain_31_2_2 _ fk56) (by omega) hn81 (fun q h => hq80 q (by unfold fp1; omega))
                  dsimp only [psh]
                  refine r_aload C dX6_hire_147 rfl ?_
                  refine r_get C hb82 (k := (31 + 2 * k38)) (kMain_31_2 _ fk48) (by omega) celO_0 fw_X6_128 (z := .int ((spl (spl (pt (spl R_b 55 122 u62) (25 + k6) 3 (((spl R_b 55 122 u62) (25 + k6) 3) - ((spl R_b 55 122 u62) (31 + 2 * k38) 3))) (31 + 2 * k38) 2 u71) (31 + 2 * k54) 2 u77) (31 + 2 * k38) 2)) rfl dX6_hire_149 ?_
                  refine r_iret C dX6_hire_152 ?_
                  have er : res = (((spl (spl (pt (spl R_b 55 122 u62) (25 + k6) 3 (((spl R_b 55 122 u62) (25 + k6) 3) - ((spl R_b 55 122 u62) (31 + 2 * k38) 3))) (31 + 2 * k38) 2 u71) (31 + 2 * k54) 2 u77) (31 + 2 * k38) 2), (spl (spl (pt (spl R_b 55 122 u62) (25 + k6) 3 (((spl R_b 55 122 u62) (25 + k6) 3) - ((spl R_b 55 122 u62) (31 + 2 * k38) 3))) (31 + 2 * k38) 2 u71) (31 + 2 * k54) 2 u77)) := by rw [hres, d_X6_hire]; try exact (oc_some hu1').trans ((oc_some hu33').trans ((oc_some hu49').trans ((if_neg c57).trans ((if_pos c58).trans ((if_pos c59).trans ((if_pos c60).trans ((if_pos c61).trans ((lt_eq hu62).trans ((lt_eq hu71).trans ((lt_eq hu77).trans (rfl)))))))))))
                  rw [er]
                  exact ⟨rfl, hb82⟩
                · skip
                  refine r_bipush C dX6_hire_89 (-2 : Int32) (by decide) ?_
                  refine r_iret C dX6_hire_91 ?_
                  have er : res = ((-2 : Int32), R_b) := by rw [hres, d_X6_hire]; try exact (oc_some hu1').trans ((oc_some hu33').trans ((oc_some hu49').trans ((if_neg c57).trans ((if_pos c58).trans ((if_pos c59).trans ((if_pos c60).trans ((if_neg c61).trans (rfl))))))))
                  rw [er]
                  exact ⟨rfl, hb53⟩
        · skip
          refine r_iconst C dX6_hire_50 (-1 : Int32) (by decide) ?_
          refine r_iret C dX6_hire_51 ?_
          have er : res = ((-1 : Int32), R_b) := by rw [hres, d_X6_hire]; try exact (oc_some hu1').trans ((oc_some hu33').trans ((oc_some hu49').trans ((if_pos c57).trans (rfl))))
          rw [er]
          exact ⟨rfl, hb53⟩

def d_X6_land (R_b : Nat → Nat → Int32) (t : Int32) (c : Int32) : Int32 × (Nat → Nat → Int32) :=
  oc (d_X3_townAt (shf R_b 22) t) (
    oc (d_X3_crewAt (shf R_b 22) c) (
      ((-1 : Int32), R_b)) fun k13 =>
    ((-1 : Int32), R_b)) fun k6 =>
  oc (d_X3_crewAt (shf R_b 22) c) (
    ((-1 : Int32), R_b)) fun k22 =>
  if (R_b (25 + k6) 1) = 0 then
    if (R_b (31 + 2 * k22) 1) = 0 then
      lt (d_X4_put (shf R_b 55) (shf R_b 22) 8) fun u27 =>
      (((pt (pt (pt (spl R_b 55 122 u27) (31 + 2 * k22) 1 (1 : Int32)) (25 + k6) 4 (imax (0 : Int32) (((pt (spl R_b 55 122 u27) (31 + 2 * k22) 1 (1 : Int32)) (25 + k6) 4) - (((pt (spl R_b 55 122 u27) (31 + 2 * k22) 1 (1 : Int32)) (31 + 2 * k22) 3) / (2 : Int32))))) (25 + k6) 5 (imin (20 : Int32) (((pt (pt (spl R_b 55 122 u27) (31 + 2 * k22) 1 (1 : Int32)) (25 + k6) 4 (imax (0 : Int32) (((pt (spl R_b 55 122 u27) (31 + 2 * k22) 1 (1 : Int32)) (25 + k6) 4) - (((pt (spl R_b 55 122 u27) (31 + 2 * k22) 1 (1 : Int32)) (31 + 2 * k22) 3) / (2 : Int32))))) (25 + k6) 5) + (2 : Int32)))) (25 + k6) 4), (pt (pt (pt (spl R_b 55 122 u27) (31 + 2 * k22) 1 (1 : Int32)) (25 + k6) 4 (imax (0 : Int32) (((pt (spl R_b 55 122 u27) (31 + 2 * k22) 1 (1 : Int32)) (25 + k6) 4) - (((pt (spl R_b 55 122 u27) (31 + 2 * k22) 1 (1 : Int32)) (31 + 2 * k22) 3) / (2 : Int32))))) (25 + k6) 5 (imin (20 : Int32) (((pt (pt (spl R_b 55 122 u27) (31 + 2 * k22) 1 (1 : Int32)) (25 + k6) 4 (imax (0 : Int32) (((pt (spl R_b 55 122 u27) (31 + 2 * k22) 1 (1 : Int32)) (25 + k6) 4) - (((pt (spl R_b 55 122 u27) (31 + 2 * k22) 1 (1 : Int32)) (31 + 2 * k22) 3) / (2 : Int32))))) (25 + k6) 5) + (2 : Int32)))))
    else
      ((-2 : Int32), R_b)
  else
    ((-2 : Int32), R_b)
set_option maxHeartbeats 4000000 in
set_option maxRecDepth 100000 in
theorem c_X6_land (l : Launch) (D : DD) (o_b : Nat) (R_b : Nat → Nat → Int32) (t : Int32) (c : Int32) (hw8 : ∀ j, j < 8 → (R_b 56 j).toNatClampNeg < 8) (res : Int32 × (Nat → Nat → Int32)) (hres : res = d_X6_land R_b t c) : Mt l D yX6_land cX6_land 5 (some .int) 4 86 0 0 [.ref o_b, .int t, .int c] (fun H => blk D ksMain o_b R_b H) (fun v H => v = some (.int res.1) ∧ blk D ksMain o_b res.2 H) (fp1 o_b 215) := by
  refine mt_of (own := RX6) (ls := [.val (.ref o_b), .val (.int t), .val (.int c), .unset, .unset]) rfl (by decide +kernel) rfl ?_
  intro x H C hP
  have hb_b := hP
  refine r_aload_n C dX6_land_0 rfl ?_
  refine r_get C hb_b (k := 0) rfl rfl celO_6 fw_X6_28 rfl dX6_land_1 ?_
  refine r_iload_n C dX6_land_4 rfl ?_
  obtain ⟨u1, hu1⟩ : ∃ r, r = d_X3_townAt (shf R_b 22) t := ⟨_, rfl⟩
  refine r_callV0 C cw_X6_96 (fun l => c_X3_townAt l D (o_b + 22) (shf R_b 22) t u1 hu1) (rest := []) hb_b (k := 22) rfl rfl celO_3 (blk_sub hb_b 22 15 rfl rfl) (fun q h => h.elim) rfl rfl rfl (Nat.le_of_ble_eq_true rfl) ⟨Nat.le_of_ble_eq_true rfl, Nat.le_of_ble_eq_true rfl, Nat.le_refl 0, Nat.le_refl 0⟩ dX6_land_5 (fun v H2 hp3 hq4 => ?_)
  subst hp3
  have hb5 := blk_kept hb_b (n := 215) rfl (fun q h1 h2 => hq4 q (fun h => h))
  obtain ho7 | ⟨k6, ho7⟩ := opt_or u1
  · have hu1' : d_X3_townAt (shf R_b 22) t = none := by rw [← hu1, ho7]
    rw [ho7]; dsimp only [psh, optT, optC]
    refine r_astore_nN C dX6_land_8 (ls' := [.val (.ref o_b), .val (.int t), .val (.int c), .val (.null), .unset]) rfl trivial rfl ?_
    refine r_aload_n C dX6_land_9 rfl ?_
    refine r_get C hb5 (k := 0) rfl rfl celO_6 fw_X6_28 rfl dX6_land_10 ?_
    refine r_iload_n C dX6_land_13 rfl ?_
    obtain ⟨u8, hu8⟩ : ∃ r, r = d_X3_crewAt (shf R_b 22) c := ⟨_, rfl⟩
    refine r_callV0 C cw_X6_124 (fun l => c_X3_crewAt l D (o_b + 22) (shf R_b 22) c u8 hu8) (rest := []) hb5 (k := 22) rfl rfl celO_3 (blk_sub hb5 22 15 rfl rfl) (fun q h => h.elim) rfl rfl rfl (Nat.le_of_ble_eq_true rfl) ⟨Nat.le_of_ble_eq_true rfl, Nat.le_of_ble_eq_true rfl, Nat.le_refl 0, Nat.le_refl 0⟩ dX6_land_14 (fun v H9 hp10 hq11 => ?_)
    subst hp10
    have hb12 := blk_kept hb5 (n := 215) rfl (fun q h1 h2 => hq11 q (fun h => h))
    obtain ho14 | ⟨k13, ho14⟩ := opt_or u8
    · have hu8' : d_X3_crewAt (shf R_b 22) c = none := by rw [← hu8, ho14]
      rw [ho14]; dsimp only [psh, optT, optC]
      refine r_astoreN C dX6_land_17 (ls' := [.val (.ref o_b), .val (.int t), .val (.int c), .val (.null), .val (.null)]) rfl trivial rfl ?_
      refine r_aload_nN C dX6_land_19 rfl ?_
      refine r_ifnullN C dX6_land_20 ?_
      refine r_iconst C dX6_land_28 (-1 : Int32) (by decide) ?_
      refine r_iret C dX6_land_29 ?_
      have er : res = ((-1 : Int32), R_b) := by rw [hres, d_X6_land]; try exact (oc_none hu1').trans ((oc_none hu8').trans (rfl))
      rw [er]
      exact ⟨rfl, hb12⟩
    · have hu8' : d_X3_crewAt (shf R_b 22) c = some k13 := by rw [← hu8, ho14]
      rw [ho14]; dsimp only [psh, optT, optC]
      have fk15 := X3_crewAt_lt hu8'
      refine r_astore C dX6_land_17 (ls' := [.val (.ref o_b), .val (.int t), .val (.int c), .val (.null), .val (.ref ((o_b + 22) + 9 + 2 * k13))]) rfl trivial rfl ?_
      refine r_aload_nN C dX6_land_19 rfl ?_
      refine r_ifnullN C dX6_land_20 ?_
      refine r_iconst C dX6_land_28 (-1 : Int32) (by decide) ?_
      refine r_iret C dX6_land_29 ?_
      have er : res = ((-1 : Int32), R_b) := by rw [hres, d_X6_land]; try exact (oc_none hu1').trans ((oc_some hu8').trans (rfl))
      rw [er]
      exact ⟨rfl, hb12⟩
  · have hu1' : d_X3_townAt (shf R_b 22) t = some k6 := by rw [← hu1, ho7]
    rw [ho7]; dsimp only [psh, optT, optC]
    have fk16 := X3_townAt_lt hu1'
    refine r_astore_n C dX6_land_8 (ls' := [.val (.ref o_b), .val (.int t), .val (.int c), .val (.ref ((o_b + 22) + 3 + k6)), .unset]) rfl trivial rfl ?_
    refine r_aload_n C dX6_land_9 rfl ?_
    refine r_get C hb5 (k := 0) rfl rfl celO_6 fw_X6_28 rfl dX6_land_10 ?_
    refine r_iload_n C dX6_land_13 rfl ?_
    obtain ⟨u17, hu17⟩ : ∃ r, r = d_X3_crewAt (shf R_b 22) c := ⟨_, rfl⟩
    refine r_callV0 C cw_X6_124 (fun l => c_X3_crewAt l D (o_b + 22) (shf R_b 22) c u17 hu17) (rest := []) hb5 (k := 22) rfl rfl celO_3 (blk_sub hb5 22 15 rfl rfl) (fun q h => h.elim) rfl rfl rfl (Nat.le_of_ble_eq_true rfl) ⟨Nat.le_of_ble_eq_true rfl, Nat.le_of_ble_eq_true rfl, Nat.le_refl 0, Nat.le_refl 0⟩ dX6_land_14 (fun v H18 hp19 hq20 => ?_)
    subst hp19
    have hb21 := blk_kept hb5 (n := 215) rfl (fun q h1 h2 => hq20 q (fun h => h))
    obtain ho23 | ⟨k22, ho23⟩ := opt_or u17
    · have hu17' : d_X3_crewAt (shf R_b 22) c = none := by rw [← hu17, ho23]
      rw [ho23]; dsimp only [psh, optT, optC]
      refine r_astoreN C dX6_land_17 (ls' := [.val (.ref o_b), .val (.int t), .val (.int c), .val (.ref ((o_b + 22) + 3 + k6)), .val (.null)]) rfl trivial rfl ?_
      refine r_aload_n C dX6_land_19 rfl ?_
      refine r_ifnull C dX6_land_20 ?_
      refine r_aloadN C dX6_land_23 rfl ?_
      refine r_ifnonnullN C dX6_land_25 ?_
      refine r_iconst C dX6_land_28 (-1 : Int32) (by decide) ?_
      refine r_iret C dX6_land_29 ?_
      have er : res = ((-1 : Int32), R_b) := by rw [hres, d_X6_land]; try exact (oc_some hu1').trans ((oc_none hu17').trans (rfl))
      rw [er]
      exact ⟨rfl, hb21⟩
    · have hu17' : d_X3_crewAt (shf R_b 22) c = some k22 := by rw [← hu17, ho23]
      rw [ho23]; dsimp only [psh, optT, optC]
      have fk24 := X3_crewAt_lt hu17'
      refine r_astore C dX6_land_17 (ls' := [.val (.ref o_b), .val (.int t), .val (.int c), .val (.ref ((o_b + 22) + 3 + k6)), .val (.ref ((o_b + 22) + 9 + 2 * k22))]) rfl trivial rfl ?_
      refine r_aload_n C dX6_land_19 rfl ?_
      refine r_ifnull C dX6_land_20 ?_
      refine r_aload C dX6_land_23 rfl ?_
      refine r_ifnonnull C dX6_land_25 ?_
      refine r_aload_n C dX6_land_30 rfl ?_
      refine r_get C hb21 (k := (25 + k6)) (kMain_25_1 _ fk16) (by omega) celO_5 fw_X6_117 (z := .int (R_b (25 + k6) 1)) rfl dX6_land_31 ?_
      refine r_if_ne C dX6_land_34 (fun c25 => ?_) (fun c25 => ?_)
      · skip
        refine r_bipush C dX6_land_45 (-2 : Int32) (by decide) ?_
        refine r_iret C dX6_land_47 ?_
        have er : res = ((-2 : Int32), R_b) := by rw [hres, d_X6_land]; try exact (oc_some hu1').trans ((oc_some hu17').trans ((if_neg c25).trans (rfl)))
        rw [er]
        exact ⟨rfl, hb21⟩
      · skip
        refine r_aload C dX6_land_37 rfl ?_
        refine r_get C hb21 (k := (31 + 2 * k22)) (kMain_31_2 _ fk24) (by omega) celO_0 fw_X6_136 (z := .int (R_b (31 + 2 * k22) 1)) rfl dX6_land_39 ?_
        refine r_if_eq C dX6_land_42 (fun c26 => ?_) (fun c26 => ?_)
        · skip
          refine r_aload_n C dX6_land_48 rfl ?_
          refine r_get C hb21 (k := 0) rfl rfl celO_6 fw_X6_42 rfl dX6_land_49 ?_
          refine r_aload_n C dX6_land_52 rfl ?_
          refine r_get C hb21 (k := 0) rfl rfl celO_6 fw_X6_28 rfl dX6_land_53 ?_
          obtain ⟨u27, hu27⟩ : ∃ r, r = d_X4_put (shf R_b 55) (shf R_b 22) 8 := ⟨_, rfl⟩
          refine r_callV0 C cw_X6_147 (fun l => c_X4_put l D (o_b + 55) (o_b + 22) (shf R_b 55) (shf R_b 22) 8 (by omega) (by omega) hw8 (by omega) u27 hu27) (rest := []) hb21 (k := 55) rfl rfl celO_4 ⟨(blk_sub hb21 55 122 rfl rfl), (blk_sub hb21 22 15 rfl rfl)⟩ (fun q h => by unfold fp1 at h; unfold fp1; omega) rfl rfl rfl (Nat.le_of_ble_eq_true rfl) ⟨Nat.le_of_ble_eq_true rfl, Nat.le_of_ble_eq_true rfl, Nat.le_refl 0, Nat.le_refl 0⟩ dX6_land_56 (fun v H28 hp29 hq30 => ?_)
          obtain ⟨rfl, hn31⟩ := hp29
          have hb32 := blk_spl hb21 55 122 rfl rfl hn31 (fun q h => hq30 q (by unfold fp1; omega))
          dsimp only [psh]
          refine r_aload C dX6_land_59 rfl ?_
          refine r_iconst C dX6_land_61 (1 : Int32) (by decide) ?_
          refine r_put C hb32 (k := (31 + 2 * k22)) (kMain_31_2 _ fk24) (by omega) (by unfold fp1; omega) fw_X6_136 fp_0_1 (Or.inl ⟨rfl, Or.inr rfl⟩) dX6_land_62 (fun H33 hb35 hq34 => ?_)
          refine r_aload_n C dX6_land_65 rfl ?_
          refine r_iconst C dX6_land_66 (0 : Int32) (by decide) ?_
          refine r_aload_n C dX6_land_67 rfl ?_
          refine r_get C hb35 (k := (25 + k6)) (kMain_25_1 _ fk16) (by omega) celO_5 fw_X6_108 (z := .int ((pt (spl R_b 55 122 u27) (31 + 2 * k22) 1 (1 : Int32)) (25 + k6) 4)) rfl dX6_land_68 ?_
          refine r_aload C dX6_land_71 rfl ?_
          refine r_get C hb35 (k := (31 + 2 * k22)) (kMain_31_2 _ fk24) (by omega) celO_0 fw_X6_133 (z := .int ((pt (spl R_b 55 122 u27) (31 + 2 * k22) 1 (1 : Int32)) (31 + 2 * k22) 3)) rfl dX6_land_73 ?_
          refine r_iconst C dX6_land_76 (2 : Int32) (by decide) ?_
          refine r_idiv C dX6_land_77 (by decide) ?_
          refine r_isub C dX6_land_78 ?_
          refine r_mmax C mw_X6_165 rfl ⟨Nat.le_of_ble_eq_true rfl, Nat.le_of_ble_eq_true rfl, Nat.le_refl 0, Nat.le_refl 0⟩ dX6_land_79 ?_
          refine r_put C hb35 (k := (25 + k6)) (kMain_25_1 _ fk16) (by omega) (by unfold fp1; omega) fw_X6_108 fp_5_4 (Or.inr rfl) dX6_land_82 (fun H36 hb38 hq37 => ?_)
          refine r_aload_n C dX6_land_85 rfl ?_
          refine r_bipush C dX6_land_86 (20 : Int32) (by decide) ?_
          refine r_aload_n C dX6_land_88 rfl ?_
          refine r_get C hb38 (k := (25 + k6)) (kMain_25_1 _ fk16) (by omega) celO_5 fw_X6_111 (z := .int ((pt (pt (spl R_b 55 122 u27) (31 + 2 * k22) 1 (1 : Int32)) (25 + k6) 4 (imax (0 : Int32) (((pt (spl R_b 55 122 u27) (31 + 2 * k22) 1 (1 : Int32)) (25 + k6) 4) - (((pt (spl R_b 55 122 u27) (31 + 2 * k22) 1 (1 : Int32)) (31 + 2 * k22) 3) / (2 : Int32))))) (25 + k6) 5)) rfl dX6_land_89 ?_
          refine r_iconst C dX6_land_92 (2 : Int32) (by decide) ?_
          refine r_iadd C dX6_land_93 ?_
          refine r_mmin C mw_X6_156 rfl ⟨Nat.le_of_ble_eq_true rfl, Nat.le_of_ble_eq_true rfl, Nat.le_refl 0, Nat.le_refl 0⟩ dX6_land_94 ?_
          refine r_put C hb38 (k := (25 + k6)) (kMain_25_1 _ fk16) (by omega) (by unfold fp1; omega) fw_X6_111 fp_5_5 (Or.inr rfl) dX6_land_97 (fun H39 hb41 hq40 => ?_)
          refine r_aload_n C dX6_land_100 rfl ?_
          refine r_get C hb41 (k := (25 + k6)) (kMain_25_1 _ fk16) (by omega) celO_5 fw_X6_108 (z := .int ((pt (pt (pt (spl R_b 55 122 u27) (31 + 2 * k22) 1 (1 : Int32)) (25 + k6) 4 (imax (0 : Int32) (((pt (spl R_b 55 122 u27) (31 + 2 * k22) 1 (1 : Int32)) (25 + k6) 4) - (((pt (spl R_b 55 122 u27) (31 + 2 * k22) 1 (1 : Int32)) (31 + 2 * k22) 3) / (2 : Int32))))) (25 + k6) 5 (imin (20 : Int32) (((pt (pt (spl R_b 55 122 u27) (31 + 2 * k22) 1 (1 : Int32)) (25 + k6) 4 (imax (0 : Int32) (((pt (spl R_b 55 122 u27) (31 + 2 * k22) 1 (1 : Int32)) (25 + k6) 4) - (((pt (spl R_b 55 122 u27) (31 + 2 * k22) 1 (1 : Int32)) (31 + 2 * k22) 3) / (2 : Int32))))) (25 + k6) 5) + (2 : Int32)))) (25 + k6) 4)) rfl dX6_land_101 ?_
          refine r_iret C dX6_land_104 ?_
          have er : res = (((pt (pt (pt (spl R_b 55 122 u27) (31 + 2 * k22) 1 (1 : Int32)) (25 + k6) 4 (imax (0 : Int32) (((pt (spl R_b 55 122 u27) (31 + 2 * k22) 1 (1 : Int32)) (25 + k6) 4) - (((pt (spl R_b 55 122 u27) (31 + 2 * k22) 1 (1 : Int32)) (31 + 2 * k22) 3) / (2 : Int32))))) (25 + k6) 5 (imin (20 : Int32) (((pt (pt (spl R_b 55 122 u27) (31 + 2 * k22) 1 (1 : Int32)) (25 + k6) 4 (imax (0 : Int32) (((pt (spl R_b 55 122 u27) (31 + 2 * k22) 1 (1 : Int32)) (25 + k6) 4) - (((pt (spl R_b 55 122 u27) (31 + 2 * k22) 1 (1 : Int32)) (31 + 2 * k22) 3) / (2 : Int32))))) (25 + k6) 5) + (2 : Int32)))) (25 + k6) 4), (pt (pt (pt (spl R_b 55 122 u27) (31 + 2 * k22) 1 (1 : Int32)) (25 + k6) 4 (imax (0 : Int32) (((pt (spl R_b 55 122 u27) (31 + 2 * k22) 1 (1 : Int32)) (25 + k6) 4) - (((pt (spl R_b 55 122 u27) (31 + 2 * k22) 1 (1 : Int32)) (31 + 2 * k22) 3) / (2 : Int32))))) (25 + k6) 5 (imin (20 : Int32) (((pt (pt (spl R_b 55 122 u27) (31 + 2 * k22) 1 (1 : Int32)) (25 + k6) 4 (imax (0 : Int32) (((pt (spl R_b 55 122 u27) (31 + 2 * k22) 1 (1 : Int32)) (25 + k6) 4) - (((pt (spl R_b 55 122 u27) (31 + 2 * k22) 1 (1 : Int32)) (31 + 2 * k22) 3) / (2 : Int32))))) (25 + k6) 5) + (2 : Int32))))) := by rw [hres, d_X6_land]; try exact (oc_some hu1').trans ((oc_some hu17').trans ((if_pos c25).trans ((if_pos c26).trans ((lt_eq hu27).trans (rfl)))))
          rw [er]
          exact ⟨rfl, hb41⟩
        · skip
          refine r_bipush C dX6_land_45 (-2 : Int32) (by decide) ?_
          refine r_iret C dX6_land_47 ?_
          have er : res = ((-2 : Int32), R_b) := by rw [hres, d_X6_land]; try exact (oc_some hu1').trans ((oc_some hu17').trans ((if_pos c25).trans ((if_neg c26).trans (rfl))))
          rw [er]
          exact ⟨rfl, hb21⟩

def d_X6_raise (R_b : Nat → Nat → Int32) (t : Int32) (u : Int32) : Int32 × (Nat → Nat → Int32) :=
  oc (d_X3_townAt (shf R_b 22) t) (
    oc (d_X3_townAt (shf R_b 22) u) (
      ((-1 : Int32), R_b)) fun k13 =>
    ((-1 : Int32), R_b)) fun k6 =>
  oc (d_X3_townAt (shf R_b 22) u) (
    ((-1 : Int32), R_b)) fun k22 =>
  if t = u then
    ((-1 : Int32), R_b)
  else
    if (R_b (25 + k6) 1) = 0 then
      if (R_b (25 + k22) 1) = 0 then
        ((-2 : Int32), R_b)
      else
        if (20 : Int32) ≤ (R_b (25 + k6) 3) then
          lt (d_X4_put (shf R_b 55) (shf R_b 22) 8) fun u29 =>
          (((pt (pt (pt (pt (spl R_b 55 122 u29) (25 + k6) 3 (((spl R_b 55 122 u29) (25 + k6) 3) - (20 : Int32))) (25 + k22) 1 (0 : Int32)) (25 + k22) 3 (10 : Int32)) (25 + k22) 5 (0 : Int32)) (25 + k6) 3), (pt (pt (pt (pt (spl R_b 55 122 u29) (25 + k6) 3 (((spl R_b 55 122 u29) (25 + k6) 3) - (20 : Int32))) (25 + k22) 1 (0 : Int32)) (25 + k22) 3 (10 : Int32)) (25 + k22) 5 (0 : Int32)))
        else
          ((-2 : Int32), R_b)
    else
      ((-2 : Int32), R_b)
set_option maxHeartbeats 4000000 in
set_option maxRecDepth 100000 in
theorem c_X6_raise (l : Launch) (D : DD) (o_b : Nat) (R_b : Nat → Nat → Int32) (t : Int32) (u : Int32) (hw8 : ∀ j, j < 8 → (R_b 56 j).toNatClampNeg < 8) (res : Int32 × (Nat → Nat → Int32)) (hres : res = d_X6_raise R_b t u) : Mt l D yX6_raise cX6_raise 5 (some .int) 4 86 0 0 [.ref o_b, .int t, .int u] (fun H => blk D ksMain o_b R_b H) (fun v H => v = some (.int res.1) ∧ blk D ksMain o_b res.2 H) (fp1 o_b 215) := by
  refine mt_of (own := RX6) (ls := [.val (.ref o_b), .val (.int t), .val (.int u), .unset, .unset]) rfl (by decide +kernel) rfl ?_
  intro x H C hP
  have hb_b := hP
  refine r_aload_n C dX6_raise_0 rfl ?_
  refine r_get C hb_b (k := 0) rfl rfl celO_6 fw_X6_28 rfl dX6_raise_1 ?_
  refine r_iload_n C dX6_raise_4 rfl ?_
  obtain ⟨u1, hu1⟩ : ∃ r, r = d_X3_townAt (shf R_b 22) t := ⟨_, rfl⟩
  refine r_callV0 C cw_X6_96 (fun l => c_X3_townAt l D (o_b + 22) (shf R_b 22) t u1 hu1) (rest := []) hb_b (k := 22) rfl rfl celO_3 (blk_sub hb_b 22 15 rfl rfl) (fun q h => h.elim) rfl rfl rfl (Nat.le_of_ble_eq_true rfl) ⟨Nat.le_of_ble_eq_true rfl, Nat.le_of_ble_eq_true rfl, Nat.le_refl 0, Nat.le_refl 0⟩ dX6_raise_5 (fun v H2 hp3 hq4 => ?_)
  subst hp3
  have hb5 := blk_kept hb_b (n := 215) rfl (fun q h1 h2 => hq4 q (fun h => h))
  obtain ho7 | ⟨k6, ho7⟩ := opt_or u1
  · have hu1' : d_X3_townAt (shf R_b 22) t = none := by rw [← hu1, ho7]
    rw [ho7]; dsimp only [psh, optT, optC]
    refine r_astore_nN C dX6_raise_8 (ls' := [.val (.ref o_b), .val (.int t), .val (.int u), .val (.null), .unset]) rfl trivial rfl ?_
    refine r_aload_n C dX6_raise_9 rfl ?_
    refine r_get C hb5 (k := 0) rfl rfl celO_6 fw_X6_28 rfl dX6_raise_10 ?_
    refine r_iload_n C dX6_raise_13 rfl ?_
    obtain ⟨u8, hu8⟩ : ∃ r, r = d_X3_townAt (shf R_b 22) u := ⟨_, rfl⟩
    refine r_callV0 C cw_X6_96 (fun l => c_X3_townAt l D (o_b + 22) (shf R_b 22) u u8 hu8) (rest := []) hb5 (k := 22) rfl rfl celO_3 (blk_sub hb5 22 15 rfl rfl) (fun q h => h.elim) rfl rfl rfl (Nat.le_of_ble_eq_true rfl) ⟨Nat.le_of_ble_eq_true rfl, Nat.le_of_ble_eq_true rfl, Nat.le_refl 0, Nat.le_refl 0⟩ dX6_raise_14 (fun v H9 hp10 hq11 => ?_)
    subst hp10
    have hb12 := blk_kept hb5 (n := 215) rfl (fun q h1 h2 => hq11 q (fun h => h))
    obtain ho14 | ⟨k13, ho14⟩ := opt_or u8
    · have hu8' : d_X3_townAt (shf R_b 22) u = none := by rw [← hu8, ho14]
      rw [ho14]; dsimp only [psh, optT, optC]
      refine r_astoreN C dX6_raise_17 (ls' := [.val (.ref o_b), .val (.int t), .val (.int u), .val (.null), .val (.null)]) rfl trivial rfl ?_
      refine r_aload_nN C dX6_raise_19 rfl ?_
      refine r_ifnullN C dX6_raise_20 ?_
      refine r_iconst C dX6_raise_33 (-1 : Int32) (by decide) ?_
      refine r_iret C dX6_raise_34 ?_
      have er : res = ((-1 : Int32), R_b) := by rw [hres, d_X6_raise]; try exact (oc_none hu1').trans ((oc_none hu8').trans (rfl))
      rw [er]
      exact ⟨rfl, hb12⟩
    · have hu8' : d_X3_townAt (shf R_b 22) u = some k13 := by rw [← hu8, ho14]
      rw [ho14]; dsimp only [psh, optT, optC]
      have fk15 := X3_townAt_lt hu8'
      refine r_astore C dX6_raise_17 (ls' := [.val (.ref o_b), .val (.int t), .val (.int u), .val (.null), .val (.ref ((o_b + 22) + 3 + k13))]) rfl trivial rfl ?_
      refine r_aload_nN C dX6_raise_19 rfl ?_
      refine r_ifnullN C dX6_raise_20 ?_
      refine r_iconst C dX6_raise_33 (-1 : Int32) (by decide) ?_
      refine r_iret C dX6_raise_34 ?_
      have er : res = ((-1 : Int32), R_b) := by rw [hres, d_X6_raise]; try exact (oc_none hu1').trans ((oc_some hu8').trans (rfl))
      rw [er]
      exact ⟨rfl, hb12⟩
  · have hu1' : d_X3_townAt (shf R_b 22) t = some k6 := by rw [← hu1, ho7]
    rw [ho7]; dsimp only [psh, optT, optC]
    have fk16 := X3_townAt_lt hu1'
    refine r_astore_n C dX6_raise_8 (ls' := [.val (.ref o_b), .val (.int t), .val (.int u), .val (.ref ((o_b + 22) + 3 + k6)), .unset]) rfl trivial rfl ?_
    refine r_aload_n C dX6_raise_9 rfl ?_
    refine r_get C hb5 (k := 0) rfl rfl celO_6 fw_X6_28 rfl dX6_raise_10 ?_
    refine r_iload_n C dX6_raise_13 rfl ?_
    obtain ⟨u17, hu17⟩ : ∃ r, r = d_X3_townAt (shf R_b 22) u := ⟨_, rfl⟩
    refine r_callV0 C cw_X6_96 (fun l => c_X3_townAt l D (o_b + 22) (shf R_b 22) u u17 hu17) (rest := []) hb5 (k := 22) rfl rfl celO_3 (blk_sub hb5 22 15 rfl rfl) (fun q h => h.elim) rfl rfl rfl (Nat.le_of_ble_eq_true rfl) ⟨Nat.le_of_ble_eq_true rfl, Nat.le_of_ble_eq_true rfl, Nat.le_refl 0, Nat.le_refl 0⟩ dX6_raise_14 (fun v H18 hp19 hq20 => ?_)
    subst hp19
    have hb21 := blk_kept hb5 (n := 215) rfl (fun q h1 h2 => hq20 q (fun h => h))
    obtain ho23 | ⟨k22, ho23⟩ := opt_or u17
    · have hu17' : d_X3_townAt (shf R_b 22) u = none := by rw [← hu17, ho23]
      rw [ho23]; dsimp only [psh, optT, optC]
      refine r_astoreN C dX6_raise_17 (ls' := [.val (.ref o_b), .val (.int t), .val (.int u), .val (.ref ((o_b + 22) + 3 + k6)), .val (.null)]) rfl trivial rfl ?_
      refine r_aload_n C dX6_raise_19 rfl ?_
      refine r_ifnull C dX6_raise_20 ?_
      refine r_aloadN C dX6_raise_23 rfl ?_
      refine r_ifnullN C dX6_raise_25 ?_
      refine r_iconst C dX6_raise_33 (-1 : Int32) (by decide) ?_
      refine r_iret C dX6_raise_34 ?_
      have er : res = ((-1 : Int32), R_b) := by rw [hres, d_X6_raise]; try exact (oc_some hu1').trans ((oc_none hu17').trans (rfl))
      rw [er]
      exact ⟨rfl, hb21⟩
    · have hu17' : d_X3_townAt (shf R_b 22) u = some k22 := by rw [← hu17, ho23]
      rw [ho23]; dsimp only [psh, optT, optC]
      have fk24 := X3_townAt_lt hu17'
      refine r_astore C dX6_raise_17 (ls' := [.val (.ref o_b), .val (.int t), .val (.int u), .val (.ref ((o_b + 22) + 3 + k6)), .val (.ref ((o_b + 22) + 3 + k22))]) rfl trivial rfl ?_
      refine r_aload_n C dX6_raise_19 rfl ?_
      refine r_ifnull C dX6_raise_20 ?_
      refine r_aload C dX6_raise_23 rfl ?_
      refine r_ifnull C dX6_raise_25 ?_
      refine r_iload_n C dX6_raise_28 rfl ?_
      refine r_iload_n C dX6_raise_29 rfl ?_
      refine r_ic_ne C dX6_raise_30 (fun c25 => ?_) (fun c25 => ?_)
      · skip
        refine r_aload_n C dX6_raise_35 rfl ?_
        refine r_get C hb21 (k := (25 + k6)) (kMain_25_1 _ fk16) (by omega) celO_5 fw_X6_117 (z := .int (R_b (25 + k6) 1)) rfl dX6_raise_36 ?_
        refine r_if_ne C dX6_raise_39 (fun c26 => ?_) (fun c26 => ?_)
        · skip
          refine r_bipush C dX6_raise_59 (-2 : Int32) (by decide) ?_
          refine r_iret C dX6_raise_61 ?_
          have er : res = ((-2 : Int32), R_b) := by rw [hres, d_X6_raise]; try exact (oc_some hu1').trans ((oc_some hu17').trans ((if_neg c25).trans ((if_neg c26).trans (rfl))))
          rw [er]
          exact ⟨rfl, hb21⟩
        · skip
          refine r_aload C dX6_raise_42 rfl ?_
          refine r_get C hb21 (k := (25 + k22)) (kMain_25_1 _ fk24) (by omega) celO_5 fw_X6_117 (z := .int (R_b (25 + k22) 1)) rfl dX6_raise_44 ?_
          refine r_if_eq C dX6_raise_47 (fun c27 => ?_) (fun c27 => ?_)
          · skip
            refine r_bipush C dX6_raise_59 (-2 : Int32) (by decide) ?_
            refine r_iret C dX6_raise_61 ?_
            have er : res = ((-2 : Int32), R_b) := by rw [hres, d_X6_raise]; try exact (oc_some hu1').trans ((oc_some hu17').trans ((if_neg c25).trans ((if_pos c26).trans ((if_pos c27).trans (rfl)))))
            rw [er]
            exact ⟨rfl, hb21⟩
          · skip
            refine r_aload_n C dX6_raise_50 rfl ?_
            refine r_get C hb21 (k := (25 + k6)) (kMain_25_1 _ fk16) (by omega) celO_5 fw_X6_105 (z := .int (R_b (25 + k6) 3)) rfl dX6_raise_51 ?_
            refine r_bipush C dX6_raise_54 (20 : Int32) (by decide) ?_
            refine r_ic_ge C dX6_raise_56 (fun c28 => ?_) (fun c28 => ?_)
            · skip
              refine r_aload_n C dX6_raise_62 rfl ?_
              refine r_get C hb21 (k := 0) rfl rfl celO_6 fw_X6_42 rfl dX6_raise_63 ?_
              refine r_aload_n C dX6_raise_66 rfl ?_
              refine r_get C hb21 (k := 0) rfl rfl celO_6 fw_X6_28 rfl dX6_raise_67 ?_
              obtain ⟨u29, hu29⟩ : ∃ r, r = d_X4_put (shf R_b 55) (shf R_b 22) 8 := ⟨_, rfl⟩
              refine r_callV0 C cw_X6_147 (fun l => c_X4_put l D (o_b + 55) (o_b + 22) (shf R_b 55) (shf R_b 22) 8 (by omega) (by omega) hw8 (by omega) u29 hu29) (rest := []) hb21 (k := 55) rfl rfl celO_4 ⟨(blk_sub hb21 55 122 rfl rfl), (blk_sub hb21 22 15 rfl rfl)⟩ (fun q h => by unfold fp1 at h; unfold fp1; omega) rfl rfl rfl (Nat.le_of_ble_eq_true rfl) ⟨Nat.le_of_ble_eq_true rfl, Nat.le_of_ble_eq_true rfl, Nat.le_refl 0, Nat.le_refl 0⟩ dX6_raise_70 (fun v H30 hp31 hq32 => ?_)
              obtain ⟨rfl, hn33⟩ := hp31
              have hb34 := blk_spl hb21 55 122 rfl rfl hn33 (fun q h => hq32 q (by unfold fp1; omega))
              dsimp only [psh]
              refine r_aload_n C dX6_raise_73 rfl ?_
              refine r_dup C dX6_raise_74 rfl ?_
              refine r_get C hb34 (k := (25 + k6)) (kMain_25_1 _ fk16) (by omega) celO_5 fw_X6_105 (z := .int ((spl R_b 55 122 u29) (25 + k6) 3)) rfl dX6_raise_75 ?_
              refine r_bipush C dX6_raise_78 (20 : Int32) (by decide) ?_
              refine r_isub C dX6_raise_80 ?_
              refine r_put C hb34 (k := (25 + k6)) (kMain_25_1 _ fk16) (by omega) (by unfold fp1; omega) fw_X6_105 fp_5_3 (Or.inr rfl) dX6_raise_81 (fun H35 hb37 hq36 => ?_)
              refine r_aload C dX6_raise_84 rfl ?_
              refine r_iconst C dX6_raise_86 (0 : Int32) (by decide) ?_
              refine r_put C hb37 (k := (25 + k22)) (kMain_25_1 _ fk24) (by omega) (by unfold fp1; omega) fw_X6_117 fp_5_1 (Or.inl ⟨rfl, Or.inl rfl⟩) dX6_raise_87 (fun H38 hb40 hq39 => ?_)
              refine r_aload C dX6_raise_90 rfl ?_
              refine r_bipush C dX6_raise_92 (10 : Int32) (by decide) ?_
              refine r_put C hb40 (k := (25 + k22)) (kMain_25_1 _ fk24) (by omega) (by unfold fp1; omega) fw_X6_105 fp_5_3 (Or.inr rfl) dX6_raise_94 (fun H41 hb43 hq42 => ?_)
              refine r_aload C dX6_raise_97 rfl ?_
              refine r_iconst C dX6_raise_99 (0 : Int32) (by decide) ?_
              refine r_put C hb43 (k := (25 + k22)) (kMain_25_1 _ fk24) (by omega) (by unfold fp1; omega) fw_X6_111 fp_5_5 (Or.inr rfl) dX6_raise_100 (fun H44 hb46 hq45 => ?_)
              refine r_aload_n C dX6_raise_103 rfl ?_
              refine r_get C hb46 (k := (25 + k6)) (kMain_25_1 _ fk16) (by omega) celO_5 fw_X6_105 (z := .int ((pt (pt (pt (pt (spl R_b 55 122 u29) (25 + k6) 3 (((spl R_b 55 122 u29) (25 + k6) 3) - (20 : Int32))) (25 + k22) 1 (0 : Int32)) (25 + k22) 3 (10 : Int32)) (25 + k22) 5 (0 : Int32)) (25 + k6) 3)) rfl dX6_raise_104 ?_
              refine r_iret C dX6_raise_107 ?_
              have er : res = (((pt (pt (pt (pt (spl R_b 55 122 u29) (25 + k6) 3 (((spl R_b 55 122 u29) (25 + k6) 3) - (20 : Int32))) (25 + k22) 1 (0 : Int32)) (25 + k22) 3 (10 : Int32)) (25 + k22) 5 (0 : Int32)) (25 + k6) 3), (pt (pt (pt (pt (spl R_b 55 122 u29) (25 + k6) 3 (((spl R_b 55 122 u29) (25 + k6) 3) - (20 : Int32))) (25 + k22) 1 (0 : Int32)) (25 + k22) 3 (10 : Int32)) (25 + k22) 5 (0 : Int32))) := by rw [hres, d_X6_raise]; try exact (oc_some hu1').trans ((oc_some hu17').trans ((if_neg c25).trans ((if_pos c26).trans ((if_neg c27).trans ((if_pos c28).trans ((lt_eq hu29).trans (rfl)))))))
              rw [er]
              exact ⟨rfl, hb46⟩
            · skip
              refine r_bipush C dX6_raise_59 (-2 : Int32) (by decide) ?_
              refine r_iret C dX6_raise_61 ?_
              have er : res = ((-2 : Int32), R_b) := by rw [hres, d_X6_raise]; try exact (oc_some hu1').trans ((oc_some hu17').trans ((if_neg c25).trans ((if_pos c26).trans ((if_neg c27).trans ((if_neg c28).trans (rfl))))))
              rw [er]
              exact ⟨rfl, hb21⟩
      · skip
        refine r_iconst C dX6_raise_33 (-1 : Int32) (by decide) ?_
        refine r_iret C dX6_raise_34 ?_
        have er : res = ((-1 : Int32), R_b) := by rw [hres, d_X6_raise]; try exact (oc_some hu1').trans ((oc_some hu17').trans ((if_pos c25).trans (rfl)))
        rw [er]
        exact ⟨rfl, hb21⟩

def d_X6_undo (R_b : Nat → Nat → Int32) : Int32 × (Nat → Nat → Int32) :=
  if (R_b 55 1) = 0 then
    ((-2 : Int32), R_b)
  else
    lt (d_X4_takeInto (shf R_b 55) (shf R_b 22) 8) fun u2 =>
    ((u2.1 0 1), (spl (spl R_b 55 122 u2.1) 22 15 u2.2))
set_option maxHeartbeats 4000000 in
set_option maxRecDepth 100000 in
theorem c_X6_undo (l : Launch) (D : DD) (o_b : Nat) (R_b : Nat → Nat → Int32) (hw8 : ∀ j, j < 8 → (R_b 56 j).toNatClampNeg < 8) (hpm : R_b 55 1 = nI (R_b 55 1).toNatClampNeg) (hpm2 : (R_b 55 1).toNatClampNeg ≤ 8) (res : Int32 × (Nat → Nat → Int32)) (hres : res = d_X6_undo R_b) : Mt l D yX6_undo cX6_undo 1 (some .int) 4 86 0 0 [.ref o_b] (fun H => blk D ksMain o_b R_b H) (fun v H => v = some (.int res.1) ∧ blk D ksMain o_b res.2 H) (fp1 o_b 215) := by
  refine mt_of (own := RX6) (ls := [.val (.ref o_b)]) rfl (by decide +kernel) rfl ?_
  intro x H C hP
  have hb_b := hP
  refine r_aload_n C dX6_undo_0 rfl ?_
  refine r_get C hb_b (k := 0) rfl rfl celO_6 fw_X6_42 rfl dX6_undo_1 ?_
  refine r_get C hb_b (k := 55) rfl rfl celO_4 fw_X6_95 (z := .int (R_b 55 1)) rfl dX6_undo_4 ?_
  refine r_if_ne C dX6_undo_7 (fun c1 => ?_) (fun c1 => ?_)
  · skip
    refine r_aload_n C dX6_undo_13 rfl ?_
    refine r_get C hb_b (k := 0) rfl rfl celO_6 fw_X6_42 rfl dX6_undo_14 ?_
    refine r_aload_n C dX6_undo_17 rfl ?_
    refine r_get C hb_b (k := 0) rfl rfl celO_6 fw_X6_28 rfl dX6_undo_18 ?_
    obtain ⟨u2, hu2⟩ : ∃ r, r = d_X4_takeInto (shf R_b 55) (shf R_b 22) 8 := ⟨_, rfl⟩
    refine r_callV0 C cw_X6_168 (fun l => c_X4_takeInto l D (o_b + 55) (o_b + 22) (shf R_b 55) (shf R_b 22) 8 (by omega) hw8 hpm hpm2 (by omega) u2 hu2) (rest := []) hb_b (k := 55) rfl rfl celO_4 ⟨(blk_sub hb_b 55 122 rfl rfl), (blk_sub hb_b 22 15 rfl rfl)⟩ (fun q h => by unfold fp2 at h; unfold fp1; omega) rfl rfl rfl (Nat.le_of_ble_eq_true rfl) ⟨Nat.le_of_ble_eq_true rfl, Nat.le_of_ble_eq_true rfl, Nat.le_refl 0, Nat.le_refl 0⟩ dX6_undo_21 (fun v H3 hp4 hq5 => ?_)
    obtain ⟨rfl, hn6, hn7⟩ := hp4
    have hb8 := blk_spl2 hb_b 55 122 rfl rfl hn6 22 15 rfl rfl hn7 (fun q h => hq5 q (by unfold fp2; omega))
    dsimp only [psh]
    refine r_aload_n C dX6_undo_24 rfl ?_
    refine r_get C hb8 (k := 0) rfl rfl celO_6 fw_X6_42 rfl dX6_undo_25 ?_
    refine r_get C hb8 (k := 55) rfl rfl celO_4 fw_X6_95 (z := .int (u2.1 0 1)) rfl dX6_undo_28 ?_
    refine r_iret C dX6_undo_31 ?_
    have er : res = ((u2.1 0 1), (spl (spl R_b 55 122 u2.1) 22 15 u2.2)) := by rw [hres, d_X6_undo]; try exact (if_neg c1).trans ((lt_eq hu2).trans (rfl))
    rw [er]
    exact ⟨rfl, hb8⟩
  · skip
    refine r_bipush C dX6_undo_10 (-2 : Int32) (by decide) ?_
    refine r_iret C dX6_undo_12 ?_
    have er : res = ((-2 : Int32), R_b) := by rw [hres, d_X6_undo]; try exact (if_pos c1).trans (rfl)
    rw [er]
    exact ⟨rfl, hb_b⟩

def d_X6_behind (R_b : Nat → Nat → Int32) (n : Int32) (t : Int32) (what : Int32) : Int32 × (Nat → Nat → Int32) :=
  oc (d_X3_townAt (shf R_b 22) t) (
    ((-1 : Int32), R_b)) fun k6 =>
  if n < 0 then
    ((-1 : Int32), R_b)
  else
    if (30 : Int32) < n then
      ((-1 : Int32), R_b)
    else
      if what < 0 then
        ((-1 : Int32), R_b)
      else
        if what ≤ (3 : Int32) then
          lt (d_X3_copy (shf R_b 40) (shf R_b 22)) fun u13 =>
          lt (d_X3_goBy (shf (spl R_b 40 15 u13) 40) n) fun u21 =>
          oc (d_X3_townAt (shf (spl (spl R_b 40 15 u13) 40 15 u21) 40) t) (
            ((-1 : Int32), (spl (spl R_b 40 15 u13) 40 15 u21))) fun k32 =>
          if what = (0 : Int32) then
            (((spl (spl R_b 40 15 u13) 40 15 u21) (43 + k32) 3), (spl (spl R_b 40 15 u13) 40 15 u21))
          else
            if what = (1 : Int32) then
              (((spl (spl R_b 40 15 u13) 40 15 u21) (43 + k32) 5), (spl (spl R_b 40 15 u13) 40 15 u21))
            else
              if what = (2 : Int32) then
                if ((spl (spl R_b 40 15 u13) 40 15 u21) (43 + k32) 1) = 0 then
                  ((0 : Int32), (spl (spl R_b 40 15 u13) 40 15 u21))
                else
                  ((1 : Int32), (spl (spl R_b 40 15 u13) 40 15 u21))
              else
                ((((spl (spl R_b 40 15 u13) 40 15 u21) (43 + k32) 7) - ((spl (spl R_b 40 15 u13) 40 15 u21) (25 + k6) 7)), (spl (spl R_b 40 15 u13) 40 15 u21))
        else
          ((-1 : Int32), R_b)
set_option maxHeartbeats 4000000 in
set_option maxRecDepth 100000 in
theorem c_X6_behind (l : Launch) (D : DD) (o_b : Nat) (R_b : Nat → Nat → Int32) (n : Int32) (t : Int32) (what : Int32)  (res : Int32 × (Nat → Nat → Int32)) (hres : res = d_X6_behind R_b n t what) : Mt l D yX6_behind cX6_behind 6 (some .int) 5 114 0 0 [.ref o_b, .int n, .int t, .int what] (fun H => blk D ksMain o_b R_b H) (fun v H => v = some (.int res.1) ∧ blk D ksMain o_b res.2 H) (fp1 o_b 215) := by
  refine mt_of (own := RX6) (ls := [.val (.ref o_b), .val (.int n), .val (.int t), .val (.int what), .unset, .unset]) rfl (by decide +kernel) rfl ?_
  intro x H C hP
  have hb_b := hP
  refine r_aload_n C dX6_behind_0 rfl ?_
  refine r_get C hb_b (k := 0) rfl rfl celO_6 fw_X6_28 rfl dX6_behind_1 ?_
  refine r_iload_n C dX6_behind_4 rfl ?_
  obtain ⟨u1, hu1⟩ : ∃ r, r = d_X3_townAt (shf R_b 22) t := ⟨_, rfl⟩
  refine r_callV0 C cw_X6_96 (fun l => c_X3_townAt l D (o_b + 22) (shf R_b 22) t u1 hu1) (rest := []) hb_b (k := 22) rfl rfl celO_3 (blk_sub hb_b 22 15 rfl rfl) (fun q h => h.elim) rfl rfl rfl (Nat.le_of_ble_eq_true rfl) ⟨Nat.le_of_ble_eq_true rfl, Nat.le_of_ble_eq_true rfl, Nat.le_refl 0, Nat.le_refl 0⟩ dX6_behind_5 (fun v H2 hp3 hq4 => ?_)
  subst hp3
  have hb5 := blk_kept hb_b (n := 215) rfl (fun q h1 h2 => hq4 q (fun h => h))
  obtain ho7 | ⟨k6, ho7⟩ := opt_or u1
  · have hu1' : d_X3_townAt (shf R_b 22) t = none := by rw [← hu1, ho7]
    rw [ho7]; dsimp only [psh, optT, optC]
    refine r_astoreN C dX6_behind_8 (ls' := [.val (.ref o_b), .val (.int n), .val (.int t), .val (.int what), .val (.null), .unset]) rfl trivial rfl ?_
    refine r_aloadN C dX6_behind_10 rfl ?_
    refine r_ifnullN C dX6_behind_12 ?_
    refine r_iconst C dX6_behind_34 (-1 : Int32) (by decide) ?_
    refine r_iret C dX6_behind_35 ?_
    have er : res = ((-1 : Int32), R_b) := by rw [hres, d_X6_behind]; try exact (oc_none hu1').trans (rfl)
    rw [er]
    exact ⟨rfl, hb5⟩
  · have hu1' : d_X3_townAt (shf R_b 22) t = some k6 := by rw [← hu1, ho7]
    rw [ho7]; dsimp only [psh, optT, optC]
    have fk8 := X3_townAt_lt hu1'
    refine r_astore C dX6_behind_8 (ls' := [.val (.ref o_b), .val (.int n), .val (.int t), .val (.int what), .val (.ref ((o_b + 22) + 3 + k6)), .unset]) rfl trivial rfl ?_
    refine r_aload C dX6_behind_10 rfl ?_
    refine r_ifnull C dX6_behind_12 ?_
    refine r_iload_n C dX6_behind_15 rfl ?_
    refine r_if_lt C dX6_behind_16 (fun c9 => ?_) (fun c9 => ?_)
    · skip
      refine r_iconst C dX6_behind_34 (-1 : Int32) (by decide) ?_
      refine r_iret C dX6_behind_35 ?_
      have er : res = ((-1 : Int32), R_b) := by rw [hres, d_X6_behind]; try exact (oc_some hu1').trans ((if_pos c9).trans (rfl))
      rw [er]
      exact ⟨rfl, hb5⟩
    · skip
      refine r_iload_n C dX6_behind_19 rfl ?_
      refine r_bipush C dX6_behind_20 (30 : Int32) (by decide) ?_
      refine r_ic_gt C dX6_behind_22 (fun c10 => ?_) (fun c10 => ?_)
      · skip
        refine r_iconst C dX6_behind_34 (-1 : Int32) (by decide) ?_
        refine r_iret C dX6_behind_35 ?_
        have er : res = ((-1 : Int32), R_b) := by rw [hres, d_X6_behind]; try exact (oc_some hu1').trans ((if_neg c9).trans ((if_pos c10).trans (rfl)))
        rw [er]
        exact ⟨rfl, hb5⟩
      · skip
        refine r_iload_n C dX6_behind_25 rfl ?_
        refine r_if_lt C dX6_behind_26 (fun c11 => ?_) (fun c11 => ?_)
        · skip
          refine r_iconst C dX6_behind_34 (-1 : Int32) (by decide) ?_
          refine r_iret C dX6_behind_35 ?_
          have er : res = ((-1 : Int32), R_b) := by rw [hres, d_X6_behind]; try exact (oc_some hu1').trans ((if_neg c9).trans ((if_neg c10).trans ((if_pos c11).trans (rfl))))
          rw [er]
          exact ⟨rfl, hb5⟩
        · skip
          refine r_iload_n C dX6_behind_29 rfl ?_
          refine r_iconst C dX6_behind_30 (3 : Int32) (by decide) ?_
          refine r_ic_le C dX6_behind_31 (fun c12 => ?_) (fun c12 => ?_)
          · skip
            refine r_aload_n C dX6_behind_36 rfl ?_
            refine r_get C hb5 (k := 0) rfl rfl celO_6 fw_X6_34 rfl dX6_behind_37 ?_
            refine r_aload_n C dX6_behind_40 rfl ?_
            refine r_get C hb5 (k := 0) rfl rfl celO_6 fw_X6_28 rfl dX6_behind_41 ?_
            obtain ⟨u13, hu13⟩ : ∃ r, r = d_X3_copy (shf R_b 40) (shf R_b 22) := ⟨_, rfl⟩
            refine r_callV0 C cw_X6_88 (fun l => c_X3_copy l D (o_b + 40) (o_b + 22) (shf R_b 40) (shf R_b 22) (by omega) u13 hu13) (rest := []) hb5 (k := 40) rfl rfl celO_3 ⟨(blk_sub hb5 40 15 rfl rfl), (blk_sub hb5 22 15 rfl rfl)⟩ (fun q h => by unfold fp1 at h; unfold fp1; omega) rfl rfl rfl (Nat.le_of_ble_eq_true rfl) ⟨Nat.le_of_ble_eq_true rfl, Nat.le_of_ble_eq_true rfl, Nat.le_refl 0, Nat.le_refl 0⟩ dX6_behind_44 (fun v H14 hp15 hq16 => ?_)
            obtain ⟨rfl, hn17⟩ := hp15
            have hb18 := blk_spl hb5 40 15 rfl rfl hn17 (fun q h => hq16 q (by unfold fp1; omega))
            dsimp only [psh]
            refine r_aload_n C dX6_behind_47 rfl ?_
            refine r_get C hb18 (k := 0) rfl rfl celO_6 fw_X6_34 rfl dX6_behind_48 ?_
            refine r_iload_n C dX6_behind_51 rfl ?_
            have hn19 : n = nI n.toNatClampNeg := nn_of (x_lo1 c9)
            have hn20 := (x_le (M := 30) c10 (by decide))
            obtain ⟨u21, hu21⟩ : ∃ r, r = d_X3_goBy (shf (spl R_b 40 15 u13) 40) n := ⟨_, rfl⟩
            refine r_callV0 C cw_X6_150 (fun l => c_X3_goBy l D (o_b + 40) (shf (spl R_b 40 15 u13) 40) n hn19 (by omega) u21 hu21) (rest := []) hb18 (k := 40) rfl rfl celO_3 (blk_sub hb18 40 15 rfl rfl) (fun q h => by unfold fp1 at h; unfold fp1; omega) rfl rfl rfl (Nat.le_of_ble_eq_true rfl) ⟨Nat.le_of_ble_eq_true rfl, Nat.le_of_ble_eq_true rfl, Nat.le_refl 0, Nat.le_refl 0⟩ dX6_behind_52 (fun v H22 hp23 hq24 => ?_)
            obtain ⟨rfl, hn25⟩ := hp23
            have hb26 := blk_spl hb18 40 15 rfl rfl hn25 (fun q h => hq24 q (by unfold fp1; omega))
            dsimp only [psh]
            refine r_aload_n C dX6_behind_55 rfl ?_
            refine r_get C hb26 (k := 0) rfl rfl celO_6 fw_X6_34 rfl dX6_behind_56 ?_
            refine r_iload_n C dX6_behind_59 rfl ?_
            obtain ⟨u27, hu27⟩ : ∃ r, r = d_X3_townAt (shf (spl (spl R_b 40 15 u13) 40 15 u21) 40) t := ⟨_, rfl⟩
            refine r_callV0 C cw_X6_96 (fun l => c_X3_townAt l D (o_b + 40) (shf (spl (spl R_b 40 15 u13) 40 15 u21) 40) t u27 hu27) (rest := []) hb26 (k := 40) rfl rfl celO_3 (blk_sub hb26 40 15 rfl rfl) (fun q h => h.elim) rfl rfl rfl (Nat.le_of_ble_eq_true rfl) ⟨Nat.le_of_ble_eq_true rfl, Nat.le_of_ble_eq_true rfl, Nat.le_refl 0, Nat.le_refl 0⟩ dX6_behind_60 (fun v H28 hp29 hq30 => ?_)
            subst hp29
            have hb31 := blk_kept hb26 (n := 215) rfl (fun q h1 h2 => hq30 q (fun h => h))
            obtain ho33 | ⟨k32, ho33⟩ := opt_or u27
            · have hu27' : d_X3_townAt (shf (spl (spl R_b 40 15 u13) 40 15 u21) 40) t = none := by rw [← hu27, ho33]
              rw [ho33]; dsimp only [psh, optT, optC]
              refine r_astoreN C dX6_behind_63 (ls' := [.val (.ref o_b), .val (.int n), .val (.int t), .val (.int what), .val (.ref ((o_b + 22) + 3 + k6)), .val (.null)]) rfl trivial rfl ?_
              refine r_aloadN C dX6_behind_65 rfl ?_
              refine r_ifnonnullN C dX6_behind_67 ?_
              refine r_iconst C dX6_behind_70 (-1 : Int32) (by decide) ?_
              refine r_iret C dX6_behind_71 ?_
              have er : res = ((-1 : Int32), (spl (spl R_b 40 15 u13) 40 15 u21)) := by rw [hres, d_X6_behind]; try exact (oc_some hu1').trans ((if_neg c9).trans ((if_neg c10).trans ((if_neg c11).trans ((if_pos c12).trans ((lt_eq hu13).trans ((lt_eq hu21).trans ((oc_none hu27').trans (rfl))))))))
              rw [er]
              exact ⟨rfl, hb31⟩
            · have hu27' : d_X3_townAt (shf (spl (spl R_b 40 15 u13) 40 15 u21) 40) t = some k32 := by rw [← hu27, ho33]
              rw [ho33]; dsimp only [psh, optT, optC]
              have fk34 := X3_townAt_lt hu27'
              refine r_astore C dX6_behind_63 (ls' := [.val (.ref o_b), .val (.int n), .val (.int t), .val (.int what), .val (.ref ((o_b + 22) + 3 + k6)), .val (.ref ((o_b + 40) + 3 + k32))]) rfl trivial rfl ?_
              refine r_aload C dX6_behind_65 rfl ?_
              refine r_ifnonnull C dX6_behind_67 ?_
              refine r_iload_n C dX6_behind_72 rfl ?_
              by_cases c35 : what = (0 : Int32)
              · skip
                refine r_tswI C dX6_behind_73 c35 (by decide) (by decide) (off := 27) (by decide) (tgt := 100) rfl ?_
                refine r_aload C dX6_behind_100 rfl ?_
                refine r_get C hb31 (k := (43 + k32)) (kMain_43_1 _ fk34) (by omega) celO_5 fw_X6_105 (z := .int ((spl (spl R_b 40 15 u13) 40 15 u21) (43 + k32) 3)) rfl dX6_behind_102 ?_
                refine r_iret C dX6_behind_105 ?_
                have er : res = (((spl (spl R_b 40 15 u13) 40 15 u21) (43 + k32) 3), (spl (spl R_b 40 15 u13) 40 15 u21)) := by rw [hres, d_X6_behind]; try exact (oc_some hu1').trans ((if_neg c9).trans ((if_neg c10).trans ((if_neg c11).trans ((if_pos c12).trans ((lt_eq hu13).trans ((lt_eq hu21).trans ((oc_some hu27').trans ((if_pos c35).trans (rfl)))))))))
                rw [er]
                exact ⟨rfl, hb31⟩
              · skip
                by_cases c36 : what = (1 : Int32)
                · skip
                  refine r_tswI C dX6_behind_73 c36 (by decide) (by decide) (off := 33) (by decide) (tgt := 106) rfl ?_
                  refine r_aload C dX6_behind_106 rfl ?_
                  refine r_get C hb31 (k := (43 + k32)) (kMain_43_1 _ fk34) (by omega) celO_5 fw_X6_111 (z := .int ((spl (spl R_b 40 15 u13) 40 15 u21) (43 + k32) 5)) rfl dX6_behind_108 ?_
                  refine r_iret C dX6_behind_111 ?_
                  have er : res = (((spl (spl R_b 40 15 u13) 40 15 u21) (43 + k32) 5), (spl (spl R_b 40 15 u13) 40 15 u21)) := by rw [hres, d_X6_behind]; try exact (oc_some hu1').trans ((if_neg c9).trans ((if_neg c10).trans ((if_neg c11).trans ((if_pos c12).trans ((lt_eq hu13).trans ((lt_eq hu21).trans ((oc_some hu27').trans ((if_neg c35).trans ((if_pos c36).trans (rfl))))))))))
                  rw [er]
                  exact ⟨rfl, hb31⟩
                · skip
                  by_cases c37 : what = (2 : Int32)
                  · skip
                    refine r_tswI C dX6_behind_73 c37 (by decide) (by decide) (off := 39) (by decide) (tgt := 112) rfl ?_
                    refine r_aload C dX6_behind_112 rfl ?_
                    refine r_get C hb31 (k := (43 + k32)) (kMain_43_1 _ fk34) (by omega) celO_5 fw_X6_117 (z := .int ((spl (spl R_b 40 15 u13) 40 15 u21) (43 + k32) 1)) rfl dX6_behind_114 ?_
                    refine r_if_eq C dX6_behind_117 (fun c38 => ?_) (fun c38 => ?_)
                    · skip
                      refine r_iconst C dX6_behind_124 (0 : Int32) (by decide) ?_
                      refine r_iret C dX6_behind_125 ?_
                      have er : res = ((0 : Int32), (spl (spl R_b 40 15 u13) 40 15 u21)) := by rw [hres, d_X6_behind]; try exact (oc_some hu1').trans ((if_neg c9).trans ((if_neg c10).trans ((if_neg c11).trans ((if_pos c12).trans ((lt_eq hu13).trans ((lt_eq hu21).trans ((oc_some hu27').trans ((if_neg c35).trans ((if_neg c36).trans ((if_pos c37).trans ((if_pos c38).trans (rfl))))))))))))
                      rw [er]
                      exact ⟨rfl, hb31⟩
                    · skip
                      refine r_iconst C dX6_behind_120 (1 : Int32) (by decide) ?_
                      refine r_goto C dX6_behind_121 ?_
                      refine r_iret C dX6_behind_125 ?_
                      have er : res = ((1 : Int32), (spl (spl R_b 40 15 u13) 40 15 u21)) := by rw [hres, d_X6_behind]; try exact (oc_some hu1').trans ((if_neg c9).trans ((if_neg c10).trans ((if_neg c11).trans ((if_pos c12).trans ((lt_eq hu13).trans ((lt_eq hu21).trans ((oc_some hu27').trans ((if_neg c35).trans ((if_neg c36).trans ((if_pos c37).trans ((if_neg c38).trans (rfl))))))))))))
                      rw [er]
                      exact ⟨rfl, hb31⟩
                  · skip
                    refine r_tswO C dX6_behind_73 (tsw_out 2 (by decide) (by intro k hk; match k, hk with | 0, _ => exact c35 | 1, _ => exact c36 | 2, _ => exact c37 | (n + 3), h => omega)) (tgt := 126) rfl ?_
                    refine r_aload C dX6_behind_126 rfl ?_
                    refine r_get C hb31 (k := (43 + k32)) (kMain_43_1 _ fk34) (by omega) celO_5 fw_X6_121 (z := .int ((spl (spl R_b 40 15 u13) 40 15 u21) (43 + k32) 7)) rfl dX6_behind_128 ?_
                    refine r_aload C dX6_behind_131 rfl ?_
                    refine r_get C hb31 (k := (25 + k6)) (kMain_25_1 _ fk8) (by omega) celO_5 fw_X6_121 (z := .int ((spl (spl R_b 40 15 u13) 40 15 u21) (25 + k6) 7)) rfl dX6_behind_133 ?_
                    refine r_isub C dX6_behind_136 ?_
                    refine r_iret C dX6_behind_137 ?_
                    have er : res = ((((spl (spl R_b 40 15 u13) 40 15 u21) (43 + k32) 7) - ((spl (spl R_b 40 15 u13) 40 15 u21) (25 + k6) 7)), (spl (spl R_b 40 15 u13) 40 15 u21)) := by rw [hres, d_X6_behind]; try exact (oc_some hu1').trans ((if_neg c9).trans ((if_neg c10).trans ((if_neg c11).trans ((if_pos c12).trans ((lt_eq hu13).trans ((lt_eq hu21).trans ((oc_some hu27').trans ((if_neg c35).trans ((if_neg c36).trans ((if_neg c37).trans (rfl)))))))))))
                    rw [er]
                    exact ⟨rfl, hb31⟩
          · skip
            refine r_iconst C dX6_behind_34 (-1 : Int32) (by decide) ?_
            refine r_iret C dX6_behind_35 ?_
            have er : res = ((-1 : Int32), R_b) := by rw [hres, d_X6_behind]; try exact (oc_some hu1').trans ((if_neg c9).trans ((if_neg c10).trans ((if_neg c11).trans ((if_neg c12).trans (rfl)))))
            rw [er]
            exact ⟨rfl, hb5⟩

def d_X6_fire_L24 (what : Int32) : Nat → (Nat → Nat → Int32) → Nat → (Int32 × (Nat → Nat → Int32)) ⊕ ((Nat → Nat → Int32))
  | 0, R, _ => .inr R
  | n9 + 1, R, spring =>
    if (30 : Int32) < (nI spring) then
      .inr R
    else
      lt (d_X3_goBy (shf R 40) (1 : Int32)) fun u25 =>
      lt (d_X3_firstBurntSince (shf (spl R 40 15 u25) 40) (shf (spl R 40 15 u25) 22)) fun u31 =>
      if u31 = (-4 : Int32) then
        d_X6_fire_L24 what n9 (spl R 40 15 u25) (spring + 1)
      else
        if what = 0 then
          .inl (u31, (spl R 40 15 u25))
        else
          .inl ((nI spring), (spl R 40 15 u25))
def d_X6_fire (R_b : Nat → Nat → Int32) (what : Int32) : Int32 × (Nat → Nat → Int32) :=
  if what < 0 then
    ((-1 : Int32), R_b)
  else
    if what ≤ (1 : Int32) then
      lt (d_X3_copy (shf R_b 40) (shf R_b 22)) fun u3 =>
      sc (d_X6_fire_L24 what 31 (spl R_b 40 15 u3) 1) (fun r => r) fun w40 =>
      ((-4 : Int32), w40)
    else
      ((-1 : Int32), R_b)
set_option maxHeartbeats 4000000 in
set_option maxRecDepth 100000 in
theorem c_X6_fire (l : Launch) (D : DD) (o_b : Nat) (R_b : Nat → Nat → Int32) (what : Int32)  (res : Int32 × (Nat → Nat → Int32)) (hres : res = d_X6_fire R_b what) : Mt l D yX6_fire cX6_fire 4 (some .int) 5 114 0 0 [.ref o_b, .int what] (fun H => blk D ksMain o_b R_b H) (fun v H => v = some (.int res.1) ∧ blk D ksMain o_b res.2 H) (fp1 o_b 215) := by
  refine mt_of (own := RX6) (ls := [.val (.ref o_b), .val (.int what), .unset, .unset]) rfl (by decide +kernel) rfl ?_
  intro x H C hP
  have hb_b := hP
  refine r_iload_n C dX6_fire_0 rfl ?_
  refine r_if_lt C dX6_fire_1 (fun c1 => ?_) (fun c1 => ?_)
  · skip
    refine r_iconst C dX6_fire_9 (-1 : Int32) (by decide) ?_
    refine r_iret C dX6_fire_10 ?_
    have er : res = ((-1 : Int32), R_b) := by rw [hres, d_X6_fire]; try exact (if_pos c1).trans (rfl)
    rw [er]
    exact ⟨rfl, hb_b⟩
  · skip
    refine r_iload_n C dX6_fire_4 rfl ?_
    refine r_iconst C dX6_fire_5 (1 : Int32) (by decide) ?_
    refine r_ic_le C dX6_fire_6 (fun c2 => ?_) (fun c2 => ?_)
    · skip
      refine r_aload_n C dX6_fire_11 rfl ?_
      refine r_get C hb_b (k := 0) rfl rfl celO_6 fw_X6_34 rfl dX6_fire_12 ?_
      refine r_aload_n C dX6_fire_15 rfl ?_
      refine r_get C hb_b (k := 0) rfl rfl celO_6 fw_X6_28 rfl dX6_fire_16 ?_
      obtain ⟨u3, hu3⟩ : ∃ r, r = d_X3_copy (shf R_b 40) (shf R_b 22) := ⟨_, rfl⟩
      refine r_callV0 C cw_X6_88 (fun l => c_X3_copy l D (o_b + 40) (o_b + 22) (shf R_b 40) (shf R_b 22) (by omega) u3 hu3) (rest := []) hb_b (k := 40) rfl rfl celO_3 ⟨(blk_sub hb_b 40 15 rfl rfl), (blk_sub hb_b 22 15 rfl rfl)⟩ (fun q h => by unfold fp1 at h; unfold fp1; omega) rfl rfl rfl (Nat.le_of_ble_eq_true rfl) ⟨Nat.le_of_ble_eq_true rfl, Nat.le_of_ble_eq_true rfl, Nat.le_refl 0, Nat.le_refl 0⟩ dX6_fire_19 (fun v H4 hp5 hq6 => ?_)
      obtain ⟨rfl, hn7⟩ := hp5
      have hb8 := blk_spl hb_b 40 15 rfl rfl hn7 (fun q h => hq6 q (by unfold fp1; omega))
      dsimp only [psh]
      refine r_iconst C dX6_fire_22 (1 : Int32) (by decide) ?_
      refine r_istore_n C dX6_fire_23 (ls' := [.val (.ref o_b), .val (.int what), .val (.int (1 : Int32)), .unset]) rfl trivial rfl ?_
      have d_X6_fire_L24_w : ∀ (n9 : Nat) (R : Nat → Nat → Int32) (spring : Nat) (H15 : Heap) (z13 : Slot) (_ : slot1 z13), True → (spring ≤ 31) → (1 ≤ spring) → (31 - spring < n9) → blk D ksMain o_b R H15 → ∀ s11 : (Int32 × (Nat → Nat → Int32)) ⊕ ((Nat → Nat → Int32)), s11 = d_X6_fire_L24 what n9 R spring → (∀ r, s11 = .inl r → res = r) → (∀ (w16 : (Nat → Nat → Int32)) (H' : Heap) (z17 : Slot) (_ : slot1 z17) (z18 : Slot) (_ : slot1 z18), s11 = .inr w16 → blk D ksMain o_b w16 H' → WG x (fp1 o_b 215) (Fin x (fun v H => v = some (.int res.1) ∧ blk D ksMain o_b res.2 H) (fp1 o_b 215) 0 0) H' 0 0 72 [.val (.ref o_b), .val (.int what), z17, z18] []) → WG x (fp1 o_b 215) (Fin x (fun v H => v = some (.int res.1) ∧ blk D ksMain o_b res.2 H) (fp1 o_b 215) 0 0) H15 0 0 24 [.val (.ref o_b), .val (.int what), .val (.int (nI spring)), z13] [] := by
        intro n9
        induction n9 with
        | zero => intro R spring H15 z13 hz13 _ hs hs1 hm19; exact absurd hm19 (Nat.not_lt_zero _)
        | succ n9 ih10 =>
          intro R spring H15 z13 hz13 _ hs hs1 hm19 hb14 s11 hs11 hr20 kx12
          refine r_iload_n C dX6_fire_24 rfl ?_
          refine r_bipush C dX6_fire_25 (30 : Int32) (by decide) ?_
          refine r_ic_gt C dX6_fire_27 (fun c21 => ?_) (fun c21 => ?_)
          · skip
            have f22 : (30 < spring) := nf_ltI (by omega) (by omega) rfl rfl c21
            have e23 : s11 = .inr R := by rw [hs11, d_X6_fire_L24]; try exact (if_pos c21).trans (rfl)
            exact kx12 R _ (.val (.int (nI spring))) rfl z13 hz13 e23  hb14
          · skip
            have f24 : ¬ (30 < spring) := nf_ltIn (by omega) (by omega) rfl rfl c21
            refine r_aload_n C dX6_fire_30 rfl ?_
            refine r_get C hb14 (k := 0) rfl rfl celO_6 fw_X6_34 rfl dX6_fire_31 ?_
            refine r_iconst C dX6_fire_34 (1 : Int32) (by decide) ?_
            obtain ⟨u25, hu25⟩ : ∃ r, r = d_X3_goBy (shf R 40) (1 : Int32) := ⟨_, rfl⟩
            refine r_callV0 C cw_X6_150 (fun l => c_X3_goBy l D (o_b + 40) (shf R 40) (1 : Int32) (by decide) (by decide) u25 hu25) (rest := []) hb14 (k := 40) rfl rfl celO_3 (blk_sub hb14 40 15 rfl rfl) (fun q h => by unfold fp1 at h; unfold fp1; omega) rfl rfl rfl (Nat.le_of_ble_eq_true rfl) ⟨Nat.le_of_ble_eq_true rfl, Nat.le_of_ble_eq_true rfl, Nat.le_refl 0, Nat.le_refl 0⟩ dX6_fire_35 (fun v H26 hp27 hq28 => ?_)
            obtain ⟨rfl, hn29⟩ := hp27
            have hb30 := blk_spl hb14 40 15 rfl rfl hn29 (fun q h => hq28 q (by unfold fp1; omega))
            dsimp only [psh]
            refine r_aload_n C dX6_fire_38 rfl ?_
            refine r_get C hb30 (k := 0) rfl rfl celO_6 fw_X6_34 rfl dX6_fire_39 ?_
            refine r_aload_n C dX6_fire_42 rfl ?_
            refine r_get C hb30 (k := 0) rfl rfl celO_6 fw_X6_28 rfl dX6_fire_43 ?_
            obtain ⟨u31, hu31⟩ : ∃ r, r = d_X3_firstBurntSince (shf (spl R 40 15 u25) 40) (shf (spl R 40 15 u25) 22) := ⟨_, rfl⟩
            refine r_callV0 C cw_X6_171 (fun l => c_X3_firstBurntSince l D (o_b + 40) (o_b + 22) (shf (spl R 40 15 u25) 40) (shf (spl R 40 15 u25) 22) u31 hu31) (rest := []) hb30 (k := 40) rfl rfl celO_3 ⟨(blk_sub hb30 40 15 rfl rfl), (blk_sub hb30 22 15 rfl rfl)⟩ (fun q h => h.elim) rfl rfl rfl (Nat.le_of_ble_eq_true rfl) ⟨Nat.le_of_ble_eq_true rfl, Nat.le_of_ble_eq_true rfl, Nat.le_refl 0, Nat.le_refl 0⟩ dX6_fire_46 (fun v H32 hp33 hq34 => ?_)
            subst hp33
            have hb35 := blk_kept hb30 (n := 215) rfl (fun q h1 h2 => hq34 q (fun h => h))
            dsimp only [psh]
            refine r_istore_n C dX6_fire_49 (ls' := [.val (.ref o_b), .val (.int what), .val (.int (nI spring)), .val (.int u31)]) rfl hz13 rfl ?_
            refine r_iload_n C dX6_fire_50 rfl ?_
            refine r_bipush C dX6_fire_51 (-4 : Int32) (by decide) ?_
            refine r_ic_eq C dX6_fire_53 (fun c36 => ?_) (fun c36 => ?_)
            · skip
              refine r_iinc C dX6_fire_66 (nI (spring + 1)) rfl (nI_inc spring rfl) (ls' := [.val (.ref o_b), .val (.int what), .val (.int (nI (spring + 1))), .val (.int u31)]) rfl ?_
              refine r_goto C dX6_fire_69 ?_
              have e37 : s11 = d_X6_fire_L24 what n9 (spl R 40 15 u25) (spring + 1) := by rw [hs11, d_X6_fire_L24]; try exact (if_neg c21).trans ((lt_eq hu25).trans ((lt_eq hu31).trans ((if_pos c36).trans (rfl))))
              exact ih10 (spl R 40 15 u25) (spring + 1) _ (.val (.int u31)) rfl trivial (by omega) (by omega) (by omega) hb35 s11 e37 hr20 kx12
            · skip
              refine r_iload_n C dX6_fire_56 rfl ?_
              refine r_if_ne C dX6_fire_57 (fun c38 => ?_) (fun c38 => ?_)
              · skip
                refine r_iload_n C dX6_fire_64 rfl ?_
                refine r_iret C dX6_fire_65 ?_
                have er : res = ((nI spring), (spl R 40 15 u25)) := hr20 _ (by rw [hs11, d_X6_fire_L24]; try exact (if_neg c21).trans ((lt_eq hu25).trans ((lt_eq hu31).trans ((if_neg c36).trans ((if_neg c38).trans (rfl))))))
                rw [er]
                exact ⟨rfl, hb35⟩
              · skip
                refine r_iload_n C dX6_fire_60 rfl ?_
                refine r_goto C dX6_fire_61 ?_
                refine r_iret C dX6_fire_65 ?_
                have er : res = (u31, (spl R 40 15 u25)) := hr20 _ (by rw [hs11, d_X6_fire_L24]; try exact (if_neg c21).trans ((lt_eq hu25).trans ((lt_eq hu31).trans ((if_neg c36).trans ((if_pos c38).trans (rfl))))))
                rw [er]
                exact ⟨rfl, hb35⟩
      obtain ⟨s39, hs39⟩ : ∃ r, r = d_X6_fire_L24 what 31 (spl R_b 40 15 u3) 1 := ⟨_, rfl⟩
      refine d_X6_fire_L24_w 31 (spl R_b 40 15 u3) 1 _ .unset trivial trivial (by omega) (by omega) (by omega) hb8 s39 hs39 (fun r e => by rw [hres, d_X6_fire]; exact (if_neg c1).trans ((if_pos c2).trans ((lt_eq hu3).trans (sc_inl (hs39.symm.trans e))))) (fun w40 H42 z17 hz17 z18 hz18 e43  hb41 => ?_)
      have hx44 : d_X6_fire_L24 what 31 (spl R_b 40 15 u3) 1 = .inr w40 := hs39.symm.trans e43
      refine r_bipush C dX6_fire_72 (-4 : Int32) (by decide) ?_
      refine r_iret C dX6_fire_74 ?_
      have er : res = ((-4 : Int32), w40) := by rw [hres, d_X6_fire]; try exact (if_neg c1).trans ((if_pos c2).trans ((lt_eq hu3).trans ((sc_inr hx44).trans (rfl))))
      rw [er]
      exact ⟨rfl, hb41⟩
    · skip
      refine r_iconst C dX6_fire_9 (-1 : Int32) (by decide) ?_
      refine r_iret C dX6_fire_10 ?_
      have er : res = ((-1 : Int32), R_b) := by rw [hres, d_X6_fire]; try exact (if_neg c1).trans ((if_neg c2).trans (rfl))
      rw [er]
      exact ⟨rfl, hb_b⟩
