theorem X1_lastSpring_L {R : Nat → Nat → Int32} (h : ∀ i, i < 6 → R 2 i = nI (R 2 i).toNatClampNeg ∧ (R 2 i).toNatClampNeg ≤ 20) : ∀ (n : Nat) (last : Int32) (i : Nat), i ≤ 6 → (last = nI last.toNatClampNeg ∧ last.toNatClampNeg ≤ 20) → d_X1_lastSpring_L4 R n last i = nI (d_X1_lastSpring_L4 R n last i).toNatClampNeg ∧ (d_X1_lastSpring_L4 R n last i).toNatClampNeg ≤ 20 := by
  intro n
  induction n with
  | zero => intro last i hi hl; simpa only [d_X1_lastSpring_L4] using hl
  | succ n ih =>
    intro last i hi hl
    simp only [d_X1_lastSpring_L4]
    split
    · exact hl
    · split
      · exact hl
      · rename_i c
        have c' : ¬ 6 ≤ i := nf_leIn (by omega) (by omega) rfl rfl c
        exact ih _ _ (by omega) (nn_max hl (h i (by omega)))
theorem X1_lastSpring_nat {R : Nat → Nat → Int32} {u : Int32} (hu : u = d_X1_lastSpring R) (h : ∀ i, i < 6 → R 2 i = nI (R 2 i).toNatClampNeg ∧ (R 2 i).toNatClampNeg ≤ 20) : u = nI u.toNatClampNeg ∧ u.toNatClampNeg ≤ 20 := by
  subst hu
  simp only [d_X1_lastSpring, lt]
  exact X1_lastSpring_L h 7 0 0 (by omega) ⟨by decide, by decide⟩
def d_X6_wayInRow (row : Int32) (n : Int32) (k : Int32) : Int32 :=
  ((row >>> (((2 : Int32) * (n - k)) &&& 31)) &&& (3 : Int32))
set_option maxHeartbeats 4000000 in
set_option maxRecDepth 100000 in
theorem c_X6_wayInRow (l : Launch) (D : DD) (row : Int32) (n : Int32) (k : Int32)  (res : Int32) (hres : res = d_X6_wayInRow row n k) : Mt l D yX6_wayInRow cX6_wayInRow 3 (some .int) 0 0 0 0 [.int row, .int n, .int k] (fun H => True) (fun v H => v = some (.int res)) fp0 := by
  refine mt_of (own := RX6) (ls := [.val (.int row), .val (.int n), .val (.int k)]) rfl (by decide +kernel) rfl ?_
  intro x H C hP
  refine r_iload_n C dX6_wayInRow_0 rfl ?_
  refine r_iconst C dX6_wayInRow_1 (2 : Int32) (by decide) ?_
  refine r_iload_n C dX6_wayInRow_2 rfl ?_
  refine r_iload_n C dX6_wayInRow_3 rfl ?_
  refine r_isub C dX6_wayInRow_4 ?_
  refine r_imul C dX6_wayInRow_5 ?_
  refine r_ishr C dX6_wayInRow_6 ?_
  refine r_iconst C dX6_wayInRow_7 (3 : Int32) (by decide) ?_
  refine r_iand C dX6_wayInRow_8 ?_
  refine r_iret C dX6_wayInRow_9 ?_
  have er : res = ((row >>> (((2 : Int32) * (n - k)) &&& 31)) &&& (3 : Int32)) := by rw [hres, d_X6_wayInRow]; try exact rfl
  rw [er]

def d_X6_commonDivisor_L7  : Nat → Int32 → Int32 → Nat → Int32
  | 0, more, _, _ => more
  | n1 + 1, more, less, step =>
    if (64 : Int32) ≤ (nI step) then
      more
    else
      if less = 0 then
        more
      else
        d_X6_commonDivisor_L7  n1 less (more - more / less * less) (step + 1)
def d_X6_commonDivisor (a : Int32) (b : Int32) : Int32 :=
  lt (d_X6_commonDivisor_L7 65 a b 0) fun s18 =>
  s18
set_option maxHeartbeats 4000000 in
set_option maxRecDepth 100000 in
theorem c_X6_commonDivisor (l : Launch) (D : DD) (a : Int32) (b : Int32)  (res : Int32) (hres : res = d_X6_commonDivisor a b) : Mt l D yX6_commonDivisor cX6_commonDivisor 6 (some .int) 0 0 0 0 [.int a, .int b] (fun H => True) (fun v H => v = some (.int res)) fp0 := by
  refine mt_of (own := RX6) (ls := [.val (.int a), .val (.int b), .unset, .unset, .unset, .unset]) rfl (by decide +kernel) rfl ?_
  intro x H C hP
  refine r_iload_n C dX6_commonDivisor_0 rfl ?_
  refine r_istore_n C dX6_commonDivisor_1 (ls' := [.val (.int a), .val (.int b), .val (.int a), .unset, .unset, .unset]) rfl trivial rfl ?_
  refine r_iload_n C dX6_commonDivisor_2 rfl ?_
  refine r_istore_n C dX6_commonDivisor_3 (ls' := [.val (.int a), .val (.int b), .val (.int a), .val (.int b), .unset, .unset]) rfl trivial rfl ?_
  refine r_iconst C dX6_commonDivisor_4 (0 : Int32) (by decide) ?_
  refine r_istore C dX6_commonDivisor_5 (ls' := [.val (.int a), .val (.int b), .val (.int a), .val (.int b), .val (.int (0 : Int32)), .unset]) rfl trivial rfl ?_
  have d_X6_commonDivisor_L7_w : ∀ (n1 : Nat) (more : Int32) (less : Int32) (step : Nat) (H6 : Heap) (z5 : Slot) (_ : slot1 z5), True → (step ≤ 64) → (64 - step < n1)  → ∀ s3 : Int32, s3 = d_X6_commonDivisor_L7  n1 more less step → (∀ (H' : Heap) (z7 : Slot) (_ : slot1 z7) (z8 : Slot) (_ : slot1 z8) (z9 : Slot) (_ : slot1 z9), True  → WG x fp0 (Fin x (fun v H => v = some (.int res)) fp0 0 0) H' 0 0 34 [.val (.int a), .val (.int b), .val (.int s3), z7, z8, z9] []) → WG x fp0 (Fin x (fun v H => v = some (.int res)) fp0 0 0) H6 0 0 7 [.val (.int a), .val (.int b), .val (.int more), .val (.int less), .val (.int (nI step)), z5] [] := by
    intro n1
    induction n1 with
    | zero => intro more less step H6 z5 hz5 _ hi hm10; exact absurd hm10 (Nat.not_lt_zero _)
    | succ n1 ih2 =>
      intro more less step H6 z5 hz5 _ hi hm10  s3 hs3  kx4
      refine r_iload C dX6_commonDivisor_7 rfl ?_
      refine r_bipush C dX6_commonDivisor_9 (64 : Int32) (by decide) ?_
      refine r_ic_ge C dX6_commonDivisor_11 (fun c11 => ?_) (fun c11 => ?_)
      · skip
        have f12 : (64 ≤ step) := nf_leI (by omega) (by omega) rfl rfl c11
        have e13 : s3 = more := by rw [hs3, d_X6_commonDivisor_L7]; try exact (if_pos c11).trans (rfl)
        rw [e13] at kx4
        exact kx4 _ (.val (.int less)) rfl (.val (.int (nI step))) rfl z5 hz5 trivial  
      · skip
        have f14 : ¬ (64 ≤ step) := nf_leIn (by omega) (by omega) rfl rfl c11
        refine r_iload_n C dX6_commonDivisor_14 rfl ?_
        refine r_if_eq C dX6_commonDivisor_15 (fun c15 => ?_) (fun c15 => ?_)
        · skip
          have e16 : s3 = more := by rw [hs3, d_X6_commonDivisor_L7]; try exact (if_neg c11).trans ((if_pos c15).trans (rfl))
          rw [e16] at kx4
          exact kx4 _ (.val (.int less)) rfl (.val (.int (nI step))) rfl z5 hz5 trivial  
        · skip
          refine r_iload_n C dX6_commonDivisor_18 rfl ?_
          refine r_iload_n C dX6_commonDivisor_19 rfl ?_
          refine r_irem C dX6_commonDivisor_20 c15 ?_
          refine r_istore C dX6_commonDivisor_21 (ls' := [.val (.int a), .val (.int b), .val (.int more), .val (.int less), .val (.int (nI step)), .val (.int (more - more / less * less))]) rfl hz5 rfl ?_
          refine r_iload_n C dX6_commonDivisor_23 rfl ?_
          refine r_istore_n C dX6_commonDivisor_24 (ls' := [.val (.int a), .val (.int b), .val (.int less), .val (.int less), .val (.int (nI step)), .val (.int (more - more / less * less))]) rfl rfl rfl ?_
          refine r_iload C dX6_commonDivisor_25 rfl ?_
          refine r_istore_n C dX6_commonDivisor_27 (ls' := [.val (.int a), .val (.int b), .val (.int less), .val (.int (more - more / less * less)), .val (.int (nI step)), .val (.int (more - more / less * less))]) rfl rfl rfl ?_
          refine r_iinc C dX6_commonDivisor_28 (nI (step + 1)) rfl (nI_inc step rfl) (ls' := [.val (.int a), .val (.int b), .val (.int less), .val (.int (more - more / less * less)), .val (.int (nI (step + 1))), .val (.int (more - more / less * less))]) rfl ?_
          refine r_goto C dX6_commonDivisor_31 ?_
          have e17 : s3 = d_X6_commonDivisor_L7  n1 less (more - more / less * less) (step + 1) := by rw [hs3, d_X6_commonDivisor_L7]; try exact (if_neg c11).trans ((if_neg c15).trans (rfl))
          exact ih2 less (more - more / less * less) (step + 1) _ (.val (.int (more - more / less * less))) rfl trivial (by omega) (by omega)  s3 e17  kx4
  obtain ⟨s18, hs18⟩ : ∃ r, r = d_X6_commonDivisor_L7 65 a b 0 := ⟨_, rfl⟩
  refine d_X6_commonDivisor_L7_w 65 a b 0 _ .unset trivial trivial (by omega) (by omega)  s18 hs18  (fun H19 z7 hz7 z8 hz8 z9 hz9 e20   => ?_)
  refine r_iload_n C dX6_commonDivisor_34 rfl ?_
  refine r_iret C dX6_commonDivisor_35 ?_
  have er : res = s18 := by rw [hres, d_X6_commonDivisor]; try exact (lt_eq hs18).trans (rfl)
  rw [er]

def d_X6_hasMore (R_h : Nat → Nat → Int32) (there : Int32) (here : Int32) : Int32 :=
  if there < 0 then
    (0 : Int32)
  else
    if (nI 16) ≤ there then
      (0 : Int32)
    else
      if here < 0 then
        (0 : Int32)
      else
        if here < (nI 16) then
          if (R_h 0 there.toNatClampNeg) ≤ (R_h 0 here.toNatClampNeg) then
            (0 : Int32)
          else
            (1 : Int32)
        else
          (0 : Int32)
set_option maxHeartbeats 4000000 in
set_option maxRecDepth 100000 in
theorem c_X6_hasMore (l : Launch) (D : DD) (o_h : Nat) (R_h : Nat → Nat → Int32) (there : Int32) (here : Int32)  (res : Int32) (hres : res = d_X6_hasMore R_h there here) : Mt l D yX6_hasMore cX6_hasMore 3 (some .boolean) 0 0 0 0 [.ref o_h, .int there, .int here] (fun H => blk D ksI16 o_h R_h H) (fun v H => v = some (.int res) ∧ bl res) fp0 := by
  refine mt_of (own := RX6) (ls := [.val (.ref o_h), .val (.int there), .val (.int here)]) rfl (by decide +kernel) rfl ?_
  intro x H C hP
  have hb_h := hP
  refine r_iload_n C dX6_hasMore_0 rfl ?_
  refine r_if_lt C dX6_hasMore_1 (fun c1 => ?_) (fun c1 => ?_)
  · skip
    refine r_iconst C dX6_hasMore_20 (0 : Int32) (by decide) ?_
    refine r_zret C dX6_hasMore_21 (Or.inl rfl) ?_
    have er : res = (0 : Int32) := by rw [hres, d_X6_hasMore]; try exact (if_pos c1).trans (rfl)
    rw [er]
    exact ⟨rfl, (Or.inl rfl)⟩
  · skip
    refine r_iload_n C dX6_hasMore_4 rfl ?_
    refine r_aload_n C dX6_hasMore_5 rfl ?_
    refine r_alen C hb_h (k := 0) rfl rfl 16 (Or.inl ⟨rfl, rfl⟩) dX6_hasMore_6 ?_
    refine r_ic_ge C dX6_hasMore_7 (fun c2 => ?_) (fun c2 => ?_)
    · skip
      refine r_iconst C dX6_hasMore_20 (0 : Int32) (by decide) ?_
      refine r_zret C dX6_hasMore_21 (Or.inl rfl) ?_
      have er : res = (0 : Int32) := by rw [hres, d_X6_hasMore]; try exact (if_neg c1).trans ((if_pos c2).trans (rfl))
      rw [er]
      exact ⟨rfl, (Or.inl rfl)⟩
    · skip
      refine r_iload_n C dX6_hasMore_10 rfl ?_
      refine r_if_lt C dX6_hasMore_11 (fun c3 => ?_) (fun c3 => ?_)
      · skip
        refine r_iconst C dX6_hasMore_20 (0 : Int32) (by decide) ?_
        refine r_zret C dX6_hasMore_21 (Or.inl rfl) ?_
        have er : res = (0 : Int32) := by rw [hres, d_X6_hasMore]; try exact (if_neg c1).trans ((if_neg c2).trans ((if_pos c3).trans (rfl)))
        rw [er]
        exact ⟨rfl, (Or.inl rfl)⟩
      · skip
        refine r_iload_n C dX6_hasMore_14 rfl ?_
        refine r_aload_n C dX6_hasMore_15 rfl ?_
        refine r_alen C hb_h (k := 0) rfl rfl 16 (Or.inl ⟨rfl, rfl⟩) dX6_hasMore_16 ?_
        refine r_ic_lt C dX6_hasMore_17 (fun c4 => ?_) (fun c4 => ?_)
        · skip
          refine r_aload_n C dX6_hasMore_22 rfl ?_
          refine r_iload_n C dX6_hasMore_23 rfl ?_
          refine r_iald C hb_h (k := 0) rfl rfl (vp_in_lh (x_lo1 c1) (x_hi1 (N := 16) c2 (by omega)) (by omega)) (j := there.toNatClampNeg) rfl dX6_hasMore_24 ?_
          refine r_aload_n C dX6_hasMore_25 rfl ?_
          refine r_iload_n C dX6_hasMore_26 rfl ?_
          refine r_iald C hb_h (k := 0) rfl rfl (vp_in_lh (x_lo1 c3) (x_hi2 (N := 16) c4 (by omega)) (by omega)) (j := here.toNatClampNeg) rfl dX6_hasMore_27 ?_
          refine r_ic_le C dX6_hasMore_28 (fun c5 => ?_) (fun c5 => ?_)
          · skip
            refine r_iconst C dX6_hasMore_35 (0 : Int32) (by decide) ?_
            refine r_zret C dX6_hasMore_36 (Or.inl rfl) ?_
            have er : res = (0 : Int32) := by rw [hres, d_X6_hasMore]; try exact (if_neg c1).trans ((if_neg c2).trans ((if_neg c3).trans ((if_pos c4).trans ((if_pos c5).trans (rfl)))))
            rw [er]
            exact ⟨rfl, (Or.inl rfl)⟩
          · skip
            refine r_iconst C dX6_hasMore_31 (1 : Int32) (by decide) ?_
            refine r_goto C dX6_hasMore_32 ?_
            refine r_zret C dX6_hasMore_36 (Or.inr rfl) ?_
            have er : res = (1 : Int32) := by rw [hres, d_X6_hasMore]; try exact (if_neg c1).trans ((if_neg c2).trans ((if_neg c3).trans ((if_pos c4).trans ((if_neg c5).trans (rfl)))))
            rw [er]
            exact ⟨rfl, (Or.inr rfl)⟩
        · skip
          refine r_iconst C dX6_hasMore_20 (0 : Int32) (by decide) ?_
          refine r_zret C dX6_hasMore_21 (Or.inl rfl) ?_
          have er : res = (0 : Int32) := by rw [hres, d_X6_hasMore]; try exact (if_neg c1).trans ((if_neg c2).trans ((if_neg c3).trans ((if_neg c4).trans (rfl))))
          rw [er]
          exact ⟨rfl, (Or.inl rfl)⟩

def d_X6_silverByRow_L31 (n : Int32) (row : Int32) (k12 : Nat) : Nat → (Nat → Nat → Int32) → Nat → (Nat → Nat → Int32)
  | 0, R, _ => R
  | n15 + 1, R, k =>
    if n < (nI k) then
      R
    else
      lt (d_X6_wayInRow row n (nI k)) fun u27 =>
      lt (d_X3_goBy (shf (pt R (43 + k12) 6 u27) 40) (1 : Int32)) fun u35 =>
      d_X6_silverByRow_L31 n row k12 n15 (spl (pt R (43 + k12) 6 u27) 40 15 u35) (k + 1)
def d_X6_silverByRow (R_b : Nat → Nat → Int32) (t : Int32) (n : Int32) (row : Int32) : Int32 × (Nat → Nat → Int32) :=
  lt (d_X3_copy (shf R_b 40) (shf R_b 22)) fun u1 =>
  oc (d_X3_townAt (shf (spl R_b 40 15 u1) 40) t) (
    ((0 : Int32), (spl R_b 40 15 u1))) fun k12 =>
  lt (d_X6_silverByRow_L31 n row k12 5 (spl R_b 40 15 u1) 1) fun s42 =>
  ((s42 (43 + k12) 3), s42)
set_option maxHeartbeats 4000000 in
set_option maxRecDepth 100000 in
theorem c_X6_silverByRow (l : Launch) (D : DD) (o_b : Nat) (R_b : Nat → Nat → Int32) (t : Int32) (n : Int32) (row : Int32) (hn : n = nI n.toNatClampNeg) (hln : n.toNatClampNeg ≤ 4) (res : Int32 × (Nat → Nat → Int32)) (hres : res = d_X6_silverByRow R_b t n row) : Mt l D yX6_silverByRow cX6_silverByRow 6 (some .int) 5 114 0 0 [.ref o_b, .int t, .int n, .int row] (fun H => blk D ksMain o_b R_b H) (fun v H => v = some (.int res.1) ∧ blk D ksMain o_b res.2 H) (fp1 o_b 215) := by
  refine mt_of (own := RX6) (ls := [.val (.ref o_b), .val (.int t), .val (.int n), .val (.int row), .unset, .unset]) rfl (by decide +kernel) rfl ?_
  intro x H C hP
  have hb_b := hP
  refine r_aload_n C dX6_silverByRow_0 rfl ?_
  refine r_get C hb_b (k := 0) rfl rfl celO_6 fw_X6_34 rfl dX6_silverByRow_1 ?_
  refine r_aload_n C dX6_silverByRow_4 rfl ?_
  refine r_get C hb_b (k := 0) rfl rfl celO_6 fw_X6_28 rfl dX6_silverByRow_5 ?_
  obtain ⟨u1, hu1⟩ : ∃ r, r = d_X3_copy (shf R_b 40) (shf R_b 22) := ⟨_, rfl⟩
  refine r_callV0 C cw_X6_88 (fun l => c_X3_copy l D (o_b + 40) (o_b + 22) (shf R_b 40) (shf R_b 22) (by omega) u1 hu1) (rest := []) hb_b (k := 40) rfl rfl celO_3 ⟨(blk_sub hb_b 40 15 rfl rfl), (blk_sub hb_b 22 15 rfl rfl)⟩ (fun q h => by unfold fp1 at h; unfold fp1; omega) rfl rfl rfl (Nat.le_of_ble_eq_true rfl) ⟨Nat.le_of_ble_eq_true rfl, Nat.le_of_ble_eq_true rfl, Nat.le_refl 0, Nat.le_refl 0⟩ dX6_silverByRow_8 (fun v H2 hp3 hq4 => ?_)
  obtain ⟨rfl, hn5⟩ := hp3
  have hb6 := blk_spl hb_b 40 15 rfl rfl hn5 (fun q h => hq4 q (by unfold fp1; omega))
  dsimp only [psh]
  refine r_aload_n C dX6_silverByRow_11 rfl ?_
  refine r_get C hb6 (k := 0) rfl rfl celO_6 fw_X6_34 rfl dX6_silverByRow_12 ?_
  refine r_iload_n C dX6_silverByRow_15 rfl ?_
  obtain ⟨u7, hu7⟩ : ∃ r, r = d_X3_townAt (shf (spl R_b 40 15 u1) 40) t := ⟨_, rfl⟩
  refine r_callV0 C cw_X6_96 (fun l => c_X3_townAt l D (o_b + 40) (shf (spl R_b 40 15 u1) 40) t u7 hu7) (rest := []) hb6 (k := 40) rfl rfl celO_3 (blk_sub hb6 40 15 rfl rfl) (fun q h => h.elim) rfl rfl rfl (Nat.le_of_ble_eq_true rfl) ⟨Nat.le_of_ble_eq_true rfl, Nat.le_of_ble_eq_true rfl, Nat.le_refl 0, Nat.le_refl 0⟩ dX6_silverByRow_16 (fun v H8 hp9 hq10 => ?_)
  subst hp9
  have hb11 := blk_kept hb6 (n := 215) rfl (fun q h1 h2 => hq10 q (fun h => h))
  obtain ho13 | ⟨k12, ho13⟩ := opt_or u7
  · have hu7' : d_X3_townAt (shf (spl R_b 40 15 u1) 40) t = none := by rw [← hu7, ho13]
    rw [ho13]; dsimp only [psh, optT, optC]
    refine r_astoreN C dX6_silverByRow_19 (ls' := [.val (.ref o_b), .val (.int t), .val (.int n), .val (.int row), .val (.null), .unset]) rfl trivial rfl ?_
    refine r_aloadN C dX6_silverByRow_21 rfl ?_
    refine r_ifnonnullN C dX6_silverByRow_23 ?_
    refine r_iconst C dX6_silverByRow_26 (0 : Int32) (by decide) ?_
    refine r_iret C dX6_silverByRow_27 ?_
    have er : res = ((0 : Int32), (spl R_b 40 15 u1)) := by rw [hres, d_X6_silverByRow]; try exact (lt_eq hu1).trans ((oc_none hu7').trans (rfl))
    rw [er]
    exact ⟨rfl, hb11⟩
  · have hu7' : d_X3_townAt (shf (spl R_b 40 15 u1) 40) t = some k12 := by rw [← hu7, ho13]
    rw [ho13]; dsimp only [psh, optT, optC]
    have fk14 := X3_townAt_lt hu7'
    refine r_astore C dX6_silverByRow_19 (ls' := [.val (.ref o_b), .val (.int t), .val (.int n), .val (.int row), .val (.ref ((o_b + 40) + 3 + k12)), .unset]) rfl trivial rfl ?_
    refine r_aload C dX6_silverByRow_21 rfl ?_
    refine r_ifnonnull C dX6_silverByRow_23 ?_
    refine r_iconst C dX6_silverByRow_28 (1 : Int32) (by decide) ?_
    refine r_istore C dX6_silverByRow_29 (ls' := [.val (.ref o_b), .val (.int t), .val (.int n), .val (.int row), .val (.ref ((o_b + 40) + 3 + k12)), .val (.int (1 : Int32))]) rfl trivial rfl ?_
    have d_X6_silverByRow_L31_w : ∀ (n15 : Nat) (R : Nat → Nat → Int32) (k : Nat) (H20 : Heap), True → (k ≤ n.toNatClampNeg + 1) → (1 ≤ k) → (n.toNatClampNeg + 1 - k < n15) → blk D ksMain o_b R H20 → ∀ s17 : (Nat → Nat → Int32), s17 = d_X6_silverByRow_L31 n row k12 n15 R k → (∀ (H' : Heap) (z21 : Slot) (_ : slot1 z21), True → blk D ksMain o_b s17 H' → WG x (fp1 o_b 215) (Fin x (fun v H => v = some (.int res.1) ∧ blk D ksMain o_b res.2 H) (fp1 o_b 215) 0 0) H' 0 0 63 [.val (.ref o_b), .val (.int t), .val (.int n), .val (.int row), .val (.ref ((o_b + 40) + 3 + k12)), z21] []) → WG x (fp1 o_b 215) (Fin x (fun v H => v = some (.int res.1) ∧ blk D ksMain o_b res.2 H) (fp1 o_b 215) 0 0) H20 0 0 31 [.val (.ref o_b), .val (.int t), .val (.int n), .val (.int row), .val (.ref ((o_b + 40) + 3 + k12)), .val (.int (nI k))] [] := by
      intro n15
      induction n15 with
      | zero => intro R k H20  _ hk hk1 hm22; exact absurd hm22 (Nat.not_lt_zero _)
      | succ n15 ih16 =>
        intro R k H20  _ hk hk1 hm22 hb19 s17 hs17  kx18
        refine r_iload C dX6_silverByRow_31 rfl ?_
        refine r_iload_n C dX6_silverByRow_33 rfl ?_
        refine r_ic_gt C dX6_silverByRow_34 (fun c23 => ?_) (fun c23 => ?_)
        · skip
          have f24 : (n.toNatClampNeg < k) := nf_ltI (by omega) (by omega) hn rfl c23
          have e25 : s17 = R := by rw [hs17, d_X6_silverByRow_L31]; try exact (if_pos c23).trans (rfl)
          rw [e25] at kx18
          exact kx18 _ (.val (.int (nI k))) rfl trivial  hb19
        · skip
          have f26 : ¬ (n.toNatClampNeg < k) := nf_ltIn (by omega) (by omega) hn rfl c23
          refine r_aload C dX6_silverByRow_37 rfl ?_
          refine r_iload_n C dX6_silverByRow_39 rfl ?_
          refine r_iload_n C dX6_silverByRow_40 rfl ?_
          refine r_iload C dX6_silverByRow_41 rfl ?_
          obtain ⟨u27, hu27⟩ : ∃ r, r = d_X6_wayInRow row n (nI k) := ⟨_, rfl⟩
          refine r_callS0 C cw_X6_183 (fun l => c_X6_wayInRow l D row n (nI k) u27 hu27) (rest := [.ref ((o_b + 40) + 3 + k12)]) trivial (fun q h => h.elim) rfl rfl rfl (Nat.le_of_ble_eq_true rfl) ⟨Nat.le_of_ble_eq_true rfl, Nat.le_of_ble_eq_true rfl, Nat.le_refl 0, Nat.le_refl 0⟩ dX6_silverByRow_43 (fun v H28 hp29 hq30 => ?_)
          subst hp29
          have hb31 := blk_kept hb19 (n := 215) rfl (fun q h1 h2 => hq30 q (fun h => h))
          dsimp only [psh]
          refine r_put C hb31 (k := (43 + k12)) (kMain_43_1 _ fk14) (by omega) (by unfold fp1; omega) fw_X6_114 fp_5_6 (Or.inr rfl) dX6_silverByRow_46 (fun H32 hb34 hq33 => ?_)
          refine r_aload_n C dX6_silverByRow_49 rfl ?_
          refine r_get C hb34 (k := 0) rfl rfl celO_6 fw_X6_34 rfl dX6_silverByRow_50 ?_
          refine r_iconst C dX6_silverByRow_53 (1 : Int32) (by decide) ?_
          obtain ⟨u35, hu35⟩ : ∃ r, r = d_X3_goBy (shf (pt R (43 + k12) 6 u27) 40) (1 : Int32) := ⟨_, rfl⟩
          refine r_callV0 C cw_X6_150 (fun l => c_X3_goBy l D (o_b + 40) (shf (pt R (43 + k12) 6 u27) 40) (1 : Int32) (by decide) (by decide) u35 hu35) (rest := []) hb34 (k := 40) rfl rfl celO_3 (blk_sub hb34 40 15 rfl rfl) (fun q h => by unfold fp1 at h; unfold fp1; omega) rfl rfl rfl (Nat.le_of_ble_eq_true rfl) ⟨Nat.le_of_ble_eq_true rfl, Nat.le_of_ble_eq_true rfl, Nat.le_refl 0, Nat.le_refl 0⟩ dX6_silverByRow_54 (fun v H36 hp37 hq38 => ?_)
          obtain ⟨rfl, hn39⟩ := hp37
          have hb40 := blk_spl hb34 40 15 rfl rfl hn39 (fun q h => hq38 q (by unfold fp1; omega))
          dsimp only [psh]
          refine r_iinc C dX6_silverByRow_57 (nI (k + 1)) rfl (nI_inc k rfl) (ls' := [.val (.ref o_b), .val (.int t), .val (.int n), .val (.int row), .val (.ref ((o_b + 40) + 3 + k12)), .val (.int (nI (k + 1)))]) rfl ?_
          refine r_goto C dX6_silverByRow_60 ?_
          have e41 : s17 = d_X6_silverByRow_L31 n row k12 n15 (spl (pt R (43 + k12) 6 u27) 40 15 u35) (k + 1) := by rw [hs17, d_X6_silverByRow_L31]; try exact (if_neg c23).trans ((lt_eq hu27).trans ((lt_eq hu35).trans (rfl)))
          exact ih16 (spl (pt R (43 + k12) 6 u27) 40 15 u35) (k + 1) _  trivial (by omega) (by omega) (by omega) hb40 s17 e41  kx18
    obtain ⟨s42, hs42⟩ : ∃ r, r = d_X6_silverByRow_L31 n row k12 5 (spl R_b 40 15 u1) 1 := ⟨_, rfl⟩
    refine d_X6_silverByRow_L31_w 5 (spl R_b 40 15 u1) 1 _  trivial (by omega) (by omega) (by omega) hb11 s42 hs42  (fun H44 z21 hz21 e45  hb43 => ?_)
    refine r_aload C dX6_silverByRow_63 rfl ?_
    refine r_get C hb43 (k := (43 + k12)) (kMain_43_1 _ fk14) (by omega) celO_5 fw_X6_105 (z := .int (s42 (43 + k12) 3)) rfl dX6_silverByRow_65 ?_
    refine r_iret C dX6_silverByRow_68 ?_
    have er : res = ((s42 (43 + k12) 3), s42) := by rw [hres, d_X6_silverByRow]; try exact (lt_eq hu1).trans ((oc_some hu7').trans ((lt_eq hs42).trans (rfl)))
    rw [er]
    exact ⟨rfl, hb43⟩

def d_X6_trySpringOf (R_b : Nat → Nat → Int32) (t : Int32) (u : Int32) (two : Int32) : (Nat → Nat → Int32) :=
  lt (d_X3_copy (shf R_b 40) (shf R_b 22)) fun u1 =>
  oc (d_X3_townAt (shf (spl R_b 40 15 u1) 40) t) (
    oc (d_X3_townAt (shf (spl R_b 40 15 u1) 40) u) (
      (spl R_b 40 15 u1)) fun k19 =>
    (spl R_b 40 15 u1)) fun k12 =>
  oc (d_X3_townAt (shf (spl R_b 40 15 u1) 40) u) (
    (spl R_b 40 15 u1)) fun k28 =>
  if two < 0 then
    (spl R_b 40 15 u1)
  else
    if (nI 16) ≤ two then
      (spl R_b 40 15 u1)
    else
      if two < (nI 16) then
        lt (d_X3_goBy (shf (pt (pt (spl R_b 40 15 u1) (43 + k12) 6 (two / (4 : Int32))) (43 + k28) 6 (two - two / (4 : Int32) * (4 : Int32))) 40) (1 : Int32)) fun u40 =>
        (pt (pt (spl (pt (pt (spl R_b 40 15 u1) (43 + k12) 6 (two / (4 : Int32))) (43 + k28) 6 (two - two / (4 : Int32) * (4 : Int32))) 40 15 u40) 213 two.toNatClampNeg ((spl (pt (pt (spl R_b 40 15 u1) (43 + k12) 6 (two / (4 : Int32))) (43 + k28) 6 (two - two / (4 : Int32) * (4 : Int32))) 40 15 u40) (43 + k12) 3)) 214 two.toNatClampNeg ((pt (spl (pt (pt (spl R_b 40 15 u1) (43 + k12) 6 (two / (4 : Int32))) (43 + k28) 6 (two - two / (4 : Int32) * (4 : Int32))) 40 15 u40) 213 two.toNatClampNeg ((spl (pt (pt (spl R_b 40 15 u1) (43 + k12) 6 (two / (4 : Int32))) (43 + k28) 6 (two - two / (4 : Int32) * (4 : Int32))) 40 15 u40) (43 + k12) 3)) (43 + k28) 3))
      else
        (spl R_b 40 15 u1)
set_option maxHeartbeats 4000000 in
set_option maxRecDepth 100000 in
theorem c_X6_trySpringOf (l : Launch) (D : DD) (o_b : Nat) (R_b : Nat → Nat → Int32) (t : Int32) (u : Int32) (two : Int32)  (res : (Nat → Nat → Int32)) (hres : res = d_X6_trySpringOf R_b t u two) : Mt l D yX6_trySpringOf cX6_trySpringOf 6 none 5 114 0 0 [.ref o_b, .int t, .int u, .int two] (fun H => blk D ksMain o_b R_b H) (fun v H => v = none ∧ blk D ksMain o_b res H) (fp1 o_b 215) := by
  refine mt_of (own := RX6) (ls := [.val (.ref o_b), .val (.int t), .val (.int u), .val (.int two), .unset, .unset]) rfl (by decide +kernel) rfl ?_
  intro x H C hP
  have hb_b := hP
  refine r_aload_n C dX6_trySpringOf_0 rfl ?_
  refine r_get C hb_b (k := 0) rfl rfl celO_6 fw_X6_34 rfl dX6_trySpringOf_1 ?_
  refine r_aload_n C dX6_trySpringOf_4 rfl ?_
  refine r_get C hb_b (k := 0) rfl rfl celO_6 fw_X6_28 rfl dX6_trySpringOf_5 ?_
  obtain ⟨u1, hu1⟩ : ∃ r, r = d_X3_copy (shf R_b 40) (shf R_b 22) := ⟨_, rfl⟩
  refine r_callV0 C cw_X6_88 (fun l => c_X3_copy l D (o_b + 40) (o_b + 22) (shf R_b 40) (shf R_b 22) (by omega) u1 hu1) (rest := []) hb_b (k := 40) rfl rfl celO_3 ⟨(blk_sub hb_b 40 15 rfl rfl), (blk_sub hb_b 22 15 rfl rfl)⟩ (fun q h => by unfold fp1 at h; unfold fp1; omega) rfl rfl rfl (Nat.le_of_ble_eq_true rfl) ⟨Nat.le_of_ble_eq_true rfl, Nat.le_of_ble_eq_true rfl, Nat.le_refl 0, Nat.le_refl 0⟩ dX6_trySpringOf_8 (fun v H2 hp3 hq4 => ?_)
  obtain ⟨rfl, hn5⟩ := hp3
  have hb6 := blk_spl hb_b 40 15 rfl rfl hn5 (fun q h => hq4 q (by unfold fp1; omega))
  dsimp only [psh]
  refine r_aload_n C dX6_trySpringOf_11 rfl ?_
  refine r_get C hb6 (k := 0) rfl rfl celO_6 fw_X6_34 rfl dX6_trySpringOf_12 ?_
  refine r_iload_n C dX6_trySpringOf_15 rfl ?_
  obtain ⟨u7, hu7⟩ : ∃ r, r = d_X3_townAt (shf (spl R_b 40 15 u1) 40) t := ⟨_, rfl⟩
  refine r_callV0 C cw_X6_96 (fun l => c_X3_townAt l D (o_b + 40) (shf (spl R_b 40 15 u1) 40) t u7 hu7) (rest := []) hb6 (k := 40) rfl rfl celO_3 (blk_sub hb6 40 15 rfl rfl) (fun q h => h.elim) rfl rfl rfl (Nat.le_of_ble_eq_true rfl) ⟨Nat.le_of_ble_eq_true rfl, Nat.le_of_ble_eq_true rfl, Nat.le_refl 0, Nat.le_refl 0⟩ dX6_trySpringOf_16 (fun v H8 hp9 hq10 => ?_)
  subst hp9
  have hb11 := blk_kept hb6 (n := 215) rfl (fun q h1 h2 => hq10 q (fun h => h))
  obtain ho13 | ⟨k12, ho13⟩ := opt_or u7
  · have hu7' : d_X3_townAt (shf (spl R_b 40 15 u1) 40) t = none := by rw [← hu7, ho13]
    rw [ho13]; dsimp only [psh, optT, optC]
    refine r_astoreN C dX6_trySpringOf_19 (ls' := [.val (.ref o_b), .val (.int t), .val (.int u), .val (.int two), .val (.null), .unset]) rfl trivial rfl ?_
    refine r_aload_n C dX6_trySpringOf_21 rfl ?_
    refine r_get C hb11 (k := 0) rfl rfl celO_6 fw_X6_34 rfl dX6_trySpringOf_22 ?_
    refine r_iload_n C dX6_trySpringOf_25 rfl ?_
    obtain ⟨u14, hu14⟩ : ∃ r, r = d_X3_townAt (shf (spl R_b 40 15 u1) 40) u := ⟨_, rfl⟩
    refine r_callV0 C cw_X6_96 (fun l => c_X3_townAt l D (o_b + 40) (shf (spl R_b 40 15 u1) 40) u u14 hu14) (rest := []) hb11 (k := 40) rfl rfl celO_3 (blk_sub hb11 40 15 rfl rfl) (fun q h => h.elim) rfl rfl rfl (Nat.le_of_ble_eq_true rfl) ⟨Nat.le_of_ble_eq_true rfl, Nat.le_of_ble_eq_true rfl, Nat.le_refl 0, Nat.le_refl 0⟩ dX6_trySpringOf_26 (fun v H15 hp16 hq17 => ?_)
    subst hp16
    have hb18 := blk_kept hb11 (n := 215) rfl (fun q h1 h2 => hq17 q (fun h => h))
    obtain ho20 | ⟨k19, ho20⟩ := opt_or u14
    · have hu14' : d_X3_townAt (shf (spl R_b 40 15 u1) 40) u = none := by rw [← hu14, ho20]
      rw [ho20]; dsimp only [psh, optT, optC]
      refine r_astoreN C dX6_trySpringOf_29 (ls' := [.val (.ref o_b), .val (.int t), .val (.int u), .val (.int two), .val (.null), .val (.null)]) rfl trivial rfl ?_
      refine r_aloadN C dX6_trySpringOf_31 rfl ?_
      refine r_ifnullN C dX6_trySpringOf_33 ?_
      refine r_vret C dX6_trySpringOf_63 ?_
      have er : res = (spl R_b 40 15 u1) := by rw [hres, d_X6_trySpringOf]; try exact (lt_eq hu1).trans ((oc_none hu7').trans ((oc_none hu14').trans (rfl)))
      rw [er]
      exact ⟨rfl, hb18⟩
    · have hu14' : d_X3_townAt (shf (spl R_b 40 15 u1) 40) u = some k19 := by rw [← hu14, ho20]
      rw [ho20]; dsimp only [psh, optT, optC]
      have fk21 := X3_townAt_lt hu14'
      refine r_astore C dX6_trySpringOf_29 (ls' := [.val (.ref o_b), .val (.int t), .val (.int u), .val (.int two), .val (.null), .val (.ref ((o_b + 40) + 3 + k19))]) rfl trivial rfl ?_
      refine r_aloadN C dX6_trySpringOf_31 rfl ?_
      refine r_ifnullN C dX6_trySpringOf_33 ?_
      refine r_vret C dX6_trySpringOf_63 ?_
      have er : res = (spl R_b 40 15 u1) := by rw [hres, d_X6_trySpringOf]; try exact (lt_eq hu1).trans ((oc_none hu7').trans ((oc_some hu14').trans (rfl)))
      rw [er]
      exact ⟨rfl, hb18⟩
  · have hu7' : d_X3_townAt (shf (spl R_b 40 15 u1) 40) t = some k12 := by rw [← hu7, ho13]
    rw [ho13]; dsimp only [psh, optT, optC]
    have fk22 := X3_townAt_lt hu7'
    refine r_astore C dX6_trySpringOf_19 (ls' := [.val (.ref o_b), .val (.int t), .val (.int u), .val (.int two), .val (.ref ((o_b + 40) + 3 + k12)), .unset]) rfl trivial rfl ?_
    refine r_aload_n C dX6_trySpringOf_21 rfl ?_
    refine r_get C hb11 (k := 0) rfl rfl celO_6 fw_X6_34 rfl dX6_trySpringOf_22 ?_
    refine r_iload_n C dX6_trySpringOf_25 rfl ?_
    obtain ⟨u23, hu23⟩ : ∃ r, r = d_X3_townAt (shf (spl R_b 40 15 u1) 40) u := ⟨_, rfl⟩
    refine r_callV0 C cw_X6_96 (fun l => c_X3_townAt l D (o_b + 40) (shf (spl R_b 40 15 u1) 40) u u23 hu23) (rest := []) hb11 (k := 40) rfl rfl celO_3 (blk_sub hb11 40 15 rfl rfl) (fun q h => h.elim) rfl rfl rfl (Nat.le_of_ble_eq_true rfl) ⟨Nat.le_of_ble_eq_true rfl, Nat.le_of_ble_eq_true rfl, Nat.le_refl 0, Nat.le_refl 0⟩ dX6_trySpringOf_26 (fun v H24 hp25 hq26 => ?_)
    subst hp25
    have hb27 := blk_kept hb11 (n := 215) rfl (fun q h1 h2 => hq26 q (fun h => h))
    obtain ho29 | ⟨k28, ho29⟩ := opt_or u23
    · have hu23' : d_X3_townAt (shf (spl R_b 40 15 u1) 40) u = none := by rw [← hu23, ho29]
      rw [ho29]; dsimp only [psh, optT, optC]
      refine r_astoreN C dX6_trySpringOf_29 (ls' := [.val (.ref o_b), .val (.int t), .val (.int u), .val (.int two), .val (.ref ((o_b + 40) + 3 + k12)), .val (.null)]) rfl trivial rfl ?_
      refine r_aload C dX6_trySpringOf_31 rfl ?_
      refine r_ifnull C dX6_trySpringOf_33 ?_
      refine r_aloadN C dX6_trySpringOf_36 rfl ?_
      refine r_ifnullN C dX6_trySpringOf_38 ?_
      refine r_vret C dX6_trySpringOf_63 ?_
      have er : res = (spl R_b 40 15 u1) := by rw [hres, d_X6_trySpringOf]; try exact (lt_eq hu1).trans ((oc_some hu7').trans ((oc_none hu23').trans (rfl)))
      rw [er]
      exact ⟨rfl, hb27⟩
    · have hu23' : d_X3_townAt (shf (spl R_b 40 15 u1) 40) u = some k28 := by rw [← hu23, ho29]
      rw [ho29]; dsimp only [psh, optT, optC]
      have fk30 := X3_townAt_lt hu23'
      refine r_astore C dX6_trySpringOf_29 (ls' := [.val (.ref o_b), .val (.int t), .val (.int u), .val (.int two), .val (.ref ((o_b + 40) + 3 + k12)), .val (.ref ((o_b + 40) + 3 + k28))]) rfl trivial rfl ?_
      refine r_aload C dX6_trySpringOf_31 rfl ?_
      refine r_ifnull C dX6_trySpringOf_33 ?_
      refine r_aload C dX6_trySpringOf_36 rfl ?_
      refine r_ifnull C dX6_trySpringOf_38 ?_
      refine r_iload_n C dX6_trySpringOf_41 rfl ?_
      refine r_if_lt C dX6_trySpringOf_42 (fun c31 => ?_) (fun c31 => ?_)
      · skip
        refine r_vret C dX6_trySpringOf_63 ?_
        have er : res = (spl R_b 40 15 u1) := by rw [hres, d_X6_trySpringOf]; try exact (lt_eq hu1).trans ((oc_some hu7').trans ((oc_some hu23').trans ((if_pos c31).trans (rfl))))
        rw [er]
        exact ⟨rfl, hb27⟩
      · skip
        refine r_iload_n C dX6_trySpringOf_45 rfl ?_
        refine r_aload_n C dX6_trySpringOf_46 rfl ?_
        refine r_get C hb27 (k := 0) rfl rfl celO_6 fw_X6_56 rfl dX6_trySpringOf_47 ?_
        refine r_alen C hb27 (k := 213) rfl rfl 16 (Or.inl ⟨rfl, rfl⟩) dX6_trySpringOf_50 ?_
        refine r_ic_ge C dX6_trySpringOf_51 (fun c32 => ?_) (fun c32 => ?_)
        · skip
          refine r_vret C dX6_trySpringOf_63 ?_
          have er : res = (spl R_b 40 15 u1) := by rw [hres, d_X6_trySpringOf]; try exact (lt_eq hu1).trans ((oc_some hu7').trans ((oc_some hu23').trans ((if_neg c31).trans ((if_pos c32).trans (rfl)))))
          rw [er]
          exact ⟨rfl, hb27⟩
        · skip
          refine r_iload_n C dX6_trySpringOf_54 rfl ?_
          refine r_aload_n C dX6_trySpringOf_55 rfl ?_
          refine r_get C hb27 (k := 0) rfl rfl celO_6 fw_X6_60 rfl dX6_trySpringOf_56 ?_
          refine r_alen C hb27 (k := 214) rfl rfl 16 (Or.inl ⟨rfl, rfl⟩) dX6_trySpringOf_59 ?_
          refine r_ic_lt C dX6_trySpringOf_60 (fun c33 => ?_) (fun c33 => ?_)
          · skip
            refine r_aload C dX6_trySpringOf_64 rfl ?_
            refine r_iload_n C dX6_trySpringOf_66 rfl ?_
            refine r_iconst C dX6_trySpringOf_67 (4 : Int32) (by decide) ?_
            refine r_idiv C dX6_trySpringOf_68 (by decide) ?_
            refine r_put C hb27 (k := (43 + k12)) (kMain_43_1 _ fk22) (by omega) (by unfold fp1; omega) fw_X6_114 fp_5_6 (Or.inr rfl) dX6_trySpringOf_69 (fun H34 hb36 hq35 => ?_)
            refine r_aload C dX6_trySpringOf_72 rfl ?_
            refine r_iload_n C dX6_trySpringOf_74 rfl ?_
            refine r_iconst C dX6_trySpringOf_75 (4 : Int32) (by decide) ?_
            refine r_irem C dX6_trySpringOf_76 (by decide) ?_
            refine r_put C hb36 (k := (43 + k28)) (kMain_43_1 _ fk30) (by omega) (by unfold fp1; omega) fw_X6_114 fp_5_6 (Or.inr rfl) dX6_trySpringOf_77 (fun H37 hb39 hq38 => ?_)
            refine r_aload_n C dX6_trySpringOf_80 rfl ?_
            refine r_get C hb39 (k := 0) rfl rfl celO_6 fw_X6_34 rfl dX6_trySpringOf_81 ?_
            refine r_iconst C dX6_trySpringOf_84 (1 : Int32) (by decide) ?_
            obtain ⟨u40, hu40⟩ : ∃ r, r = d_X3_goBy (shf (pt (pt (spl R_b 40 15 u1) (43 + k12) 6 (two / (4 : Int32))) (43 + k28) 6 (two - two / (4 : Int32) * (4 : Int32))) 40) (1 : Int32) := ⟨_, rfl⟩
            refine r_callV0 C cw_X6_150 (fun l => c_X3_goBy l D (o_b + 40) (shf (pt (pt (spl R_b 40 15 u1) (43 + k12) 6 (two / (4 : Int32))) (43 + k28) 6 (two - two / (4 : Int32) * (4 : Int32))) 40) (1 : Int32) (by decide) (by decide) u40 hu40) (rest := []) hb39 (k := 40) rfl rfl celO_3 (blk_sub hb39 40 15 rfl rfl) (fun q h => by unfold fp1 at h; unfold fp1; omega) rfl rfl rfl (Nat.le_of_ble_eq_true rfl) ⟨Nat.le_of_ble_eq_true rfl, Nat.le_of_ble_eq_true rfl, Nat.le_refl 0, Nat.le_refl 0⟩ dX6_trySpringOf_85 (fun v H41 hp42 hq43 => ?_)
            obtain ⟨rfl, hn44⟩ := hp42
            have hb45 := blk_spl hb39 40 15 rfl rfl hn44 (fun q h => hq43 q (by unfold fp1; omega))
            dsimp only [psh]
            refine r_aload_n C dX6_trySpringOf_88 rfl ?_
            refine r_get C hb45 (k := 0) rfl rfl celO_6 fw_X6_56 rfl dX6_trySpringOf_89 ?_
            refine r_iload_n C dX6_trySpringOf_92 rfl ?_
            refine r_aload C dX6_trySpringOf_93 rfl ?_
            refine r_get C hb45 (k := (43 + k12)) (kMain_43_1 _ fk22) (by omega) celO_5 fw_X6_105 (z := .int ((spl (pt (pt (spl R_b 40 15 u1) (43 + k12) 6 (two / (4 : Int32))) (43 + k28) 6 (two - two / (4 : Int32) * (4 : Int32))) 40 15 u40) (43 + k12) 3)) rfl dX6_trySpringOf_95 ?_
            refine r_iast C hb45 (k := 213) rfl rfl (by unfold fp1; omega) (vp_in_lh (x_lo1 c31) (x_hi2 (N := 16) c33 (by omega)) (by omega)) (j := two.toNatClampNeg) rfl dX6_trySpringOf_98 (fun H46 hb48 hq47 => ?_)
            refine r_aload_n C dX6_trySpringOf_99 rfl ?_
            refine r_get C hb48 (k := 0) rfl rfl celO_6 fw_X6_60 rfl dX6_trySpringOf_100 ?_
            refine r_iload_n C dX6_trySpringOf_103 rfl ?_
            refine r_aload C dX6_trySpringOf_104 rfl ?_
            refine r_get C hb48 (k := (43 + k28)) (kMain_43_1 _ fk30) (by omega) celO_5 fw_X6_105 (z := .int ((pt (spl (pt (pt (spl R_b 40 15 u1) (43 + k12) 6 (two / (4 : Int32))) (43 + k28) 6 (two - two / (4 : Int32) * (4 : Int32))) 40 15 u40) 213 two.toNatClampNeg ((spl (pt (pt (spl R_b 40 15 u1) (43 + k12) 6 (two / (4 : Int32))) (43 + k28) 6 (two - two / (4 : Int32) * (4 : Int32))) 40 15 u40) (43 + k12) 3)) (43 + k28) 3)) rfl dX6_trySpringOf_106 ?_
            refine r_iast C hb48 (k := 214) rfl rfl (by unfold fp1; omega) (vp_in_lh (x_lo1 c31) (x_hi2 (N := 16) c33 (by omega)) (by omega)) (j := two.toNatClampNeg) rfl dX6_trySpringOf_109 (fun H49 hb51 hq50 => ?_)
            refine r_vret C dX6_trySpringOf_110 ?_
            have er : res = (pt (pt (spl (pt (pt (spl R_b 40 15 u1) (43 + k12) 6 (two / (4 : Int32))) (43 + k28) 6 (two - two / (4 : Int32) * (4 : Int32))) 40 15 u40) 213 two.toNatClampNeg ((spl (pt (pt (spl R_b 40 15 u1) (43 + k12) 6 (two / (4 : Int32))) (43 + k28) 6 (two - two / (4 : Int32) * (4 : Int32))) 40 15 u40) (43 + k12) 3)) 214 two.toNatClampNeg ((pt (spl (pt (pt (spl R_b 40 15 u1) (43 + k12) 6 (two / (4 : Int32))) (43 + k28) 6 (two - two / (4 : Int32) * (4 : Int32))) 40 15 u40) 213 two.toNatClampNeg ((spl (pt (pt (spl R_b 40 15 u1) (43 + k12) 6 (two / (4 : Int32))) (43 + k28) 6 (two - two / (4 : Int32) * (4 : Int32))) 40 15 u40) (43 + k12) 3)) (43 + k28) 3)) := by rw [hres, d_X6_trySpringOf]; try exact (lt_eq hu1).trans ((oc_some hu7').trans ((oc_some hu23').trans ((if_neg c31).trans ((if_neg c32).trans ((if_pos c33).trans ((lt_eq hu40).trans (rfl)))))))
            rw [er]
            exact ⟨rfl, hb51⟩
          · skip
            refine r_vret C dX6_trySpringOf_63 ?_
            have er : res = (spl R_b 40 15 u1) := by rw [hres, d_X6_trySpringOf]; try exact (lt_eq hu1).trans ((oc_some hu7').trans ((oc_some hu23').trans ((if_neg c31).trans ((if_neg c32).trans ((if_neg c33).trans (rfl))))))
            rw [er]
            exact ⟨rfl, hb27⟩

def d_X6_isRest_L11 (R_b : Nat → Nat → Int32) (two : Int32) : Nat → Nat → (Int32) ⊕ (Unit)
  | 0, _ => .inr ()
  | n1 + 1, k =>
    if (4 : Int32) ≤ (nI k) then
      .inr ()
    else
      lt (d_X6_hasMore (shf R_b 213) ((nI (k * 4)) + (two - two / (4 : Int32) * (4 : Int32))) two) fun u15 =>
      if u15 = 0 then
        lt (d_X6_hasMore (shf R_b 214) (((two / (4 : Int32)) * (4 : Int32)) + (nI k)) two) fun u22 =>
        if u22 = 0 then
          d_X6_isRest_L11 R_b two n1 (k + 1)
        else
          .inl (0 : Int32)
      else
        .inl (0 : Int32)
def d_X6_isRest (R_b : Nat → Nat → Int32) (two : Int32) : Int32 :=
  sc (d_X6_isRest_L11 R_b two 5 0) (fun r => r) fun w31 =>
  (1 : Int32)
set_option maxHeartbeats 4000000 in
set_option maxRecDepth 100000 in
theorem c_X6_isRest (l : Launch) (D : DD) (o_b : Nat) (R_b : Nat → Nat → Int32) (two : Int32)  (res : Int32) (hres : res = d_X6_isRest R_b two) : Mt l D yX6_isRest cX6_isRest 5 (some .boolean) 1 22 0 0 [.ref o_b, .int two] (fun H => blk D ksMain o_b R_b H) (fun v H => v = some (.int res) ∧ bl res) fp0 := by
  refine mt_of (own := RX6) (ls := [.val (.ref o_b), .val (.int two), .unset, .unset, .unset]) rfl (by decide +kernel) rfl ?_
  intro x H C hP
  have hb_b := hP
  refine r_iload_n C dX6_isRest_0 rfl ?_
  refine r_iconst C dX6_isRest_1 (4 : Int32) (by decide) ?_
  refine r_idiv C dX6_isRest_2 (by decide) ?_
  refine r_istore_n C dX6_isRest_3 (ls' := [.val (.ref o_b), .val (.int two), .val (.int (two / (4 : Int32))), .unset, .unset]) rfl trivial rfl ?_
  refine r_iload_n C dX6_isRest_4 rfl ?_
  refine r_iconst C dX6_isRest_5 (4 : Int32) (by decide) ?_
  refine r_irem C dX6_isRest_6 (by decide) ?_
  refine r_istore_n C dX6_isRest_7 (ls' := [.val (.ref o_b), .val (.int two), .val (.int (two / (4 : Int32))), .val (.int (two - two / (4 : Int32) * (4 : Int32))), .unset]) rfl trivial rfl ?_
  refine r_iconst C dX6_isRest_8 (0 : Int32) (by decide) ?_
  refine r_istore C dX6_isRest_9 (ls' := [.val (.ref o_b), .val (.int two), .val (.int (two / (4 : Int32))), .val (.int (two - two / (4 : Int32) * (4 : Int32))), .val (.int (0 : Int32))]) rfl trivial rfl ?_
  have d_X6_isRest_L11_w : ∀ (n1 : Nat) (k : Nat) (H6 : Heap), True → (k ≤ 4) → (4 - k < n1) → blk D ksMain o_b R_b H6 → ∀ s3 : (Int32) ⊕ (Unit), s3 = d_X6_isRest_L11 R_b two n1 k → (∀ r, s3 = .inl r → res = r) → (∀ (w7 : Unit) (H' : Heap) (z8 : Slot) (_ : slot1 z8), s3 = .inr w7 → blk D ksMain o_b R_b H' → WG x fp0 (Fin x (fun v H => v = some (.int res) ∧ bl res) fp0 0 0) H' 0 0 59 [.val (.ref o_b), .val (.int two), .val (.int (two / (4 : Int32))), .val (.int (two - two / (4 : Int32) * (4 : Int32))), z8] []) → WG x fp0 (Fin x (fun v H => v = some (.int res) ∧ bl res) fp0 0 0) H6 0 0 11 [.val (.ref o_b), .val (.int two), .val (.int (two / (4 : Int32))), .val (.int (two - two / (4 : Int32) * (4 : Int32))), .val (.int (nI k))] [] := by
    intro n1
    induction n1 with
    | zero => intro k H6  _ hk hm9; exact absurd hm9 (Nat.not_lt_zero _)
    | succ n1 ih2 =>
      intro k H6  _ hk hm9 hb5 s3 hs3 hr10 kx4
      refine r_iload C dX6_isRest_11 rfl ?_
      refine r_iconst C dX6_isRest_13 (4 : Int32) (by decide) ?_
      refine r_ic_ge C dX6_isRest_14 (fun c11 => ?_) (fun c11 => ?_)
      · skip
        have f12 : (4 ≤ k) := nf_leI (by omega) (by omega) rfl rfl c11
        have e13 : s3 = .inr () := by rw [hs3, d_X6_isRest_L11]; try exact (if_pos c11).trans (rfl)
        exact kx4 () _ (.val (.int (nI k))) rfl e13  hb5
      · skip
        have f14 : ¬ (4 ≤ k) := nf_leIn (by omega) (by omega) rfl rfl c11
        refine r_aload_n C dX6_isRest_17 rfl ?_
        refine r_get C hb5 (k := 0) rfl rfl celO_6 fw_X6_56 rfl dX6_isRest_18 ?_
        refine r_iload C dX6_isRest_21 rfl ?_
        refine r_iconst C dX6_isRest_23 (4 : Int32) (by decide) ?_
        refine r_imulN C dX6_isRest_24 (na := k) (nb := 4) rfl rfl (nc := (k * 4)) rfl ?_
        refine r_iload_n C dX6_isRest_25 rfl ?_
        refine r_iadd C dX6_isRest_26 ?_
        refine r_iload_n C dX6_isRest_27 rfl ?_
        obtain ⟨u15, hu15⟩ : ∃ r, r = d_X6_hasMore (shf R_b 213) ((nI (k * 4)) + (two - two / (4 : Int32) * (4 : Int32))) two := ⟨_, rfl⟩
        refine r_callS0 C cw_X6_226 (fun l => c_X6_hasMore l D (o_b + 213) (shf R_b 213) ((nI (k * 4)) + (two - two / (4 : Int32) * (4 : Int32))) two u15 hu15) (rest := []) (blk_sub hb5 213 1 rfl rfl) (fun q h => h.elim) rfl rfl rfl (Nat.le_of_ble_eq_true rfl) ⟨Nat.le_of_ble_eq_true rfl, Nat.le_of_ble_eq_true rfl, Nat.le_refl 0, Nat.le_refl 0⟩ dX6_isRest_28 (fun v H16 hp17 hq18 => ?_)
        obtain ⟨rfl, hl19⟩ := hp17
        have hb20 := blk_kept hb5 (n := 215) rfl (fun q h1 h2 => hq18 q (fun h => h))
        dsimp only [psh]
        refine r_if_ne C dX6_isRest_31 (fun c21 => ?_) (fun c21 => ?_)
        · skip
          refine r_iconst C dX6_isRest_51 (0 : Int32) (by decide) ?_
          refine r_zret C dX6_isRest_52 (Or.inl rfl) ?_
          have er : res = (0 : Int32) := hr10 _ (by rw [hs3, d_X6_isRest_L11]; try exact (if_neg c11).trans ((lt_eq hu15).trans ((if_neg c21).trans (rfl))))
          rw [er]
          exact ⟨rfl, (Or.inl rfl)⟩
        · skip
          refine r_aload_n C dX6_isRest_34 rfl ?_
          refine r_get C hb20 (k := 0) rfl rfl celO_6 fw_X6_60 rfl dX6_isRest_35 ?_
          refine r_iload_n C dX6_isRest_38 rfl ?_
          refine r_iconst C dX6_isRest_39 (4 : Int32) (by decide) ?_
          refine r_imul C dX6_isRest_40 ?_
          refine r_iload C dX6_isRest_41 rfl ?_
          refine r_iadd C dX6_isRest_43 ?_
          refine r_iload_n C dX6_isRest_44 rfl ?_
          obtain ⟨u22, hu22⟩ : ∃ r, r = d_X6_hasMore (shf R_b 214) (((two / (4 : Int32)) * (4 : Int32)) + (nI k)) two := ⟨_, rfl⟩
          refine r_callS0 C cw_X6_226 (fun l => c_X6_hasMore l D (o_b + 214) (shf R_b 214) (((two / (4 : Int32)) * (4 : Int32)) + (nI k)) two u22 hu22) (rest := []) (blk_sub hb20 214 1 rfl rfl) (fun q h => h.elim) rfl rfl rfl (Nat.le_of_ble_eq_true rfl) ⟨Nat.le_of_ble_eq_true rfl, Nat.le_of_ble_eq_true rfl, Nat.le_refl 0, Nat.le_refl 0⟩ dX6_isRest_45 (fun v H23 hp24 hq25 => ?_)
          obtain ⟨rfl, hl26⟩ := hp24
          have hb27 := blk_kept hb20 (n := 215) rfl (fun q h1 h2 => hq25 q (fun h => h))
          dsimp only [psh]
          refine r_if_eq C dX6_isRest_48 (fun c28 => ?_) (fun c28 => ?_)
          · skip
            refine r_iinc C dX6_isRest_53 (nI (k + 1)) rfl (nI_inc k rfl) (ls' := [.val (.ref o_b), .val (.int two), .val (.int (two / (4 : Int32))), .val (.int (two - two / (4 : Int32) * (4 : Int32))), .val (.int (nI (k + 1)))]) rfl ?_
            refine r_goto C dX6_isRest_56 ?_
            have e29 : s3 = d_X6_isRest_L11 R_b two n1 (k + 1) := by rw [hs3, d_X6_isRest_L11]; try exact (if_neg c11).trans ((lt_eq hu15).trans ((if_pos c21).trans ((lt_eq hu22).trans ((if_pos c28).trans (rfl)))))
            exact ih2 (k + 1) _  trivial (by omega) (by omega) hb27 s3 e29 hr10 kx4
          · skip
            refine r_iconst C dX6_isRest_51 (0 : Int32) (by decide) ?_
            refine r_zret C dX6_isRest_52 (Or.inl rfl) ?_
            have er : res = (0 : Int32) := hr10 _ (by rw [hs3, d_X6_isRest_L11]; try exact (if_neg c11).trans ((lt_eq hu15).trans ((if_pos c21).trans ((lt_eq hu22).trans ((if_neg c28).trans (rfl))))))
            rw [er]
            exact ⟨rfl, (Or.inl rfl)⟩
  obtain ⟨s30, hs30⟩ : ∃ r, r = d_X6_isRest_L11 R_b two 5 0 := ⟨_, rfl⟩
  refine d_X6_isRest_L11_w 5 0 _  trivial (by omega) (by omega) hb_b s30 hs30 (fun r e => by rw [hres, d_X6_isRest]; exact sc_inl (hs30.symm.trans e)) (fun w31 H33 z8 hz8 e34  hb32 => ?_)
  have hx35 : d_X6_isRest_L11 R_b two 5 0 = .inr w31 := hs30.symm.trans e34
  refine r_iconst C dX6_isRest_59 (1 : Int32) (by decide) ?_
  refine r_zret C dX6_isRest_60 (Or.inr rfl) ?_
  have er : res = (1 : Int32) := by rw [hres, d_X6_isRest]; try exact (sc_inr hx35).trans (rfl)
  rw [er]
  exact ⟨rfl, (Or.inr rfl)⟩

def d_X6_standsWith (R_b : Nat → Nat → Int32) (t : Int32) (walls : Int32) (n : Int32) : Int32 × (Nat → Nat → Int32) :=
  lt (d_X3_copy (shf R_b 40) (shf R_b 22)) fun u1 =>
  oc (d_X3_townAt (shf (spl R_b 40 15 u1) 40) t) (
    ((0 : Int32), (spl R_b 40 15 u1))) fun k12 =>
  lt (d_X3_goBy (shf (pt (spl R_b 40 15 u1) (43 + k12) 5 walls) 40) n) fun u18 =>
  if ((spl (pt (spl R_b 40 15 u1) (43 + k12) 5 walls) 40 15 u18) (43 + k12) 1) = 0 then
    ((1 : Int32), (spl (pt (spl R_b 40 15 u1) (43 + k12) 5 walls) 40 15 u18))
  else
    ((0 : Int32), (spl (pt (spl R_b 40 15 u1) (43 + k12) 5 walls) 40 15 u18))
set_option maxHeartbeats 4000000 in
set_option maxRecDepth 100000 in
theorem c_X6_standsWith (l : Launch) (D : DD) (o_b : Nat) (R_b : Nat → Nat → Int32) (t : Int32) (walls : Int32) (n : Int32) (hn : n = nI n.toNatClampNeg) (hln : n.toNatClampNeg ≤ 1000) (res : Int32 × (Nat → Nat → Int32)) (hres : res = d_X6_standsWith R_b t walls n) : Mt l D yX6_standsWith cX6_standsWith 5 (some .boolean) 5 114 0 0 [.ref o_b, .int t, .int walls, .int n] (fun H => blk D ksMain o_b R_b H) (fun v H => v = some (.int res.1) ∧ bl res.1 ∧ blk D ksMain o_b res.2 H) (fp1 o_b 215) := by
  refine mt_of (own := RX6) (ls := [.val (.ref o_b), .val (.int t), .val (.int walls), .val (.int n), .unset]) rfl (by decide +kernel) rfl ?_
  intro x H C hP
  have hb_b := hP
  refine r_aload_n C dX6_standsWith_0 rfl ?_
  refine r_get C hb_b (k := 0) rfl rfl celO_6 fw_X6_34 rfl dX6_standsWith_1 ?_
  refine r_aload_n C dX6_standsWith_4 rfl ?_
  refine r_get C hb_b (k := 0) rfl rfl celO_6 fw_X6_28 rfl dX6_standsWith_5 ?_
  obtain ⟨u1, hu1⟩ : ∃ r, r = d_X3_copy (shf R_b 40) (shf R_b 22) := ⟨_, rfl⟩
  refine r_callV0 C cw_X6_88 (fun l => c_X3_copy l D (o_b + 40) (o_b + 22) (shf R_b 40) (shf R_b 22) (by omega) u1 hu1) (rest := []) hb_b (k := 40) rfl rfl celO_3 ⟨(blk_sub hb_b 40 15 rfl rfl), (blk_sub hb_b 22 15 rfl rfl)⟩ (fun q h => by unfold fp1 at h; unfold fp1; omega) rfl rfl rfl (Nat.le_of_ble_eq_true rfl) ⟨Nat.le_of_ble_eq_true rfl, Nat.le_of_ble_eq_true rfl, Nat.le_refl 0, Nat.le_refl 0⟩ dX6_standsWith_8 (fun v H2 hp3 hq4 => ?_)
  obtain ⟨rfl, hn5⟩ := hp3
  have hb6 := blk_spl hb_b 40 15 rfl rfl hn5 (fun q h => hq4 q (by unfold fp1; omega))
  dsimp only [psh]
  refine r_aload_n C dX6_standsWith_11 rfl ?_
  refine r_get C hb6 (k := 0) rfl rfl celO_6 fw_X6_34 rfl dX6_standsWith_12 ?_
  refine r_iload_n C dX6_standsWith_15 rfl ?_
  obtain ⟨u7, hu7⟩ : ∃ r, r = d_X3_townAt (shf (spl R_b 40 15 u1) 40) t := ⟨_, rfl⟩
  refine r_callV0 C cw_X6_96 (fun l => c_X3_townAt l D (o_b + 40) (shf (spl R_b 40 15 u1) 40) t u7 hu7) (rest := []) hb6 (k := 40) rfl rfl celO_3 (blk_sub hb6 40 15 rfl rfl) (fun q h => h.elim) rfl rfl rfl (Nat.le_of_ble_eq_true rfl) ⟨Nat.le_of_ble_eq_true rfl, Nat.le_of_ble_eq_true rfl, Nat.le_refl 0, Nat.le_refl 0⟩ dX6_standsWith_16 (fun v H8 hp9 hq10 => ?_)
  subst hp9
  have hb11 := blk_kept hb6 (n := 215) rfl (fun q h1 h2 => hq10 q (fun h => h))
  obtain ho13 | ⟨k12, ho13⟩ := opt_or u7
  · have hu7' : d_X3_townAt (shf (spl R_b 40 15 u1) 40) t = none := by rw [← hu7, ho13]
    rw [ho13]; dsimp only [psh, optT, optC]
    refine r_astoreN C dX6_standsWith_19 (ls' := [.val (.ref o_b), .val (.int t), .val (.int walls), .val (.int n), .val (.null)]) rfl trivial rfl ?_
    refine r_aloadN C dX6_standsWith_21 rfl ?_
    refine r_ifnonnullN C dX6_standsWith_23 ?_
    refine r_iconst C dX6_standsWith_26 (0 : Int32) (by decide) ?_
    refine r_zret C dX6_standsWith_27 (Or.inl rfl) ?_
    have er : res = ((0 : Int32), (spl R_b 40 15 u1)) := by rw [hres, d_X6_standsWith]; try exact (lt_eq hu1).trans ((oc_none hu7').trans (rfl))
    rw [er]
    exact ⟨rfl, (Or.inl rfl), hb11⟩
  · have hu7' : d_X3_townAt (shf (spl R_b 40 15 u1) 40) t = some k12 := by rw [← hu7, ho13]
    rw [ho13]; dsimp only [psh, optT, optC]
    have fk14 := X3_townAt_lt hu7'
    refine r_astore C dX6_standsWith_19 (ls' := [.val (.ref o_b), .val (.int t), .val (.int walls), .val (.int n), .val (.ref ((o_b + 40) + 3 + k12))]) rfl trivial rfl ?_
    refine r_aload C dX6_standsWith_21 rfl ?_
    refine r_ifnonnull C dX6_standsWith_23 ?_
    refine r_aload C dX6_standsWith_28 rfl ?_
    refine r_iload_n C dX6_standsWith_30 rfl ?_
    refine r_put C hb11 (k := (43 + k12)) (kMain_43_1 _ fk14) (by omega) (by unfold fp1; omega) fw_X6_111 fp_5_5 (Or.inr rfl) dX6_standsWith_31 (fun H15 hb17 hq16 => ?_)
    refine r_aload_n C dX6_standsWith_34 rfl ?_
    refine r_get C hb17 (k := 0) rfl rfl celO_6 fw_X6_34 rfl dX6_standsWith_35 ?_
    refine r_iload_n C dX6_standsWith_38 rfl ?_
    obtain ⟨u18, hu18⟩ : ∃ r, r = d_X3_goBy (shf (pt (spl R_b 40 15 u1) (43 + k12) 5 walls) 40) n := ⟨_, rfl⟩
    refine r_callV0 C cw_X6_150 (fun l => c_X3_goBy l D (o_b + 40) (shf (pt (spl R_b 40 15 u1) (43 + k12) 5 walls) 40) n hn (by omega) u18 hu18) (rest := []) hb17 (k := 40) rfl rfl celO_3 (blk_sub hb17 40 15 rfl rfl) (fun q h => by unfold fp1 at h; unfold fp1; omega) rfl rfl rfl (Nat.le_of_ble_eq_true rfl) ⟨Nat.le_of_ble_eq_true rfl, Nat.le_of_ble_eq_true rfl, Nat.le_refl 0, Nat.le_refl 0⟩ dX6_standsWith_39 (fun v H19 hp20 hq21 => ?_)
    obtain ⟨rfl, hn22⟩ := hp20
    have hb23 := blk_spl hb17 40 15 rfl rfl hn22 (fun q h => hq21 q (by unfold fp1; omega))
    dsimp only [psh]
    refine r_aload C dX6_standsWith_42 rfl ?_
    refine r_get C hb23 (k := (43 + k12)) (kMain_43_1 _ fk14) (by omega) celO_5 fw_X6_117 (z := .int ((spl (pt (spl R_b 40 15 u1) (43 + k12) 5 walls) 40 15 u18) (43 + k12) 1)) rfl dX6_standsWith_44 ?_
    refine r_if_ne C dX6_standsWith_47 (fun c24 => ?_) (fun c24 => ?_)
    · skip
      refine r_iconst C dX6_standsWith_54 (0 : Int32) (by decide) ?_
      refine r_zret C dX6_standsWith_55 (Or.inl rfl) ?_
      have er : res = ((0 : Int32), (spl (pt (spl R_b 40 15 u1) (43 + k12) 5 walls) 40 15 u18)) := by rw [hres, d_X6_standsWith]; try exact (lt_eq hu1).trans ((oc_some hu7').trans ((lt_eq hu18).trans ((if_neg c24).trans (rfl))))
      rw [er]
      exact ⟨rfl, (Or.inl rfl), hb23⟩
    · skip
      refine r_iconst C dX6_standsWith_50 (1 : Int32) (by decide) ?_
      refine r_goto C dX6_standsWith_51 ?_
      refine r_zret C dX6_standsWith_55 (Or.inr rfl) ?_
      have er : res = ((1 : Int32), (spl (pt (spl R_b 40 15 u1) (43 + k12) 5 walls) 40 15 u18)) := by rw [hres, d_X6_standsWith]; try exact (lt_eq hu1).trans ((oc_some hu7').trans ((lt_eq hu18).trans ((if_pos c24).trans (rfl))))
      rw [er]
      exact ⟨rfl, (Or.inr rfl), hb23⟩

def d_X6_wouldBeFound_L43 (u18 : Int32) : Nat → (Nat → Nat → Int32) → Nat → (Int32 × (Nat → Nat → Int32)) ⊕ ((Nat → Nat → Int32))
  | 0, R, _ => .inr R
  | n25 + 1, R, spring =>
    if u18 < (nI spring) then
      .inr R
    else
      lt (d_X3_goBy (shf R 40) (1 : Int32)) fun u39 =>
      lt (d_X1_agree (shf (spl R 40 15 u39) 209) (shf (spl R 40 15 u39) 40) (nI spring)) fun u45 =>
      if u45 = 0 then
        .inl ((0 : Int32), (spl R 40 15 u39))
      else
        d_X6_wouldBeFound_L43 u18 n25 (spl R 40 15 u39) (spring + 1)
def d_X6_wouldBeFound (R_b : Nat → Nat → Int32) (t : Int32) (silver : Int32) : Int32 × (Nat → Nat → Int32) :=
  lt (d_X3_copy (shf R_b 40) (shf R_b 4)) fun u1 =>
  oc (d_X3_townAt (shf (spl R_b 40 15 u1) 40) t) (
    ((0 : Int32), (spl R_b 40 15 u1))) fun k12 =>
  lt (d_X1_lastSpring (shf (pt (spl R_b 40 15 u1) (43 + k12) 3 silver) 209)) fun u18 =>
  sc (d_X6_wouldBeFound_L43 u18 22 (pt (spl R_b 40 15 u1) (43 + k12) 3 silver) 1) (fun r => r) fun w54 =>
  ((1 : Int32), w54)
set_option maxHeartbeats 4000000 in
set_option maxRecDepth 100000 in
theorem c_X6_wouldBeFound (l : Launch) (D : DD) (o_b : Nat) (R_b : Nat → Nat → Int32) (t : Int32) (silver : Int32) (hfs : ∀ i, i < 6 → R_b 211 i = nI (R_b 211 i).toNatClampNeg ∧ (R_b 211 i).toNatClampNeg ≤ 20) (res : Int32 × (Nat → Nat → Int32)) (hres : res = d_X6_wouldBeFound R_b t silver) : Mt l D yX6_wouldBeFound cX6_wouldBeFound 6 (some .boolean) 5 114 0 0 [.ref o_b, .int t, .int silver] (fun H => blk D ksMain o_b R_b H) (fun v H => v = some (.int res.1) ∧ bl res.1 ∧ blk D ksMain o_b res.2 H) (fp1 o_b 215) := by
  refine mt_of (own := RX6) (ls := [.val (.ref o_b), .val (.int t), .val (.int silver), .unset, .unset, .unset]) rfl (by decide +kernel) rfl ?_
  intro x H C hP
  have hb_b := hP
  refine r_aload_n C dX6_wouldBeFound_0 rfl ?_
  refine r_get C hb_b (k := 0) rfl rfl celO_6 fw_X6_34 rfl dX6_wouldBeFound_1 ?_
  refine r_aload_n C dX6_wouldBeFound_4 rfl ?_
  refine r_get C hb_b (k := 0) rfl rfl celO_6 fw_X6_24 rfl dX6_wouldBeFound_5 ?_
  obtain ⟨u1, hu1⟩ : ∃ r, r = d_X3_copy (shf R_b 40) (shf R_b 4) := ⟨_, rfl⟩
  refine r_callV0 C cw_X6_88 (fun l => c_X3_copy l D (o_b + 40) (o_b + 4) (shf R_b 40) (shf R_b 4) (by omega) u1 hu1) (rest := []) hb_b (k := 40) rfl rfl celO_3 ⟨(blk_sub hb_b 40 15 rfl rfl), (blk_sub hb_b 4 15 rfl rfl)⟩ (fun q h => by unfold fp1 at h; unfold fp1; omega) rfl rfl rfl (Nat.le_of_ble_eq_true rfl) ⟨Nat.le_of_ble_eq_true rfl, Nat.le_of_ble_eq_true rfl, Nat.le_refl 0, Nat.le_refl 0⟩ dX6_wouldBeFound_8 (fun v H2 hp3 hq4 => ?_)
  obtain ⟨rfl, hn5⟩ := hp3
  have hb6 := blk_spl hb_b 40 15 rfl rfl hn5 (fun q h => hq4 q (by unfold fp1; omega))
  dsimp only [psh]
  refine r_aload_n C dX6_wouldBeFound_11 rfl ?_
  refine r_get C hb6 (k := 0) rfl rfl celO_6 fw_X6_34 rfl dX6_wouldBeFound_12 ?_
  refine r_iload_n C dX6_wouldBeFound_15 rfl ?_
  obtain ⟨u7, hu7⟩ : ∃ r, r = d_X3_townAt (shf (spl R_b 40 15 u1) 40) t := ⟨_, rfl⟩
  refine r_callV0 C cw_X6_96 (fun l => c_X3_townAt l D (o_b + 40) (shf (spl R_b 40 15 u1) 40) t u7 hu7) (rest := []) hb6 (k := 40) rfl rfl celO_3 (blk_sub hb6 40 15 rfl rfl) (fun q h => h.elim) rfl rfl rfl (Nat.le_of_ble_eq_true rfl) ⟨Nat.le_of_ble_eq_true rfl, Nat.le_of_ble_eq_true rfl, Nat.le_refl 0, Nat.le_refl 0⟩ dX6_wouldBeFound_16 (fun v H8 hp9 hq10 => ?_)
  subst hp9
  have hb11 := blk_kept hb6 (n := 215) rfl (fun q h1 h2 => hq10 q (fun h => h))
  obtain ho13 | ⟨k12, ho13⟩ := opt_or u7
  · have hu7' : d_X3_townAt (shf (spl R_b 40 15 u1) 40) t = none := by rw [← hu7, ho13]
    rw [ho13]; dsimp only [psh, optT, optC]
    refine r_astore_nN C dX6_wouldBeFound_19 (ls' := [.val (.ref o_b), .val (.int t), .val (.int silver), .val (.null), .unset, .unset]) rfl trivial rfl ?_
    refine r_aload_nN C dX6_wouldBeFound_20 rfl ?_
    refine r_ifnonnullN C dX6_wouldBeFound_21 ?_
    refine r_iconst C dX6_wouldBeFound_24 (0 : Int32) (by decide) ?_
    refine r_zret C dX6_wouldBeFound_25 (Or.inl rfl) ?_
    have er : res = ((0 : Int32), (spl R_b 40 15 u1)) := by rw [hres, d_X6_wouldBeFound]; try exact (lt_eq hu1).trans ((oc_none hu7').trans (rfl))
    rw [er]
    exact ⟨rfl, (Or.inl rfl), hb11⟩
  · have hu7' : d_X3_townAt (shf (spl R_b 40 15 u1) 40) t = some k12 := by rw [← hu7, ho13]
    rw [ho13]; dsimp only [psh, optT, optC]
    have fk14 := X3_townAt_lt hu7'
    refine r_astore_n C dX6_wouldBeFound_19 (ls' := [.val (.ref o_b), .val (.int t), .val (.int silver), .val (.ref ((o_b + 40) + 3 + k12)), .unset, .unset]) rfl trivial rfl ?_
    refine r_aload_n C dX6_wouldBeFound_20 rfl ?_
    refine r_ifnonnull C dX6_wouldBeFound_21 ?_
    refine r_aload_n C dX6_wouldBeFound_26 rfl ?_
    refine r_iload_n C dX6_wouldBeFound_27 rfl ?_
    refine r_put C hb11 (k := (43 + k12)) (kMain_43_1 _ fk14) (by omega) (by unfold fp1; omega) fw_X6_105 fp_5_3 (Or.inr rfl) dX6_wouldBeFound_28 (fun H15 hb17 hq16 => ?_)
    refine r_aload_n C dX6_wouldBeFound_31 rfl ?_
    refine r_get C hb17 (k := 0) rfl rfl celO_6 fw_X6_52 rfl dX6_wouldBeFound_32 ?_
    obtain ⟨u18, hu18⟩ : ∃ r, r = d_X1_lastSpring (shf (pt (spl R_b 40 15 u1) (43 + k12) 3 silver) 209) := ⟨_, rfl⟩
    refine r_callV0 C cw_X6_230 (fun l => c_X1_lastSpring l D (o_b + 209) (shf (pt (spl R_b 40 15 u1) (43 + k12) 3 silver) 209) u18 hu18) (rest := []) hb17 (k := 209) rfl rfl celO_1 (blk_sub hb17 209 4 rfl rfl) (fun q h => h.elim) rfl rfl rfl (Nat.le_of_ble_eq_true rfl) ⟨Nat.le_of_ble_eq_true rfl, Nat.le_of_ble_eq_true rfl, Nat.le_refl 0, Nat.le_refl 0⟩ dX6_wouldBeFound_35 (fun v H19 hp20 hq21 => ?_)
    subst hp20
    obtain ⟨hn22, hn23⟩ := X1_lastSpring_nat hu18 (fun i hi => by have := hfs i hi; simp only [shf]; rw [pt_k (by omega), spl_out (by omega)]; exact this)
    have hb24 := blk_kept hb17 (n := 215) rfl (fun q h1 h2 => hq21 q (fun h => h))
    dsimp only [psh]
    refine r_istore C dX6_wouldBeFound_38 (ls' := [.val (.ref o_b), .val (.int t), .val (.int silver), .val (.ref ((o_b + 40) + 3 + k12)), .val (.int u18), .unset]) rfl trivial rfl ?_
    refine r_iconst C dX6_wouldBeFound_40 (1 : Int32) (by decide) ?_
    refine r_istore C dX6_wouldBeFound_41 (ls' := [.val (.ref o_b), .val (.int t), .val (.int silver), .val (.ref ((o_b + 40) + 3 + k12)), .val (.int u18), .val (.int (1 : Int32))]) rfl trivial rfl ?_
    have d_X6_wouldBeFound_L43_w : ∀ (n25 : Nat) (R : Nat → Nat → Int32) (spring : Nat) (H30 : Heap), True → (spring ≤ 21) → (1 ≤ spring) → (21 - spring < n25) → blk D ksMain o_b R H30 → ∀ s27 : (Int32 × (Nat → Nat → Int32)) ⊕ ((Nat → Nat → Int32)), s27 = d_X6_wouldBeFound_L43 u18 n25 R spring → (∀ r, s27 = .inl r → res = r) → (∀ (w31 : (Nat → Nat → Int32)) (H' : Heap) (z32 : Slot) (_ : slot1 z32), s27 = .inr w31 → blk D ksMain o_b w31 H' → WG x (fp1 o_b 215) (Fin x (fun v H => v = some (.int res.1) ∧ bl res.1 ∧ blk D ksMain o_b res.2 H) (fp1 o_b 215) 0 0) H' 0 0 82 [.val (.ref o_b), .val (.int t), .val (.int silver), .val (.ref ((o_b + 40) + 3 + k12)), .val (.int u18), z32] []) → WG x (fp1 o_b 215) (Fin x (fun v H => v = some (.int res.1) ∧ bl res.1 ∧ blk D ksMain o_b res.2 H) (fp1 o_b 215) 0 0) H30 0 0 43 [.val (.ref o_b), .val (.int t), .val (.int silver), .val (.ref ((o_b + 40) + 3 + k12)), .val (.int u18), .val (.int (nI spring))] [] := by
      intro n25
      induction n25 with
      | zero => intro R spring H30  _ hs hs1 hm33; exact absurd hm33 (Nat.not_lt_zero _)
      | succ n25 ih26 =>
        intro R spring H30  _ hs hs1 hm33 hb29 s27 hs27 hr34 kx28
        refine r_iload C dX6_wouldBeFound_43 rfl ?_
        refine r_iload C dX6_wouldBeFound_45 rfl ?_
        refine r_ic_gt C dX6_wouldBeFound_47 (fun c35 => ?_) (fun c35 => ?_)
        · skip
          have f36 : (u18.toNatClampNeg < spring) := nf_ltI (by omega) (by omega) hn22 rfl c35
          have e37 : s27 = .inr R := by rw [hs27, d_X6_wouldBeFound_L43]; try exact (if_pos c35).trans (rfl)
          exact kx28 R _ (.val (.int (nI spring))) rfl e37  hb29
        · skip
          have f38 : ¬ (u18.toNatClampNeg < spring) := nf_ltIn (by omega) (by omega) hn22 rfl c35
          refine r_aload_n C dX6_wouldBeFound_50 rfl ?_
          refine r_get C hb29 (k := 0) rfl rfl celO_6 fw_X6_34 rfl dX6_wouldBeFound_51 ?_
          refine r_iconst C dX6_wouldBeFound_54 (1 : Int32) (by decide) ?_
          obtain ⟨u39, hu39⟩ : ∃ r, r = d_X3_goBy (shf R 40) (1 : Int32) := ⟨_, rfl⟩
          refine r_callV0 C cw_X6_150 (fun l => c_X3_goBy l D (o_b + 40) (shf R 40) (1 : Int32) (by decide) (by decide) u39 hu39) (rest := []) hb29 (k := 40) rfl rfl celO_3 (blk_sub hb29 40 15 rfl rfl) (fun q h => by unfold fp1 at h; unfold fp1; omega) rfl rfl rfl (Nat.le_of_ble_eq_true rfl) ⟨Nat.le_of_ble_eq_true rfl, Nat.le_of_ble_eq_true rfl, Nat.le_refl 0, Nat.le_refl 0⟩ dX6_wouldBeFound_55 (fun v H40 hp41 hq42 => ?_)
          obtain ⟨rfl, hn43⟩ := hp41
          have hb44 := blk_spl hb29 40 15 rfl rfl hn43 (fun q h => hq42 q (by unfold fp1; omega))
          dsimp only [psh]
          refine r_aload_n C dX6_wouldBeFound_58 rfl ?_
          refine r_get C hb44 (k := 0) rfl rfl celO_6 fw_X6_52 rfl dX6_wouldBeFound_59 ?_
          refine r_aload_n C dX6_wouldBeFound_62 rfl ?_
          refine r_get C hb44 (k := 0) rfl rfl celO_6 fw_X6_34 rfl dX6_wouldBeFound_63 ?_
          refine r_iload C dX6_wouldBeFound_66 rfl ?_
          obtain ⟨u45, hu45⟩ : ∃ r, r = d_X1_agree (shf (spl R 40 15 u39) 209) (shf (spl R 40 15 u39) 40) (nI spring) := ⟨_, rfl⟩
          refine r_callV0 C cw_X6_233 (fun l => c_X1_agree l D (o_b + 209) (o_b + 40) (shf (spl R 40 15 u39) 209) (shf (spl R 40 15 u39) 40) (nI spring) u45 hu45) (rest := []) hb44 (k := 209) rfl rfl celO_1 ⟨(blk_sub hb44 209 4 rfl rfl), (blk_sub hb44 40 15 rfl rfl)⟩ (fun q h => h.elim) rfl rfl rfl (Nat.le_of_ble_eq_true rfl) ⟨Nat.le_of_ble_eq_true rfl, Nat.le_of_ble_eq_true rfl, Nat.le_refl 0, Nat.le_refl 0⟩ dX6_wouldBeFound_68 (fun v H46 hp47 hq48 => ?_)
          obtain ⟨rfl, hl49⟩ := hp47
          have hb50 := blk_kept hb44 (n := 215) rfl (fun q h1 h2 => hq48 q (fun h => h))
          dsimp only [psh]
          refine r_if_ne C dX6_wouldBeFound_71 (fun c51 => ?_) (fun c51 => ?_)
          · skip
            refine r_iinc C dX6_wouldBeFound_76 (nI (spring + 1)) rfl (nI_inc spring rfl) (ls' := [.val (.ref o_b), .val (.int t), .val (.int silver), .val (.ref ((o_b + 40) + 3 + k12)), .val (.int u18), .val (.int (nI (spring + 1)))]) rfl ?_
            refine r_goto C dX6_wouldBeFound_79 ?_
            have e52 : s27 = d_X6_wouldBeFound_L43 u18 n25 (spl R 40 15 u39) (spring + 1) := by rw [hs27, d_X6_wouldBeFound_L43]; try exact (if_neg c35).trans ((lt_eq hu39).trans ((lt_eq hu45).trans ((if_neg c51).trans (rfl))))
            exact ih26 (spl R 40 15 u39) (spring + 1) _  trivial (by omega) (by omega) (by omega) hb50 s27 e52 hr34 kx28
          · skip
            refine r_iconst C dX6_wouldBeFound_74 (0 : Int32) (by decide) ?_
            refine r_zret C dX6_wouldBeFound_75 (Or.inl rfl) ?_
            have er : res = ((0 : Int32), (spl R 40 15 u39)) := hr34 _ (by rw [hs27, d_X6_wouldBeFound_L43]; try exact (if_neg c35).trans ((lt_eq hu39).trans ((lt_eq hu45).trans ((if_pos c51).trans (rfl)))))
            rw [er]
            exact ⟨rfl, (Or.inl rfl), hb50⟩
    obtain ⟨s53, hs53⟩ : ∃ r, r = d_X6_wouldBeFound_L43 u18 22 (pt (spl R_b 40 15 u1) (43 + k12) 3 silver) 1 := ⟨_, rfl⟩
    refine d_X6_wouldBeFound_L43_w 22 (pt (spl R_b 40 15 u1) (43 + k12) 3 silver) 1 _  trivial (by omega) (by omega) (by omega) hb24 s53 hs53 (fun r e => by rw [hres, d_X6_wouldBeFound]; exact (lt_eq hu1).trans ((oc_some hu7').trans ((lt_eq hu18).trans (sc_inl (hs53.symm.trans e))))) (fun w54 H56 z32 hz32 e57  hb55 => ?_)
    have hx58 : d_X6_wouldBeFound_L43 u18 22 (pt (spl R_b 40 15 u1) (43 + k12) 3 silver) 1 = .inr w54 := hs53.symm.trans e57
    refine r_iconst C dX6_wouldBeFound_82 (1 : Int32) (by decide) ?_
    refine r_zret C dX6_wouldBeFound_83 (Or.inr rfl) ?_
    have er : res = ((1 : Int32), w54) := by rw [hres, d_X6_wouldBeFound]; try exact (lt_eq hu1).trans ((oc_some hu7').trans ((lt_eq hu18).trans ((sc_inr hx58).trans (rfl))))
    rw [er]
    exact ⟨rfl, (Or.inr rfl), hb55⟩

def d_X6_paidToOnly (R_b : Nat → Nat → Int32) (c : Int32) (t : Int32) (spring : Int32) : Int32 × (Nat → Nat → Int32) :=
  lt (d_X3_copy (shf R_b 40) (shf R_b 4)) fun u1 =>
  lt (d_X3_leaveOnly (shf (spl R_b 40 15 u1) 40) c) fun u7 =>
  lt (d_X3_goBy (shf (spl (spl R_b 40 15 u1) 40 15 u7) 40) spring) fun u13 =>
  oc (d_X3_townAt (shf (spl (spl (spl R_b 40 15 u1) 40 15 u7) 40 15 u13) 40) t) (
    ((0 : Int32), (spl (spl (spl R_b 40 15 u1) 40 15 u7) 40 15 u13))) fun k24 =>
  (((spl (spl (spl R_b 40 15 u1) 40 15 u7) 40 15 u13) (43 + k24) 7), (spl (spl (spl R_b 40 15 u1) 40 15 u7) 40 15 u13))
set_option maxHeartbeats 4000000 in
set_option maxRecDepth 100000 in
theorem c_X6_paidToOnly (l : Launch) (D : DD) (o_b : Nat) (R_b : Nat → Nat → Int32) (c : Int32) (t : Int32) (spring : Int32) (hspring : spring = nI spring.toNatClampNeg) (hlspring : spring.toNatClampNeg ≤ 1000) (res : Int32 × (Nat → Nat → Int32)) (hres : res = d_X6_paidToOnly R_b c t spring) : Mt l D yX6_paidToOnly cX6_paidToOnly 5 (some .int) 5 114 0 0 [.ref o_b, .int c, .int t, .int spring] (fun H => blk D ksMain o_b R_b H) (fun v H => v = some (.int res.1) ∧ blk D ksMain o_b res.2 H) (fp1 o_b 215) := by
  refine mt_of (own := RX6) (ls := [.val (.ref o_b), .val (.int c), .val (.int t), .val (.int spring), .unset]) rfl (by decide +kernel) rfl ?_
  intro x H C hP
  have hb_b := hP
  refine r_aload_n C dX6_paidToOnly_0 rfl ?_
  refine r_get C hb_b (k := 0) rfl rfl celO_6 fw_X6_34 rfl dX6_paidToOnly_1 ?_
  refine r_aload_n C dX6_paidToOnly_4 rfl ?_
  refine r_get C hb_b (k := 0) rfl rfl celO_6 fw_X6_24 rfl dX6_paidToOnly_5 ?_
  obtain ⟨u1, hu1⟩ : ∃ r, r = d_X3_copy (shf R_b 40) (shf R_b 4) := ⟨_, rfl⟩
  refine r_callV0 C cw_X6_88 (fun l => c_X3_copy l D (o_b + 40) (o_b + 4) (shf R_b 40) (shf R_b 4) (by omega) u1 hu1) (rest := []) hb_b (k := 40) rfl rfl celO_3 ⟨(blk_sub hb_b 40 15 rfl rfl), (blk_sub hb_b 4 15 rfl rfl)⟩ (fun q h => by unfold fp1 at h; unfold fp1; omega) rfl rfl rfl (Nat.le_of_ble_eq_true rfl) ⟨Nat.le_of_ble_eq_true rfl, Nat.le_of_ble_eq_true rfl, Nat.le_refl 0, Nat.le_refl 0⟩ dX6_paidToOnly_8 (fun v H2 hp3 hq4 => ?_)
  obtain ⟨rfl, hn5⟩ := hp3
  have hb6 := blk_spl hb_b 40 15 rfl rfl hn5 (fun q h => hq4 q (by unfold fp1; omega))
  dsimp only [psh]
  refine r_aload_n C dX6_paidToOnly_11 rfl ?_
  refine r_get C hb6 (k := 0) rfl rfl celO_6 fw_X6_34 rfl dX6_paidToOnly_12 ?_
  refine r_iload_n C dX6_paidToOnly_15 rfl ?_
  obtain ⟨u7, hu7⟩ : ∃ r, r = d_X3_leaveOnly (shf (spl R_b 40 15 u1) 40) c := ⟨_, rfl⟩
  refine r_callV0 C cw_X6_237 (fun l => c_X3_leaveOnly l D (o_b + 40) (shf (spl R_b 40 15 u1) 40) c u7 hu7) (rest := []) hb6 (k := 40) rfl rfl celO_3 (blk_sub hb6 40 15 rfl rfl) (fun q h => by unfold fp1 at h; unfold fp1; omega) rfl rfl rfl (Nat.le_of_ble_eq_true rfl) ⟨Nat.le_of_ble_eq_true rfl, Nat.le_of_ble_eq_true rfl, Nat.le_refl 0, Nat.le_refl 0⟩ dX6_paidToOnly_16 (fun v H8 hp9 hq10 => ?_)
  obtain ⟨rfl, hn11⟩ := hp9
  have hb12 := blk_spl hb6 40 15 rfl rfl hn11 (fun q h => hq10 q (by unfold fp1; omega))
  dsimp only [psh]
  refine r_aload_n C dX6_paidToOnly_19 rfl ?_
  refine r_get C hb12 (k := 0) rfl rfl celO_6 fw_X6_34 rfl dX6_paidToOnly_20 ?_
  refine r_iload_n C dX6_paidToOnly_23 rfl ?_
  obtain ⟨u13, hu13⟩ : ∃ r, r = d_X3_goBy (shf (spl (spl R_b 40 15 u1) 40 15 u7) 40) spring := ⟨_, rfl⟩
  refine r_callV0 C cw_X6_150 (fun l => c_X3_goBy l D (o_b + 40) (shf (spl (spl R_b 40 15 u1) 40 15 u7) 40) spring hspring (by omega) u13 hu13) (rest := []) hb12 (k := 40) rfl rfl celO_3 (blk_sub hb12 40 15 rfl rfl) (fun q h => by unfold fp1 at h; unfold fp1; omega) rfl rfl rfl (Nat.le_of_ble_eq_true rfl) ⟨Nat.le_of_ble_eq_true rfl, Nat.le_of_ble_eq_true rfl, Nat.le_refl 0, Nat.le_refl 0⟩ dX6_paidToOnly_24 (fun v H14 hp15 hq16 => ?_)
  obtain ⟨rfl, hn17⟩ := hp15
  have hb18 := blk_spl hb12 40 15 rfl rfl hn17 (fun q h => hq16 q (by unfold fp1; omega))
  dsimp only [psh]
  refine r_aload_n C dX6_paidToOnly_27 rfl ?_
  refine r_get C hb18 (k := 0) rfl rfl celO_6 fw_X6_34 rfl dX6_paidToOnly_28 ?_
  refine r_iload_n C dX6_paidToOnly_31 rfl ?_
  obtain ⟨u19, hu19⟩ : ∃ r, r = d_X3_townAt (shf (spl (spl (spl R_b 40 15 u1) 40 15 u7) 40 15 u13) 40) t := ⟨_, rfl⟩
  refine r_callV0 C cw_X6_96 (fun l => c_X3_townAt l D (o_b + 40) (shf (spl (spl (spl R_b 40 15 u1) 40 15 u7) 40 15 u13) 40) t u19 hu19) (rest := []) hb18 (k := 40) rfl rfl celO_3 (blk_sub hb18 40 15 rfl rfl) (fun q h => h.elim) rfl rfl rfl (Nat.le_of_ble_eq_true rfl) ⟨Nat.le_of_ble_eq_true rfl, Nat.le_of_ble_eq_true rfl, Nat.le_refl 0, Nat.le_refl 0⟩ dX6_paidToOnly_32 (fun v H20 hp21 hq22 => ?_)
  subst hp21
  have hb23 := blk_kept hb18 (n := 215) rfl (fun q h1 h2 => hq22 q (fun h => h))
  obtain ho25 | ⟨k24, ho25⟩ := opt_or u19
  · have hu19' : d_X3_townAt (shf (spl (spl (spl R_b 40 15 u1) 40 15 u7) 40 15 u13) 40) t = none := by rw [← hu19, ho25]
    rw [ho25]; dsimp only [psh, optT, optC]
    refine r_astoreN C dX6_paidToOnly_35 (ls' := [.val (.ref o_b), .val (.int c), .val (.int t), .val (.int spring), .val (.null)]) rfl trivial rfl ?_
    refine r_aloadN C dX6_paidToOnly_37 rfl ?_
    refine r_ifnonnullN C dX6_paidToOnly_39 ?_
    refine r_iconst C dX6_paidToOnly_42 (0 : Int32) (by decide) ?_
    refine r_goto C dX6_paidToOnly_43 ?_
    refine r_iret C dX6_paidToOnly_51 ?_
    have er : res = ((0 : Int32), (spl (spl (spl R_b 40 15 u1) 40 15 u7) 40 15 u13)) := by rw [hres, d_X6_paidToOnly]; try exact (lt_eq hu1).trans ((lt_eq hu7).trans ((lt_eq hu13).trans ((oc_none hu19').trans (rfl))))
    rw [er]
    exact ⟨rfl, hb23⟩
  · have hu19' : d_X3_townAt (shf (spl (spl (spl R_b 40 15 u1) 40 15 u7) 40 15 u13) 40) t = some k24 := by rw [← hu19, ho25]
    rw [ho25]; dsimp only [psh, optT, optC]
    have fk26 := X3_townAt_lt hu19'
    refine r_astore C dX6_paidToOnly_35 (ls' := [.val (.ref o_b), .val (.int c), .val (.int t), .val (.int spring), .val (.ref ((o_b + 40) + 3 + k24))]) rfl trivial rfl ?_
    refine r_aload C dX6_paidToOnly_37 rfl ?_
    refine r_ifnonnull C dX6_paidToOnly_39 ?_
    refine r_aload C dX6_paidToOnly_46 rfl ?_
    refine r_get C hb23 (k := (43 + k24)) (kMain_43_1 _ fk26) (by omega) celO_5 fw_X6_121 (z := .int ((spl (spl (spl R_b 40 15 u1) 40 15 u7) 40 15 u13) (43 + k24) 7)) rfl dX6_paidToOnly_48 ?_
    refine r_iret C dX6_paidToOnly_51 ?_
    have er : res = (((spl (spl (spl R_b 40 15 u1) 40 15 u7) 40 15 u13) (43 + k24) 7), (spl (spl (spl R_b 40 15 u1) 40 15 u7) 40 15 u13)) := by rw [hres, d_X6_paidToOnly]; try exact (lt_eq hu1).trans ((lt_eq hu7).trans ((lt_eq hu13).trans ((oc_some hu19').trans (rfl))))
    rw [er]
    exact ⟨rfl, hb23⟩
