theorem X7_in_nat {u v lo hi : Int32} {M : Nat} (hu : u = d_X7_in v lo hi) (h : ¬ u = 0) (hlo : 0 ≤ lo.toInt) (hhi : hi = nI M) (hM : M < 2 ^ 31) : v = nI v.toNatClampNeg ∧ v.toNatClampNeg ≤ M := by
  subst hu
  unfold d_X7_in at h
  split at h
  · exact absurd rfl h
  · rename_i h1
    split at h
    · exact absurd rfl h
    · rename_i h2
      rw [hhi] at h2
      exact ⟨nn_of (x_lo3 h1 hlo), x_le h2 hM⟩
theorem X7_in_hi {u v lo hi : Int32} (hu : u = d_X7_in v lo hi) (h : ¬ u = 0) : ¬ hi < v := by
  subst hu
  unfold d_X7_in at h
  intro q
  split at h
  · exact absurd rfl h
  · first | exact absurd rfl h | (rw [if_pos q] at h; exact absurd rfl h)
theorem X7_in_lo {u v lo hi : Int32} (hu : u = d_X7_in v lo hi) (h : ¬ u = 0) : ¬ v < lo := by
  subst hu
  unfold d_X7_in at h
  intro q
  rw [if_pos q] at h
  exact absurd rfl h
theorem x_leN {x M : Int32} {m : Nat} (h : ¬ M < x) (hM : M = nI m) (hm : m < 2 ^ 31) : x.toNatClampNeg ≤ m := by subst hM; exact x_le h hm
theorem x_geN {x : Int32} {n m : Nat} (h : ¬ x < nI m) (hx : x = nI n) (hm : m < 2 ^ 31) : m ≤ x.toNatClampNeg := by
  rw [Int32.lt_iff_toInt_lt, nI_toInt hm] at h
  have h1 : x.toNatClampNeg = x.toInt.toNat := rfl
  omega
theorem pt_fr {R X : Nat → Nat → Int32} {k : Nat} {z : Int32} (h : ∀ j, j ≠ k → R 0 j = X 0 j) : ∀ j, j ≠ k → pt R 0 k z 0 j = X 0 j := by
  intro j hj
  rw [pt_eq]
  simp only [upd, if_neg hj]
  exact h j hj
theorem pt_num {R : Nat → Nat → Int32} {n B : Nat} {z : Int32} (h : ∀ j, j < n → R 0 j = nI (R 0 j).toNatClampNeg ∧ (R 0 j).toNatClampNeg ≤ B) (hz : z = nI z.toNatClampNeg ∧ z.toNatClampNeg ≤ B) : ∀ j, j < n + 1 → pt R 0 n z 0 j = nI (pt R 0 n z 0 j).toNatClampNeg ∧ (pt R 0 n z 0 j).toNatClampNeg ≤ B := by
  intro j hj
  rw [pt_eq]
  simp only [upd]
  split
  · exact hz
  · exact h j (by omega)
theorem X7_is_nat {u t hi : Int32} {T : Nat} (hu : u = d_X7_in t 0 (hi - 1)) (h : ¬ u = 0) (hT : hi = nI T) (hT6 : T < 2 ^ 30) : t = nI t.toNatClampNeg ∧ t.toNatClampNeg < T := by
  have h1 := x_lo3 (X7_in_lo hu h) (by decide)
  have h2 := X7_in_hi hu h
  refine ⟨nn_of h1, ?_⟩
  rw [hT] at h2
  cases T with
  | zero =>
    exfalso
    apply h2
    rw [Int32.lt_iff_toInt_lt]
    have : (nI 0 - 1).toInt = -1 := by decide
    omega
  | succ T =>
    rw [nI_pred] at h2
    have := x_le h2 (by omega)
    omega
theorem X7_isTown_nat {R : Nat → Nat → Int32} {u t : Int32} {T : Nat} (hu : u = d_X7_isTown R t) (h : ¬ u = 0) (hT : R 0 10 = nI T) (hT6 : T ≤ 6) : t = nI t.toNatClampNeg ∧ t.toNatClampNeg < T := X7_is_nat (hu.trans rfl) h hT (by omega)
theorem X7_isCrew_nat {R : Nat → Nat → Int32} {u t : Int32} {T : Nat} (hu : u = d_X7_isCrew R t) (h : ¬ u = 0) (hT : R 0 11 = nI T) (hT6 : T ≤ 3) : t = nI t.toNatClampNeg ∧ t.toNatClampNeg < T := X7_is_nat (hu.trans rfl) h hT (by omega)
theorem X7_note_fr {R Rn Rb : Nat → Nat → Int32} {u : (Nat → Nat → Int32) × (Nat → Nat → Int32)} (hu : u = d_X7_note R Rn Rb) : ∀ j, j ≠ 18 → u.1 0 j = R 0 j := by
  subst hu
  intro j hj
  simp only [d_X7_note, lt]
  split <;> simp [pt, va_up, upd, hj]
def d_X7_write (R_m : Nat → Nat → Int32) (letter : Int32) : Int32 × (Nat → Nat → Int32) :=
  lt (d_X7_in letter (32 : Int32) (126 : Int32)) fun u1 =>
  if u1 = 0 then
    ((-1 : Int32), R_m)
  else
    if (R_m 0 0) = (200 : Int32) then
      ((-3 : Int32), R_m)
    else
      ((nI ((R_m 0 0).toNatClampNeg + 1)), (pt (pt R_m 1 ((R_m 0 0).toNatClampNeg) letter) 0 0 (nI ((R_m 0 0).toNatClampNeg + 1))))
set_option maxHeartbeats 4000000 in
set_option maxRecDepth 100000 in
theorem c_X7_write (l : Launch) (D : DD) (o_m : Nat) (R_m : Nat → Nat → Int32) (letter : Int32) (h0 : R_m 0 0 = nI (R_m 0 0).toNatClampNeg) (b0 : (R_m 0 0).toNatClampNeg ≤ 200) (res : Int32 × (Nat → Nat → Int32)) (hres : res = d_X7_write R_m letter) : Mt l D yX7_write cX7_write 2 (some .int) 1 22 0 0 [.ref o_m, .int letter] (fun H => blk D ksModel o_m R_m H) (fun v H => v = some (.int res.1) ∧ blk D ksModel o_m res.2 H) (fp1 o_m 14) := by
  refine mt_of (own := RX7) (ls := [.val (.ref o_m), .val (.int letter)]) rfl (by decide +kernel) rfl ?_
  intro x H C hP
  have hb_m := hP
  refine r_iload_n C dX7_write_0 rfl ?_
  refine r_bipush C dX7_write_1 (32 : Int32) (by decide) ?_
  refine r_bipush C dX7_write_3 (126 : Int32) (by decide) ?_
  obtain ⟨u1, hu1⟩ : ∃ r, r = d_X7_in letter (32 : Int32) (126 : Int32) := ⟨_, rfl⟩
  refine r_callS0 C cw_X7_67 (fun l => c_X7_in l D letter (32 : Int32) (126 : Int32) u1 hu1) (rest := []) trivial (fun q h => h.elim) rfl rfl rfl (Nat.le_of_ble_eq_true rfl) ⟨Nat.le_of_ble_eq_true rfl, Nat.le_of_ble_eq_true rfl, Nat.le_refl 0, Nat.le_refl 0⟩ dX7_write_5 (fun v H2 hp3 hq4 => ?_)
  obtain ⟨rfl, hl5⟩ := hp3
  have hb6 := blk_kept hb_m (n := 14) rfl (fun q h1 h2 => hq4 q (fun h => h))
  dsimp only [psh]
  refine r_if_ne C dX7_write_8 (fun c7 => ?_) (fun c7 => ?_)
  · skip
    obtain ⟨hn8, hn9⟩ := X7_in_nat (M := 126) hu1 c7 (by decide) rfl (by decide)
    have hn10 : 32 ≤ letter.toNatClampNeg := x_geN (X7_in_lo hu1 c7) hn8 (by decide)
    refine r_aload_n C dX7_write_13 rfl ?_
    refine r_get C hb6 (k := 0) rfl rfl celO_7 fw_X7_71 (z := .int (R_m 0 0)) rfl dX7_write_14 ?_
    refine r_sipush C dX7_write_17 (200 : Int32) (by decide) ?_
    refine r_ic_ne C dX7_write_20 (fun c11 => ?_) (fun c11 => ?_)
    · skip
      have f12 : ¬ ((R_m 0 0).toNatClampNeg = 200) := nf_eqn (by omega) (by omega) h0 rfl c11
      refine r_aload_n C dX7_write_26 rfl ?_
      refine r_get C hb6 (k := 0) rfl rfl celO_7 fw_X7_7 rfl dX7_write_27 ?_
      refine r_aload_n C dX7_write_30 rfl ?_
      refine r_get C hb6 (k := 0) rfl rfl celO_7 fw_X7_71 (z := .int (R_m 0 0)) rfl dX7_write_31 ?_
      refine r_iload_n C dX7_write_34 rfl ?_
      refine r_iast C hb6 (k := 1) rfl rfl (by unfold fp1; omega) (vp_in_n h0 (by omega) (by omega)) (j := (R_m 0 0).toNatClampNeg) (cl_n h0 (by omega)) dX7_write_35 (fun H13 hb15 hq14 => ?_)
      refine r_aload_n C dX7_write_36 rfl ?_
      refine r_dup C dX7_write_37 rfl ?_
      refine r_get C hb15 (k := 0) rfl rfl celO_7 fw_X7_71 (z := .int (R_m 0 0)) rfl dX7_write_38 ?_
      refine r_iconst C dX7_write_41 (1 : Int32) (by decide) ?_
      refine r_iaddN C dX7_write_42 (na := (R_m 0 0).toNatClampNeg) (nb := 1) h0 rfl (nc := ((R_m 0 0).toNatClampNeg + 1)) rfl ?_
      refine r_put C hb15 (k := 0) rfl rfl (by unfold fp1; omega) fw_X7_71 fp_7_0 (Or.inr rfl) dX7_write_43 (fun H16 hb18 hq17 => ?_)
      refine r_aload_n C dX7_write_46 rfl ?_
      refine r_get C hb18 (k := 0) rfl rfl celO_7 fw_X7_71 (z := .int (nI ((R_m 0 0).toNatClampNeg + 1))) rfl dX7_write_47 ?_
      refine r_iret C dX7_write_50 ?_
      have er : res = ((nI ((R_m 0 0).toNatClampNeg + 1)), (pt (pt R_m 1 ((R_m 0 0).toNatClampNeg) letter) 0 0 (nI ((R_m 0 0).toNatClampNeg + 1)))) := by rw [hres, d_X7_write]; try exact (lt_eq hu1).trans ((if_neg c7).trans ((if_neg c11).trans (rfl)))
      rw [er]
      exact ⟨rfl, hb18⟩
    · skip
      have f19 : ((R_m 0 0).toNatClampNeg = 200) := nf_eq (by omega) (by omega) h0 rfl c11
      refine r_bipush C dX7_write_23 (-3 : Int32) (by decide) ?_
      refine r_iret C dX7_write_25 ?_
      have er : res = ((-3 : Int32), R_m) := by rw [hres, d_X7_write]; try exact (lt_eq hu1).trans ((if_neg c7).trans ((if_pos c11).trans (rfl)))
      rw [er]
      exact ⟨rfl, hb6⟩
  · skip
    refine r_iconst C dX7_write_11 (-1 : Int32) (by decide) ?_
    refine r_iret C dX7_write_12 ?_
    have er : res = ((-1 : Int32), R_m) := by rw [hres, d_X7_write]; try exact (lt_eq hu1).trans ((if_pos c7).trans (rfl))
    rw [er]
    exact ⟨rfl, hb6⟩

def d_X7_wipe (R_m : Nat → Nat → Int32) : Int32 × (Nat → Nat → Int32) :=
  ((R_m 0 0), (pt R_m 0 0 (0 : Int32)))
set_option maxHeartbeats 4000000 in
set_option maxRecDepth 100000 in
theorem c_X7_wipe (l : Launch) (D : DD) (o_m : Nat) (R_m : Nat → Nat → Int32)  (res : Int32 × (Nat → Nat → Int32)) (hres : res = d_X7_wipe R_m) : Mt l D yX7_wipe cX7_wipe 2 (some .int) 0 0 0 0 [.ref o_m] (fun H => blk D ksModel o_m R_m H) (fun v H => v = some (.int res.1) ∧ blk D ksModel o_m res.2 H) (fp1 o_m 14) := by
  refine mt_of (own := RX7) (ls := [.val (.ref o_m), .unset]) rfl (by decide +kernel) rfl ?_
  intro x H C hP
  have hb_m := hP
  refine r_aload_n C dX7_wipe_0 rfl ?_
  refine r_get C hb_m (k := 0) rfl rfl celO_7 fw_X7_71 (z := .int (R_m 0 0)) rfl dX7_wipe_1 ?_
  refine r_istore_n C dX7_wipe_4 (ls' := [.val (.ref o_m), .val (.int (R_m 0 0))]) rfl trivial rfl ?_
  refine r_aload_n C dX7_wipe_5 rfl ?_
  refine r_iconst C dX7_wipe_6 (0 : Int32) (by decide) ?_
  refine r_put C hb_m (k := 0) rfl rfl (by unfold fp1; omega) fw_X7_71 fp_7_0 (Or.inr rfl) dX7_wipe_7 (fun H1 hb3 hq2 => ?_)
  refine r_iload_n C dX7_wipe_10 rfl ?_
  refine r_iret C dX7_wipe_11 ?_
  have er : res = ((R_m 0 0), (pt R_m 0 0 (0 : Int32))) := by rw [hres, d_X7_wipe]; try exact rfl
  rw [er]
  exact ⟨rfl, hb3⟩

def d_X7_town (R_m : Nat → Nat → Int32) (t : Int32) (what : Int32) : Int32 :=
  lt (d_X7_isTown (shf R_m 0) t) fun u1 =>
  if u1 = 0 then
    (-1 : Int32)
  else
    lt (d_X7_in what (0 : Int32) (6 : Int32)) fun u10 =>
    if u10 = 0 then
      (-1 : Int32)
    else
      if what = 0 then
        (R_m 5 t.toNatClampNeg)
      else
        lt ((R_m 6 ((1 + (6 * (what.toNatClampNeg - 1))) + t.toNatClampNeg))) fun y21 =>
        y21
set_option maxHeartbeats 4000000 in
set_option maxRecDepth 100000 in
theorem c_X7_town (l : Launch) (D : DD) (o_m : Nat) (R_m : Nat → Nat → Int32) (t : Int32) (what : Int32) (h10 : R_m 0 10 = nI (R_m 0 10).toNatClampNeg) (b10 : (R_m 0 10).toNatClampNeg ≤ 6) (res : Int32) (hres : res = d_X7_town R_m t what) : Mt l D yX7_town cX7_town 3 (some .int) 2 43 0 0 [.ref o_m, .int t, .int what] (fun H => blk D ksModel o_m R_m H) (fun v H => v = some (.int res)) fp0 := by
  refine mt_of (own := RX7) (ls := [.val (.ref o_m), .val (.int t), .val (.int what)]) rfl (by decide +kernel) rfl ?_
  intro x H C hP
  have hb_m := hP
  refine r_aload_n C dX7_town_0 rfl ?_
  refine r_iload_n C dX7_town_1 rfl ?_
  obtain ⟨u1, hu1⟩ : ∃ r, r = d_X7_isTown (shf R_m 0) t := ⟨_, rfl⟩
  refine r_callV0 C cw_X7_113 (fun l => c_X7_isTown l D o_m (shf R_m 0) t u1 hu1) (rest := []) hb_m (k := 0) rfl rfl celO_7 (blk_sub hb_m 0 1 rfl rfl) (fun q h => h.elim) rfl rfl rfl (Nat.le_of_ble_eq_true rfl) ⟨Nat.le_of_ble_eq_true rfl, Nat.le_of_ble_eq_true rfl, Nat.le_refl 0, Nat.le_refl 0⟩ dX7_town_2 (fun v H2 hp3 hq4 => ?_)
  obtain ⟨rfl, hl5⟩ := hp3
  have hb6 := blk_kept hb_m (n := 14) rfl (fun q h1 h2 => hq4 q (fun h => h))
  dsimp only [psh]
  refine r_if_eq C dX7_town_5 (fun c7 => ?_) (fun c7 => ?_)
  · skip
    refine r_iconst C dX7_town_18 (-1 : Int32) (by decide) ?_
    refine r_iret C dX7_town_19 ?_
    have er : res = (-1 : Int32) := by rw [hres, d_X7_town]; try exact (lt_eq hu1).trans ((if_pos c7).trans (rfl))
    rw [er]
  · skip
    obtain ⟨hn8, hn9⟩ := X7_isTown_nat hu1 c7 h10 b10
    refine r_iload_n C dX7_town_8 rfl ?_
    refine r_iconst C dX7_town_9 (0 : Int32) (by decide) ?_
    refine r_bipush C dX7_town_10 (6 : Int32) (by decide) ?_
    obtain ⟨u10, hu10⟩ : ∃ r, r = d_X7_in what (0 : Int32) (6 : Int32) := ⟨_, rfl⟩
    refine r_callS0 C cw_X7_67 (fun l => c_X7_in l D what (0 : Int32) (6 : Int32) u10 hu10) (rest := []) trivial (fun q h => h.elim) rfl rfl rfl (Nat.le_of_ble_eq_true rfl) ⟨Nat.le_of_ble_eq_true rfl, Nat.le_of_ble_eq_true rfl, Nat.le_refl 0, Nat.le_refl 0⟩ dX7_town_12 (fun v H11 hp12 hq13 => ?_)
    obtain ⟨rfl, hl14⟩ := hp12
    have hb15 := blk_kept hb6 (n := 14) rfl (fun q h1 h2 => hq13 q (fun h => h))
    dsimp only [psh]
    refine r_if_ne C dX7_town_15 (fun c16 => ?_) (fun c16 => ?_)
    · skip
      obtain ⟨hn17, hn18⟩ := X7_in_nat (M := 6) hu10 c16 (by decide) rfl (by decide)
      refine r_iload_n C dX7_town_20 rfl ?_
      refine r_if_ne C dX7_town_21 (fun c19 => ?_) (fun c19 => ?_)
      · skip
        have f20 : ¬ (what.toNatClampNeg = 0) := nf_eqn (by omega) (by omega) hn17 rfl c19
        refine r_aload_n C dX7_town_33 rfl ?_
        refine r_get C hb15 (k := 0) rfl rfl celO_7 fw_X7_25 rfl dX7_town_34 ?_
        refine r_iconst C dX7_town_37 (1 : Int32) (by decide) ?_
        refine r_bipush C dX7_town_38 (6 : Int32) (by decide) ?_
        refine r_iload_n C dX7_town_40 rfl ?_
        refine r_iconst C dX7_town_41 (1 : Int32) (by decide) ?_
        refine r_isubN C dX7_town_42 (na := what.toNatClampNeg) (nb := 1) hn17 rfl (by omega) (nc := (what.toNatClampNeg - 1)) rfl ?_
        refine r_imulN C dX7_town_43 (na := 6) (nb := (what.toNatClampNeg - 1)) rfl rfl (nc := (6 * (what.toNatClampNeg - 1))) rfl ?_
        refine r_iaddN C dX7_town_44 (na := 1) (nb := (6 * (what.toNatClampNeg - 1))) rfl rfl (nc := (1 + (6 * (what.toNatClampNeg - 1)))) rfl ?_
        refine r_iload_n C dX7_town_45 rfl ?_
        refine r_iaddN C dX7_town_46 (na := (1 + (6 * (what.toNatClampNeg - 1)))) (nb := t.toNatClampNeg) rfl hn8 (nc := ((1 + (6 * (what.toNatClampNeg - 1))) + t.toNatClampNeg)) rfl ?_
        refine r_iald C hb15 (k := 6) rfl rfl (vp_in_n rfl (by omega) (by omega)) (j := ((1 + (6 * (what.toNatClampNeg - 1))) + t.toNatClampNeg)) (cl_n rfl (by omega)) dX7_town_47 ?_
        refine r_topi (fun y21 hy21 => ?_)
        refine r_iret C dX7_town_48 ?_
        have er : res = y21 := by rw [hres, d_X7_town]; try exact (lt_eq hu1).trans ((if_neg c7).trans ((lt_eq hu10).trans ((if_neg c16).trans ((if_neg c19).trans ((lt_eq hy21).trans (rfl))))))
        rw [er]
      · skip
        have f22 : (what.toNatClampNeg = 0) := nf_eq (by omega) (by omega) hn17 rfl c19
        refine r_aload_n C dX7_town_24 rfl ?_
        refine r_get C hb15 (k := 0) rfl rfl celO_7 fw_X7_22 rfl dX7_town_25 ?_
        refine r_iload_n C dX7_town_28 rfl ?_
        refine r_iald C hb15 (k := 5) rfl rfl (vp_in_n hn8 (by omega) (by omega)) (j := t.toNatClampNeg) (cl_n hn8 (by omega)) dX7_town_29 ?_
        refine r_goto C dX7_town_30 ?_
        refine r_iret C dX7_town_48 ?_
        have er : res = (R_m 5 t.toNatClampNeg) := by rw [hres, d_X7_town]; try exact (lt_eq hu1).trans ((if_neg c7).trans ((lt_eq hu10).trans ((if_neg c16).trans ((if_pos c19).trans (rfl)))))
        rw [er]
    · skip
      refine r_iconst C dX7_town_18 (-1 : Int32) (by decide) ?_
      refine r_iret C dX7_town_19 ?_
      have er : res = (-1 : Int32) := by rw [hres, d_X7_town]; try exact (lt_eq hu1).trans ((if_neg c7).trans ((lt_eq hu10).trans ((if_pos c16).trans (rfl))))
      rw [er]

def d_X7_crew (R_m : Nat → Nat → Int32) (c : Int32) (what : Int32) : Int32 :=
  lt (d_X7_isCrew (shf R_m 0) c) fun u1 =>
  if u1 = 0 then
    (-1 : Int32)
  else
    lt (d_X7_in what (0 : Int32) (2 : Int32)) fun u10 =>
    if u10 = 0 then
      (-1 : Int32)
    else
      (R_m 6 ((37 + (3 * what.toNatClampNeg)) + c.toNatClampNeg))
set_option maxHeartbeats 4000000 in
set_option maxRecDepth 100000 in
theorem c_X7_crew (l : Launch) (D : DD) (o_m : Nat) (R_m : Nat → Nat → Int32) (c : Int32) (what : Int32) (h11 : R_m 0 11 = nI (R_m 0 11).toNatClampNeg) (b11 : (R_m 0 11).toNatClampNeg ≤ 3) (res : Int32) (hres : res = d_X7_crew R_m c what) : Mt l D yX7_crew cX7_crew 3 (some .int) 2 43 0 0 [.ref o_m, .int c, .int what] (fun H => blk D ksModel o_m R_m H) (fun v H => v = some (.int res)) fp0 := by
  refine mt_of (own := RX7) (ls := [.val (.ref o_m), .val (.int c), .val (.int what)]) rfl (by decide +kernel) rfl ?_
  intro x H C hP
  have hb_m := hP
  refine r_aload_n C dX7_crew_0 rfl ?_
  refine r_iload_n C dX7_crew_1 rfl ?_
  obtain ⟨u1, hu1⟩ : ∃ r, r = d_X7_isCrew (shf R_m 0) c := ⟨_, rfl⟩
  refine r_callV0 C cw_X7_116 (fun l => c_X7_isCrew l D o_m (shf R_m 0) c u1 hu1) (rest := []) hb_m (k := 0) rfl rfl celO_7 (blk_sub hb_m 0 1 rfl rfl) (fun q h => h.elim) rfl rfl rfl (Nat.le_of_ble_eq_true rfl) ⟨Nat.le_of_ble_eq_true rfl, Nat.le_of_ble_eq_true rfl, Nat.le_refl 0, Nat.le_refl 0⟩ dX7_crew_2 (fun v H2 hp3 hq4 => ?_)
  obtain ⟨rfl, hl5⟩ := hp3
  have hb6 := blk_kept hb_m (n := 14) rfl (fun q h1 h2 => hq4 q (fun h => h))
  dsimp only [psh]
  refine r_if_eq C dX7_crew_5 (fun c7 => ?_) (fun c7 => ?_)
  · skip
    refine r_iconst C dX7_crew_33 (-1 : Int32) (by decide) ?_
    refine r_iret C dX7_crew_34 ?_
    have er : res = (-1 : Int32) := by rw [hres, d_X7_crew]; try exact (lt_eq hu1).trans ((if_pos c7).trans (rfl))
    rw [er]
  · skip
    obtain ⟨hn8, hn9⟩ := X7_isCrew_nat hu1 c7 h11 b11
    refine r_iload_n C dX7_crew_8 rfl ?_
    refine r_iconst C dX7_crew_9 (0 : Int32) (by decide) ?_
    refine r_iconst C dX7_crew_10 (2 : Int32) (by decide) ?_
    obtain ⟨u10, hu10⟩ : ∃ r, r = d_X7_in what (0 : Int32) (2 : Int32) := ⟨_, rfl⟩
    refine r_callS0 C cw_X7_67 (fun l => c_X7_in l D what (0 : Int32) (2 : Int32) u10 hu10) (rest := []) trivial (fun q h => h.elim) rfl rfl rfl (Nat.le_of_ble_eq_true rfl) ⟨Nat.le_of_ble_eq_true rfl, Nat.le_of_ble_eq_true rfl, Nat.le_refl 0, Nat.le_refl 0⟩ dX7_crew_11 (fun v H11 hp12 hq13 => ?_)
    obtain ⟨rfl, hl14⟩ := hp12
    have hb15 := blk_kept hb6 (n := 14) rfl (fun q h1 h2 => hq13 q (fun h => h))
    dsimp only [psh]
    refine r_if_eq C dX7_crew_14 (fun c16 => ?_) (fun c16 => ?_)
    · skip
      refine r_iconst C dX7_crew_33 (-1 : Int32) (by decide) ?_
      refine r_iret C dX7_crew_34 ?_
      have er : res = (-1 : Int32) := by rw [hres, d_X7_crew]; try exact (lt_eq hu1).trans ((if_neg c7).trans ((lt_eq hu10).trans ((if_pos c16).trans (rfl))))
      rw [er]
    · skip
      obtain ⟨hn17, hn18⟩ := X7_in_nat (M := 2) hu10 c16 (by decide) rfl (by decide)
      refine r_aload_n C dX7_crew_17 rfl ?_
      refine r_get C hb15 (k := 0) rfl rfl celO_7 fw_X7_25 rfl dX7_crew_18 ?_
      refine r_bipush C dX7_crew_21 (37 : Int32) (by decide) ?_
      refine r_iconst C dX7_crew_23 (3 : Int32) (by decide) ?_
      refine r_iload_n C dX7_crew_24 rfl ?_
      refine r_imulN C dX7_crew_25 (na := 3) (nb := what.toNatClampNeg) rfl hn17 (nc := (3 * what.toNatClampNeg)) rfl ?_
      refine r_iaddN C dX7_crew_26 (na := 37) (nb := (3 * what.toNatClampNeg)) rfl rfl (nc := (37 + (3 * what.toNatClampNeg))) rfl ?_
      refine r_iload_n C dX7_crew_27 rfl ?_
      refine r_iaddN C dX7_crew_28 (na := (37 + (3 * what.toNatClampNeg))) (nb := c.toNatClampNeg) rfl hn8 (nc := ((37 + (3 * what.toNatClampNeg)) + c.toNatClampNeg)) rfl ?_
      refine r_iald C hb15 (k := 6) rfl rfl (vp_in_n rfl (by omega) (by omega)) (j := ((37 + (3 * what.toNatClampNeg)) + c.toNatClampNeg)) (cl_n rfl (by omega)) dX7_crew_29 ?_
      refine r_goto C dX7_crew_30 ?_
      refine r_iret C dX7_crew_34 ?_
      have er : res = (R_m 6 ((37 + (3 * what.toNatClampNeg)) + c.toNatClampNeg)) := by rw [hres, d_X7_crew]; try exact (lt_eq hu1).trans ((if_neg c7).trans ((lt_eq hu10).trans ((if_neg c16).trans (rfl))))
      rw [er]

def d_X7_believes (R_m : Nat → Nat → Int32) (c : Int32) (t : Int32) : Int32 :=
  lt (d_X7_isCrew (shf R_m 0) c) fun u1 =>
  if u1 = 0 then
    (-1 : Int32)
  else
    lt (d_X7_isTown (shf R_m 0) t) fun u10 =>
    if u10 = 0 then
      (-1 : Int32)
    else
      (R_m 6 ((46 + (6 * c.toNatClampNeg)) + t.toNatClampNeg))
set_option maxHeartbeats 4000000 in
set_option maxRecDepth 100000 in
theorem c_X7_believes (l : Launch) (D : DD) (o_m : Nat) (R_m : Nat → Nat → Int32) (c : Int32) (t : Int32) (h10 : R_m 0 10 = nI (R_m 0 10).toNatClampNeg) (b10 : (R_m 0 10).toNatClampNeg ≤ 6) (h11 : R_m 0 11 = nI (R_m 0 11).toNatClampNeg) (b11 : (R_m 0 11).toNatClampNeg ≤ 3) (res : Int32) (hres : res = d_X7_believes R_m c t) : Mt l D yX7_believes cX7_believes 3 (some .int) 2 43 0 0 [.ref o_m, .int c, .int t] (fun H => blk D ksModel o_m R_m H) (fun v H => v = some (.int res)) fp0 := by
  refine mt_of (own := RX7) (ls := [.val (.ref o_m), .val (.int c), .val (.int t)]) rfl (by decide +kernel) rfl ?_
  intro x H C hP
  have hb_m := hP
  refine r_aload_n C dX7_believes_0 rfl ?_
  refine r_iload_n C dX7_believes_1 rfl ?_
  obtain ⟨u1, hu1⟩ : ∃ r, r = d_X7_isCrew (shf R_m 0) c := ⟨_, rfl⟩
  refine r_callV0 C cw_X7_116 (fun l => c_X7_isCrew l D o_m (shf R_m 0) c u1 hu1) (rest := []) hb_m (k := 0) rfl rfl celO_7 (blk_sub hb_m 0 1 rfl rfl) (fun q h => h.elim) rfl rfl rfl (Nat.le_of_ble_eq_true rfl) ⟨Nat.le_of_ble_eq_true rfl, Nat.le_of_ble_eq_true rfl, Nat.le_refl 0, Nat.le_refl 0⟩ dX7_believes_2 (fun v H2 hp3 hq4 => ?_)
  obtain ⟨rfl, hl5⟩ := hp3
  have hb6 := blk_kept hb_m (n := 14) rfl (fun q h1 h2 => hq4 q (fun h => h))
  dsimp only [psh]
  refine r_if_eq C dX7_believes_5 (fun c7 => ?_) (fun c7 => ?_)
  · skip
    refine r_iconst C dX7_believes_33 (-1 : Int32) (by decide) ?_
    refine r_iret C dX7_believes_34 ?_
    have er : res = (-1 : Int32) := by rw [hres, d_X7_believes]; try exact (lt_eq hu1).trans ((if_pos c7).trans (rfl))
    rw [er]
  · skip
    obtain ⟨hn8, hn9⟩ := X7_isCrew_nat hu1 c7 h11 b11
    refine r_aload_n C dX7_believes_8 rfl ?_
    refine r_iload_n C dX7_believes_9 rfl ?_
    obtain ⟨u10, hu10⟩ : ∃ r, r = d_X7_isTown (shf R_m 0) t := ⟨_, rfl⟩
    refine r_callV0 C cw_X7_113 (fun l => c_X7_isTown l D o_m (shf R_m 0) t u10 hu10) (rest := []) hb6 (k := 0) rfl rfl celO_7 (blk_sub hb6 0 1 rfl rfl) (fun q h => h.elim) rfl rfl rfl (Nat.le_of_ble_eq_true rfl) ⟨Nat.le_of_ble_eq_true rfl, Nat.le_of_ble_eq_true rfl, Nat.le_refl 0, Nat.le_refl 0⟩ dX7_believes_10 (fun v H11 hp12 hq13 => ?_)
    obtain ⟨rfl, hl14⟩ := hp12
    have hb15 := blk_kept hb6 (n := 14) rfl (fun q h1 h2 => hq13 q (fun h => h))
    dsimp only [psh]
    refine r_if_eq C dX7_believes_13 (fun c16 => ?_) (fun c16 => ?_)
    · skip
      refine r_iconst C dX7_believes_33 (-1 : Int32) (by decide) ?_
      refine r_iret C dX7_believes_34 ?_
      have er : res = (-1 : Int32) := by rw [hres, d_X7_believes]; try exact (lt_eq hu1).trans ((if_neg c7).trans ((lt_eq hu10).trans ((if_pos c16).trans (rfl))))
      rw [er]
    · skip
      obtain ⟨hn17, hn18⟩ := X7_isTown_nat hu10 c16 h10 b10
      refine r_aload_n C dX7_believes_16 rfl ?_
      refine r_get C hb15 (k := 0) rfl rfl celO_7 fw_X7_25 rfl dX7_believes_17 ?_
      refine r_bipush C dX7_believes_20 (46 : Int32) (by decide) ?_
      refine r_bipush C dX7_believes_22 (6 : Int32) (by decide) ?_
      refine r_iload_n C dX7_believes_24 rfl ?_
      refine r_imulN C dX7_believes_25 (na := 6) (nb := c.toNatClampNeg) rfl hn8 (nc := (6 * c.toNatClampNeg)) rfl ?_
      refine r_iaddN C dX7_believes_26 (na := 46) (nb := (6 * c.toNatClampNeg)) rfl rfl (nc := (46 + (6 * c.toNatClampNeg))) rfl ?_
      refine r_iload_n C dX7_believes_27 rfl ?_
      refine r_iaddN C dX7_believes_28 (na := (46 + (6 * c.toNatClampNeg))) (nb := t.toNatClampNeg) rfl hn17 (nc := ((46 + (6 * c.toNatClampNeg)) + t.toNatClampNeg)) rfl ?_
      refine r_iald C hb15 (k := 6) rfl rfl (vp_in_n rfl (by omega) (by omega)) (j := ((46 + (6 * c.toNatClampNeg)) + t.toNatClampNeg)) (cl_n rfl (by omega)) dX7_believes_29 ?_
      refine r_goto C dX7_believes_30 ?_
      refine r_iret C dX7_believes_34 ?_
      have er : res = (R_m 6 ((46 + (6 * c.toNatClampNeg)) + t.toNatClampNeg)) := by rw [hres, d_X7_believes]; try exact (lt_eq hu1).trans ((if_neg c7).trans ((lt_eq hu10).trans ((if_neg c16).trans (rfl))))
      rw [er]

def d_X7_asks (R_m : Nat → Nat → Int32) (c : Int32) (t : Int32) : Int32 :=
  lt (d_X7_isCrew (shf R_m 0) c) fun u1 =>
  if u1 = 0 then
    (-1 : Int32)
  else
    lt (d_X7_isTown (shf R_m 0) t) fun u10 =>
    if u10 = 0 then
      (-1 : Int32)
    else
      if (R_m 6 (43 + c.toNatClampNeg)) = (1 : Int32) then
        (-2 : Int32)
      else
        if (R_m 6 (25 + t.toNatClampNeg)) = (1 : Int32) then
          (-2 : Int32)
        else
          lt (d_X7_askOf (shf R_m 0) (shf R_m 5) (shf R_m 6) c t) fun u21 =>
          u21
set_option maxHeartbeats 4000000 in
set_option maxRecDepth 100000 in
theorem c_X7_asks (l : Launch) (D : DD) (o_m : Nat) (R_m : Nat → Nat → Int32) (c : Int32) (t : Int32) (h10 : R_m 0 10 = nI (R_m 0 10).toNatClampNeg) (b10 : (R_m 0 10).toNatClampNeg ≤ 6) (h11 : R_m 0 11 = nI (R_m 0 11).toNatClampNeg) (b11 : (R_m 0 11).toNatClampNeg ≤ 3) (res : Int32) (hres : res = d_X7_asks R_m c t) : Mt l D yX7_asks cX7_asks 3 (some .int) 2 43 0 0 [.ref o_m, .int c, .int t] (fun H => blk D ksModel o_m R_m H) (fun v H => v = some (.int res)) fp0 := by
  refine mt_of (own := RX7) (ls := [.val (.ref o_m), .val (.int c), .val (.int t)]) rfl (by decide +kernel) rfl ?_
  intro x H C hP
  have hb_m := hP
  refine r_aload_n C dX7_asks_0 rfl ?_
  refine r_iload_n C dX7_asks_1 rfl ?_
  obtain ⟨u1, hu1⟩ : ∃ r, r = d_X7_isCrew (shf R_m 0) c := ⟨_, rfl⟩
  refine r_callV0 C cw_X7_116 (fun l => c_X7_isCrew l D o_m (shf R_m 0) c u1 hu1) (rest := []) hb_m (k := 0) rfl rfl celO_7 (blk_sub hb_m 0 1 rfl rfl) (fun q h => h.elim) rfl rfl rfl (Nat.le_of_ble_eq_true rfl) ⟨Nat.le_of_ble_eq_true rfl, Nat.le_of_ble_eq_true rfl, Nat.le_refl 0, Nat.le_refl 0⟩ dX7_asks_2 (fun v H2 hp3 hq4 => ?_)
  obtain ⟨rfl, hl5⟩ := hp3
  have hb6 := blk_kept hb_m (n := 14) rfl (fun q h1 h2 => hq4 q (fun h => h))
  dsimp only [psh]
  refine r_if_eq C dX7_asks_5 (fun c7 => ?_) (fun c7 => ?_)
  · skip
    refine r_iconst C dX7_asks_16 (-1 : Int32) (by decide) ?_
    refine r_iret C dX7_asks_17 ?_
    have er : res = (-1 : Int32) := by rw [hres, d_X7_asks]; try exact (lt_eq hu1).trans ((if_pos c7).trans (rfl))
    rw [er]
  · skip
    obtain ⟨hn8, hn9⟩ := X7_isCrew_nat hu1 c7 h11 b11
    refine r_aload_n C dX7_asks_8 rfl ?_
    refine r_iload_n C dX7_asks_9 rfl ?_
    obtain ⟨u10, hu10⟩ : ∃ r, r = d_X7_isTown (shf R_m 0) t := ⟨_, rfl⟩
    refine r_callV0 C cw_X7_113 (fun l => c_X7_isTown l D o_m (shf R_m 0) t u10 hu10) (rest := []) hb6 (k := 0) rfl rfl celO_7 (blk_sub hb6 0 1 rfl rfl) (fun q h => h.elim) rfl rfl rfl (Nat.le_of_ble_eq_true rfl) ⟨Nat.le_of_ble_eq_true rfl, Nat.le_of_ble_eq_true rfl, Nat.le_refl 0, Nat.le_refl 0⟩ dX7_asks_10 (fun v H11 hp12 hq13 => ?_)
    obtain ⟨rfl, hl14⟩ := hp12
    have hb15 := blk_kept hb6 (n := 14) rfl (fun q h1 h2 => hq13 q (fun h => h))
    dsimp only [psh]
    refine r_if_ne C dX7_asks_13 (fun c16 => ?_) (fun c16 => ?_)
    · skip
      obtain ⟨hn17, hn18⟩ := X7_isTown_nat hu10 c16 h10 b10
      refine r_aload_n C dX7_asks_18 rfl ?_
      refine r_get C hb15 (k := 0) rfl rfl celO_7 fw_X7_25 rfl dX7_asks_19 ?_
      refine r_bipush C dX7_asks_22 (43 : Int32) (by decide) ?_
      refine r_iload_n C dX7_asks_24 rfl ?_
      refine r_iaddN C dX7_asks_25 (na := 43) (nb := c.toNatClampNeg) rfl hn8 (nc := (43 + c.toNatClampNeg)) rfl ?_
      refine r_iald C hb15 (k := 6) rfl rfl (vp_in_n rfl (by omega) (by omega)) (j := (43 + c.toNatClampNeg)) (cl_n rfl (by omega)) dX7_asks_26 ?_
      refine r_iconst C dX7_asks_27 (1 : Int32) (by decide) ?_
      refine r_ic_eq C dX7_asks_28 (fun c19 => ?_) (fun c19 => ?_)
      · skip
        refine r_bipush C dX7_asks_44 (-2 : Int32) (by decide) ?_
        refine r_goto C dX7_asks_46 ?_
        refine r_iret C dX7_asks_59 ?_
        have er : res = (-2 : Int32) := by rw [hres, d_X7_asks]; try exact (lt_eq hu1).trans ((if_neg c7).trans ((lt_eq hu10).trans ((if_neg c16).trans ((if_pos c19).trans (rfl)))))
        rw [er]
      · skip
        refine r_aload_n C dX7_asks_31 rfl ?_
        refine r_get C hb15 (k := 0) rfl rfl celO_7 fw_X7_25 rfl dX7_asks_32 ?_
        refine r_bipush C dX7_asks_35 (25 : Int32) (by decide) ?_
        refine r_iload_n C dX7_asks_37 rfl ?_
        refine r_iaddN C dX7_asks_38 (na := 25) (nb := t.toNatClampNeg) rfl hn17 (nc := (25 + t.toNatClampNeg)) rfl ?_
        refine r_iald C hb15 (k := 6) rfl rfl (vp_in_n rfl (by omega) (by omega)) (j := (25 + t.toNatClampNeg)) (cl_n rfl (by omega)) dX7_asks_39 ?_
        refine r_iconst C dX7_asks_40 (1 : Int32) (by decide) ?_
        refine r_ic_ne C dX7_asks_41 (fun c20 => ?_) (fun c20 => ?_)
        · skip
          refine r_aload_n C dX7_asks_49 rfl ?_
          refine r_aload_n C dX7_asks_50 rfl ?_
          refine r_get C hb15 (k := 0) rfl rfl celO_7 fw_X7_25 rfl dX7_asks_51 ?_
          refine r_iload_n C dX7_asks_54 rfl ?_
          refine r_iload_n C dX7_asks_55 rfl ?_
          obtain ⟨u21, hu21⟩ : ∃ r, r = d_X7_askOf (shf R_m 0) (shf R_m 5) (shf R_m 6) c t := ⟨_, rfl⟩
          refine r_callV0 C cw_X7_119 (fun l => c_X7_askOf l D o_m (o_m + 6) (shf R_m 0) (shf R_m 5) (shf R_m 6) c t hn8 (by omega) hn17 (by omega) u21 hu21) (rest := []) hb15 (k := 0) rfl rfl celO_7 ⟨(blk_sub hb15 0 1 rfl rfl), (blk_sub hb15 5 1 rfl rfl), (blk_sub hb15 6 1 rfl rfl)⟩ (fun q h => h.elim) rfl rfl rfl (Nat.le_of_ble_eq_true rfl) ⟨Nat.le_of_ble_eq_true rfl, Nat.le_of_ble_eq_true rfl, Nat.le_refl 0, Nat.le_refl 0⟩ dX7_asks_56 (fun v H22 hp23 hq24 => ?_)
          subst hp23
          have hb25 := blk_kept hb15 (n := 14) rfl (fun q h1 h2 => hq24 q (fun h => h))
          dsimp only [psh]
          refine r_iret C dX7_asks_59 ?_
          have er : res = u21 := by rw [hres, d_X7_asks]; try exact (lt_eq hu1).trans ((if_neg c7).trans ((lt_eq hu10).trans ((if_neg c16).trans ((if_neg c19).trans ((if_neg c20).trans ((lt_eq hu21).trans (rfl)))))))
          rw [er]
        · skip
          refine r_bipush C dX7_asks_44 (-2 : Int32) (by decide) ?_
          refine r_goto C dX7_asks_46 ?_
          refine r_iret C dX7_asks_59 ?_
          have er : res = (-2 : Int32) := by rw [hres, d_X7_asks]; try exact (lt_eq hu1).trans ((if_neg c7).trans ((lt_eq hu10).trans ((if_neg c16).trans ((if_neg c19).trans ((if_pos c20).trans (rfl))))))
          rw [er]
    · skip
      refine r_iconst C dX7_asks_16 (-1 : Int32) (by decide) ?_
      refine r_iret C dX7_asks_17 ?_
      have er : res = (-1 : Int32) := by rw [hres, d_X7_asks]; try exact (lt_eq hu1).trans ((if_neg c7).trans ((lt_eq hu10).trans ((if_pos c16).trans (rfl))))
      rw [er]

def d_X7_pass_L18 (n : Int32) : Nat → (Nat → Nat → Int32) → Nat → (Nat → Nat → Int32)
  | 0, R, _ => R
  | n20 + 1, R, k =>
    if n ≤ (nI k) then
      R
    else
      lt (d_X7_spring (shf R 0) (shf R 5) (shf R 6)) fun u32 =>
      d_X7_pass_L18 n n20 (spl R 6 1 u32) (k + 1)
def d_X7_pass (R_m : Nat → Nat → Int32) (n : Int32) : Int32 × (Nat → Nat → Int32) :=
  lt (d_X7_in n (1 : Int32) (10 : Int32)) fun u1 =>
  if u1 = 0 then
    ((-1 : Int32), R_m)
  else
    lt (d_X7_note (shf R_m 0) (shf R_m 6) (shf R_m 9)) fun u11 =>
    lt (d_X7_pass_L18 n 11 (spl (spl R_m 0 1 u11.1) 9 1 u11.2) 0) fun s39 =>
    ((s39 6 0), s39)
set_option maxHeartbeats 4000000 in
set_option maxRecDepth 100000 in
theorem c_X7_pass (l : Launch) (D : DD) (o_m : Nat) (R_m : Nat → Nat → Int32) (n : Int32) (h10 : R_m 0 10 = nI (R_m 0 10).toNatClampNeg) (b10 : (R_m 0 10).toNatClampNeg ≤ 6) (h11 : R_m 0 11 = nI (R_m 0 11).toNatClampNeg) (b11 : (R_m 0 11).toNatClampNeg ≤ 3) (h18 : R_m 0 18 = nI (R_m 0 18).toNatClampNeg) (b18 : (R_m 0 18).toNatClampNeg ≤ 8) (res : Int32 × (Nat → Nat → Int32)) (hres : res = d_X7_pass R_m n) : Mt l D yX7_pass cX7_pass 3 (some .int) 3 75 0 0 [.ref o_m, .int n] (fun H => blk D ksModel o_m R_m H) (fun v H => v = some (.int res.1) ∧ blk D ksModel o_m res.2 H) (fp1 o_m 14) := by
  refine mt_of (own := RX7) (ls := [.val (.ref o_m), .val (.int n), .unset]) rfl (by decide +kernel) rfl ?_
  intro x H C hP
  have hb_m := hP
  refine r_iload_n C dX7_pass_0 rfl ?_
  refine r_iconst C dX7_pass_1 (1 : Int32) (by decide) ?_
  refine r_bipush C dX7_pass_2 (10 : Int32) (by decide) ?_
  obtain ⟨u1, hu1⟩ : ∃ r, r = d_X7_in n (1 : Int32) (10 : Int32) := ⟨_, rfl⟩
  refine r_callS0 C cw_X7_67 (fun l => c_X7_in l D n (1 : Int32) (10 : Int32) u1 hu1) (rest := []) trivial (fun q h => h.elim) rfl rfl rfl (Nat.le_of_ble_eq_true rfl) ⟨Nat.le_of_ble_eq_true rfl, Nat.le_of_ble_eq_true rfl, Nat.le_refl 0, Nat.le_refl 0⟩ dX7_pass_4 (fun v H2 hp3 hq4 => ?_)
  obtain ⟨rfl, hl5⟩ := hp3
  have hb6 := blk_kept hb_m (n := 14) rfl (fun q h1 h2 => hq4 q (fun h => h))
  dsimp only [psh]
  refine r_if_ne C dX7_pass_7 (fun c7 => ?_) (fun c7 => ?_)
  · skip
    obtain ⟨hn8, hn9⟩ := X7_in_nat (M := 10) hu1 c7 (by decide) rfl (by decide)
    have hn10 : 1 ≤ n.toNatClampNeg := x_geN (X7_in_lo hu1 c7) hn8 (by decide)
    refine r_aload_n C dX7_pass_12 rfl ?_
    obtain ⟨u11, hu11⟩ : ∃ r, r = d_X7_note (shf R_m 0) (shf R_m 6) (shf R_m 9) := ⟨_, rfl⟩
    refine r_callV0 C cw_X7_131 (fun l => c_X7_note l D o_m (shf R_m 0) (shf R_m 6) (shf R_m 9) h18 b18 u11 hu11) (rest := []) hb6 (k := 0) rfl rfl celO_7 ⟨(blk_sub hb6 0 1 rfl rfl), (blk_sub hb6 6 1 rfl rfl), (blk_sub hb6 9 1 rfl rfl)⟩ (fun q h => by unfold fp2 at h; unfold fp1; omega) rfl rfl rfl (Nat.le_of_ble_eq_true rfl) ⟨Nat.le_of_ble_eq_true rfl, Nat.le_of_ble_eq_true rfl, Nat.le_refl 0, Nat.le_refl 0⟩ dX7_pass_13 (fun v H12 hp13 hq14 => ?_)
    obtain ⟨rfl, hn15, hn16⟩ := hp13
    have hb17 := blk_spl2 hb6 0 1 rfl rfl hn15 9 1 rfl rfl hn16 (fun q h => hq14 q (by unfold fp2; omega))
    dsimp only [psh]
    have fx18 : u11.1 0 10 = R_m 0 10 := X7_note_fr hu11 10 (by decide)
    have fx19 : u11.1 0 11 = R_m 0 11 := X7_note_fr hu11 11 (by decide)
    refine r_iconst C dX7_pass_16 (0 : Int32) (by decide) ?_
    refine r_istore_n C dX7_pass_17 (ls' := [.val (.ref o_m), .val (.int n), .val (.int (0 : Int32))]) rfl trivial rfl ?_
    have d_X7_pass_L18_w : ∀ (n20 : Nat) (R : Nat → Nat → Int32) (k : Nat) (H25 : Heap), True → (R 0 10 = R_m 0 10) → (R 0 11 = R_m 0 11) → (k ≤ 10) → (10 - k < n20) → blk D ksModel o_m R H25 → ∀ s22 : (Nat → Nat → Int32), s22 = d_X7_pass_L18 n n20 R k → (∀ (H' : Heap) (z26 : Slot) (_ : slot1 z26), True → (s22 0 10 = R_m 0 10) → (s22 0 11 = R_m 0 11) → blk D ksModel o_m s22 H' → WG x (fp1 o_m 14) (Fin x (fun v H => v = some (.int res.1) ∧ blk D ksModel o_m res.2 H) (fp1 o_m 14) 0 0) H' 0 0 37 [.val (.ref o_m), .val (.int n), z26] []) → WG x (fp1 o_m 14) (Fin x (fun v H => v = some (.int res.1) ∧ blk D ksModel o_m res.2 H) (fp1 o_m 14) 0 0) H25 0 0 18 [.val (.ref o_m), .val (.int n), .val (.int (nI k))] [] := by
      intro n20
      induction n20 with
      | zero => intro R k H25  _ i10_R i11_R hk hm27; exact absurd hm27 (Nat.not_lt_zero _)
      | succ n20 ih21 =>
        intro R k H25  _ i10_R i11_R hk hm27 hb24 s22 hs22  kx23
        refine r_iload_n C dX7_pass_18 rfl ?_
        refine r_iload_n C dX7_pass_19 rfl ?_
        refine r_ic_ge C dX7_pass_20 (fun c28 => ?_) (fun c28 => ?_)
        · skip
          have f29 : (n.toNatClampNeg ≤ k) := nf_leI (by omega) (by omega) hn8 rfl c28
          have e30 : s22 = R := by rw [hs22, d_X7_pass_L18]; try exact (if_pos c28).trans (rfl)
          rw [e30] at kx23
          exact kx23 _ (.val (.int (nI k))) rfl trivial i10_R i11_R hb24
        · skip
          have f31 : ¬ (n.toNatClampNeg ≤ k) := nf_leIn (by omega) (by omega) hn8 rfl c28
          refine r_aload_n C dX7_pass_23 rfl ?_
          refine r_aload_n C dX7_pass_24 rfl ?_
          refine r_get C hb24 (k := 0) rfl rfl celO_7 fw_X7_25 rfl dX7_pass_25 ?_
          obtain ⟨u32, hu32⟩ : ∃ r, r = d_X7_spring (shf R 0) (shf R 5) (shf R 6) := ⟨_, rfl⟩
          refine r_callV0 C cw_X7_134 (fun l => c_X7_spring l D o_m (o_m + 6) (shf R 0) (shf R 5) (shf R 6) (nnat (a := (R_m 0 10).toNatClampNeg) (i10_R.trans h10) (by omega)) (show (R 0 10).toNatClampNeg ≤ 6 by rw [cl_n (n := (R_m 0 10).toNatClampNeg) (i10_R.trans h10) (by omega)]; omega) (nnat (a := (R_m 0 11).toNatClampNeg) (i11_R.trans h11) (by omega)) (show (R 0 11).toNatClampNeg ≤ 3 by rw [cl_n (n := (R_m 0 11).toNatClampNeg) (i11_R.trans h11) (by omega)]; omega) (by omega) (by omega) u32 hu32) (rest := []) hb24 (k := 0) rfl rfl celO_7 ⟨(blk_sub hb24 0 1 rfl rfl), (blk_sub hb24 5 1 rfl rfl), (blk_sub hb24 6 1 rfl rfl)⟩ (fun q h => by unfold fp1 at h; unfold fp1; omega) rfl rfl rfl (Nat.le_of_ble_eq_true rfl) ⟨Nat.le_of_ble_eq_true rfl, Nat.le_of_ble_eq_true rfl, Nat.le_refl 0, Nat.le_refl 0⟩ dX7_pass_28 (fun v H33 hp34 hq35 => ?_)
          obtain ⟨rfl, hn36⟩ := hp34
          have hb37 := blk_spl hb24 6 1 rfl rfl hn36 (fun q h => hq35 q (by unfold fp1; omega))
          dsimp only [psh]
          refine r_iinc C dX7_pass_31 (nI (k + 1)) rfl (nI_inc k rfl) (ls' := [.val (.ref o_m), .val (.int n), .val (.int (nI (k + 1)))]) rfl ?_
          refine r_goto C dX7_pass_34 ?_
          have e38 : s22 = d_X7_pass_L18 n n20 (spl R 6 1 u32) (k + 1) := by rw [hs22, d_X7_pass_L18]; try exact (if_neg c28).trans ((lt_eq hu32).trans (rfl))
          exact ih21 (spl R 6 1 u32) (k + 1) _  trivial i10_R i11_R (by omega) (by omega) hb37 s22 e38  kx23
    obtain ⟨s39, hs39⟩ : ∃ r, r = d_X7_pass_L18 n 11 (spl (spl R_m 0 1 u11.1) 9 1 u11.2) 0 := ⟨_, rfl⟩
    refine d_X7_pass_L18_w 11 (spl (spl R_m 0 1 u11.1) 9 1 u11.2) 0 _  trivial fx18 fx19 (by omega) (by omega) hb17 s39 hs39  (fun H41 z26 hz26 e44 p42 p43 hb40 => ?_)
    refine r_aload_n C dX7_pass_37 rfl ?_
    refine r_get C hb40 (k := 0) rfl rfl celO_7 fw_X7_25 rfl dX7_pass_38 ?_
    refine r_iconst C dX7_pass_41 (0 : Int32) (by decide) ?_
    refine r_iald C hb40 (k := 6) rfl rfl (vp_in_c 0 rfl (by decide)) (j := 0) (cl_n rfl (by decide)) dX7_pass_42 ?_
    refine r_iret C dX7_pass_43 ?_
    have er : res = ((s39 6 0), s39) := by rw [hres, d_X7_pass]; try exact (lt_eq hu1).trans ((if_neg c7).trans ((lt_eq hu11).trans ((lt_eq hs39).trans (rfl))))
    rw [er]
    exact ⟨rfl, hb40⟩
  · skip
    refine r_iconst C dX7_pass_10 (-1 : Int32) (by decide) ?_
    refine r_iret C dX7_pass_11 ?_
    have er : res = ((-1 : Int32), R_m) := by rw [hres, d_X7_pass]; try exact (lt_eq hu1).trans ((if_pos c7).trans (rfl))
    rw [er]
    exact ⟨rfl, hb6⟩

def d_X7_way (R_m : Nat → Nat → Int32) (t : Int32) (k : Int32) : Int32 × (Nat → Nat → Int32) :=
  lt (d_X7_isTown (shf R_m 0) t) fun u1 =>
  if u1 = 0 then
    ((-1 : Int32), R_m)
  else
    lt (d_X7_in k (0 : Int32) (3 : Int32)) fun u10 =>
    if u10 = 0 then
      ((-1 : Int32), R_m)
    else
      lt (d_X7_note (shf R_m 0) (shf R_m 6) (shf R_m 9)) fun u19 =>
      ((R_m 6 (19 + t.toNatClampNeg)), (pt (spl (spl R_m 0 1 u19.1) 9 1 u19.2) 6 (19 + t.toNatClampNeg) k))
set_option maxHeartbeats 4000000 in
set_option maxRecDepth 100000 in
theorem c_X7_way (l : Launch) (D : DD) (o_m : Nat) (R_m : Nat → Nat → Int32) (t : Int32) (k : Int32) (h10 : R_m 0 10 = nI (R_m 0 10).toNatClampNeg) (b10 : (R_m 0 10).toNatClampNeg ≤ 6) (h18 : R_m 0 18 = nI (R_m 0 18).toNatClampNeg) (b18 : (R_m 0 18).toNatClampNeg ≤ 8) (res : Int32 × (Nat → Nat → Int32)) (hres : res = d_X7_way R_m t k) : Mt l D yX7_way cX7_way 4 (some .int) 2 45 0 0 [.ref o_m, .int t, .int k] (fun H => blk D ksModel o_m R_m H) (fun v H => v = some (.int res.1) ∧ blk D ksModel o_m res.2 H) (fp1 o_m 14) := by
  refine mt_of (own := RX7) (ls := [.val (.ref o_m), .val (.int t), .val (.int k), .unset]) rfl (by decide +kernel) rfl ?_
  intro x H C hP
  have hb_m := hP
  refine r_aload_n C dX7_way_0 rfl ?_
  refine r_iload_n C dX7_way_1 rfl ?_
  obtain ⟨u1, hu1⟩ : ∃ r, r = d_X7_isTown (shf R_m 0) t := ⟨_, rfl⟩
  refine r_callV0 C cw_X7_113 (fun l => c_X7_isTown l D o_m (shf R_m 0) t u1 hu1) (rest := []) hb_m (k := 0) rfl rfl celO_7 (blk_sub hb_m 0 1 rfl rfl) (fun q h => h.elim) rfl rfl rfl (Nat.le_of_ble_eq_true rfl) ⟨Nat.le_of_ble_eq_true rfl, Nat.le_of_ble_eq_true rfl, Nat.le_refl 0, Nat.le_refl 0⟩ dX7_way_2 (fun v H2 hp3 hq4 => ?_)
  obtain ⟨rfl, hl5⟩ := hp3
  have hb6 := blk_kept hb_m (n := 14) rfl (fun q h1 h2 => hq4 q (fun h => h))
  dsimp only [psh]
  refine r_if_eq C dX7_way_5 (fun c7 => ?_) (fun c7 => ?_)
  · skip
    refine r_iconst C dX7_way_17 (-1 : Int32) (by decide) ?_
    refine r_iret C dX7_way_18 ?_
    have er : res = ((-1 : Int32), R_m) := by rw [hres, d_X7_way]; try exact (lt_eq hu1).trans ((if_pos c7).trans (rfl))
    rw [er]
    exact ⟨rfl, hb6⟩
  · skip
    obtain ⟨hn8, hn9⟩ := X7_isTown_nat hu1 c7 h10 b10
    refine r_iload_n C dX7_way_8 rfl ?_
    refine r_iconst C dX7_way_9 (0 : Int32) (by decide) ?_
    refine r_iconst C dX7_way_10 (3 : Int32) (by decide) ?_
    obtain ⟨u10, hu10⟩ : ∃ r, r = d_X7_in k (0 : Int32) (3 : Int32) := ⟨_, rfl⟩
    refine r_callS0 C cw_X7_67 (fun l => c_X7_in l D k (0 : Int32) (3 : Int32) u10 hu10) (rest := []) trivial (fun q h => h.elim) rfl rfl rfl (Nat.le_of_ble_eq_true rfl) ⟨Nat.le_of_ble_eq_true rfl, Nat.le_of_ble_eq_true rfl, Nat.le_refl 0, Nat.le_refl 0⟩ dX7_way_11 (fun v H11 hp12 hq13 => ?_)
    obtain ⟨rfl, hl14⟩ := hp12
    have hb15 := blk_kept hb6 (n := 14) rfl (fun q h1 h2 => hq13 q (fun h => h))
    dsimp only [psh]
    refine r_if_ne C dX7_way_14 (fun c16 => ?_) (fun c16 => ?_)
    · skip
      obtain ⟨hn17, hn18⟩ := X7_in_nat (M := 3) hu10 c16 (by decide) rfl (by decide)
      refine r_aload_n C dX7_way_19 rfl ?_
      obtain ⟨u19, hu19⟩ : ∃ r, r = d_X7_note (shf R_m 0) (shf R_m 6) (shf R_m 9) := ⟨_, rfl⟩
      refine r_callV0 C cw_X7_131 (fun l => c_X7_note l D o_m (shf R_m 0) (shf R_m 6) (shf R_m 9) h18 b18 u19 hu19) (rest := []) hb15 (k := 0) rfl rfl celO_7 ⟨(blk_sub hb15 0 1 rfl rfl), (blk_sub hb15 6 1 rfl rfl), (blk_sub hb15 9 1 rfl rfl)⟩ (fun q h => by unfold fp2 at h; unfold fp1; omega) rfl rfl rfl (Nat.le_of_ble_eq_true rfl) ⟨Nat.le_of_ble_eq_true rfl, Nat.le_of_ble_eq_true rfl, Nat.le_refl 0, Nat.le_refl 0⟩ dX7_way_20 (fun v H20 hp21 hq22 => ?_)
      obtain ⟨rfl, hn23, hn24⟩ := hp21
      have hb25 := blk_spl2 hb15 0 1 rfl rfl hn23 9 1 rfl rfl hn24 (fun q h => hq22 q (by unfold fp2; omega))
      dsimp only [psh]
      have fx26 : u19.1 0 10 = R_m 0 10 := X7_note_fr hu19 10 (by decide)
      refine r_aload_n C dX7_way_23 rfl ?_
      refine r_get C hb25 (k := 0) rfl rfl celO_7 fw_X7_25 rfl dX7_way_24 ?_
      refine r_bipush C dX7_way_27 (19 : Int32) (by decide) ?_
      refine r_iload_n C dX7_way_29 rfl ?_
      refine r_iaddN C dX7_way_30 (na := 19) (nb := t.toNatClampNeg) rfl hn8 (nc := (19 + t.toNatClampNeg)) rfl ?_
      refine r_iald C hb25 (k := 6) rfl rfl (vp_in_n rfl (by omega) (by omega)) (j := (19 + t.toNatClampNeg)) (cl_n rfl (by omega)) dX7_way_31 ?_
      change WG x _ _ _ _ _ _ _ (.int (R_m 6 (19 + t.toNatClampNeg)) :: _)
      refine r_istore_n C dX7_way_32 (ls' := [.val (.ref o_m), .val (.int t), .val (.int k), .val (.int (R_m 6 (19 + t.toNatClampNeg)))]) rfl trivial rfl ?_
      refine r_aload_n C dX7_way_33 rfl ?_
      refine r_get C hb25 (k := 0) rfl rfl celO_7 fw_X7_25 rfl dX7_way_34 ?_
      refine r_bipush C dX7_way_37 (19 : Int32) (by decide) ?_
      refine r_iload_n C dX7_way_39 rfl ?_
      refine r_iaddN C dX7_way_40 (na := 19) (nb := t.toNatClampNeg) rfl hn8 (nc := (19 + t.toNatClampNeg)) rfl ?_
      refine r_iload_n C dX7_way_41 rfl ?_
      refine r_iast C hb25 (k := 6) rfl rfl (by unfold fp1; omega) (vp_in_n rfl (by omega) (by omega)) (j := (19 + t.toNatClampNeg)) (cl_n rfl (by omega)) dX7_way_42 (fun H27 hb29 hq28 => ?_)
      refine r_iload_n C dX7_way_43 rfl ?_
      refine r_iret C dX7_way_44 ?_
      have er : res = ((R_m 6 (19 + t.toNatClampNeg)), (pt (spl (spl R_m 0 1 u19.1) 9 1 u19.2) 6 (19 + t.toNatClampNeg) k)) := by rw [hres, d_X7_way]; try exact (lt_eq hu1).trans ((if_neg c7).trans ((lt_eq hu10).trans ((if_neg c16).trans ((lt_eq hu19).trans (rfl)))))
      rw [er]
      exact ⟨rfl, hb29⟩
    · skip
      refine r_iconst C dX7_way_17 (-1 : Int32) (by decide) ?_
      refine r_iret C dX7_way_18 ?_
      have er : res = ((-1 : Int32), R_m) := by rw [hres, d_X7_way]; try exact (lt_eq hu1).trans ((if_neg c7).trans ((lt_eq hu10).trans ((if_pos c16).trans (rfl))))
      rw [er]
      exact ⟨rfl, hb15⟩

def d_X7_hire (R_m : Nat → Nat → Int32) (t : Int32) (a : Int32) (b : Int32) : Int32 × (Nat → Nat → Int32) :=
  lt (d_X7_isTown (shf R_m 0) t) fun u1 =>
  if u1 = 0 then
    ((-1 : Int32), R_m)
  else
    lt (d_X7_isCrew (shf R_m 0) a) fun u10 =>
    if u10 = 0 then
      ((-1 : Int32), R_m)
    else
      lt (d_X7_isCrew (shf R_m 0) b) fun u19 =>
      if u19 = 0 then
        ((-1 : Int32), R_m)
      else
        if a = b then
          ((-1 : Int32), R_m)
        else
          if (R_m 6 (25 + t.toNatClampNeg)) = (1 : Int32) then
            ((-2 : Int32), R_m)
          else
            if (R_m 6 (43 + a.toNatClampNeg)) = (1 : Int32) then
              ((-2 : Int32), R_m)
            else
              if (R_m 6 (43 + b.toNatClampNeg)) = (1 : Int32) then
                ((-2 : Int32), R_m)
              else
                if (R_m 6 (40 + a.toNatClampNeg)) ≤ (R_m 6 (1 + t.toNatClampNeg)) then
                  lt (d_X7_note (shf R_m 0) (shf R_m 6) (shf R_m 9)) fun u34 =>
                  lt (((R_m 6 (1 + t.toNatClampNeg)) - (R_m 6 (40 + a.toNatClampNeg)))) fun y43 =>
                  if ((pt (spl (spl R_m 0 1 u34.1) 9 1 u34.2) 6 (1 + t.toNatClampNeg) y43) 6 (37 + b.toNatClampNeg)) ≤ ((pt (spl (spl R_m 0 1 u34.1) 9 1 u34.2) 6 (1 + t.toNatClampNeg) y43) 6 (37 + a.toNatClampNeg)) then
                    lt (((pt (spl (spl R_m 0 1 u34.1) 9 1 u34.2) 6 (1 + t.toNatClampNeg) y43) 6 (37 + b.toNatClampNeg))) fun y48 =>
                    lt ((((pt (spl (spl R_m 0 1 u34.1) 9 1 u34.2) 6 (1 + t.toNatClampNeg) y43) 6 (37 + a.toNatClampNeg)) - y48)) fun y49 =>
                    lt ((((pt (pt (spl (spl R_m 0 1 u34.1) 9 1 u34.2) 6 (1 + t.toNatClampNeg) y43) 6 (37 + a.toNatClampNeg) y49) 6 (37 + b.toNatClampNeg)) - y48)) fun y53 =>
                    if ((pt (pt (pt (spl (spl R_m 0 1 u34.1) 9 1 u34.2) 6 (1 + t.toNatClampNeg) y43) 6 (37 + a.toNatClampNeg) y49) 6 (37 + b.toNatClampNeg) y53) 6 (37 + a.toNatClampNeg)) = 0 then
                      if ((pt (pt (pt (pt (spl (spl R_m 0 1 u34.1) 9 1 u34.2) 6 (1 + t.toNatClampNeg) y43) 6 (37 + a.toNatClampNeg) y49) 6 (37 + b.toNatClampNeg) y53) 6 (43 + a.toNatClampNeg) (1 : Int32)) 6 (37 + b.toNatClampNeg)) = 0 then
                        lt (((pt (pt (pt (pt (pt (spl (spl R_m 0 1 u34.1) 9 1 u34.2) 6 (1 + t.toNatClampNeg) y43) 6 (37 + a.toNatClampNeg) y49) 6 (37 + b.toNatClampNeg) y53) 6 (43 + a.toNatClampNeg) (1 : Int32)) 6 (43 + b.toNatClampNeg) (1 : Int32)) 6 (37 + a.toNatClampNeg))) fun y81 =>
                        (y81, (pt (pt (pt (pt (pt (spl (spl R_m 0 1 u34.1) 9 1 u34.2) 6 (1 + t.toNatClampNeg) y43) 6 (37 + a.toNatClampNeg) y49) 6 (37 + b.toNatClampNeg) y53) 6 (43 + a.toNatClampNeg) (1 : Int32)) 6 (43 + b.toNatClampNeg) (1 : Int32)))
                      else
                        lt (((pt (pt (pt (pt (pt (spl (spl R_m 0 1 u34.1) 9 1 u34.2) 6 (1 + t.toNatClampNeg) y43) 6 (37 + a.toNatClampNeg) y49) 6 (37 + b.toNatClampNeg) y53) 6 (43 + a.toNatClampNeg) (1 : Int32)) 6 (43 + b.toNatClampNeg) (0 : Int32)) 6 (37 + a.toNatClampNeg))) fun y77 =>
                        (y77, (pt (pt (pt (pt (pt (spl (spl R_m 0 1 u34.1) 9 1 u34.2) 6 (1 + t.toNatClampNeg) y43) 6 (37 + a.toNatClampNeg) y49) 6 (37 + b.toNatClampNeg) y53) 6 (43 + a.toNatClampNeg) (1 : Int32)) 6 (43 + b.toNatClampNeg) (0 : Int32)))
                    else
                      if ((pt (pt (pt (pt (spl (spl R_m 0 1 u34.1) 9 1 u34.2) 6 (1 + t.toNatClampNeg) y43) 6 (37 + a.toNatClampNeg) y49) 6 (37 + b.toNatClampNeg) y53) 6 (43 + a.toNatClampNeg) (0 : Int32)) 6 (37 + b.toNatClampNeg)) = 0 then
                        lt (((pt (pt (pt (pt (pt (spl (spl R_m 0 1 u34.1) 9 1 u34.2) 6 (1 + t.toNatClampNeg) y43) 6 (37 + a.toNatClampNeg) y49) 6 (37 + b.toNatClampNeg) y53) 6 (43 + a.toNatClampNeg) (0 : Int32)) 6 (43 + b.toNatClampNeg) (1 : Int32)) 6 (37 + a.toNatClampNeg))) fun y69 =>
                        (y69, (pt (pt (pt (pt (pt (spl (spl R_m 0 1 u34.1) 9 1 u34.2) 6 (1 + t.toNatClampNeg) y43) 6 (37 + a.toNatClampNeg) y49) 6 (37 + b.toNatClampNeg) y53) 6 (43 + a.toNatClampNeg) (0 : Int32)) 6 (43 + b.toNatClampNeg) (1 : Int32)))
                      else
                        lt (((pt (pt (pt (pt (pt (spl (spl R_m 0 1 u34.1) 9 1 u34.2) 6 (1 + t.toNatClampNeg) y43) 6 (37 + a.toNatClampNeg) y49) 6 (37 + b.toNatClampNeg) y53) 6 (43 + a.toNatClampNeg) (0 : Int32)) 6 (43 + b.toNatClampNeg) (0 : Int32)) 6 (37 + a.toNatClampNeg))) fun y65 =>
                        (y65, (pt (pt (pt (pt (pt (spl (spl R_m 0 1 u34.1) 9 1 u34.2) 6 (1 + t.toNatClampNeg) y43) 6 (37 + a.toNatClampNeg) y49) 6 (37 + b.toNatClampNeg) y53) 6 (43 + a.toNatClampNeg) (0 : Int32)) 6 (43 + b.toNatClampNeg) (0 : Int32)))
                  else
                    lt (((pt (spl (spl R_m 0 1 u34.1) 9 1 u34.2) 6 (1 + t.toNatClampNeg) y43) 6 (37 + a.toNatClampNeg))) fun y82 =>
                    lt ((((pt (spl (spl R_m 0 1 u34.1) 9 1 u34.2) 6 (1 + t.toNatClampNeg) y43) 6 (37 + a.toNatClampNeg)) - y82)) fun y83 =>
                    lt ((((pt (pt (spl (spl R_m 0 1 u34.1) 9 1 u34.2) 6 (1 + t.toNatClampNeg) y43) 6 (37 + a.toNatClampNeg) y83) 6 (37 + b.toNatClampNeg)) - y82)) fun y87 =>
                    if ((pt (pt (pt (spl (spl R_m 0 1 u34.1) 9 1 u34.2) 6 (1 + t.toNatClampNeg) y43) 6 (37 + a.toNatClampNeg) y83) 6 (37 + b.toNatClampNeg) y87) 6 (37 + a.toNatClampNeg)) = 0 then
                      if ((pt (pt (pt (pt (spl (spl R_m 0 1 u34.1) 9 1 u34.2) 6 (1 + t.toNatClampNeg) y43) 6 (37 + a.toNatClampNeg) y83) 6 (37 + b.toNatClampNeg) y87) 6 (43 + a.toNatClampNeg) (1 : Int32)) 6 (37 + b.toNatClampNeg)) = 0 then
                        lt (((pt (pt (pt (pt (pt (spl (spl R_m 0 1 u34.1) 9 1 u34.2) 6 (1 + t.toNatClampNeg) y43) 6 (37 + a.toNatClampNeg) y83) 6 (37 + b.toNatClampNeg) y87) 6 (43 + a.toNatClampNeg) (1 : Int32)) 6 (43 + b.toNatClampNeg) (1 : Int32)) 6 (37 + a.toNatClampNeg))) fun y115 =>
                        (y115, (pt (pt (pt (pt (pt (spl (spl R_m 0 1 u34.1) 9 1 u34.2) 6 (1 + t.toNatClampNeg) y43) 6 (37 + a.toNatClampNeg) y83) 6 (37 + b.toNatClampNeg) y87) 6 (43 + a.toNatClampNeg) (1 : Int32)) 6 (43 + b.toNatClampNeg) (1 : Int32)))
                      else
                        lt (((pt (pt (pt (pt (pt (spl (spl R_m 0 1 u34.1) 9 1 u34.2) 6 (1 + t.toNatClampNeg) y43) 6 (37 + a.toNatClampNeg) y83) 6 (37 + b.toNatClampNeg) y87) 6 (43 + a.toNatClampNeg) (1 : Int32)) 6 (43 + b.toNatClampNeg) (0 : Int32)) 6 (37 + a.toNatClampNeg))) fun y111 =>
                        (y111, (pt (pt (pt (pt (pt (spl (spl R_m 0 1 u34.1) 9 1 u34.2) 6 (1 + t.toNatClampNeg) y43) 6 (37 + a.toNatClampNeg) y83) 6 (37 + b.toNatClampNeg) y87) 6 (43 + a.toNatClampNeg) (1 : Int32)) 6 (43 + b.toNatClampNeg) (0 : Int32)))
                    else
                      if ((pt (pt (pt (pt (spl (spl R_m 0 1 u34.1) 9 1 u34.2) 6 (1 + t.toNatClampNeg) y43) 6 (37 + a.toNatClampNeg) y83) 6 (37 + b.toNatClampNeg) y87) 6 (43 + a.toNatClampNeg) (0 : Int32)) 6 (37 + b.toNatClampNeg)) = 0 then
                        lt (((pt (pt (pt (pt (pt (spl (spl R_m 0 1 u34.1) 9 1 u34.2) 6 (1 + t.toNatClampNeg) y43) 6 (37 + a.toNatClampNeg) y83) 6 (37 + b.toNatClampNeg) y87) 6 (43 + a.toNatClampNeg) (0 : Int32)) 6 (43 + b.toNatClampNeg) (1 : Int32)) 6 (37 + a.toNatClampNeg))) fun y103 =>
                        (y103, (pt (pt (pt (pt (pt (spl (spl R_m 0 1 u34.1) 9 1 u34.2) 6 (1 + t.toNatClampNeg) y43) 6 (37 + a.toNatClampNeg) y83) 6 (37 + b.toNatClampNeg) y87) 6 (43 + a.toNatClampNeg) (0 : Int32)) 6 (43 + b.toNatClampNeg) (1 : Int32)))
                      else
                        lt (((pt (pt (pt (pt (pt (spl (spl R_m 0 1 u34.1) 9 1 u34.2) 6 (1 + t.toNatClampNeg) y43) 6 (37 + a.toNatClampNeg) y83) 6 (37 + b.toNatClampNeg) y87) 6 (43 + a.toNatClampNeg) (0 : Int32)) 6 (43 + b.toNatClampNeg) (0 : Int32)) 6 (37 + a.toNatClampNeg))) fun y99 =>
                        (y99, (pt (pt (pt (pt (pt (spl (spl R_m 0 1 u34.1) 9 1 u34.2) 6 (1 + t.toNatClampNeg) y43) 6 (37 + a.toNatClampNeg) y83) 6 (37 + b.toNatClampNeg) y87) 6 (43 + a.toNatClampNeg) (0 : Int32)) 6 (43 + b.toNatClampNeg) (0 : Int32)))
                else
                  ((-2 : Int32), R_m)
set_option maxHeartbeats 4000000 in
set_option maxRecDepth 100000 in
theorem c_X7_hire (l : Launch) (D : DD) (o_m : Nat) (R_m : Nat → Nat → Int32) (t : Int32) (a : Int32) (b : Int32) (h10 : R_m 0 10 = nI (R_m 0 10).toNatClampNeg) (b10 : (R_m 0 10).toNatClampNeg ≤ 6) (h11 : R_m 0 11 = nI (R_m 0 11).toNatClampNeg) (b11 : (R_m 0 11).toNatClampNeg ≤ 3) (h18 : R_m 0 18 = nI (R_m 0 18).toNatClampNeg) (b18 : (R_m 0 18).toNatClampNeg ≤ 8) (res : Int32 × (Nat → Nat → Int32)) (hres : res = d_X7_hire R_m t a b) : Mt l D yX7_hire cX7_hire 5 (some .int) 2 45 0 0 [.ref o_m, .int t, .int a, .int b] (fun H => blk D ksModel o_m R_m H) (fun v H => v = some (.int res.1) ∧ blk D ksModel o_m res.2 H) (fp1 o_m 14) := by
  refine mt_of (own := RX7) (ls := [.val (.ref o_m), .val (.int t), .val (.int a), .val (.int b), .unset]) rfl (by decide +kernel) rfl ?_
  intro x H C hP
  have hb_m := hP
  refine r_aload_n C dX7_hire_0 rfl ?_
  refine r_iload_n C dX7_hire_1 rfl ?_
  obtain ⟨u1, hu1⟩ : ∃ r, r = d_X7_isTown (shf R_m 0) t := ⟨_, rfl⟩
  refine r_callV0 C cw_X7_113 (fun l => c_X7_isTown l D o_m (shf R_m 0) t u1 hu1) (rest := []) hb_m (k := 0) rfl rfl celO_7 (blk_sub hb_m 0 1 rfl rfl) (fun q h => h.elim) rfl rfl rfl (Nat.le_of_ble_eq_true rfl) ⟨Nat.le_of_ble_eq_true rfl, Nat.le_of_ble_eq_true rfl, Nat.le_refl 0, Nat.le_refl 0⟩ dX7_hire_2 (fun v H2 hp3 hq4 => ?_)
  obtain ⟨rfl, hl5⟩ := hp3
  have hb6 := blk_kept hb_m (n := 14) rfl (fun q h1 h2 => hq4 q (fun h => h))
  dsimp only [psh]
  refine r_if_eq C dX7_hire_5 (fun c7 => ?_) (fun c7 => ?_)
  · skip
    refine r_iconst C dX7_hire_29 (-1 : Int32) (by decide) ?_
    refine r_iret C dX7_hire_30 ?_
    have er : res = ((-1 : Int32), R_m) := by rw [hres, d_X7_hire]; try exact (lt_eq hu1).trans ((if_pos c7).trans (rfl))
    rw [er]
    exact ⟨rfl, hb6⟩
  · skip
    obtain ⟨hn8, hn9⟩ := X7_isTown_nat hu1 c7 h10 b10
    refine r_aload_n C dX7_hire_8 rfl ?_
    refine r_iload_n C dX7_hire_9 rfl ?_
    obtain ⟨u10, hu10⟩ : ∃ r, r = d_X7_isCrew (shf R_m 0) a := ⟨_, rfl⟩
    refine r_callV0 C cw_X7_116 (fun l => c_X7_isCrew l D o_m (shf R_m 0) a u10 hu10) (rest := []) hb6 (k := 0) rfl rfl celO_7 (blk_sub hb6 0 1 rfl rfl) (fun q h => h.elim) rfl rfl rfl (Nat.le_of_ble_eq_true rfl) ⟨Nat.le_of_ble_eq_true rfl, Nat.le_of_ble_eq_true rfl, Nat.le_refl 0, Nat.le_refl 0⟩ dX7_hire_10 (fun v H11 hp12 hq13 => ?_)
    obtain ⟨rfl, hl14⟩ := hp12
    have hb15 := blk_kept hb6 (n := 14) rfl (fun q h1 h2 => hq13 q (fun h => h))
    dsimp only [psh]
    refine r_if_eq C dX7_hire_13 (fun c16 => ?_) (fun c16 => ?_)
    · skip
      refine r_iconst C dX7_hire_29 (-1 : Int32) (by decide) ?_
      refine r_iret C dX7_hire_30 ?_
      have er : res = ((-1 : Int32), R_m) := by rw [hres, d_X7_hire]; try exact (lt_eq hu1).trans ((if_neg c7).trans ((lt_eq hu10).trans ((if_pos c16).trans (rfl))))
      rw [er]
      exact ⟨rfl, hb15⟩
    · skip
      obtain ⟨hn17, hn18⟩ := X7_isCrew_nat hu10 c16 h11 b11
      refine r_aload_n C dX7_hire_16 rfl ?_
      refine r_iload_n C dX7_hire_17 rfl ?_
      obtain ⟨u19, hu19⟩ : ∃ r, r = d_X7_isCrew (shf R_m 0) b := ⟨_, rfl⟩
      refine r_callV0 C cw_X7_116 (fun l => c_X7_isCrew l D o_m (shf R_m 0) b u19 hu19) (rest := []) hb15 (k := 0) rfl rfl celO_7 (blk_sub hb15 0 1 rfl rfl) (fun q h => h.elim) rfl rfl rfl (Nat.le_of_ble_eq_true rfl) ⟨Nat.le_of_ble_eq_true rfl, Nat.le_of_ble_eq_true rfl, Nat.le_refl 0, Nat.le_refl 0⟩ dX7_hire_18 (fun v H20 hp21 hq22 => ?_)
      obtain ⟨rfl, hl23⟩ := hp21
      have hb24 := blk_kept hb15 (n := 14) rfl (fun q h1 h2 => hq22 q (fun h => h))
      dsimp only [psh]
      refine r_if_eq C dX7_hire_21 (fun c25 => ?_) (fun c25 => ?_)
      · skip
        refine r_iconst C dX7_hire_29 (-1 : Int32) (by decide) ?_
        refine r_iret C dX7_hire_30 ?_
        have er : res = ((-1 : Int32), R_m) := by rw [hres, d_X7_hire]; try exact (lt_eq hu1).trans ((if_neg c7).trans ((lt_eq hu10).trans ((if_neg c16).trans ((lt_eq hu19).trans ((if_pos c25).trans (rfl))))))
        rw [er]
        exact ⟨rfl, hb24⟩
      · skip
        obtain ⟨hn26, hn27⟩ := X7_isCrew_nat hu19 c25 h11 b11
        refine r_iload_n C dX7_hire_24 rfl ?_
        refine r_iload_n C dX7_hire_25 rfl ?_
        refine r_ic_ne C dX7_hire_26 (fun c28 => ?_) (fun c28 => ?_)
        · skip
          have f29 : ¬ (a.toNatClampNeg = b.toNatClampNeg) := nf_eqn (by omega) (by omega) hn17 hn26 c28
          refine r_aload_n C dX7_hire_31 rfl ?_
          refine r_get C hb24 (k := 0) rfl rfl celO_7 fw_X7_25 rfl dX7_hire_32 ?_
          refine r_bipush C dX7_hire_35 (25 : Int32) (by decide) ?_
          refine r_iload_n C dX7_hire_37 rfl ?_
          refine r_iaddN C dX7_hire_38 (na := 25) (nb := t.toNatClampNeg) rfl hn8 (nc := (25 + t.toNatClampNeg)) rfl ?_
          refine r_iald C hb24 (k := 6) rfl rfl (vp_in_n rfl (by omega) (by omega)) (j := (25 + t.toNatClampNeg)) (cl_n rfl (by omega)) dX7_hire_39 ?_
          refine r_iconst C dX7_hire_40 (1 : Int32) (by decide) ?_
          refine r_ic_eq C dX7_hire_41 (fun c30 => ?_) (fun c30 => ?_)
          · skip
            refine r_bipush C dX7_hire_90 (-2 : Int32) (by decide) ?_
            refine r_iret C dX7_hire_92 ?_
            have er : res = ((-2 : Int32), R_m) := by rw [hres, d_X7_hire]; try exact (lt_eq hu1).trans ((if_neg c7).trans ((lt_eq hu10).trans ((if_neg c16).trans ((lt_eq hu19).trans ((if_neg c25).trans ((if_neg c28).trans ((if_pos c30).trans (rfl))))))))
            rw [er]
            exact ⟨rfl, hb24⟩
          · skip
            refine r_aload_n C dX7_hire_44 rfl ?_
            refine r_get C hb24 (k := 0) rfl rfl celO_7 fw_X7_25 rfl dX7_hire_45 ?_
            refine r_bipush C dX7_hire_48 (43 : Int32) (by decide) ?_
            refine r_iload_n C dX7_hire_50 rfl ?_
            refine r_iaddN C dX7_hire_51 (na := 43) (nb := a.toNatClampNeg) rfl hn17 (nc := (43 + a.toNatClampNeg)) rfl ?_
            refine r_iald C hb24 (k := 6) rfl rfl (vp_in_n rfl (by omega) (by omega)) (j := (43 + a.toNatClampNeg)) (cl_n rfl (by omega)) dX7_hire_52 ?_
            refine r_iconst C dX7_hire_53 (1 : Int32) (by decide) ?_
            refine r_ic_eq C dX7_hire_54 (fun c31 => ?_) (fun c31 => ?_)
            · skip
              refine r_bipush C dX7_hire_90 (-2 : Int32) (by decide) ?_
              refine r_iret C dX7_hire_92 ?_
              have er : res = ((-2 : Int32), R_m) := by rw [hres, d_X7_hire]; try exact (lt_eq hu1).trans ((if_neg c7).trans ((lt_eq hu10).trans ((if_neg c16).trans ((lt_eq hu19).trans ((if_neg c25).trans ((if_neg c28).trans ((if_neg c30).trans ((if_pos c31).trans (rfl)))))))))
              rw [er]
              exact ⟨rfl, hb24⟩
            · skip
              refine r_aload_n C dX7_hire_57 rfl ?_
              refine r_get C hb24 (k := 0) rfl rfl celO_7 fw_X7_25 rfl dX7_hire_58 ?_
              refine r_bipush C dX7_hire_61 (43 : Int32) (by decide) ?_
              refine r_iload_n C dX7_hire_63 rfl ?_
              refine r_iaddN C dX7_hire_64 (na := 43) (nb := b.toNatClampNeg) rfl hn26 (nc := (43 + b.toNatClampNeg)) rfl ?_
              refine r_iald C hb24 (k := 6) rfl rfl (vp_in_n rfl (by omega) (by omega)) (j := (43 + b.toNatClampNeg)) (cl_n rfl (by omega)) dX7_hire_65 ?_
              refine r_iconst C dX7_hire_66 (1 : Int32) (by decide) ?_
              refine r_ic_eq C dX7_hire_67 (fun c32 => ?_) (fun c32 => ?_)
              · skip
                refine r_bipush C dX7_hire_90 (-2 : Int32) (by decide) ?_
                refine r_iret C dX7_hire_92 ?_
                have er : res = ((-2 : Int32), R_m) := by rw [hres, d_X7_hire]; try exact (lt_eq hu1).trans ((if_neg c7).trans ((lt_eq hu10).trans ((if_neg c16).trans ((lt_eq hu19).trans ((if_neg c25).trans ((if_neg c28).trans ((if_neg c30).trans ((if_neg c31).trans ((if_pos c32).trans (rfl))))))))))
                rw [er]
                exact ⟨rfl, hb24⟩
              · skip
                refine r_aload_n C dX7_hire_70 rfl ?_
                refine r_get C hb24 (k := 0) rfl rfl celO_7 fw_X7_25 rfl dX7_hire_71 ?_
                refine r_iconst C dX7_hire_74 (1 : Int32) (by decide) ?_
                refine r_iload_n C dX7_hire_75 rfl ?_
                refine r_iaddN C dX7_hire_76 (na := 1) (nb := t.toNatClampNeg) rfl hn8 (nc := (1 + t.toNatClampNeg)) rfl ?_
                refine r_iald C hb24 (k := 6) rfl rfl (vp_in_n rfl (by omega) (by omega)) (j := (1 + t.toNatClampNeg)) (cl_n rfl (by omega)) dX7_hire_77 ?_
                refine r_aload_n C dX7_hire_78 rfl ?_
                refine r_get C hb24 (k := 0) rfl rfl celO_7 fw_X7_25 rfl dX7_hire_79 ?_
                refine r_bipush C dX7_hire_82 (40 : Int32) (by decide) ?_
                refine r_iload_n C dX7_hire_84 rfl ?_
                refine r_iaddN C dX7_hire_85 (na := 40) (nb := a.toNatClampNeg) rfl hn17 (nc := (40 + a.toNatClampNeg)) rfl ?_
                refine r_iald C hb24 (k := 6) rfl rfl (vp_in_n rfl (by omega) (by omega)) (j := (40 + a.toNatClampNeg)) (cl_n rfl (by omega)) dX7_hire_86 ?_
                refine r_ic_ge C dX7_hire_87 (fun c33 => ?_) (fun c33 => ?_)
                · skip
                  refine r_aload_n C dX7_hire_93 rfl ?_
                  obtain ⟨u34, hu34⟩ : ∃ r, r = d_X7_note (shf R_m 0) (shf R_m 6) (shf R_m 9) := ⟨_, rfl⟩
                  refine r_callV0 C cw_X7_131 (fun l => c_X7_note l D o_m (shf R_m 0) (shf R_m 6) (shf R_m 9) h18 b18 u34 hu34) (rest := []) hb24 (k := 0) rfl rfl celO_7 ⟨(blk_sub hb24 0 1 rfl rfl), (blk_sub hb24 6 1 rfl rfl), (blk_sub hb24 9 1 rfl rfl)⟩ (fun q h => by unfold fp2 at h; unfold fp1; omega) rfl rfl rfl (Nat.le_of_ble_eq_true rfl) ⟨Nat.le_of_ble_eq_true rfl, Nat.le_of_ble_eq_true rfl, Nat.le_refl 0, Nat.le_refl 0⟩ dX7_hire_94 (fun v H35 hp36 hq37 => ?_)
                  obtain ⟨rfl, hn38, hn39⟩ := hp36
                  have hb40 := blk_spl2 hb24 0 1 rfl rfl hn38 9 1 rfl rfl hn39 (fun q h => hq37 q (by unfold fp2; omega))
                  dsimp only [psh]
                  have fx41 : u34.1 0 10 = R_m 0 10 := X7_note_fr hu34 10 (by decide)
                  have fx42 : u34.1 0 11 = R_m 0 11 := X7_note_fr hu34 11 (by decide)
                  refine r_aload_n C dX7_hire_97 rfl ?_
                  refine r_get C hb40 (k := 0) rfl rfl celO_7 fw_X7_25 rfl dX7_hire_98 ?_
                  refine r_iconst C dX7_hire_101 (1 : Int32) (by decide) ?_
                  refine r_iload_n C dX7_hire_102 rfl ?_
                  refine r_iaddN C dX7_hire_103 (na := 1) (nb := t.toNatClampNeg) rfl hn8 (nc := (1 + t.toNatClampNeg)) rfl ?_
                  refine r_dup2 C dX7_hire_104 rfl rfl ?_
                  refine r_iald C hb40 (k := 6) rfl rfl (vp_in_n rfl (by omega) (by omega)) (j := (1 + t.toNatClampNeg)) (cl_n rfl (by omega)) dX7_hire_105 ?_
                  change WG x _ _ _ _ _ _ _ (.int (R_m 6 (1 + t.toNatClampNeg)) :: _)
                  refine r_aload_n C dX7_hire_106 rfl ?_
                  refine r_get C hb40 (k := 0) rfl rfl celO_7 fw_X7_25 rfl dX7_hire_107 ?_
                  refine r_bipush C dX7_hire_110 (40 : Int32) (by decide) ?_
                  refine r_iload_n C dX7_hire_112 rfl ?_
                  refine r_iaddN C dX7_hire_113 (na := 40) (nb := a.toNatClampNeg) rfl hn17 (nc := (40 + a.toNatClampNeg)) rfl ?_
                  refine r_iald C hb40 (k := 6) rfl rfl (vp_in_n rfl (by omega) (by omega)) (j := (40 + a.toNatClampNeg)) (cl_n rfl (by omega)) dX7_hire_114 ?_
                  change WG x _ _ _ _ _ _ _ (.int (R_m 6 (40 + a.toNatClampNeg)) :: _)
                  refine r_isub C dX7_hire_115 ?_
                  refine r_topi (fun y43 hy43 => ?_)
                  refine r_iast C hb40 (k := 6) rfl rfl (by unfold fp1; omega) (vp_in_n rfl (by omega) (by omega)) (j := (1 + t.toNatClampNeg)) (cl_n rfl (by omega)) dX7_hire_116 (fun H44 hb46 hq45 => ?_)
                  refine r_aload_n C dX7_hire_117 rfl ?_
                  refine r_get C hb46 (k := 0) rfl rfl celO_7 fw_X7_25 rfl dX7_hire_118 ?_
                  refine r_bipush C dX7_hire_121 (37 : Int32) (by decide) ?_
                  refine r_iload_n C dX7_hire_123 rfl ?_
                  refine r_iaddN C dX7_hire_124 (na := 37) (nb := a.toNatClampNeg) rfl hn17 (nc := (37 + a.toNatClampNeg)) rfl ?_
                  refine r_iald C hb46 (k := 6) rfl rfl (vp_in_n rfl (by omega) (by omega)) (j := (37 + a.toNatClampNeg)) (cl_n rfl (by omega)) dX7_hire_125 ?_
                  refine r_aload_n C dX7_hire_126 rfl ?_
                  refine r_get C hb46 (k := 0) rfl rfl celO_7 fw_X7_25 rfl dX7_hire_127 ?_
                  refine r_bipush C dX7_hire_130 (37 : Int32) (by decide) ?_
                  refine r_iload_n C dX7_hire_132 rfl ?_
                  refine r_iaddN C dX7_hire_133 (na := 37) (nb := b.toNatClampNeg) rfl hn26 (nc := (37 + b.toNatClampNeg)) rfl ?_
                  refine r_iald C hb46 (k := 6) rfl rfl (vp_in_n rfl (by omega) (by omega)) (j := (37 + b.toNatClampNeg)) (cl_n rfl (by omega)) dX7_hire_134 ?_
                  refine r_ic_ge C dX7_hire_135 (fun c47 => ?_) (fun c47 => ?_)
                  · skip
                    refine r_aload_n C dX7_hire_150 rfl ?_
                    refine r_get C hb46 (k := 0) rfl rfl celO_7 fw_X7_25 rfl dX7_hire_151 ?_
                    refine r_bipush C dX7_hire_154 (37 : Int32) (by decide) ?_
                    refine r_iload_n C dX7_hire_156 rfl ?_
                    refine r_iaddN C dX7_hire_157 (na := 37) (nb := b.toNatClampNeg) rfl hn26 (nc := (37 + b.toNatClampNeg)) rfl ?_
                    refine r_iald C hb46 (k := 6) rfl rfl (vp_in_n rfl (by omega) (by omega)) (j := (37 + b.toNatClampNeg)) (cl_n rfl (by omega)) dX7_hire_158 ?_
                    refine r_topi (fun y48 hy48 => ?_)
                    refine r_istore C dX7_hire_159 (ls' := [.val (.ref o_m), .val (.int t), .val (.int a), .val (.int b), .val (.int y48)]) rfl trivial rfl ?_
                    refine r_aload_n C dX7_hire_161 rfl ?_
                    refine r_get C hb46 (k := 0) rfl rfl celO_7 fw_X7_25 rfl dX7_hire_162 ?_
                    refine r_bipush C dX7_hire_165 (37 : Int32) (by decide) ?_
                    refine r_iload_n C dX7_hire_167 rfl ?_
                    refine r_iaddN C dX7_hire_168 (na := 37) (nb := a.toNatClampNeg) rfl hn17 (nc := (37 + a.toNatClampNeg)) rfl ?_
                    refine r_dup2 C dX7_hire_169 rfl rfl ?_
                    refine r_iald C hb46 (k := 6) rfl rfl (vp_in_n rfl (by omega) (by omega)) (j := (37 + a.toNatClampNeg)) (cl_n rfl (by omega)) dX7_hire_170 ?_
                    refine r_iload C dX7_hire_171 rfl ?_
                    refine r_isub C dX7_hire_173 ?_
                    refine r_topi (fun y49 hy49 => ?_)
                    refine r_iast C hb46 (k := 6) rfl rfl (by unfold fp1; omega) (vp_in_n rfl (by omega) (by omega)) (j := (37 + a.toNatClampNeg)) (cl_n rfl (by omega)) dX7_hire_174 (fun H50 hb52 hq51 => ?_)
                    refine r_aload_n C dX7_hire_175 rfl ?_
                    refine r_get C hb52 (k := 0) rfl rfl celO_7 fw_X7_25 rfl dX7_hire_176 ?_
                    refine r_bipush C dX7_hire_179 (37 : Int32) (by decide) ?_
                    refine r_iload_n C dX7_hire_181 rfl ?_
                    refine r_iaddN C dX7_hire_182 (na := 37) (nb := b.toNatClampNeg) rfl hn26 (nc := (37 + b.toNatClampNeg)) rfl ?_
                    refine r_dup2 C dX7_hire_183 rfl rfl ?_
                    refine r_iald C hb52 (k := 6) rfl rfl (vp_in_n rfl (by omega) (by omega)) (j := (37 + b.toNatClampNeg)) (cl_n rfl (by omega)) dX7_hire_184 ?_
                    refine r_iload C dX7_hire_185 rfl ?_
                    refine r_isub C dX7_hire_187 ?_
                    refine r_topi (fun y53 hy53 => ?_)
                    refine r_iast C hb52 (k := 6) rfl rfl (by unfold fp1; omega) (vp_in_n rfl (by omega) (by omega)) (j := (37 + b.toNatClampNeg)) (cl_n rfl (by omega)) dX7_hire_188 (fun H54 hb56 hq55 => ?_)
                    refine r_aload_n C dX7_hire_189 rfl ?_
                    refine r_get C hb56 (k := 0) rfl rfl celO_7 fw_X7_25 rfl dX7_hire_190 ?_
                    refine r_bipush C dX7_hire_193 (43 : Int32) (by decide) ?_
                    refine r_iload_n C dX7_hire_195 rfl ?_
                    refine r_iaddN C dX7_hire_196 (na := 43) (nb := a.toNatClampNeg) rfl hn17 (nc := (43 + a.toNatClampNeg)) rfl ?_
                    refine r_aload_n C dX7_hire_197 rfl ?_
                    refine r_get C hb56 (k := 0) rfl rfl celO_7 fw_X7_25 rfl dX7_hire_198 ?_
                    refine r_bipush C dX7_hire_201 (37 : Int32) (by decide) ?_
                    refine r_iload_n C dX7_hire_203 rfl ?_
                    refine r_iaddN C dX7_hire_204 (na := 37) (nb := a.toNatClampNeg) rfl hn17 (nc := (37 + a.toNatClampNeg)) rfl ?_
                    refine r_iald C hb56 (k := 6) rfl rfl (vp_in_n rfl (by omega) (by omega)) (j := (37 + a.toNatClampNeg)) (cl_n rfl (by omega)) dX7_hire_205 ?_
                    refine r_if_ne C dX7_hire_206 (fun c57 => ?_) (fun c57 => ?_)
                    · skip
                      refine r_iconst C dX7_hire_213 (0 : Int32) (by decide) ?_
                      refine r_iast C hb56 (k := 6) rfl rfl (by unfold fp1; omega) (vp_in_n rfl (by omega) (by omega)) (j := (43 + a.toNatClampNeg)) (cl_n rfl (by omega)) dX7_hire_214 (fun H58 hb60 hq59 => ?_)
                      refine r_aload_n C dX7_hire_215 rfl ?_
                      refine r_get C hb60 (k := 0) rfl rfl celO_7 fw_X7_25 rfl dX7_hire_216 ?_
                      refine r_bipush C dX7_hire_219 (43 : Int32) (by decide) ?_
                      refine r_iload_n C dX7_hire_221 rfl ?_
                      refine r_iaddN C dX7_hire_222 (na := 43) (nb := b.toNatClampNeg) rfl hn26 (nc := (43 + b.toNatClampNeg)) rfl ?_
                      refine r_aload_n C dX7_hire_223 rfl ?_
                      refine r_get C hb60 (k := 0) rfl rfl celO_7 fw_X7_25 rfl dX7_hire_224 ?_
                      refine r_bipush C dX7_hire_227 (37 : Int32) (by decide) ?_
                      refine r_iload_n C dX7_hire_229 rfl ?_
                      refine r_iaddN C dX7_hire_230 (na := 37) (nb := b.toNatClampNeg) rfl hn26 (nc := (37 + b.toNatClampNeg)) rfl ?_
                      refine r_iald C hb60 (k := 6) rfl rfl (vp_in_n rfl (by omega) (by omega)) (j := (37 + b.toNatClampNeg)) (cl_n rfl (by omega)) dX7_hire_231 ?_
                      refine r_if_ne C dX7_hire_232 (fun c61 => ?_) (fun c61 => ?_)
                      · skip
                        refine r_iconst C dX7_hire_239 (0 : Int32) (by decide) ?_
                        refine r_iast C hb60 (k := 6) rfl rfl (by unfold fp1; omega) (vp_in_n rfl (by omega) (by omega)) (j := (43 + b.toNatClampNeg)) (cl_n rfl (by omega)) dX7_hire_240 (fun H62 hb64 hq63 => ?_)
                        refine r_aload_n C dX7_hire_241 rfl ?_
                        refine r_get C hb64 (k := 0) rfl rfl celO_7 fw_X7_25 rfl dX7_hire_242 ?_
                        refine r_bipush C dX7_hire_245 (37 : Int32) (by decide) ?_
                        refine r_iload_n C dX7_hire_247 rfl ?_
                        refine r_iaddN C dX7_hire_248 (na := 37) (nb := a.toNatClampNeg) rfl hn17 (nc := (37 + a.toNatClampNeg)) rfl ?_
                        refine r_iald C hb64 (k := 6) rfl rfl (vp_in_n rfl (by omega) (by omega)) (j := (37 + a.toNatClampNeg)) (cl_n rfl (by omega)) dX7_hire_249 ?_
                        refine r_topi (fun y65 hy65 => ?_)
                        refine r_iret C dX7_hire_250 ?_
                        have er : res = (y65, (pt (pt (pt (pt (pt (spl (spl R_m 0 1 u34.1) 9 1 u34.2) 6 (1 + t.toNatClampNeg) y43) 6 (37 + a.toNatClampNeg) y49) 6 (37 + b.toNatClampNeg) y53) 6 (43 + a.toNatClampNeg) (0 : Int32)) 6 (43 + b.toNatClampNeg) (0 : Int32))) := by rw [hres, d_X7_hire]; try exact (lt_eq hu1).trans ((if_neg c7).trans ((lt_eq hu10).trans ((if_neg c16).trans ((lt_eq hu19).trans ((if_neg c25).trans ((if_neg c28).trans ((if_neg c30).trans ((if_neg c31).trans ((if_neg c32).trans ((if_pos c33).trans ((lt_eq hu34).trans ((lt_eq hy43).trans ((if_pos c47).trans ((lt_eq hy48).trans ((lt_eq hy49).trans ((lt_eq hy53).trans ((if_neg c57).trans ((if_neg c61).trans ((lt_eq hy65).trans (rfl))))))))))))))))))))
                        rw [er]
                        exact ⟨rfl, hb64⟩
                      · skip
                        refine r_iconst C dX7_hire_235 (1 : Int32) (by decide) ?_
                        refine r_goto C dX7_hire_236 ?_
                        refine r_iast C hb60 (k := 6) rfl rfl (by unfold fp1; omega) (vp_in_n rfl (by omega) (by omega)) (j := (43 + b.toNatClampNeg)) (cl_n rfl (by omega)) dX7_hire_240 (fun H66 hb68 hq67 => ?_)
                        refine r_aload_n C dX7_hire_241 rfl ?_
                        refine r_get C hb68 (k := 0) rfl rfl celO_7 fw_X7_25 rfl dX7_hire_242 ?_
                        refine r_bipush C dX7_hire_245 (37 : Int32) (by decide) ?_
                        refine r_iload_n C dX7_hire_247 rfl ?_
                        refine r_iaddN C dX7_hire_248 (na := 37) (nb := a.toNatClampNeg) rfl hn17 (nc := (37 + a.toNatClampNeg)) rfl ?_
                        refine r_iald C hb68 (k := 6) rfl rfl (vp_in_n rfl (by omega) (by omega)) (j := (37 + a.toNatClampNeg)) (cl_n rfl (by omega)) dX7_hire_249 ?_
                        refine r_topi (fun y69 hy69 => ?_)
                        refine r_iret C dX7_hire_250 ?_
                        have er : res = (y69, (pt (pt (pt (pt (pt (spl (spl R_m 0 1 u34.1) 9 1 u34.2) 6 (1 + t.toNatClampNeg) y43) 6 (37 + a.toNatClampNeg) y49) 6 (37 + b.toNatClampNeg) y53) 6 (43 + a.toNatClampNeg) (0 : Int32)) 6 (43 + b.toNatClampNeg) (1 : Int32))) := by rw [hres, d_X7_hire]; try exact (lt_eq hu1).trans ((if_neg c7).trans ((lt_eq hu10).trans ((if_neg c16).trans ((lt_eq hu19).trans ((if_neg c25).trans ((if_neg c28).trans ((if_neg c30).trans ((if_neg c31).trans ((if_neg c32).trans ((if_pos c33).trans ((lt_eq hu34).trans ((lt_eq hy43).trans ((if_pos c47).trans ((lt_eq hy48).trans ((lt_eq hy49).trans ((lt_eq hy53).trans ((if_neg c57).trans ((if_pos c61).trans ((lt_eq hy69).trans (rfl))))))))))))))))))))
                        rw [er]
                        exact ⟨rfl, hb68⟩
                    · skip
                      refine r_iconst C dX7_hire_209 (1 : Int32) (by decide) ?_
                      refine r_goto C dX7_hire_210 ?_
                      refine r_iast C hb56 (k := 6) rfl rfl (by unfold fp1; omega) (vp_in_n rfl (by omega) (by omega)) (j := (43 + a.toNatClampNeg)) (cl_n rfl (by omega)) dX7_hire_214 (fun H70 hb72 hq71 => ?_)
                      refine r_aload_n C dX7_hire_215 rfl ?_
                      refine r_get C hb72 (k := 0) rfl rfl celO_7 fw_X7_25 rfl dX7_hire_216 ?_
                      refine r_bipush C dX7_hire_219 (43 : Int32) (by decide) ?_
                      refine r_iload_n C dX7_hire_221 rfl ?_
                      refine r_iaddN C dX7_hire_222 (na := 43) (nb := b.toNatClampNeg) rfl hn26 (nc := (43 + b.toNatClampNeg)) rfl ?_
                      refine r_aload_n C dX7_hire_223 rfl ?_
                      refine r_get C hb72 (k := 0) rfl rfl celO_7 fw_X7_25 rfl dX7_hire_224 ?_
                      refine r_bipush C dX7_hire_227 (37 : Int32) (by decide) ?_
                      refine r_iload_n C dX7_hire_229 rfl ?_
                      refine r_iaddN C dX7_hire_230 (na := 37) (nb := b.toNatClampNeg) rfl hn26 (nc := (37 + b.toNatClampNeg)) rfl ?_
                      refine r_iald C hb72 (k := 6) rfl rfl (vp_in_n rfl (by omega) (by omega)) (j := (37 + b.toNatClampNeg)) (cl_n rfl (by omega)) dX7_hire_231 ?_
                      refine r_if_ne C dX7_hire_232 (fun c73 => ?_) (fun c73 => ?_)
                      · skip
                        refine r_iconst C dX7_hire_239 (0 : Int32) (by decide) ?_
                        refine r_iast C hb72 (k := 6) rfl rfl (by unfold fp1; omega) (vp_in_n rfl (by omega) (by omega)) (j := (43 + b.toNatClampNeg)) (cl_n rfl (by omega)) dX7_hire_240 (fun H74 hb76 hq75 => ?_)
                        refine r_aload_n C dX7_hire_241 rfl ?_
                        refine r_get C hb76 (k := 0) rfl rfl celO_7 fw_X7_25 rfl dX7_hire_242 ?_
                        refine r_bipush C dX7_hire_245 (37 : Int32) (by decide) ?_
                        refine r_iload_n C dX7_hire_247 rfl ?_
                        refine r_iaddN C dX7_hire_248 (na := 37) (nb := a.toNatClampNeg) rfl hn17 (nc := (37 + a.toNatClampNeg)) rfl ?_
                        refine r_iald C hb76 (k := 6) rfl rfl (vp_in_n rfl (by omega) (by omega)) (j := (37 + a.toNatClampNeg)) (cl_n rfl (by omega)) dX7_hire_249 ?_
                        refine r_topi (fun y77 hy77 => ?_)
                        refine r_iret C dX7_hire_250 ?_
                        have er : res = (y77, (pt (pt (pt (pt (pt (spl (spl R_m 0 1 u34.1) 9 1 u34.2) 6 (1 + t.toNatClampNeg) y43) 6 (37 + a.toNatClampNeg) y49) 6 (37 + b.toNatClampNeg) y53) 6 (43 + a.toNatClampNeg) (1 : Int32)) 6 (43 + b.toNatClampNeg) (0 : Int32))) := by rw [hres, d_X7_hire]; try exact (lt_eq hu1).trans ((if_neg c7).trans ((lt_eq hu10).trans ((if_neg c16).trans ((lt_eq hu19).trans ((if_neg c25).trans ((if_neg c28).trans ((if_neg c30).trans ((if_neg c31).trans ((if_neg c32).trans ((if_pos c33).trans ((lt_eq hu34).trans ((lt_eq hy43).trans ((if_pos c47).trans ((lt_eq hy48).trans ((lt_eq hy49).trans ((lt_eq hy53).trans ((if_pos c57).trans ((if_neg c73).trans ((lt_eq hy77).trans (rfl))))))))))))))))))))
                        rw [er]
                        exact ⟨rfl, hb76⟩
                      · skip
                        refine r_iconst C dX7_hire_235 (1 : Int32) (by decide) ?_
                        refine r_goto C dX7_hire_236 ?_
                        refine r_iast C hb72 (k := 6) rfl rfl (by unfold fp1; omega) (vp_in_n rfl (by omega) (by omega)) (j := (43 + b.toNatClampNeg)) (cl_n rfl (by omega)) dX7_hire_240 (fun H78 hb80 hq79 => ?_)
                        refine r_aload_n C dX7_hire_241 rfl ?_
                        refine r_get C hb80 (k := 0) rfl rfl celO_7 fw_X7_25 rfl dX7_hire_242 ?_
                        refine r_bipush C dX7_hire_245 (37 : Int32) (by decide) ?_
                        refine r_iload_n C dX7_hire_247 rfl ?_
                        refine r_iaddN C dX7_hire_248 (na := 37) (nb := a.toNatClampNeg) rfl hn17 (nc := (37 + a.toNatClampNeg)) rfl ?_
                        refine r_iald C hb80 (k := 6) rfl rfl (vp_in_n rfl (by omega) (by omega)) (j := (37 + a.toNatClampNeg)) (cl_n rfl (by omega)) dX7_hire_249 ?_
                        refine r_topi (fun y81 hy81 => ?_)
                        refine r_iret C dX7_hire_250 ?_
                        have er : res = (y81, (pt (pt (pt (pt (pt (spl (spl R_m 0 1 u34.1) 9 1 u34.2) 6 (1 + t.toNatClampNeg) y43) 6 (37 + a.toNatClampNeg) y49) 6 (37 + b.toNatClampNeg) y53) 6 (43 + a.toNatClampNeg) (1 : Int32)) 6 (43 + b.toNatClampNeg) (1 : Int32))) := by rw [hres, d_X7_hire]; try exact (lt_eq hu1).trans ((if_neg c7).trans ((lt_eq hu10).trans ((if_neg c16).trans ((lt_eq hu19).trans ((if_neg c25).trans ((if_neg c28).trans ((if_neg c30).trans ((if_neg c31).trans ((if_neg c32).trans ((if_pos c33).trans ((lt_eq hu34).trans ((lt_eq hy43).trans ((if_pos c47).trans ((lt_eq hy48).trans ((lt_eq hy49).trans ((lt_eq hy53).trans ((if_pos c57).trans ((if_pos c73).trans ((lt_eq hy81).trans (rfl))))))))))))))))))))
                        rw [er]
                        exact ⟨rfl, hb80⟩
                  · skip
                    refine r_aload_n C dX7_hire_138 rfl ?_
                    refine r_get C hb46 (k := 0) rfl rfl celO_7 fw_X7_25 rfl dX7_hire_139 ?_
                    refine r_bipush C dX7_hire_142 (37 : Int32) (by decide) ?_
                    refine r_iload_n C dX7_hire_144 rfl ?_
                    refine r_iaddN C dX7_hire_145 (na := 37) (nb := a.toNatClampNeg) rfl hn17 (nc := (37 + a.toNatClampNeg)) rfl ?_
                    refine r_iald C hb46 (k := 6) rfl rfl (vp_in_n rfl (by omega) (by omega)) (j := (37 + a.toNatClampNeg)) (cl_n rfl (by omega)) dX7_hire_146 ?_
                    refine r_goto C dX7_hire_147 ?_
                    refine r_topi (fun y82 hy82 => ?_)
                    refine r_istore C dX7_hire_159 (ls' := [.val (.ref o_m), .val (.int t), .val (.int a), .val (.int b), .val (.int y82)]) rfl trivial rfl ?_
                    refine r_aload_n C dX7_hire_161 rfl ?_
                    refine r_get C hb46 (k := 0) rfl rfl celO_7 fw_X7_25 rfl dX7_hire_162 ?_
                    refine r_bipush C dX7_hire_165 (37 : Int32) (by decide) ?_
                    refine r_iload_n C dX7_hire_167 rfl ?_
                    refine r_iaddN C dX7_hire_168 (na := 37) (nb := a.toNatClampNeg) rfl hn17 (nc := (37 + a.toNatClampNeg)) rfl ?_
                    refine r_dup2 C dX7_hire_169 rfl rfl ?_
                    refine r_iald C hb46 (k := 6) rfl rfl (vp_in_n rfl (by omega) (by omega)) (j := (37 + a.toNatClampNeg)) (cl_n rfl (by omega)) dX7_hire_170 ?_
                    refine r_iload C dX7_hire_171 rfl ?_
                    refine r_isub C dX7_hire_173 ?_
                    refine r_topi (fun y83 hy83 => ?_)
                    refine r_iast C hb46 (k := 6) rfl rfl (by unfold fp1; omega) (vp_in_n rfl (by omega) (by omega)) (j := (37 + a.toNatClampNeg)) (cl_n rfl (by omega)) dX7_hire_174 (fun H84 hb86 hq85 => ?_)
                    refine r_aload_n C dX7_hire_175 rfl ?_
                    refine r_get C hb86 (k := 0) rfl rfl celO_7 fw_X7_25 rfl dX7_hire_176 ?_
                    refine r_bipush C dX7_hire_179 (37 : Int32) (by decide) ?_
                    refine r_iload_n C dX7_hire_181 rfl ?_
                    refine r_iaddN C dX7_hire_182 (na := 37) (nb := b.toNatClampNeg) rfl hn26 (nc := (37 + b.toNatClampNeg)) rfl ?_
                    refine r_dup2 C dX7_hire_183 rfl rfl ?_
                    refine r_iald C hb86 (k := 6) rfl rfl (vp_in_n rfl (by omega) (by omega)) (j := (37 + b.toNatClampNeg)) (cl_n rfl (by omega)) dX7_hire_184 ?_
                    refine r_iload C dX7_hire_185 rfl ?_
                    refine r_isub C dX7_hire_187 ?_
                    refine r_topi (fun y87 hy87 => ?_)
                    refine r_iast C hb86 (k := 6) rfl rfl (by unfold fp1; omega) (vp_in_n rfl (by omega) (by omega)) (j := (37 + b.toNatClampNeg)) (cl_n rfl (by omega)) dX7_hire_188 (fun H88 hb90 hq89 => ?_)
                    refine r_aload_n C dX7_hire_189 rfl ?_
                    refine r_get C hb90 (k := 0) rfl rfl celO_7 fw_X7_25 rfl dX7_hire_190 ?_
                    refine r_bipush C dX7_hire_193 (43 : Int32) (by decide) ?_
                    refine r_iload_n C dX7_hire_195 rfl ?_
                    refine r_iaddN C dX7_hire_196 (na := 43) (nb := a.toNatClampNeg) rfl hn17 (nc := (43 + a.toNatClampNeg)) rfl ?_
                    refine r_aload_n C dX7_hire_197 rfl ?_
                    refine r_get C hb90 (k := 0) rfl rfl celO_7 fw_X7_25 rfl dX7_hire_198 ?_
                    refine r_bipush C dX7_hire_201 (37 : Int32) (by decide) ?_
                    refine r_iload_n C dX7_hire_203 rfl ?_
                    refine r_iaddN C dX7_hire_204 (na := 37) (nb := a.toNatClampNeg) rfl hn17 (nc := (37 + a.toNatClampNeg)) rfl ?_
                    refine r_iald C hb90 (k := 6) rfl rfl (vp_in_n rfl (by omega) (by omega)) (j := (37 + a.toNatClampNeg)) (cl_n rfl (by omega)) dX7_hire_205 ?_
                    refine r_if_ne C dX7_hire_206 (fun c91 => ?_) (fun c91 => ?_)
                    · skip
                      refine r_iconst C dX7_hire_213 (0 : Int32) (by decide) ?_
                      refine r_iast C hb90 (k := 6) rfl rfl (by unfold fp1; omega) (vp_in_n rfl (by omega) (by omega)) (j := (43 + a.toNatClampNeg)) (cl_n rfl (by omega)) dX7_hire_214 (fun H92 hb94 hq93 => ?_)
                      refine r_aload_n C dX7_hire_215 rfl ?_
                      refine r_get C hb94 (k := 0) rfl rfl celO_7 fw_X7_25 rfl dX7_hire_216 ?_
                      refine r_bipush C dX7_hire_219 (43 : Int32) (by decide) ?_
                      refine r_iload_n C dX7_hire_221 rfl ?_
                      refine r_iaddN C dX7_hire_222 (na := 43) (nb := b.toNatClampNeg) rfl hn26 (nc := (43 + b.toNatClampNeg)) rfl ?_
                      refine r_aload_n C dX7_hire_223 rfl ?_
                      refine r_get C hb94 (k := 0) rfl rfl celO_7 fw_X7_25 rfl dX7_hire_224 ?_
                      refine r_bipush C dX7_hire_227 (37 : Int32) (by decide) ?_
                      refine r_iload_n C dX7_hire_229 rfl ?_
                      refine r_iaddN C dX7_hire_230 (na := 37) (nb := b.toNatClampNeg) rfl hn26 (nc := (37 + b.toNatClampNeg)) rfl ?_
                      refine r_iald C hb94 (k := 6) rfl rfl (vp_in_n rfl (by omega) (by omega)) (j := (37 + b.toNatClampNeg)) (cl_n rfl (by omega)) dX7_hire_231 ?_
                      refine r_if_ne C dX7_hire_232 (fun c95 => ?_) (fun c95 => ?_)
                      · skip
                        refine r_iconst C dX7_hire_239 (0 : Int32) (by decide) ?_
                        refine r_iast C hb94 (k := 6) rfl rfl (by unfold fp1; omega) (vp_in_n rfl (by omega) (by omega)) (j := (43 + b.toNatClampNeg)) (cl_n rfl (by omega)) dX7_hire_240 (fun H96 hb98 hq97 => ?_)
                        refine r_aload_n C dX7_hire_241 rfl ?_
                        refine r_get C hb98 (k := 0) rfl rfl celO_7 fw_X7_25 rfl dX7_hire_242 ?_
                        refine r_bipush C dX7_hire_245 (37 : Int32) (by decide) ?_
                        refine r_iload_n C dX7_hire_247 rfl ?_
                        refine r_iaddN C dX7_hire_248 (na := 37) (nb := a.toNatClampNeg) rfl hn17 (nc := (37 + a.toNatClampNeg)) rfl ?_
                        refine r_iald C hb98 (k := 6) rfl rfl (vp_in_n rfl (by omega) (by omega)) (j := (37 + a.toNatClampNeg)) (cl_n rfl (by omega)) dX7_hire_249 ?_
                        refine r_topi (fun y99 hy99 => ?_)
                        refine r_iret C dX7_hire_250 ?_
                        have er : res = (y99, (pt (pt (pt (pt (pt (spl (spl R_m 0 1 u34.1) 9 1 u34.2) 6 (1 + t.toNatClampNeg) y43) 6 (37 + a.toNatClampNeg) y83) 6 (37 + b.toNatClampNeg) y87) 6 (43 + a.toNatClampNeg) (0 : Int32)) 6 (43 + b.toNatClampNeg) (0 : Int32))) := by rw [hres, d_X7_hire]; try exact (lt_eq hu1).trans ((if_neg c7).trans ((lt_eq hu10).trans ((if_neg c16).trans ((lt_eq hu19).trans ((if_neg c25).trans ((if_neg c28).trans ((if_neg c30).trans ((if_neg c31).trans ((if_neg c32).trans ((if_pos c33).trans ((lt_eq hu34).trans ((lt_eq hy43).trans ((if_neg c47).trans ((lt_eq hy82).trans ((lt_eq hy83).trans ((lt_eq hy87).trans ((if_neg c91).trans ((if_neg c95).trans ((lt_eq hy99).trans (rfl))))))))))))))))))))
                        rw [er]
                        exact ⟨rfl, hb98⟩
                      · skip
                        refine r_iconst C dX7_hire_235 (1 : Int32) (by decide) ?_
                        refine r_goto C dX7_hire_236 ?_
                        refine r_iast C hb94 (k := 6) rfl rfl (by unfold fp1; omega) (vp_in_n rfl (by omega) (by omega)) (j := (43 + b.toNatClampNeg)) (cl_n rfl (by omega)) dX7_hire_240 (fun H100 hb102 hq101 => ?_)
                        refine r_aload_n C dX7_hire_241 rfl ?_
                        refine r_get C hb102 (k := 0) rfl rfl celO_7 fw_X7_25 rfl dX7_hire_242 ?_
                        refine r_bipush C dX7_hire_245 (37 : Int32) (by decide) ?_
                        refine r_iload_n C dX7_hire_247 rfl ?_
                        refine r_iaddN C dX7_hire_248 (na := 37) (nb := a.toNatClampNeg) rfl hn17 (nc := (37 + a.toNatClampNeg)) rfl ?_
                        refine r_iald C hb102 (k := 6) rfl rfl (vp_in_n rfl (by omega) (by omega)) (j := (37 + a.toNatClampNeg)) (cl_n rfl (by omega)) dX7_hire_249 ?_
                        refine r_topi (fun y103 hy103 => ?_)
                        refine r_iret C dX7_hire_250 ?_
                        have er : res = (y103, (pt (pt (pt (pt (pt (spl (spl R_m 0 1 u34.1) 9 1 u34.2) 6 (1 + t.toNatClampNeg) y43) 6 (37 + a.toNatClampNeg) y83) 6 (37 + b.toNatClampNeg) y87) 6 (43 + a.toNatClampNeg) (0 : Int32)) 6 (43 + b.toNatClampNeg) (1 : Int32))) := by rw [hres, d_X7_hire]; try exact (lt_eq hu1).trans ((if_neg c7).trans ((lt_eq hu10).trans ((if_neg c16).trans ((lt_eq hu19).trans ((if_neg c25).trans ((if_neg c28).trans ((if_neg c30).trans ((if_neg c31).trans ((if_neg c32).trans ((if_pos c33).trans ((lt_eq hu34).trans ((lt_eq hy43).trans ((if_neg c47).trans ((lt_eq hy82).trans ((lt_eq hy83).trans ((lt_eq hy87).trans ((if_neg c91).trans ((if_pos c95).trans ((lt_eq hy103).trans (rfl))))))))))))))))))))
                        rw [er]
                        exact ⟨rfl, hb102⟩
                    · skip
                      refine r_iconst C dX7_hire_209 (1 : Int32) (by decide) ?_
                      refine r_goto C dX7_hire_210 ?_
                      refine r_iast C hb90 (k := 6) rfl rfl (by unfold fp1; omega) (vp_in_n rfl (by omega) (by omega)) (j := (43 + a.toNatClampNeg)) (cl_n rfl (by omega)) dX7_hire_214 (fun H104 hb106 hq105 => ?_)
                      refine r_aload_n C dX7_hire_215 rfl ?_
                      refine r_get C hb106 (k := 0) rfl rfl celO_7 fw_X7_25 rfl dX7_hire_216 ?_
                      refine r_bipush C dX7_hire_219 (43 : Int32) (by decide) ?_
                      refine r_iload_n C dX7_hire_221 rfl ?_
                      refine r_iaddN C dX7_hire_222 (na := 43) (nb := b.toNatClampNeg) rfl hn26 (nc := (43 + b.toNatClampNeg)) rfl ?_
                      refine r_aload_n C dX7_hire_223 rfl ?_
                      refine r_get C hb106 (k := 0) rfl rfl celO_7 fw_X7_25 rfl dX7_hire_224 ?_
                      refine r_bipush C dX7_hire_227 (37 : Int32) (by decide) ?_
                      refine r_iload_n C dX7_hire_229 rfl ?_
                      refine r_iaddN C dX7_hire_230 (na := 37) (nb := b.toNatClampNeg) rfl hn26 (nc := (37 + b.toNatClampNeg)) rfl ?_
                      refine r_iald C hb106 (k := 6) rfl rfl (vp_in_n rfl (by omega) (by omega)) (j := (37 + b.toNatClampNeg)) (cl_n rfl (by omega)) dX7_hire_231 ?_
                      refine r_if_ne C dX7_hire_232 (fun c107 => ?_) (fun c107 => ?_)
                      · skip
                        refine r_iconst C dX7_hire_239 (0 : Int32) (by decide) ?_
                        refine r_iast C hb106 (k := 6) rfl rfl (by unfold fp1; omega) (vp_in_n rfl (by omega) (by omega)) (j := (43 + b.toNatClampNeg)) (cl_n rfl (by omega)) dX7_hire_240 (fun H108 hb110 hq109 => ?_)
                        refine r_aload_n C dX7_hire_241 rfl ?_
                        refine r_get C hb110 (k := 0) rfl rfl celO_7 fw_X7_25 rfl dX7_hire_242 ?_
                        refine r_bipush C dX7_hire_245 (37 : Int32) (by decide) ?_
                        refine r_iload_n C dX7_hire_247 rfl ?_
                        refine r_iaddN C dX7_hire_248 (na := 37) (nb := a.toNatClampNeg) rfl hn17 (nc := (37 + a.toNatClampNeg)) rfl ?_
                        refine r_iald C hb110 (k := 6) rfl rfl (vp_in_n rfl (by omega) (by omega)) (j := (37 + a.toNatClampNeg)) (cl_n rfl (by omega)) dX7_hire_249 ?_
                        refine r_topi (fun y111 hy111 => ?_)
                        refine r_iret C dX7_hire_250 ?_
                        have er : res = (y111, (pt (pt (pt (pt (pt (spl (spl R_m 0 1 u34.1) 9 1 u34.2) 6 (1 + t.toNatClampNeg) y43) 6 (37 + a.toNatClampNeg) y83) 6 (37 + b.toNatClampNeg) y87) 6 (43 + a.toNatClampNeg) (1 : Int32)) 6 (43 + b.toNatClampNeg) (0 : Int32))) := by rw [hres, d_X7_hire]; try exact (lt_eq hu1).trans ((if_neg c7).trans ((lt_eq hu10).trans ((if_neg c16).trans ((lt_eq hu19).trans ((if_neg c25).trans ((if_neg c28).trans ((if_neg c30).trans ((if_neg c31).trans ((if_neg c32).trans ((if_pos c33).trans ((lt_eq hu34).trans ((lt_eq hy43).trans ((if_neg c47).trans ((lt_eq hy82).trans ((lt_eq hy83).trans ((lt_eq hy87).trans ((if_pos c91).trans ((if_neg c107).trans ((lt_eq hy111).trans (rfl))))))))))))))))))))
                        rw [er]
                        exact ⟨rfl, hb110⟩
                      · skip
                        refine r_iconst C dX7_hire_235 (1 : Int32) (by decide) ?_
                        refine r_goto C dX7_hire_236 ?_
                        refine r_iast C hb106 (k := 6) rfl rfl (by unfold fp1; omega) (vp_in_n rfl (by omega) (by omega)) (j := (43 + b.toNatClampNeg)) (cl_n rfl (by omega)) dX7_hire_240 (fun H112 hb114 hq113 => ?_)
                        refine r_aload_n C dX7_hire_241 rfl ?_
                        refine r_get C hb114 (k := 0) rfl rfl celO_7 fw_X7_25 rfl dX7_hire_242 ?_
                        refine r_bipush C dX7_hire_245 (37 : Int32) (by decide) ?_
                        refine r_iload_n C dX7_hire_247 rfl ?_
                        refine r_iaddN C dX7_hire_248 (na := 37) (nb := a.toNatClampNeg) rfl hn17 (nc := (37 + a.toNatClampNeg)) rfl ?_
                        refine r_iald C hb114 (k := 6) rfl rfl (vp_in_n rfl (by omega) (by omega)) (j := (37 + a.toNatClampNeg)) (cl_n rfl (by omega)) dX7_hire_249 ?_
                        refine r_topi (fun y115 hy115 => ?_)
                        refine r_iret C dX7_hire_250 ?_
                        have er : res = (y115, (pt (pt (pt (pt (pt (spl (spl R_m 0 1 u34.1) 9 1 u34.2) 6 (1 + t.toNatClampNeg) y43) 6 (37 + a.toNatClampNeg) y83) 6 (37 + b.toNatClampNeg) y87) 6 (43 + a.toNatClampNeg) (1 : Int32)) 6 (43 + b.toNatClampNeg) (1 : Int32))) := by rw [hres, d_X7_hire]; try exact (lt_eq hu1).trans ((if_neg c7).trans ((lt_eq hu10).trans ((if_neg c16).trans ((lt_eq hu19).trans ((if_neg c25).trans ((if_neg c28).trans ((if_neg c30).trans ((if_neg c31).trans ((if_neg c32).trans ((if_pos c33).trans ((lt_eq hu34).trans ((lt_eq hy43).trans ((if_neg c47).trans ((lt_eq hy82).trans ((lt_eq hy83).trans ((lt_eq hy87).trans ((if_pos c91).trans ((if_pos c107).trans ((lt_eq hy115).trans (rfl))))))))))))))))))))
                        rw [er]
                        exact ⟨rfl, hb114⟩
                · skip
                  refine r_bipush C dX7_hire_90 (-2 : Int32) (by decide) ?_
                  refine r_iret C dX7_hire_92 ?_
                  have er : res = ((-2 : Int32), R_m) := by rw [hres, d_X7_hire]; try exact (lt_eq hu1).trans ((if_neg c7).trans ((lt_eq hu10).trans ((if_neg c16).trans ((lt_eq hu19).trans ((if_neg c25).trans ((if_neg c28).trans ((if_neg c30).trans ((if_neg c31).trans ((if_neg c32).trans ((if_neg c33).trans (rfl)))))))))))
                  rw [er]
                  exact ⟨rfl, hb24⟩
        · skip
          have f116 : (a.toNatClampNeg = b.toNatClampNeg) := nf_eq (by omega) (by omega) hn17 hn26 c28
          refine r_iconst C dX7_hire_29 (-1 : Int32) (by decide) ?_
          refine r_iret C dX7_hire_30 ?_
          have er : res = ((-1 : Int32), R_m) := by rw [hres, d_X7_hire]; try exact (lt_eq hu1).trans ((if_neg c7).trans ((lt_eq hu10).trans ((if_neg c16).trans ((lt_eq hu19).trans ((if_neg c25).trans ((if_pos c28).trans (rfl)))))))
          rw [er]
          exact ⟨rfl, hb24⟩

def d_X7_land (R_m : Nat → Nat → Int32) (t : Int32) (c : Int32) : Int32 × (Nat → Nat → Int32) :=
  lt (d_X7_isTown (shf R_m 0) t) fun u1 =>
  if u1 = 0 then
    ((-1 : Int32), R_m)
  else
    lt (d_X7_isCrew (shf R_m 0) c) fun u10 =>
    if u10 = 0 then
      ((-1 : Int32), R_m)
    else
      if (R_m 6 (25 + t.toNatClampNeg)) = (1 : Int32) then
        ((-2 : Int32), R_m)
      else
        if (R_m 6 (43 + c.toNatClampNeg)) = (1 : Int32) then
          ((-2 : Int32), R_m)
        else
          lt (d_X7_note (shf R_m 0) (shf R_m 6) (shf R_m 9)) fun u21 =>
          lt ((((pt (spl (spl R_m 0 1 u21.1) 9 1 u21.2) 6 (43 + c.toNatClampNeg) (1 : Int32)) 6 (7 + t.toNatClampNeg)) - (((pt (spl (spl R_m 0 1 u21.1) 9 1 u21.2) 6 (43 + c.toNatClampNeg) (1 : Int32)) 6 (40 + c.toNatClampNeg)) / (2 : Int32)))) fun y33 =>
          if 0 ≤ y33 then
            if ((pt (pt (spl (spl R_m 0 1 u21.1) 9 1 u21.2) 6 (43 + c.toNatClampNeg) (1 : Int32)) 6 (7 + t.toNatClampNeg) y33) 6 (13 + t.toNatClampNeg)) ≤ (18 : Int32) then
              lt ((((pt (pt (spl (spl R_m 0 1 u21.1) 9 1 u21.2) 6 (43 + c.toNatClampNeg) (1 : Int32)) 6 (7 + t.toNatClampNeg) y33) 6 (13 + t.toNatClampNeg)) + (2 : Int32))) fun y39 =>
              lt (((pt (pt (pt (spl (spl R_m 0 1 u21.1) 9 1 u21.2) 6 (43 + c.toNatClampNeg) (1 : Int32)) 6 (7 + t.toNatClampNeg) y33) 6 (13 + t.toNatClampNeg) y39) 6 (7 + t.toNatClampNeg))) fun y43 =>
              (y43, (pt (pt (pt (spl (spl R_m 0 1 u21.1) 9 1 u21.2) 6 (43 + c.toNatClampNeg) (1 : Int32)) 6 (7 + t.toNatClampNeg) y33) 6 (13 + t.toNatClampNeg) y39))
            else
              lt (((pt (pt (pt (spl (spl R_m 0 1 u21.1) 9 1 u21.2) 6 (43 + c.toNatClampNeg) (1 : Int32)) 6 (7 + t.toNatClampNeg) y33) 6 (13 + t.toNatClampNeg) (20 : Int32)) 6 (7 + t.toNatClampNeg))) fun y47 =>
              (y47, (pt (pt (pt (spl (spl R_m 0 1 u21.1) 9 1 u21.2) 6 (43 + c.toNatClampNeg) (1 : Int32)) 6 (7 + t.toNatClampNeg) y33) 6 (13 + t.toNatClampNeg) (20 : Int32)))
          else
            if ((pt (pt (spl (spl R_m 0 1 u21.1) 9 1 u21.2) 6 (43 + c.toNatClampNeg) (1 : Int32)) 6 (7 + t.toNatClampNeg) (0 : Int32)) 6 (13 + t.toNatClampNeg)) ≤ (18 : Int32) then
              lt ((((pt (pt (spl (spl R_m 0 1 u21.1) 9 1 u21.2) 6 (43 + c.toNatClampNeg) (1 : Int32)) 6 (7 + t.toNatClampNeg) (0 : Int32)) 6 (13 + t.toNatClampNeg)) + (2 : Int32))) fun y52 =>
              lt (((pt (pt (pt (spl (spl R_m 0 1 u21.1) 9 1 u21.2) 6 (43 + c.toNatClampNeg) (1 : Int32)) 6 (7 + t.toNatClampNeg) (0 : Int32)) 6 (13 + t.toNatClampNeg) y52) 6 (7 + t.toNatClampNeg))) fun y56 =>
              (y56, (pt (pt (pt (spl (spl R_m 0 1 u21.1) 9 1 u21.2) 6 (43 + c.toNatClampNeg) (1 : Int32)) 6 (7 + t.toNatClampNeg) (0 : Int32)) 6 (13 + t.toNatClampNeg) y52))
            else
              lt (((pt (pt (pt (spl (spl R_m 0 1 u21.1) 9 1 u21.2) 6 (43 + c.toNatClampNeg) (1 : Int32)) 6 (7 + t.toNatClampNeg) (0 : Int32)) 6 (13 + t.toNatClampNeg) (20 : Int32)) 6 (7 + t.toNatClampNeg))) fun y60 =>
              (y60, (pt (pt (pt (spl (spl R_m 0 1 u21.1) 9 1 u21.2) 6 (43 + c.toNatClampNeg) (1 : Int32)) 6 (7 + t.toNatClampNeg) (0 : Int32)) 6 (13 + t.toNatClampNeg) (20 : Int32)))
set_option maxHeartbeats 4000000 in
set_option maxRecDepth 100000 in
theorem c_X7_land (l : Launch) (D : DD) (o_m : Nat) (R_m : Nat → Nat → Int32) (t : Int32) (c : Int32) (h10 : R_m 0 10 = nI (R_m 0 10).toNatClampNeg) (b10 : (R_m 0 10).toNatClampNeg ≤ 6) (h11 : R_m 0 11 = nI (R_m 0 11).toNatClampNeg) (b11 : (R_m 0 11).toNatClampNeg ≤ 3) (h18 : R_m 0 18 = nI (R_m 0 18).toNatClampNeg) (b18 : (R_m 0 18).toNatClampNeg ≤ 8) (res : Int32 × (Nat → Nat → Int32)) (hres : res = d_X7_land R_m t c) : Mt l D yX7_land cX7_land 4 (some .int) 2 45 0 0 [.ref o_m, .int t, .int c] (fun H => blk D ksModel o_m R_m H) (fun v H => v = some (.int res.1) ∧ blk D ksModel o_m res.2 H) (fp1 o_m 14) := by
  refine mt_of (own := RX7) (ls := [.val (.ref o_m), .val (.int t), .val (.int c), .unset]) rfl (by decide +kernel) rfl ?_
  intro x H C hP
  have hb_m := hP
  refine r_aload_n C dX7_land_0 rfl ?_
  refine r_iload_n C dX7_land_1 rfl ?_
  obtain ⟨u1, hu1⟩ : ∃ r, r = d_X7_isTown (shf R_m 0) t := ⟨_, rfl⟩
  refine r_callV0 C cw_X7_113 (fun l => c_X7_isTown l D o_m (shf R_m 0) t u1 hu1) (rest := []) hb_m (k := 0) rfl rfl celO_7 (blk_sub hb_m 0 1 rfl rfl) (fun q h => h.elim) rfl rfl rfl (Nat.le_of_ble_eq_true rfl) ⟨Nat.le_of_ble_eq_true rfl, Nat.le_of_ble_eq_true rfl, Nat.le_refl 0, Nat.le_refl 0⟩ dX7_land_2 (fun v H2 hp3 hq4 => ?_)
  obtain ⟨rfl, hl5⟩ := hp3
  have hb6 := blk_kept hb_m (n := 14) rfl (fun q h1 h2 => hq4 q (fun h => h))
  dsimp only [psh]
  refine r_if_eq C dX7_land_5 (fun c7 => ?_) (fun c7 => ?_)
  · skip
    refine r_iconst C dX7_land_16 (-1 : Int32) (by decide) ?_
    refine r_iret C dX7_land_17 ?_
    have er : res = ((-1 : Int32), R_m) := by rw [hres, d_X7_land]; try exact (lt_eq hu1).trans ((if_pos c7).trans (rfl))
    rw [er]
    exact ⟨rfl, hb6⟩
  · skip
    obtain ⟨hn8, hn9⟩ := X7_isTown_nat hu1 c7 h10 b10
    refine r_aload_n C dX7_land_8 rfl ?_
    refine r_iload_n C dX7_land_9 rfl ?_
    obtain ⟨u10, hu10⟩ : ∃ r, r = d_X7_isCrew (shf R_m 0) c := ⟨_, rfl⟩
    refine r_callV0 C cw_X7_116 (fun l => c_X7_isCrew l D o_m (shf R_m 0) c u10 hu10) (rest := []) hb6 (k := 0) rfl rfl celO_7 (blk_sub hb6 0 1 rfl rfl) (fun q h => h.elim) rfl rfl rfl (Nat.le_of_ble_eq_true rfl) ⟨Nat.le_of_ble_eq_true rfl, Nat.le_of_ble_eq_true rfl, Nat.le_refl 0, Nat.le_refl 0⟩ dX7_land_10 (fun v H11 hp12 hq13 => ?_)
    obtain ⟨rfl, hl14⟩ := hp12
    have hb15 := blk_kept hb6 (n := 14) rfl (fun q h1 h2 => hq13 q (fun h => h))
    dsimp only [psh]
    refine r_if_ne C dX7_land_13 (fun c16 => ?_) (fun c16 => ?_)
    · skip
      obtain ⟨hn17, hn18⟩ := X7_isCrew_nat hu10 c16 h11 b11
      refine r_aload_n C dX7_land_18 rfl ?_
      refine r_get C hb15 (k := 0) rfl rfl celO_7 fw_X7_25 rfl dX7_land_19 ?_
      refine r_bipush C dX7_land_22 (25 : Int32) (by decide) ?_
      refine r_iload_n C dX7_land_24 rfl ?_
      refine r_iaddN C dX7_land_25 (na := 25) (nb := t.toNatClampNeg) rfl hn8 (nc := (25 + t.toNatClampNeg)) rfl ?_
      refine r_iald C hb15 (k := 6) rfl rfl (vp_in_n rfl (by omega) (by omega)) (j := (25 + t.toNatClampNeg)) (cl_n rfl (by omega)) dX7_land_26 ?_
      refine r_iconst C dX7_land_27 (1 : Int32) (by decide) ?_
      refine r_ic_eq C dX7_land_28 (fun c19 => ?_) (fun c19 => ?_)
      · skip
        refine r_bipush C dX7_land_44 (-2 : Int32) (by decide) ?_
        refine r_iret C dX7_land_46 ?_
        have er : res = ((-2 : Int32), R_m) := by rw [hres, d_X7_land]; try exact (lt_eq hu1).trans ((if_neg c7).trans ((lt_eq hu10).trans ((if_neg c16).trans ((if_pos c19).trans (rfl)))))
        rw [er]
        exact ⟨rfl, hb15⟩
      · skip
        refine r_aload_n C dX7_land_31 rfl ?_
        refine r_get C hb15 (k := 0) rfl rfl celO_7 fw_X7_25 rfl dX7_land_32 ?_
        refine r_bipush C dX7_land_35 (43 : Int32) (by decide) ?_
        refine r_iload_n C dX7_land_37 rfl ?_
        refine r_iaddN C dX7_land_38 (na := 43) (nb := c.toNatClampNeg) rfl hn17 (nc := (43 + c.toNatClampNeg)) rfl ?_
        refine r_iald C hb15 (k := 6) rfl rfl (vp_in_n rfl (by omega) (by omega)) (j := (43 + c.toNatClampNeg)) (cl_n rfl (by omega)) dX7_land_39 ?_
        refine r_iconst C dX7_land_40 (1 : Int32) (by decide) ?_
        refine r_ic_ne C dX7_land_41 (fun c20 => ?_) (fun c20 => ?_)
        · skip
          refine r_aload_n C dX7_land_47 rfl ?_
          obtain ⟨u21, hu21⟩ : ∃ r, r = d_X7_note (shf R_m 0) (shf R_m 6) (shf R_m 9) := ⟨_, rfl⟩
          refine r_callV0 C cw_X7_131 (fun l => c_X7_note l D o_m (shf R_m 0) (shf R_m 6) (shf R_m 9) h18 b18 u21 hu21) (rest := []) hb15 (k := 0) rfl rfl celO_7 ⟨(blk_sub hb15 0 1 rfl rfl), (blk_sub hb15 6 1 rfl rfl), (blk_sub hb15 9 1 rfl rfl)⟩ (fun q h => by unfold fp2 at h; unfold fp1; omega) rfl rfl rfl (Nat.le_of_ble_eq_true rfl) ⟨Nat.le_of_ble_eq_true rfl, Nat.le_of_ble_eq_true rfl, Nat.le_refl 0, Nat.le_refl 0⟩ dX7_land_48 (fun v H22 hp23 hq24 => ?_)
          obtain ⟨rfl, hn25, hn26⟩ := hp23
          have hb27 := blk_spl2 hb15 0 1 rfl rfl hn25 9 1 rfl rfl hn26 (fun q h => hq24 q (by unfold fp2; omega))
          dsimp only [psh]
          have fx28 : u21.1 0 10 = R_m 0 10 := X7_note_fr hu21 10 (by decide)
          have fx29 : u21.1 0 11 = R_m 0 11 := X7_note_fr hu21 11 (by decide)
          refine r_aload_n C dX7_land_51 rfl ?_
          refine r_get C hb27 (k := 0) rfl rfl celO_7 fw_X7_25 rfl dX7_land_52 ?_
          refine r_bipush C dX7_land_55 (43 : Int32) (by decide) ?_
          refine r_iload_n C dX7_land_57 rfl ?_
          refine r_iaddN C dX7_land_58 (na := 43) (nb := c.toNatClampNeg) rfl hn17 (nc := (43 + c.toNatClampNeg)) rfl ?_
          refine r_iconst C dX7_land_59 (1 : Int32) (by decide) ?_
          refine r_iast C hb27 (k := 6) rfl rfl (by unfold fp1; omega) (vp_in_n rfl (by omega) (by omega)) (j := (43 + c.toNatClampNeg)) (cl_n rfl (by omega)) dX7_land_60 (fun H30 hb32 hq31 => ?_)
          refine r_aload_n C dX7_land_61 rfl ?_
          refine r_get C hb32 (k := 0) rfl rfl celO_7 fw_X7_25 rfl dX7_land_62 ?_
          refine r_bipush C dX7_land_65 (7 : Int32) (by decide) ?_
          refine r_iload_n C dX7_land_67 rfl ?_
          refine r_iaddN C dX7_land_68 (na := 7) (nb := t.toNatClampNeg) rfl hn8 (nc := (7 + t.toNatClampNeg)) rfl ?_
          refine r_iald C hb32 (k := 6) rfl rfl (vp_in_n rfl (by omega) (by omega)) (j := (7 + t.toNatClampNeg)) (cl_n rfl (by omega)) dX7_land_69 ?_
          refine r_aload_n C dX7_land_70 rfl ?_
          refine r_get C hb32 (k := 0) rfl rfl celO_7 fw_X7_25 rfl dX7_land_71 ?_
          refine r_bipush C dX7_land_74 (40 : Int32) (by decide) ?_
          refine r_iload_n C dX7_land_76 rfl ?_
          refine r_iaddN C dX7_land_77 (na := 40) (nb := c.toNatClampNeg) rfl hn17 (nc := (40 + c.toNatClampNeg)) rfl ?_
          refine r_iald C hb32 (k := 6) rfl rfl (vp_in_n rfl (by omega) (by omega)) (j := (40 + c.toNatClampNeg)) (cl_n rfl (by omega)) dX7_land_78 ?_
          refine r_iconst C dX7_land_79 (2 : Int32) (by decide) ?_
          refine r_idiv C dX7_land_80 (by decide) ?_
          refine r_isub C dX7_land_81 ?_
          refine r_topi (fun y33 hy33 => ?_)
          refine r_istore_n C dX7_land_82 (ls' := [.val (.ref o_m), .val (.int t), .val (.int c), .val (.int y33)]) rfl trivial rfl ?_
          refine r_aload_n C dX7_land_83 rfl ?_
          refine r_get C hb32 (k := 0) rfl rfl celO_7 fw_X7_25 rfl dX7_land_84 ?_
          refine r_bipush C dX7_land_87 (7 : Int32) (by decide) ?_
          refine r_iload_n C dX7_land_89 rfl ?_
          refine r_iaddN C dX7_land_90 (na := 7) (nb := t.toNatClampNeg) rfl hn8 (nc := (7 + t.toNatClampNeg)) rfl ?_
          refine r_iload_n C dX7_land_91 rfl ?_
          refine r_if_ge C dX7_land_92 (fun c34 => ?_) (fun c34 => ?_)
          · skip
            refine r_iload_n C dX7_land_99 rfl ?_
            refine r_iast C hb32 (k := 6) rfl rfl (by unfold fp1; omega) (vp_in_n rfl (by omega) (by omega)) (j := (7 + t.toNatClampNeg)) (cl_n rfl (by omega)) dX7_land_100 (fun H35 hb37 hq36 => ?_)
            refine r_aload_n C dX7_land_101 rfl ?_
            refine r_get C hb37 (k := 0) rfl rfl celO_7 fw_X7_25 rfl dX7_land_102 ?_
            refine r_bipush C dX7_land_105 (13 : Int32) (by decide) ?_
            refine r_iload_n C dX7_land_107 rfl ?_
            refine r_iaddN C dX7_land_108 (na := 13) (nb := t.toNatClampNeg) rfl hn8 (nc := (13 + t.toNatClampNeg)) rfl ?_
            refine r_aload_n C dX7_land_109 rfl ?_
            refine r_get C hb37 (k := 0) rfl rfl celO_7 fw_X7_25 rfl dX7_land_110 ?_
            refine r_bipush C dX7_land_113 (13 : Int32) (by decide) ?_
            refine r_iload_n C dX7_land_115 rfl ?_
            refine r_iaddN C dX7_land_116 (na := 13) (nb := t.toNatClampNeg) rfl hn8 (nc := (13 + t.toNatClampNeg)) rfl ?_
            refine r_iald C hb37 (k := 6) rfl rfl (vp_in_n rfl (by omega) (by omega)) (j := (13 + t.toNatClampNeg)) (cl_n rfl (by omega)) dX7_land_117 ?_
            refine r_bipush C dX7_land_118 (18 : Int32) (by decide) ?_
            refine r_ic_le C dX7_land_120 (fun c38 => ?_) (fun c38 => ?_)
            · skip
              refine r_aload_n C dX7_land_128 rfl ?_
              refine r_get C hb37 (k := 0) rfl rfl celO_7 fw_X7_25 rfl dX7_land_129 ?_
              refine r_bipush C dX7_land_132 (13 : Int32) (by decide) ?_
              refine r_iload_n C dX7_land_134 rfl ?_
              refine r_iaddN C dX7_land_135 (na := 13) (nb := t.toNatClampNeg) rfl hn8 (nc := (13 + t.toNatClampNeg)) rfl ?_
              refine r_iald C hb37 (k := 6) rfl rfl (vp_in_n rfl (by omega) (by omega)) (j := (13 + t.toNatClampNeg)) (cl_n rfl (by omega)) dX7_land_136 ?_
              refine r_iconst C dX7_land_137 (2 : Int32) (by decide) ?_
              refine r_iadd C dX7_land_138 ?_
              refine r_topi (fun y39 hy39 => ?_)
              refine r_iast C hb37 (k := 6) rfl rfl (by unfold fp1; omega) (vp_in_n rfl (by omega) (by omega)) (j := (13 + t.toNatClampNeg)) (cl_n rfl (by omega)) dX7_land_139 (fun H40 hb42 hq41 => ?_)
              refine r_aload_n C dX7_land_140 rfl ?_
              refine r_get C hb42 (k := 0) rfl rfl celO_7 fw_X7_25 rfl dX7_land_141 ?_
              refine r_bipush C dX7_land_144 (7 : Int32) (by decide) ?_
              refine r_iload_n C dX7_land_146 rfl ?_
              refine r_iaddN C dX7_land_147 (na := 7) (nb := t.toNatClampNeg) rfl hn8 (nc := (7 + t.toNatClampNeg)) rfl ?_
              refine r_iald C hb42 (k := 6) rfl rfl (vp_in_n rfl (by omega) (by omega)) (j := (7 + t.toNatClampNeg)) (cl_n rfl (by omega)) dX7_land_148 ?_
              refine r_topi (fun y43 hy43 => ?_)
              refine r_iret C dX7_land_149 ?_
              have er : res = (y43, (pt (pt (pt (spl (spl R_m 0 1 u21.1) 9 1 u21.2) 6 (43 + c.toNatClampNeg) (1 : Int32)) 6 (7 + t.toNatClampNeg) y33) 6 (13 + t.toNatClampNeg) y39)) := by rw [hres, d_X7_land]; try exact (lt_eq hu1).trans ((if_neg c7).trans ((lt_eq hu10).trans ((if_neg c16).trans ((if_neg c19).trans ((if_neg c20).trans ((lt_eq hu21).trans ((lt_eq hy33).trans ((if_pos c34).trans ((if_pos c38).trans ((lt_eq hy39).trans ((lt_eq hy43).trans (rfl))))))))))))
              rw [er]
              exact ⟨rfl, hb42⟩
            · skip
              refine r_bipush C dX7_land_123 (20 : Int32) (by decide) ?_
              refine r_goto C dX7_land_125 ?_
              refine r_iast C hb37 (k := 6) rfl rfl (by unfold fp1; omega) (vp_in_n rfl (by omega) (by omega)) (j := (13 + t.toNatClampNeg)) (cl_n rfl (by omega)) dX7_land_139 (fun H44 hb46 hq45 => ?_)
              refine r_aload_n C dX7_land_140 rfl ?_
              refine r_get C hb46 (k := 0) rfl rfl celO_7 fw_X7_25 rfl dX7_land_141 ?_
              refine r_bipush C dX7_land_144 (7 : Int32) (by decide) ?_
              refine r_iload_n C dX7_land_146 rfl ?_
              refine r_iaddN C dX7_land_147 (na := 7) (nb := t.toNatClampNeg) rfl hn8 (nc := (7 + t.toNatClampNeg)) rfl ?_
              refine r_iald C hb46 (k := 6) rfl rfl (vp_in_n rfl (by omega) (by omega)) (j := (7 + t.toNatClampNeg)) (cl_n rfl (by omega)) dX7_land_148 ?_
              refine r_topi (fun y47 hy47 => ?_)
              refine r_iret C dX7_land_149 ?_
              have er : res = (y47, (pt (pt (pt (spl (spl R_m 0 1 u21.1) 9 1 u21.2) 6 (43 + c.toNatClampNeg) (1 : Int32)) 6 (7 + t.toNatClampNeg) y33) 6 (13 + t.toNatClampNeg) (20 : Int32))) := by rw [hres, d_X7_land]; try exact (lt_eq hu1).trans ((if_neg c7).trans ((lt_eq hu10).trans ((if_neg c16).trans ((if_neg c19).trans ((if_neg c20).trans ((lt_eq hu21).trans ((lt_eq hy33).trans ((if_pos c34).trans ((if_neg c38).trans ((lt_eq hy47).trans (rfl)))))))))))
              rw [er]
              exact ⟨rfl, hb46⟩
          · skip
            refine r_iconst C dX7_land_95 (0 : Int32) (by decide) ?_
            refine r_goto C dX7_land_96 ?_
            refine r_iast C hb32 (k := 6) rfl rfl (by unfold fp1; omega) (vp_in_n rfl (by omega) (by omega)) (j := (7 + t.toNatClampNeg)) (cl_n rfl (by omega)) dX7_land_100 (fun H48 hb50 hq49 => ?_)
            refine r_aload_n C dX7_land_101 rfl ?_
            refine r_get C hb50 (k := 0) rfl rfl celO_7 fw_X7_25 rfl dX7_land_102 ?_
            refine r_bipush C dX7_land_105 (13 : Int32) (by decide) ?_
            refine r_iload_n C dX7_land_107 rfl ?_
            refine r_iaddN C dX7_land_108 (na := 13) (nb := t.toNatClampNeg) rfl hn8 (nc := (13 + t.toNatClampNeg)) rfl ?_
            refine r_aload_n C dX7_land_109 rfl ?_
            refine r_get C hb50 (k := 0) rfl rfl celO_7 fw_X7_25 rfl dX7_land_110 ?_
            refine r_bipush C dX7_land_113 (13 : Int32) (by decide) ?_
            refine r_iload_n C dX7_land_115 rfl ?_
            refine r_iaddN C dX7_land_116 (na := 13) (nb := t.toNatClampNeg) rfl hn8 (nc := (13 + t.toNatClampNeg)) rfl ?_
            refine r_iald C hb50 (k := 6) rfl rfl (vp_in_n rfl (by omega) (by omega)) (j := (13 + t.toNatClampNeg)) (cl_n rfl (by omega)) dX7_land_117 ?_
            refine r_bipush C dX7_land_118 (18 : Int32) (by decide) ?_
            refine r_ic_le C dX7_land_120 (fun c51 => ?_) (fun c51 => ?_)
            · skip
              refine r_aload_n C dX7_land_128 rfl ?_
              refine r_get C hb50 (k := 0) rfl rfl celO_7 fw_X7_25 rfl dX7_land_129 ?_
              refine r_bipush C dX7_land_132 (13 : Int32) (by decide) ?_
              refine r_iload_n C dX7_land_134 rfl ?_
              refine r_iaddN C dX7_land_135 (na := 13) (nb := t.toNatClampNeg) rfl hn8 (nc := (13 + t.toNatClampNeg)) rfl ?_
              refine r_iald C hb50 (k := 6) rfl rfl (vp_in_n rfl (by omega) (by omega)) (j := (13 + t.toNatClampNeg)) (cl_n rfl (by omega)) dX7_land_136 ?_
              refine r_iconst C dX7_land_137 (2 : Int32) (by decide) ?_
              refine r_iadd C dX7_land_138 ?_
              refine r_topi (fun y52 hy52 => ?_)
              refine r_iast C hb50 (k := 6) rfl rfl (by unfold fp1; omega) (vp_in_n rfl (by omega) (by omega)) (j := (13 + t.toNatClampNeg)) (cl_n rfl (by omega)) dX7_land_139 (fun H53 hb55 hq54 => ?_)
              refine r_aload_n C dX7_land_140 rfl ?_
              refine r_get C hb55 (k := 0) rfl rfl celO_7 fw_X7_25 rfl dX7_land_141 ?_
              refine r_bipush C dX7_land_144 (7 : Int32) (by decide) ?_
              refine r_iload_n C dX7_land_146 rfl ?_
              refine r_iaddN C dX7_land_147 (na := 7) (nb := t.toNatClampNeg) rfl hn8 (nc := (7 + t.toNatClampNeg)) rfl ?_
              refine r_iald C hb55 (k := 6) rfl rfl (vp_in_n rfl (by omega) (by omega)) (j := (7 + t.toNatClampNeg)) (cl_n rfl (by omega)) dX7_land_148 ?_
              refine r_topi (fun y56 hy56 => ?_)
              refine r_iret C dX7_land_149 ?_
              have er : res = (y56, (pt (pt (pt (spl (spl R_m 0 1 u21.1) 9 1 u21.2) 6 (43 + c.toNatClampNeg) (1 : Int32)) 6 (7 + t.toNatClampNeg) (0 : Int32)) 6 (13 + t.toNatClampNeg) y52)) := by rw [hres, d_X7_land]; try exact (lt_eq hu1).trans ((if_neg c7).trans ((lt_eq hu10).trans ((if_neg c16).trans ((if_neg c19).trans ((if_neg c20).trans ((lt_eq hu21).trans ((lt_eq hy33).trans ((if_neg c34).trans ((if_pos c51).trans ((lt_eq hy52).trans ((lt_eq hy56).trans (rfl))))))))))))
              rw [er]
              exact ⟨rfl, hb55⟩
            · skip
              refine r_bipush C dX7_land_123 (20 : Int32) (by decide) ?_
              refine r_goto C dX7_land_125 ?_
              refine r_iast C hb50 (k := 6) rfl rfl (by unfold fp1; omega) (vp_in_n rfl (by omega) (by omega)) (j := (13 + t.toNatClampNeg)) (cl_n rfl (by omega)) dX7_land_139 (fun H57 hb59 hq58 => ?_)
              refine r_aload_n C dX7_land_140 rfl ?_
              refine r_get C hb59 (k := 0) rfl rfl celO_7 fw_X7_25 rfl dX7_land_141 ?_
              refine r_bipush C dX7_land_144 (7 : Int32) (by decide) ?_
              refine r_iload_n C dX7_land_146 rfl ?_
              refine r_iaddN C dX7_land_147 (na := 7) (nb := t.toNatClampNeg) rfl hn8 (nc := (7 + t.toNatClampNeg)) rfl ?_
              refine r_iald C hb59 (k := 6) rfl rfl (vp_in_n rfl (by omega) (by omega)) (j := (7 + t.toNatClampNeg)) (cl_n rfl (by omega)) dX7_land_148 ?_
              refine r_topi (fun y60 hy60 => ?_)
              refine r_iret C dX7_land_149 ?_
              have er : res = (y60, (pt (pt (pt (spl (spl R_m 0 1 u21.1) 9 1 u21.2) 6 (43 + c.toNatClampNeg) (1 : Int32)) 6 (7 + t.toNatClampNeg) (0 : Int32)) 6 (13 + t.toNatClampNeg) (20 : Int32))) := by rw [hres, d_X7_land]; try exact (lt_eq hu1).trans ((if_neg c7).trans ((lt_eq hu10).trans ((if_neg c16).trans ((if_neg c19).trans ((if_neg c20).trans ((lt_eq hu21).trans ((lt_eq hy33).trans ((if_neg c34).trans ((if_neg c51).trans ((lt_eq hy60).trans (rfl)))))))))))
              rw [er]
              exact ⟨rfl, hb59⟩
        · skip
          refine r_bipush C dX7_land_44 (-2 : Int32) (by decide) ?_
          refine r_iret C dX7_land_46 ?_
          have er : res = ((-2 : Int32), R_m) := by rw [hres, d_X7_land]; try exact (lt_eq hu1).trans ((if_neg c7).trans ((lt_eq hu10).trans ((if_neg c16).trans ((if_neg c19).trans ((if_pos c20).trans (rfl))))))
          rw [er]
          exact ⟨rfl, hb15⟩
    · skip
      refine r_iconst C dX7_land_16 (-1 : Int32) (by decide) ?_
      refine r_iret C dX7_land_17 ?_
      have er : res = ((-1 : Int32), R_m) := by rw [hres, d_X7_land]; try exact (lt_eq hu1).trans ((if_neg c7).trans ((lt_eq hu10).trans ((if_pos c16).trans (rfl))))
      rw [er]
      exact ⟨rfl, hb15⟩

def d_X7_raise (R_m : Nat → Nat → Int32) (t : Int32) (u : Int32) : Int32 × (Nat → Nat → Int32) :=
  lt (d_X7_isTown (shf R_m 0) t) fun u1 =>
  if u1 = 0 then
    ((-1 : Int32), R_m)
  else
    lt (d_X7_isTown (shf R_m 0) u) fun u10 =>
    if u10 = 0 then
      ((-1 : Int32), R_m)
    else
      if t = u then
        ((-1 : Int32), R_m)
      else
        if (R_m 6 (25 + t.toNatClampNeg)) = (1 : Int32) then
          ((-2 : Int32), R_m)
        else
          if (R_m 6 (25 + u.toNatClampNeg)) = 0 then
            ((-2 : Int32), R_m)
          else
            if (20 : Int32) ≤ (R_m 6 (1 + t.toNatClampNeg)) then
              lt (d_X7_note (shf R_m 0) (shf R_m 6) (shf R_m 9)) fun u24 =>
              lt (((pt (pt (pt (pt (spl (spl R_m 0 1 u24.1) 9 1 u24.2) 6 (1 + t.toNatClampNeg) ((R_m 6 (1 + t.toNatClampNeg)) - (20 : Int32))) 6 (1 + u.toNatClampNeg) (10 : Int32)) 6 (13 + u.toNatClampNeg) (0 : Int32)) 6 (25 + u.toNatClampNeg) (0 : Int32)) 6 (1 + t.toNatClampNeg))) fun y44 =>
              (y44, (pt (pt (pt (pt (spl (spl R_m 0 1 u24.1) 9 1 u24.2) 6 (1 + t.toNatClampNeg) ((R_m 6 (1 + t.toNatClampNeg)) - (20 : Int32))) 6 (1 + u.toNatClampNeg) (10 : Int32)) 6 (13 + u.toNatClampNeg) (0 : Int32)) 6 (25 + u.toNatClampNeg) (0 : Int32)))
            else
              ((-2 : Int32), R_m)
set_option maxHeartbeats 4000000 in
set_option maxRecDepth 100000 in
theorem c_X7_raise (l : Launch) (D : DD) (o_m : Nat) (R_m : Nat → Nat → Int32) (t : Int32) (u : Int32) (h10 : R_m 0 10 = nI (R_m 0 10).toNatClampNeg) (b10 : (R_m 0 10).toNatClampNeg ≤ 6) (h18 : R_m 0 18 = nI (R_m 0 18).toNatClampNeg) (b18 : (R_m 0 18).toNatClampNeg ≤ 8) (res : Int32 × (Nat → Nat → Int32)) (hres : res = d_X7_raise R_m t u) : Mt l D yX7_raise cX7_raise 3 (some .int) 2 45 0 0 [.ref o_m, .int t, .int u] (fun H => blk D ksModel o_m R_m H) (fun v H => v = some (.int res.1) ∧ blk D ksModel o_m res.2 H) (fp1 o_m 14) := by
  refine mt_of (own := RX7) (ls := [.val (.ref o_m), .val (.int t), .val (.int u)]) rfl (by decide +kernel) rfl ?_
  intro x H C hP
  have hb_m := hP
  refine r_aload_n C dX7_raise_0 rfl ?_
  refine r_iload_n C dX7_raise_1 rfl ?_
  obtain ⟨u1, hu1⟩ : ∃ r, r = d_X7_isTown (shf R_m 0) t := ⟨_, rfl⟩
  refine r_callV0 C cw_X7_113 (fun l => c_X7_isTown l D o_m (shf R_m 0) t u1 hu1) (rest := []) hb_m (k := 0) rfl rfl celO_7 (blk_sub hb_m 0 1 rfl rfl) (fun q h => h.elim) rfl rfl rfl (Nat.le_of_ble_eq_true rfl) ⟨Nat.le_of_ble_eq_true rfl, Nat.le_of_ble_eq_true rfl, Nat.le_refl 0, Nat.le_refl 0⟩ dX7_raise_2 (fun v H2 hp3 hq4 => ?_)
  obtain ⟨rfl, hl5⟩ := hp3
  have hb6 := blk_kept hb_m (n := 14) rfl (fun q h1 h2 => hq4 q (fun h => h))
  dsimp only [psh]
  refine r_if_eq C dX7_raise_5 (fun c7 => ?_) (fun c7 => ?_)
  · skip
    refine r_iconst C dX7_raise_21 (-1 : Int32) (by decide) ?_
    refine r_iret C dX7_raise_22 ?_
    have er : res = ((-1 : Int32), R_m) := by rw [hres, d_X7_raise]; try exact (lt_eq hu1).trans ((if_pos c7).trans (rfl))
    rw [er]
    exact ⟨rfl, hb6⟩
  · skip
    obtain ⟨hn8, hn9⟩ := X7_isTown_nat hu1 c7 h10 b10
    refine r_aload_n C dX7_raise_8 rfl ?_
    refine r_iload_n C dX7_raise_9 rfl ?_
    obtain ⟨u10, hu10⟩ : ∃ r, r = d_X7_isTown (shf R_m 0) u := ⟨_, rfl⟩
    refine r_callV0 C cw_X7_113 (fun l => c_X7_isTown l D o_m (shf R_m 0) u u10 hu10) (rest := []) hb6 (k := 0) rfl rfl celO_7 (blk_sub hb6 0 1 rfl rfl) (fun q h => h.elim) rfl rfl rfl (Nat.le_of_ble_eq_true rfl) ⟨Nat.le_of_ble_eq_true rfl, Nat.le_of_ble_eq_true rfl, Nat.le_refl 0, Nat.le_refl 0⟩ dX7_raise_10 (fun v H11 hp12 hq13 => ?_)
    obtain ⟨rfl, hl14⟩ := hp12
    have hb15 := blk_kept hb6 (n := 14) rfl (fun q h1 h2 => hq13 q (fun h => h))
    dsimp only [psh]
    refine r_if_eq C dX7_raise_13 (fun c16 => ?_) (fun c16 => ?_)
    · skip
      refine r_iconst C dX7_raise_21 (-1 : Int32) (by decide) ?_
      refine r_iret C dX7_raise_22 ?_
      have er : res = ((-1 : Int32), R_m) := by rw [hres, d_X7_raise]; try exact (lt_eq hu1).trans ((if_neg c7).trans ((lt_eq hu10).trans ((if_pos c16).trans (rfl))))
      rw [er]
      exact ⟨rfl, hb15⟩
    · skip
      obtain ⟨hn17, hn18⟩ := X7_isTown_nat hu10 c16 h10 b10
      refine r_iload_n C dX7_raise_16 rfl ?_
      refine r_iload_n C dX7_raise_17 rfl ?_
      refine r_ic_ne C dX7_raise_18 (fun c19 => ?_) (fun c19 => ?_)
      · skip
        have f20 : ¬ (t.toNatClampNeg = u.toNatClampNeg) := nf_eqn (by omega) (by omega) hn8 hn17 c19
        refine r_aload_n C dX7_raise_23 rfl ?_
        refine r_get C hb15 (k := 0) rfl rfl celO_7 fw_X7_25 rfl dX7_raise_24 ?_
        refine r_bipush C dX7_raise_27 (25 : Int32) (by decide) ?_
        refine r_iload_n C dX7_raise_29 rfl ?_
        refine r_iaddN C dX7_raise_30 (na := 25) (nb := t.toNatClampNeg) rfl hn8 (nc := (25 + t.toNatClampNeg)) rfl ?_
        refine r_iald C hb15 (k := 6) rfl rfl (vp_in_n rfl (by omega) (by omega)) (j := (25 + t.toNatClampNeg)) (cl_n rfl (by omega)) dX7_raise_31 ?_
        refine r_iconst C dX7_raise_32 (1 : Int32) (by decide) ?_
        refine r_ic_eq C dX7_raise_33 (fun c21 => ?_) (fun c21 => ?_)
        · skip
          refine r_bipush C dX7_raise_61 (-2 : Int32) (by decide) ?_
          refine r_iret C dX7_raise_63 ?_
          have er : res = ((-2 : Int32), R_m) := by rw [hres, d_X7_raise]; try exact (lt_eq hu1).trans ((if_neg c7).trans ((lt_eq hu10).trans ((if_neg c16).trans ((if_neg c19).trans ((if_pos c21).trans (rfl))))))
          rw [er]
          exact ⟨rfl, hb15⟩
        · skip
          refine r_aload_n C dX7_raise_36 rfl ?_
          refine r_get C hb15 (k := 0) rfl rfl celO_7 fw_X7_25 rfl dX7_raise_37 ?_
          refine r_bipush C dX7_raise_40 (25 : Int32) (by decide) ?_
          refine r_iload_n C dX7_raise_42 rfl ?_
          refine r_iaddN C dX7_raise_43 (na := 25) (nb := u.toNatClampNeg) rfl hn17 (nc := (25 + u.toNatClampNeg)) rfl ?_
          refine r_iald C hb15 (k := 6) rfl rfl (vp_in_n rfl (by omega) (by omega)) (j := (25 + u.toNatClampNeg)) (cl_n rfl (by omega)) dX7_raise_44 ?_
          refine r_if_eq C dX7_raise_45 (fun c22 => ?_) (fun c22 => ?_)
          · skip
            refine r_bipush C dX7_raise_61 (-2 : Int32) (by decide) ?_
            refine r_iret C dX7_raise_63 ?_
            have er : res = ((-2 : Int32), R_m) := by rw [hres, d_X7_raise]; try exact (lt_eq hu1).trans ((if_neg c7).trans ((lt_eq hu10).trans ((if_neg c16).trans ((if_neg c19).trans ((if_neg c21).trans ((if_pos c22).trans (rfl)))))))
            rw [er]
            exact ⟨rfl, hb15⟩
          · skip
            refine r_aload_n C dX7_raise_48 rfl ?_
            refine r_get C hb15 (k := 0) rfl rfl celO_7 fw_X7_25 rfl dX7_raise_49 ?_
            refine r_iconst C dX7_raise_52 (1 : Int32) (by decide) ?_
            refine r_iload_n C dX7_raise_53 rfl ?_
            refine r_iaddN C dX7_raise_54 (na := 1) (nb := t.toNatClampNeg) rfl hn8 (nc := (1 + t.toNatClampNeg)) rfl ?_
            refine r_iald C hb15 (k := 6) rfl rfl (vp_in_n rfl (by omega) (by omega)) (j := (1 + t.toNatClampNeg)) (cl_n rfl (by omega)) dX7_raise_55 ?_
            refine r_bipush C dX7_raise_56 (20 : Int32) (by decide) ?_
            refine r_ic_ge C dX7_raise_58 (fun c23 => ?_) (fun c23 => ?_)
            · skip
              refine r_aload_n C dX7_raise_64 rfl ?_
              obtain ⟨u24, hu24⟩ : ∃ r, r = d_X7_note (shf R_m 0) (shf R_m 6) (shf R_m 9) := ⟨_, rfl⟩
              refine r_callV0 C cw_X7_131 (fun l => c_X7_note l D o_m (shf R_m 0) (shf R_m 6) (shf R_m 9) h18 b18 u24 hu24) (rest := []) hb15 (k := 0) rfl rfl celO_7 ⟨(blk_sub hb15 0 1 rfl rfl), (blk_sub hb15 6 1 rfl rfl), (blk_sub hb15 9 1 rfl rfl)⟩ (fun q h => by unfold fp2 at h; unfold fp1; omega) rfl rfl rfl (Nat.le_of_ble_eq_true rfl) ⟨Nat.le_of_ble_eq_true rfl, Nat.le_of_ble_eq_true rfl, Nat.le_refl 0, Nat.le_refl 0⟩ dX7_raise_65 (fun v H25 hp26 hq27 => ?_)
              obtain ⟨rfl, hn28, hn29⟩ := hp26
              have hb30 := blk_spl2 hb15 0 1 rfl rfl hn28 9 1 rfl rfl hn29 (fun q h => hq27 q (by unfold fp2; omega))
              dsimp only [psh]
              have fx31 : u24.1 0 10 = R_m 0 10 := X7_note_fr hu24 10 (by decide)
              refine r_aload_n C dX7_raise_68 rfl ?_
              refine r_get C hb30 (k := 0) rfl rfl celO_7 fw_X7_25 rfl dX7_raise_69 ?_
              refine r_iconst C dX7_raise_72 (1 : Int32) (by decide) ?_
              refine r_iload_n C dX7_raise_73 rfl ?_
              refine r_iaddN C dX7_raise_74 (na := 1) (nb := t.toNatClampNeg) rfl hn8 (nc := (1 + t.toNatClampNeg)) rfl ?_
              refine r_dup2 C dX7_raise_75 rfl rfl ?_
              refine r_iald C hb30 (k := 6) rfl rfl (vp_in_n rfl (by omega) (by omega)) (j := (1 + t.toNatClampNeg)) (cl_n rfl (by omega)) dX7_raise_76 ?_
              change WG x _ _ _ _ _ _ _ (.int (R_m 6 (1 + t.toNatClampNeg)) :: _)
              refine r_bipush C dX7_raise_77 (20 : Int32) (by decide) ?_
              refine r_isub C dX7_raise_79 ?_
              refine r_iast C hb30 (k := 6) rfl rfl (by unfold fp1; omega) (vp_in_n rfl (by omega) (by omega)) (j := (1 + t.toNatClampNeg)) (cl_n rfl (by omega)) dX7_raise_80 (fun H32 hb34 hq33 => ?_)
              refine r_aload_n C dX7_raise_81 rfl ?_
              refine r_get C hb34 (k := 0) rfl rfl celO_7 fw_X7_25 rfl dX7_raise_82 ?_
              refine r_iconst C dX7_raise_85 (1 : Int32) (by decide) ?_
              refine r_iload_n C dX7_raise_86 rfl ?_
              refine r_iaddN C dX7_raise_87 (na := 1) (nb := u.toNatClampNeg) rfl hn17 (nc := (1 + u.toNatClampNeg)) rfl ?_
              refine r_bipush C dX7_raise_88 (10 : Int32) (by decide) ?_
              refine r_iast C hb34 (k := 6) rfl rfl (by unfold fp1; omega) (vp_in_n rfl (by omega) (by omega)) (j := (1 + u.toNatClampNeg)) (cl_n rfl (by omega)) dX7_raise_90 (fun H35 hb37 hq36 => ?_)
              refine r_aload_n C dX7_raise_91 rfl ?_
              refine r_get C hb37 (k := 0) rfl rfl celO_7 fw_X7_25 rfl dX7_raise_92 ?_
              refine r_bipush C dX7_raise_95 (13 : Int32) (by decide) ?_
              refine r_iload_n C dX7_raise_97 rfl ?_
              refine r_iaddN C dX7_raise_98 (na := 13) (nb := u.toNatClampNeg) rfl hn17 (nc := (13 + u.toNatClampNeg)) rfl ?_
              refine r_iconst C dX7_raise_99 (0 : Int32) (by decide) ?_
              refine r_iast C hb37 (k := 6) rfl rfl (by unfold fp1; omega) (vp_in_n rfl (by omega) (by omega)) (j := (13 + u.toNatClampNeg)) (cl_n rfl (by omega)) dX7_raise_100 (fun H38 hb40 hq39 => ?_)
              refine r_aload_n C dX7_raise_101 rfl ?_
              refine r_get C hb40 (k := 0) rfl rfl celO_7 fw_X7_25 rfl dX7_raise_102 ?_
              refine r_bipush C dX7_raise_105 (25 : Int32) (by decide) ?_
              refine r_iload_n C dX7_raise_107 rfl ?_
              refine r_iaddN C dX7_raise_108 (na := 25) (nb := u.toNatClampNeg) rfl hn17 (nc := (25 + u.toNatClampNeg)) rfl ?_
              refine r_iconst C dX7_raise_109 (0 : Int32) (by decide) ?_
              refine r_iast C hb40 (k := 6) rfl rfl (by unfold fp1; omega) (vp_in_n rfl (by omega) (by omega)) (j := (25 + u.toNatClampNeg)) (cl_n rfl (by omega)) dX7_raise_110 (fun H41 hb43 hq42 => ?_)
              refine r_aload_n C dX7_raise_111 rfl ?_
              refine r_get C hb43 (k := 0) rfl rfl celO_7 fw_X7_25 rfl dX7_raise_112 ?_
              refine r_iconst C dX7_raise_115 (1 : Int32) (by decide) ?_
              refine r_iload_n C dX7_raise_116 rfl ?_
              refine r_iaddN C dX7_raise_117 (na := 1) (nb := t.toNatClampNeg) rfl hn8 (nc := (1 + t.toNatClampNeg)) rfl ?_
              refine r_iald C hb43 (k := 6) rfl rfl (vp_in_n rfl (by omega) (by omega)) (j := (1 + t.toNatClampNeg)) (cl_n rfl (by omega)) dX7_raise_118 ?_
              refine r_topi (fun y44 hy44 => ?_)
              refine r_iret C dX7_raise_119 ?_
              have er : res = (y44, (pt (pt (pt (pt (spl (spl R_m 0 1 u24.1) 9 1 u24.2) 6 (1 + t.toNatClampNeg) ((R_m 6 (1 + t.toNatClampNeg)) - (20 : Int32))) 6 (1 + u.toNatClampNeg) (10 : Int32)) 6 (13 + u.toNatClampNeg) (0 : Int32)) 6 (25 + u.toNatClampNeg) (0 : Int32))) := by rw [hres, d_X7_raise]; try exact (lt_eq hu1).trans ((if_neg c7).trans ((lt_eq hu10).trans ((if_neg c16).trans ((if_neg c19).trans ((if_neg c21).trans ((if_neg c22).trans ((if_pos c23).trans ((lt_eq hu24).trans ((lt_eq hy44).trans (rfl))))))))))
              rw [er]
              exact ⟨rfl, hb43⟩
            · skip
              refine r_bipush C dX7_raise_61 (-2 : Int32) (by decide) ?_
              refine r_iret C dX7_raise_63 ?_
              have er : res = ((-2 : Int32), R_m) := by rw [hres, d_X7_raise]; try exact (lt_eq hu1).trans ((if_neg c7).trans ((lt_eq hu10).trans ((if_neg c16).trans ((if_neg c19).trans ((if_neg c21).trans ((if_neg c22).trans ((if_neg c23).trans (rfl))))))))
              rw [er]
              exact ⟨rfl, hb15⟩
      · skip
        have f45 : (t.toNatClampNeg = u.toNatClampNeg) := nf_eq (by omega) (by omega) hn8 hn17 c19
        refine r_iconst C dX7_raise_21 (-1 : Int32) (by decide) ?_
        refine r_iret C dX7_raise_22 ?_
        have er : res = ((-1 : Int32), R_m) := by rw [hres, d_X7_raise]; try exact (lt_eq hu1).trans ((if_neg c7).trans ((lt_eq hu10).trans ((if_neg c16).trans ((if_pos c19).trans (rfl)))))
        rw [er]
        exact ⟨rfl, hb15⟩

def d_X7_undo (R_m : Nat → Nat → Int32) : Int32 × (Nat → Nat → Int32) :=
  if (R_m 0 18) = 0 then
    ((-2 : Int32), R_m)
  else
    lt (d_X7_copy (shf (pt R_m 0 18 (nI ((R_m 0 18).toNatClampNeg - 1))) 9) (shf (pt R_m 0 18 (nI ((R_m 0 18).toNatClampNeg - 1))) 6) 512 64 (nI (64 * ((R_m 0 18).toNatClampNeg - 1))) (0 : Int32)) fun u6 =>
    ((nI ((R_m 0 18).toNatClampNeg - 1)), (spl (pt R_m 0 18 (nI ((R_m 0 18).toNatClampNeg - 1))) 6 1 u6))
set_option maxHeartbeats 4000000 in
set_option maxRecDepth 100000 in
theorem c_X7_undo (l : Launch) (D : DD) (o_m : Nat) (R_m : Nat → Nat → Int32) (h18 : R_m 0 18 = nI (R_m 0 18).toNatClampNeg) (b18 : (R_m 0 18).toNatClampNeg ≤ 8) (res : Int32 × (Nat → Nat → Int32)) (hres : res = d_X7_undo R_m) : Mt l D yX7_undo cX7_undo 1 (some .int) 1 24 0 0 [.ref o_m] (fun H => blk D ksModel o_m R_m H) (fun v H => v = some (.int res.1) ∧ blk D ksModel o_m res.2 H) (fp1 o_m 14) := by
  refine mt_of (own := RX7) (ls := [.val (.ref o_m)]) rfl (by decide +kernel) rfl ?_
  intro x H C hP
  have hb_m := hP
  refine r_aload_n C dX7_undo_0 rfl ?_
  refine r_get C hb_m (k := 0) rfl rfl celO_7 fw_X7_107 (z := .int (R_m 0 18)) rfl dX7_undo_1 ?_
  refine r_if_ne C dX7_undo_4 (fun c1 => ?_) (fun c1 => ?_)
  · skip
    have f2 : ¬ ((R_m 0 18).toNatClampNeg = 0) := nf_eqn (by omega) (by omega) h18 rfl c1
    refine r_aload_n C dX7_undo_10 rfl ?_
    refine r_dup C dX7_undo_11 rfl ?_
    refine r_get C hb_m (k := 0) rfl rfl celO_7 fw_X7_107 (z := .int (R_m 0 18)) rfl dX7_undo_12 ?_
    refine r_iconst C dX7_undo_15 (1 : Int32) (by decide) ?_
    refine r_isubN C dX7_undo_16 (na := (R_m 0 18).toNatClampNeg) (nb := 1) h18 rfl (by omega) (nc := ((R_m 0 18).toNatClampNeg - 1)) rfl ?_
    refine r_put C hb_m (k := 0) rfl rfl (by unfold fp1; omega) fw_X7_107 fp_7_18 (Or.inr rfl) dX7_undo_17 (fun H3 hb5 hq4 => ?_)
    refine r_aload_n C dX7_undo_20 rfl ?_
    refine r_get C hb5 (k := 0) rfl rfl celO_7 fw_X7_34 rfl dX7_undo_21 ?_
    refine r_bipush C dX7_undo_24 (64 : Int32) (by decide) ?_
    refine r_aload_n C dX7_undo_26 rfl ?_
    refine r_get C hb5 (k := 0) rfl rfl celO_7 fw_X7_107 (z := .int (nI ((R_m 0 18).toNatClampNeg - 1))) rfl dX7_undo_27 ?_
    refine r_imulN C dX7_undo_30 (na := 64) (nb := ((R_m 0 18).toNatClampNeg - 1)) rfl rfl (nc := (64 * ((R_m 0 18).toNatClampNeg - 1))) rfl ?_
    refine r_aload_n C dX7_undo_31 rfl ?_
    refine r_get C hb5 (k := 0) rfl rfl celO_7 fw_X7_25 rfl dX7_undo_32 ?_
    refine r_iconst C dX7_undo_35 (0 : Int32) (by decide) ?_
    obtain ⟨u6, hu6⟩ : ∃ r, r = d_X7_copy (shf (pt R_m 0 18 (nI ((R_m 0 18).toNatClampNeg - 1))) 9) (shf (pt R_m 0 18 (nI ((R_m 0 18).toNatClampNeg - 1))) 6) 512 64 (nI (64 * ((R_m 0 18).toNatClampNeg - 1))) (0 : Int32) := ⟨_, rfl⟩
    refine r_callS0 C cw_X7_63 (fun l => c_X7_copy l D (o_m + 9) (o_m + 6) (shf (pt R_m 0 18 (nI ((R_m 0 18).toNatClampNeg - 1))) 9) (shf (pt R_m 0 18 (nI ((R_m 0 18).toNatClampNeg - 1))) 6) 512 64 (nI (64 * ((R_m 0 18).toNatClampNeg - 1))) (0 : Int32) (by omega) (by omega) (nnat (a := (64 * ((R_m 0 18).toNatClampNeg - 1))) rfl (by omega)) (by have q0 := cl_n (x := (nI (64 * ((R_m 0 18).toNatClampNeg - 1)))) (n := (64 * ((R_m 0 18).toNatClampNeg - 1))) rfl (by omega); omega) (by decide) (by have q0 := cl_n (x := (0 : Int32)) (n := 0) rfl (by omega); omega) (by omega) u6 hu6) (rest := []) ⟨(blk_sub hb5 9 1 rfl rfl), (blk_sub hb5 6 1 rfl rfl)⟩ (fun q h => by unfold fp1 at h; unfold fp1; omega) rfl rfl rfl (Nat.le_of_ble_eq_true rfl) ⟨Nat.le_of_ble_eq_true rfl, Nat.le_of_ble_eq_true rfl, Nat.le_refl 0, Nat.le_refl 0⟩ dX7_undo_36 (fun v H7 hp8 hq9 => ?_)
    obtain ⟨rfl, hn10⟩ := hp8
    have hb11 := blk_spl hb5 6 1 rfl rfl hn10 (fun q h => hq9 q (by unfold fp1; omega))
    dsimp only [psh]
    refine r_aload_n C dX7_undo_39 rfl ?_
    refine r_get C hb11 (k := 0) rfl rfl celO_7 fw_X7_107 (z := .int (nI ((R_m 0 18).toNatClampNeg - 1))) rfl dX7_undo_40 ?_
    refine r_iret C dX7_undo_43 ?_
    have er : res = ((nI ((R_m 0 18).toNatClampNeg - 1)), (spl (pt R_m 0 18 (nI ((R_m 0 18).toNatClampNeg - 1))) 6 1 u6)) := by rw [hres, d_X7_undo]; try exact (if_neg c1).trans ((lt_eq hu6).trans (rfl))
    rw [er]
    exact ⟨rfl, hb11⟩
  · skip
    have f12 : ((R_m 0 18).toNatClampNeg = 0) := nf_eq (by omega) (by omega) h18 rfl c1
    refine r_bipush C dX7_undo_7 (-2 : Int32) (by decide) ?_
    refine r_iret C dX7_undo_9 ?_
    have er : res = ((-2 : Int32), R_m) := by rw [hres, d_X7_undo]; try exact (if_pos c1).trans (rfl)
    rw [er]
    exact ⟨rfl, hb_m⟩

def d_X7_behind (R_m : Nat → Nat → Int32) (n : Int32) (t : Int32) (what : Int32) : Int32 × (Nat → Nat → Int32) :=
  lt (d_X7_in n (0 : Int32) (30 : Int32)) fun u1 =>
  if u1 = 0 then
    ((-1 : Int32), R_m)
  else
    lt (d_X7_isTown (shf R_m 0) t) fun u10 =>
    if u10 = 0 then
      ((-1 : Int32), R_m)
    else
      lt (d_X7_in what (0 : Int32) (3 : Int32)) fun u19 =>
      if u19 = 0 then
        ((-1 : Int32), R_m)
      else
        lt (d_X7_tryOn (shf R_m 0) (shf R_m 5) (shf R_m 8) (shf R_m 6) n) fun u28 =>
        if what = 0 then
          ((u28 0 (1 + t.toNatClampNeg)), (spl R_m 8 1 u28))
        else
          if what = (1 : Int32) then
            ((u28 0 (13 + t.toNatClampNeg)), (spl R_m 8 1 u28))
          else
            if what = (2 : Int32) then
              ((u28 0 (25 + t.toNatClampNeg)), (spl R_m 8 1 u28))
            else
              lt (((u28 0 (31 + t.toNatClampNeg)) - (R_m 6 (31 + t.toNatClampNeg)))) fun y40 =>
              (y40, (spl R_m 8 1 u28))
set_option maxHeartbeats 4000000 in
set_option maxRecDepth 100000 in
theorem c_X7_behind (l : Launch) (D : DD) (o_m : Nat) (R_m : Nat → Nat → Int32) (n : Int32) (t : Int32) (what : Int32) (h10 : R_m 0 10 = nI (R_m 0 10).toNatClampNeg) (b10 : (R_m 0 10).toNatClampNeg ≤ 6) (h11 : R_m 0 11 = nI (R_m 0 11).toNatClampNeg) (b11 : (R_m 0 11).toNatClampNeg ≤ 3) (res : Int32 × (Nat → Nat → Int32)) (hres : res = d_X7_behind R_m n t what) : Mt l D yX7_behind cX7_behind 4 (some .int) 4 98 0 0 [.ref o_m, .int n, .int t, .int what] (fun H => blk D ksModel o_m R_m H) (fun v H => v = some (.int res.1) ∧ blk D ksModel o_m res.2 H) (fp1 o_m 14) := by
  refine mt_of (own := RX7) (ls := [.val (.ref o_m), .val (.int n), .val (.int t), .val (.int what)]) rfl (by decide +kernel) rfl ?_
  intro x H C hP
  have hb_m := hP
  refine r_iload_n C dX7_behind_0 rfl ?_
  refine r_iconst C dX7_behind_1 (0 : Int32) (by decide) ?_
  refine r_bipush C dX7_behind_2 (30 : Int32) (by decide) ?_
  obtain ⟨u1, hu1⟩ : ∃ r, r = d_X7_in n (0 : Int32) (30 : Int32) := ⟨_, rfl⟩
  refine r_callS0 C cw_X7_67 (fun l => c_X7_in l D n (0 : Int32) (30 : Int32) u1 hu1) (rest := []) trivial (fun q h => h.elim) rfl rfl rfl (Nat.le_of_ble_eq_true rfl) ⟨Nat.le_of_ble_eq_true rfl, Nat.le_of_ble_eq_true rfl, Nat.le_refl 0, Nat.le_refl 0⟩ dX7_behind_4 (fun v H2 hp3 hq4 => ?_)
  obtain ⟨rfl, hl5⟩ := hp3
  have hb6 := blk_kept hb_m (n := 14) rfl (fun q h1 h2 => hq4 q (fun h => h))
  dsimp only [psh]
  refine r_if_eq C dX7_behind_7 (fun c7 => ?_) (fun c7 => ?_)
  · skip
    refine r_iconst C dX7_behind_27 (-1 : Int32) (by decide) ?_
    refine r_iret C dX7_behind_28 ?_
    have er : res = ((-1 : Int32), R_m) := by rw [hres, d_X7_behind]; try exact (lt_eq hu1).trans ((if_pos c7).trans (rfl))
    rw [er]
    exact ⟨rfl, hb6⟩
  · skip
    obtain ⟨hn8, hn9⟩ := X7_in_nat (M := 30) hu1 c7 (by decide) rfl (by decide)
    refine r_aload_n C dX7_behind_10 rfl ?_
    refine r_iload_n C dX7_behind_11 rfl ?_
    obtain ⟨u10, hu10⟩ : ∃ r, r = d_X7_isTown (shf R_m 0) t := ⟨_, rfl⟩
    refine r_callV0 C cw_X7_113 (fun l => c_X7_isTown l D o_m (shf R_m 0) t u10 hu10) (rest := []) hb6 (k := 0) rfl rfl celO_7 (blk_sub hb6 0 1 rfl rfl) (fun q h => h.elim) rfl rfl rfl (Nat.le_of_ble_eq_true rfl) ⟨Nat.le_of_ble_eq_true rfl, Nat.le_of_ble_eq_true rfl, Nat.le_refl 0, Nat.le_refl 0⟩ dX7_behind_12 (fun v H11 hp12 hq13 => ?_)
    obtain ⟨rfl, hl14⟩ := hp12
    have hb15 := blk_kept hb6 (n := 14) rfl (fun q h1 h2 => hq13 q (fun h => h))
    dsimp only [psh]
    refine r_if_eq C dX7_behind_15 (fun c16 => ?_) (fun c16 => ?_)
    · skip
      refine r_iconst C dX7_behind_27 (-1 : Int32) (by decide) ?_
      refine r_iret C dX7_behind_28 ?_
      have er : res = ((-1 : Int32), R_m) := by rw [hres, d_X7_behind]; try exact (lt_eq hu1).trans ((if_neg c7).trans ((lt_eq hu10).trans ((if_pos c16).trans (rfl))))
      rw [er]
      exact ⟨rfl, hb15⟩
    · skip
      obtain ⟨hn17, hn18⟩ := X7_isTown_nat hu10 c16 h10 b10
      refine r_iload_n C dX7_behind_18 rfl ?_
      refine r_iconst C dX7_behind_19 (0 : Int32) (by decide) ?_
      refine r_iconst C dX7_behind_20 (3 : Int32) (by decide) ?_
      obtain ⟨u19, hu19⟩ : ∃ r, r = d_X7_in what (0 : Int32) (3 : Int32) := ⟨_, rfl⟩
      refine r_callS0 C cw_X7_67 (fun l => c_X7_in l D what (0 : Int32) (3 : Int32) u19 hu19) (rest := []) trivial (fun q h => h.elim) rfl rfl rfl (Nat.le_of_ble_eq_true rfl) ⟨Nat.le_of_ble_eq_true rfl, Nat.le_of_ble_eq_true rfl, Nat.le_refl 0, Nat.le_refl 0⟩ dX7_behind_21 (fun v H20 hp21 hq22 => ?_)
      obtain ⟨rfl, hl23⟩ := hp21
      have hb24 := blk_kept hb15 (n := 14) rfl (fun q h1 h2 => hq22 q (fun h => h))
      dsimp only [psh]
      refine r_if_ne C dX7_behind_24 (fun c25 => ?_) (fun c25 => ?_)
      · skip
        obtain ⟨hn26, hn27⟩ := X7_in_nat (M := 3) hu19 c25 (by decide) rfl (by decide)
        refine r_aload_n C dX7_behind_29 rfl ?_
        refine r_aload_n C dX7_behind_30 rfl ?_
        refine r_get C hb24 (k := 0) rfl rfl celO_7 fw_X7_25 rfl dX7_behind_31 ?_
        refine r_iload_n C dX7_behind_34 rfl ?_
        obtain ⟨u28, hu28⟩ : ∃ r, r = d_X7_tryOn (shf R_m 0) (shf R_m 5) (shf R_m 8) (shf R_m 6) n := ⟨_, rfl⟩
        refine r_callV0 C cw_X7_138 (fun l => c_X7_tryOn l D o_m (o_m + 6) (shf R_m 0) (shf R_m 5) (shf R_m 8) (shf R_m 6) n h10 b10 h11 b11 hn8 (by omega) (by omega) u28 hu28) (rest := []) hb24 (k := 0) rfl rfl celO_7 ⟨(blk_sub hb24 0 1 rfl rfl), (blk_sub hb24 5 1 rfl rfl), (blk_sub hb24 8 1 rfl rfl), (blk_sub hb24 6 1 rfl rfl)⟩ (fun q h => by unfold fp1 at h; unfold fp1; omega) rfl rfl rfl (Nat.le_of_ble_eq_true rfl) ⟨Nat.le_of_ble_eq_true rfl, Nat.le_of_ble_eq_true rfl, Nat.le_refl 0, Nat.le_refl 0⟩ dX7_behind_35 (fun v H29 hp30 hq31 => ?_)
        obtain ⟨rfl, hn32⟩ := hp30
        have hb33 := blk_spl hb24 8 1 rfl rfl hn32 (fun q h => hq31 q (by unfold fp1; omega))
        dsimp only [psh]
        refine r_iload_n C dX7_behind_38 rfl ?_
        refine r_if_ne C dX7_behind_39 (fun c34 => ?_) (fun c34 => ?_)
        · skip
          have f35 : ¬ (what.toNatClampNeg = 0) := nf_eqn (by omega) (by omega) hn26 rfl c34
          refine r_iload_n C dX7_behind_53 rfl ?_
          refine r_iconst C dX7_behind_54 (1 : Int32) (by decide) ?_
          refine r_ic_ne C dX7_behind_55 (fun c36 => ?_) (fun c36 => ?_)
          · skip
            have f37 : ¬ (what.toNatClampNeg = 1) := nf_eqn (by omega) (by omega) hn26 rfl c36
            refine r_iload_n C dX7_behind_70 rfl ?_
            refine r_iconst C dX7_behind_71 (2 : Int32) (by decide) ?_
            refine r_ic_ne C dX7_behind_72 (fun c38 => ?_) (fun c38 => ?_)
            · skip
              have f39 : ¬ (what.toNatClampNeg = 2) := nf_eqn (by omega) (by omega) hn26 rfl c38
              refine r_aload_n C dX7_behind_87 rfl ?_
              refine r_get C hb33 (k := 0) rfl rfl celO_7 fw_X7_31 rfl dX7_behind_88 ?_
              refine r_bipush C dX7_behind_91 (31 : Int32) (by decide) ?_
              refine r_iload_n C dX7_behind_93 rfl ?_
              refine r_iaddN C dX7_behind_94 (na := 31) (nb := t.toNatClampNeg) rfl hn17 (nc := (31 + t.toNatClampNeg)) rfl ?_
              refine r_iald C hb33 (k := 8) rfl rfl (vp_in_n rfl (by omega) (by omega)) (j := (31 + t.toNatClampNeg)) (cl_n rfl (by omega)) dX7_behind_95 ?_
              change WG x _ _ _ _ _ _ _ (.int (u28 0 (31 + t.toNatClampNeg)) :: _)
              refine r_aload_n C dX7_behind_96 rfl ?_
              refine r_get C hb33 (k := 0) rfl rfl celO_7 fw_X7_25 rfl dX7_behind_97 ?_
              refine r_bipush C dX7_behind_100 (31 : Int32) (by decide) ?_
              refine r_iload_n C dX7_behind_102 rfl ?_
              refine r_iaddN C dX7_behind_103 (na := 31) (nb := t.toNatClampNeg) rfl hn17 (nc := (31 + t.toNatClampNeg)) rfl ?_
              refine r_iald C hb33 (k := 6) rfl rfl (vp_in_n rfl (by omega) (by omega)) (j := (31 + t.toNatClampNeg)) (cl_n rfl (by omega)) dX7_behind_104 ?_
              change WG x _ _ _ _ _ _ _ (.int (R_m 6 (31 + t.toNatClampNeg)) :: _)
              refine r_isub C dX7_behind_105 ?_
              refine r_topi (fun y40 hy40 => ?_)
              refine r_iret C dX7_behind_106 ?_
              have er : res = (y40, (spl R_m 8 1 u28)) := by rw [hres, d_X7_behind]; try exact (lt_eq hu1).trans ((if_neg c7).trans ((lt_eq hu10).trans ((if_neg c16).trans ((lt_eq hu19).trans ((if_neg c25).trans ((lt_eq hu28).trans ((if_neg c34).trans ((if_neg c36).trans ((if_neg c38).trans ((lt_eq hy40).trans (rfl)))))))))))
              rw [er]
              exact ⟨rfl, hb33⟩
            · skip
              have f41 : (what.toNatClampNeg = 2) := nf_eq (by omega) (by omega) hn26 rfl c38
              refine r_aload_n C dX7_behind_75 rfl ?_
              refine r_get C hb33 (k := 0) rfl rfl celO_7 fw_X7_31 rfl dX7_behind_76 ?_
              refine r_bipush C dX7_behind_79 (25 : Int32) (by decide) ?_
              refine r_iload_n C dX7_behind_81 rfl ?_
              refine r_iaddN C dX7_behind_82 (na := 25) (nb := t.toNatClampNeg) rfl hn17 (nc := (25 + t.toNatClampNeg)) rfl ?_
              refine r_iald C hb33 (k := 8) rfl rfl (vp_in_n rfl (by omega) (by omega)) (j := (25 + t.toNatClampNeg)) (cl_n rfl (by omega)) dX7_behind_83 ?_
              change WG x _ _ _ _ _ _ _ (.int (u28 0 (25 + t.toNatClampNeg)) :: _)
              refine r_goto C dX7_behind_84 ?_
              refine r_iret C dX7_behind_106 ?_
              have er : res = ((u28 0 (25 + t.toNatClampNeg)), (spl R_m 8 1 u28)) := by rw [hres, d_X7_behind]; try exact (lt_eq hu1).trans ((if_neg c7).trans ((lt_eq hu10).trans ((if_neg c16).trans ((lt_eq hu19).trans ((if_neg c25).trans ((lt_eq hu28).trans ((if_neg c34).trans ((if_neg c36).trans ((if_pos c38).trans (rfl))))))))))
              rw [er]
              exact ⟨rfl, hb33⟩
          · skip
            have f42 : (what.toNatClampNeg = 1) := nf_eq (by omega) (by omega) hn26 rfl c36
            refine r_aload_n C dX7_behind_58 rfl ?_
            refine r_get C hb33 (k := 0) rfl rfl celO_7 fw_X7_31 rfl dX7_behind_59 ?_
            refine r_bipush C dX7_behind_62 (13 : Int32) (by decide) ?_
            refine r_iload_n C dX7_behind_64 rfl ?_
            refine r_iaddN C dX7_behind_65 (na := 13) (nb := t.toNatClampNeg) rfl hn17 (nc := (13 + t.toNatClampNeg)) rfl ?_
            refine r_iald C hb33 (k := 8) rfl rfl (vp_in_n rfl (by omega) (by omega)) (j := (13 + t.toNatClampNeg)) (cl_n rfl (by omega)) dX7_behind_66 ?_
            change WG x _ _ _ _ _ _ _ (.int (u28 0 (13 + t.toNatClampNeg)) :: _)
            refine r_goto C dX7_behind_67 ?_
            refine r_iret C dX7_behind_106 ?_
            have er : res = ((u28 0 (13 + t.toNatClampNeg)), (spl R_m 8 1 u28)) := by rw [hres, d_X7_behind]; try exact (lt_eq hu1).trans ((if_neg c7).trans ((lt_eq hu10).trans ((if_neg c16).trans ((lt_eq hu19).trans ((if_neg c25).trans ((lt_eq hu28).trans ((if_neg c34).trans ((if_pos c36).trans (rfl)))))))))
            rw [er]
            exact ⟨rfl, hb33⟩
        · skip
          have f43 : (what.toNatClampNeg = 0) := nf_eq (by omega) (by omega) hn26 rfl c34
          refine r_aload_n C dX7_behind_42 rfl ?_
          refine r_get C hb33 (k := 0) rfl rfl celO_7 fw_X7_31 rfl dX7_behind_43 ?_
          refine r_iconst C dX7_behind_46 (1 : Int32) (by decide) ?_
          refine r_iload_n C dX7_behind_47 rfl ?_
          refine r_iaddN C dX7_behind_48 (na := 1) (nb := t.toNatClampNeg) rfl hn17 (nc := (1 + t.toNatClampNeg)) rfl ?_
          refine r_iald C hb33 (k := 8) rfl rfl (vp_in_n rfl (by omega) (by omega)) (j := (1 + t.toNatClampNeg)) (cl_n rfl (by omega)) dX7_behind_49 ?_
          change WG x _ _ _ _ _ _ _ (.int (u28 0 (1 + t.toNatClampNeg)) :: _)
          refine r_goto C dX7_behind_50 ?_
          refine r_iret C dX7_behind_106 ?_
          have er : res = ((u28 0 (1 + t.toNatClampNeg)), (spl R_m 8 1 u28)) := by rw [hres, d_X7_behind]; try exact (lt_eq hu1).trans ((if_neg c7).trans ((lt_eq hu10).trans ((if_neg c16).trans ((lt_eq hu19).trans ((if_neg c25).trans ((lt_eq hu28).trans ((if_pos c34).trans (rfl))))))))
          rw [er]
          exact ⟨rfl, hb33⟩
      · skip
        refine r_iconst C dX7_behind_27 (-1 : Int32) (by decide) ?_
        refine r_iret C dX7_behind_28 ?_
        have er : res = ((-1 : Int32), R_m) := by rw [hres, d_X7_behind]; try exact (lt_eq hu1).trans ((if_neg c7).trans ((lt_eq hu10).trans ((if_neg c16).trans ((lt_eq hu19).trans ((if_pos c25).trans (rfl))))))
        rw [er]
        exact ⟨rfl, hb24⟩

def d_X7_fire_L42 (what : Int32) (R : Nat → Nat → Int32) (k : Nat) (u32 : (Nat → Nat → Int32)) : Nat → Nat → (Int32 × (Nat → Nat → Int32)) ⊕ (Unit)
  | 0, _ => .inr ()
  | n38 + 1, t =>
    if (R 0 10) ≤ (nI t) then
      .inr ()
    else
      if (u32 0 (25 + t)) = (1 : Int32) then
        if (R 6 (25 + t)) = 0 then
          if what = 0 then
            .inl ((nI t), (spl R 8 1 u32))
          else
            .inl ((nI k), (spl R 8 1 u32))
        else
          d_X7_fire_L42 what R k u32 n38 (t + 1)
      else
        d_X7_fire_L42 what R k u32 n38 (t + 1)
def d_X7_fire_L26 (what : Int32) : Nat → (Nat → Nat → Int32) → Nat → (Int32 × (Nat → Nat → Int32)) ⊕ ((Nat → Nat → Int32))
  | 0, R, _ => .inr R
  | n16 + 1, R, k =>
    if (30 : Int32) < (nI k) then
      .inr R
    else
      lt (d_X7_spring (shf R 0) (shf R 5) (shf R 8)) fun u32 =>
      sc (d_X7_fire_L42 what R k u32 7 0) (fun r => .inl r) fun w60 =>
      d_X7_fire_L26 what n16 (spl R 8 1 u32) (k + 1)
def d_X7_fire (R_m : Nat → Nat → Int32) (what : Int32) : Int32 × (Nat → Nat → Int32) :=
  lt (d_X7_in what (0 : Int32) (1 : Int32)) fun u1 =>
  if u1 = 0 then
    ((-1 : Int32), R_m)
  else
    lt (d_X7_copy (shf R_m 6) (shf R_m 8) 64 64 (0 : Int32) (0 : Int32)) fun u10 =>
    sc (d_X7_fire_L26 what 31 (spl R_m 8 1 u10) 1) (fun r => r) fun w67 =>
    ((-4 : Int32), w67)
set_option maxHeartbeats 4000000 in
set_option maxRecDepth 100000 in
theorem c_X7_fire (l : Launch) (D : DD) (o_m : Nat) (R_m : Nat → Nat → Int32) (what : Int32) (h10 : R_m 0 10 = nI (R_m 0 10).toNatClampNeg) (b10 : (R_m 0 10).toNatClampNeg ≤ 6) (h11 : R_m 0 11 = nI (R_m 0 11).toNatClampNeg) (b11 : (R_m 0 11).toNatClampNeg ≤ 3) (res : Int32 × (Nat → Nat → Int32)) (hres : res = d_X7_fire R_m what) : Mt l D yX7_fire cX7_fire 4 (some .int) 3 75 0 0 [.ref o_m, .int what] (fun H => blk D ksModel o_m R_m H) (fun v H => v = some (.int res.1) ∧ blk D ksModel o_m res.2 H) (fp1 o_m 14) := by
  refine mt_of (own := RX7) (ls := [.val (.ref o_m), .val (.int what), .unset, .unset]) rfl (by decide +kernel) rfl ?_
  intro x H C hP
  have hb_m := hP
  refine r_iload_n C dX7_fire_0 rfl ?_
  refine r_iconst C dX7_fire_1 (0 : Int32) (by decide) ?_
  refine r_iconst C dX7_fire_2 (1 : Int32) (by decide) ?_
  obtain ⟨u1, hu1⟩ : ∃ r, r = d_X7_in what (0 : Int32) (1 : Int32) := ⟨_, rfl⟩
  refine r_callS0 C cw_X7_67 (fun l => c_X7_in l D what (0 : Int32) (1 : Int32) u1 hu1) (rest := []) trivial (fun q h => h.elim) rfl rfl rfl (Nat.le_of_ble_eq_true rfl) ⟨Nat.le_of_ble_eq_true rfl, Nat.le_of_ble_eq_true rfl, Nat.le_refl 0, Nat.le_refl 0⟩ dX7_fire_3 (fun v H2 hp3 hq4 => ?_)
  obtain ⟨rfl, hl5⟩ := hp3
  have hb6 := blk_kept hb_m (n := 14) rfl (fun q h1 h2 => hq4 q (fun h => h))
  dsimp only [psh]
  refine r_if_ne C dX7_fire_6 (fun c7 => ?_) (fun c7 => ?_)
  · skip
    obtain ⟨hn8, hn9⟩ := X7_in_nat (M := 1) hu1 c7 (by decide) rfl (by decide)
    refine r_aload_n C dX7_fire_11 rfl ?_
    refine r_get C hb6 (k := 0) rfl rfl celO_7 fw_X7_25 rfl dX7_fire_12 ?_
    refine r_iconst C dX7_fire_15 (0 : Int32) (by decide) ?_
    refine r_aload_n C dX7_fire_16 rfl ?_
    refine r_get C hb6 (k := 0) rfl rfl celO_7 fw_X7_31 rfl dX7_fire_17 ?_
    refine r_iconst C dX7_fire_20 (0 : Int32) (by decide) ?_
    obtain ⟨u10, hu10⟩ : ∃ r, r = d_X7_copy (shf R_m 6) (shf R_m 8) 64 64 (0 : Int32) (0 : Int32) := ⟨_, rfl⟩
    refine r_callS0 C cw_X7_63 (fun l => c_X7_copy l D (o_m + 6) (o_m + 8) (shf R_m 6) (shf R_m 8) 64 64 (0 : Int32) (0 : Int32) (by omega) (by omega) (by decide) (by have q0 := cl_n (x := (0 : Int32)) (n := 0) rfl (by omega); omega) (by decide) (by have q0 := cl_n (x := (0 : Int32)) (n := 0) rfl (by omega); omega) (by omega) u10 hu10) (rest := []) ⟨(blk_sub hb6 6 1 rfl rfl), (blk_sub hb6 8 1 rfl rfl)⟩ (fun q h => by unfold fp1 at h; unfold fp1; omega) rfl rfl rfl (Nat.le_of_ble_eq_true rfl) ⟨Nat.le_of_ble_eq_true rfl, Nat.le_of_ble_eq_true rfl, Nat.le_refl 0, Nat.le_refl 0⟩ dX7_fire_21 (fun v H11 hp12 hq13 => ?_)
    obtain ⟨rfl, hn14⟩ := hp12
    have hb15 := blk_spl hb6 8 1 rfl rfl hn14 (fun q h => hq13 q (by unfold fp1; omega))
    dsimp only [psh]
    refine r_iconst C dX7_fire_24 (1 : Int32) (by decide) ?_
    refine r_istore_n C dX7_fire_25 (ls' := [.val (.ref o_m), .val (.int what), .val (.int (1 : Int32)), .unset]) rfl trivial rfl ?_
    have d_X7_fire_L26_w : ∀ (n16 : Nat) (R : Nat → Nat → Int32) (k : Nat) (H22 : Heap) (z20 : Slot) (_ : slot1 z20), True → (R 0 10 = R_m 0 10) → (R 0 11 = R_m 0 11) → (k ≤ 31) → (31 - k < n16) → blk D ksModel o_m R H22 → ∀ s18 : (Int32 × (Nat → Nat → Int32)) ⊕ ((Nat → Nat → Int32)), s18 = d_X7_fire_L26 what n16 R k → (∀ r, s18 = .inl r → res = r) → (∀ (w23 : (Nat → Nat → Int32)) (H' : Heap) (z24 : Slot) (_ : slot1 z24) (z25 : Slot) (_ : slot1 z25), s18 = .inr w23 → (w23 0 10 = R_m 0 10) → (w23 0 11 = R_m 0 11) → blk D ksModel o_m w23 H' → WG x (fp1 o_m 14) (Fin x (fun v H => v = some (.int res.1) ∧ blk D ksModel o_m res.2 H) (fp1 o_m 14) 0 0) H' 0 0 97 [.val (.ref o_m), .val (.int what), z24, z25] []) → WG x (fp1 o_m 14) (Fin x (fun v H => v = some (.int res.1) ∧ blk D ksModel o_m res.2 H) (fp1 o_m 14) 0 0) H22 0 0 26 [.val (.ref o_m), .val (.int what), .val (.int (nI k)), z20] [] := by
      intro n16
      induction n16 with
      | zero => intro R k H22 z20 hz20 _ i10_R i11_R hk hm26; exact absurd hm26 (Nat.not_lt_zero _)
      | succ n16 ih17 =>
        intro R k H22 z20 hz20 _ i10_R i11_R hk hm26 hb21 s18 hs18 hr27 kx19
        refine r_iload_n C dX7_fire_26 rfl ?_
        refine r_bipush C dX7_fire_27 (30 : Int32) (by decide) ?_
        refine r_ic_gt C dX7_fire_29 (fun c28 => ?_) (fun c28 => ?_)
        · skip
          have f29 : (30 < k) := nf_ltI (by omega) (by omega) rfl rfl c28
          have e30 : s18 = .inr R := by rw [hs18, d_X7_fire_L26]; try exact (if_pos c28).trans (rfl)
          exact kx19 R _ (.val (.int (nI k))) rfl z20 hz20 e30 i10_R i11_R hb21
        · skip
          have f31 : ¬ (30 < k) := nf_ltIn (by omega) (by omega) rfl rfl c28
          refine r_aload_n C dX7_fire_32 rfl ?_
          refine r_aload_n C dX7_fire_33 rfl ?_
          refine r_get C hb21 (k := 0) rfl rfl celO_7 fw_X7_31 rfl dX7_fire_34 ?_
          obtain ⟨u32, hu32⟩ : ∃ r, r = d_X7_spring (shf R 0) (shf R 5) (shf R 8) := ⟨_, rfl⟩
          refine r_callV0 C cw_X7_134 (fun l => c_X7_spring l D o_m (o_m + 8) (shf R 0) (shf R 5) (shf R 8) (nnat (a := (R_m 0 10).toNatClampNeg) (i10_R.trans h10) (by omega)) (show (R 0 10).toNatClampNeg ≤ 6 by rw [cl_n (n := (R_m 0 10).toNatClampNeg) (i10_R.trans h10) (by omega)]; omega) (nnat (a := (R_m 0 11).toNatClampNeg) (i11_R.trans h11) (by omega)) (show (R 0 11).toNatClampNeg ≤ 3 by rw [cl_n (n := (R_m 0 11).toNatClampNeg) (i11_R.trans h11) (by omega)]; omega) (by omega) (by omega) u32 hu32) (rest := []) hb21 (k := 0) rfl rfl celO_7 ⟨(blk_sub hb21 0 1 rfl rfl), (blk_sub hb21 5 1 rfl rfl), (blk_sub hb21 8 1 rfl rfl)⟩ (fun q h => by unfold fp1 at h; unfold fp1; omega) rfl rfl rfl (Nat.le_of_ble_eq_true rfl) ⟨Nat.le_of_ble_eq_true rfl, Nat.le_of_ble_eq_true rfl, Nat.le_refl 0, Nat.le_refl 0⟩ dX7_fire_37 (fun v H33 hp34 hq35 => ?_)
          obtain ⟨rfl, hn36⟩ := hp34
          have hb37 := blk_spl hb21 8 1 rfl rfl hn36 (fun q h => hq35 q (by unfold fp1; omega))
          dsimp only [psh]
          refine r_iconst C dX7_fire_40 (0 : Int32) (by decide) ?_
          refine r_istore_n C dX7_fire_41 (ls' := [.val (.ref o_m), .val (.int what), .val (.int (nI k)), .val (.int (0 : Int32))]) rfl hz20 rfl ?_
          have d_X7_fire_L42_w : ∀ (n38 : Nat) (t : Nat) (H43 : Heap), True → (t ≤ (R_m 0 10).toNatClampNeg) → (6 - t < n38) → blk D ksModel o_m (spl R 8 1 u32) H43 → ∀ s40 : (Int32 × (Nat → Nat → Int32)) ⊕ (Unit), s40 = d_X7_fire_L42 what R k u32 n38 t → (∀ r, s40 = .inl r → res = r) → (∀ (w44 : Unit) (H' : Heap) (z45 : Slot) (_ : slot1 z45), s40 = .inr w44 → blk D ksModel o_m (spl R 8 1 u32) H' → WG x (fp1 o_m 14) (Fin x (fun v H => v = some (.int res.1) ∧ blk D ksModel o_m res.2 H) (fp1 o_m 14) 0 0) H' 0 0 91 [.val (.ref o_m), .val (.int what), .val (.int (nI k)), z45] []) → WG x (fp1 o_m 14) (Fin x (fun v H => v = some (.int res.1) ∧ blk D ksModel o_m res.2 H) (fp1 o_m 14) 0 0) H43 0 0 42 [.val (.ref o_m), .val (.int what), .val (.int (nI k)), .val (.int (nI t))] [] := by
            intro n38
            induction n38 with
            | zero => intro t H43  _ ht hm46; exact absurd hm46 (Nat.not_lt_zero _)
            | succ n38 ih39 =>
              intro t H43  _ ht hm46 hb42 s40 hs40 hr47 kx41
              refine r_iload_n C dX7_fire_42 rfl ?_
              refine r_aload_n C dX7_fire_43 rfl ?_
              refine r_get C hb42 (k := 0) rfl rfl celO_7 fw_X7_49 (z := .int (R 0 10)) rfl dX7_fire_44 ?_
              refine r_ic_ge C dX7_fire_47 (fun c48 => ?_) (fun c48 => ?_)
              · skip
                have f49 : ((R_m 0 10).toNatClampNeg ≤ t) := nf_leI (by omega) (by omega) (i10_R.trans h10) rfl c48
                have e50 : s40 = .inr () := by rw [hs40, d_X7_fire_L42]; try exact (if_pos c48).trans (rfl)
                exact kx41 () _ (.val (.int (nI t))) rfl e50  hb42
              · skip
                have f51 : ¬ ((R_m 0 10).toNatClampNeg ≤ t) := nf_leIn (by omega) (by omega) (i10_R.trans h10) rfl c48
                refine r_aload_n C dX7_fire_50 rfl ?_
                refine r_get C hb42 (k := 0) rfl rfl celO_7 fw_X7_31 rfl dX7_fire_51 ?_
                refine r_bipush C dX7_fire_54 (25 : Int32) (by decide) ?_
                refine r_iload_n C dX7_fire_56 rfl ?_
                refine r_iaddN C dX7_fire_57 (na := 25) (nb := t) rfl rfl (nc := (25 + t)) rfl ?_
                refine r_iald C hb42 (k := 8) rfl rfl (vp_in_n rfl (by omega) (by omega)) (j := (25 + t)) (cl_n rfl (by omega)) dX7_fire_58 ?_
                change WG x _ _ _ _ _ _ _ (.int (u32 0 (25 + t)) :: _)
                refine r_iconst C dX7_fire_59 (1 : Int32) (by decide) ?_
                refine r_ic_ne C dX7_fire_60 (fun c52 => ?_) (fun c52 => ?_)
                · skip
                  refine r_iinc C dX7_fire_85 (nI (t + 1)) rfl (nI_inc t rfl) (ls' := [.val (.ref o_m), .val (.int what), .val (.int (nI k)), .val (.int (nI (t + 1)))]) rfl ?_
                  refine r_goto C dX7_fire_88 ?_
                  have e53 : s40 = d_X7_fire_L42 what R k u32 n38 (t + 1) := by rw [hs40, d_X7_fire_L42]; try exact (if_neg c48).trans ((if_neg c52).trans (rfl))
                  exact ih39 (t + 1) _  trivial (by omega) (by omega) hb42 s40 e53 hr47 kx41
                · skip
                  refine r_aload_n C dX7_fire_63 rfl ?_
                  refine r_get C hb42 (k := 0) rfl rfl celO_7 fw_X7_25 rfl dX7_fire_64 ?_
                  refine r_bipush C dX7_fire_67 (25 : Int32) (by decide) ?_
                  refine r_iload_n C dX7_fire_69 rfl ?_
                  refine r_iaddN C dX7_fire_70 (na := 25) (nb := t) rfl rfl (nc := (25 + t)) rfl ?_
                  refine r_iald C hb42 (k := 6) rfl rfl (vp_in_n rfl (by omega) (by omega)) (j := (25 + t)) (cl_n rfl (by omega)) dX7_fire_71 ?_
                  change WG x _ _ _ _ _ _ _ (.int (R 6 (25 + t)) :: _)
                  refine r_if_ne C dX7_fire_72 (fun c54 => ?_) (fun c54 => ?_)
                  · skip
                    refine r_iinc C dX7_fire_85 (nI (t + 1)) rfl (nI_inc t rfl) (ls' := [.val (.ref o_m), .val (.int what), .val (.int (nI k)), .val (.int (nI (t + 1)))]) rfl ?_
                    refine r_goto C dX7_fire_88 ?_
                    have e55 : s40 = d_X7_fire_L42 what R k u32 n38 (t + 1) := by rw [hs40, d_X7_fire_L42]; try exact (if_neg c48).trans ((if_pos c52).trans ((if_neg c54).trans (rfl)))
                    exact ih39 (t + 1) _  trivial (by omega) (by omega) hb42 s40 e55 hr47 kx41
                  · skip
                    refine r_iload_n C dX7_fire_75 rfl ?_
                    refine r_if_ne C dX7_fire_76 (fun c56 => ?_) (fun c56 => ?_)
                    · skip
                      have f57 : ¬ (what.toNatClampNeg = 0) := nf_eqn (by omega) (by omega) hn8 rfl c56
                      refine r_iload_n C dX7_fire_83 rfl ?_
                      refine r_iret C dX7_fire_84 ?_
                      have er : res = ((nI k), (spl R 8 1 u32)) := hr47 _ (by rw [hs40, d_X7_fire_L42]; try exact (if_neg c48).trans ((if_pos c52).trans ((if_pos c54).trans ((if_neg c56).trans (rfl)))))
                      rw [er]
                      exact ⟨rfl, hb42⟩
                    · skip
                      have f58 : (what.toNatClampNeg = 0) := nf_eq (by omega) (by omega) hn8 rfl c56
                      refine r_iload_n C dX7_fire_79 rfl ?_
                      refine r_goto C dX7_fire_80 ?_
                      refine r_iret C dX7_fire_84 ?_
                      have er : res = ((nI t), (spl R 8 1 u32)) := hr47 _ (by rw [hs40, d_X7_fire_L42]; try exact (if_neg c48).trans ((if_pos c52).trans ((if_pos c54).trans ((if_pos c56).trans (rfl)))))
                      rw [er]
                      exact ⟨rfl, hb42⟩
          obtain ⟨s59, hs59⟩ : ∃ r, r = d_X7_fire_L42 what R k u32 7 0 := ⟨_, rfl⟩
          refine d_X7_fire_L42_w 7 0 _  trivial (by omega) (by omega) hb37 s59 hs59 (fun r e => hr27 r (by rw [hs18, d_X7_fire_L26]; exact (if_neg c28).trans ((lt_eq hu32).trans (sc_inl (hs59.symm.trans e))))) (fun w60 H62 z45 hz45 e63  hb61 => ?_)
          have hx64 : d_X7_fire_L42 what R k u32 7 0 = .inr w60 := hs59.symm.trans e63
          refine r_iinc C dX7_fire_91 (nI (k + 1)) rfl (nI_inc k rfl) (ls' := [.val (.ref o_m), .val (.int what), .val (.int (nI (k + 1))), z45]) rfl ?_
          refine r_goto C dX7_fire_94 ?_
          have e65 : s18 = d_X7_fire_L26 what n16 (spl R 8 1 u32) (k + 1) := by rw [hs18, d_X7_fire_L26]; try exact (if_neg c28).trans ((lt_eq hu32).trans ((sc_inr hx64).trans (rfl)))
          exact ih17 (spl R 8 1 u32) (k + 1) _ z45 hz45 trivial i10_R i11_R (by omega) (by omega) hb61 s18 e65 hr27 kx19
    obtain ⟨s66, hs66⟩ : ∃ r, r = d_X7_fire_L26 what 31 (spl R_m 8 1 u10) 1 := ⟨_, rfl⟩
    refine d_X7_fire_L26_w 31 (spl R_m 8 1 u10) 1 _ .unset trivial trivial rfl rfl (by omega) (by omega) hb15 s66 hs66 (fun r e => by rw [hres, d_X7_fire]; exact (lt_eq hu1).trans ((if_neg c7).trans ((lt_eq hu10).trans (sc_inl (hs66.symm.trans e))))) (fun w67 H69 z24 hz24 z25 hz25 e72 p70 p71 hb68 => ?_)
    have hx73 : d_X7_fire_L26 what 31 (spl R_m 8 1 u10) 1 = .inr w67 := hs66.symm.trans e72
    refine r_bipush C dX7_fire_97 (-4 : Int32) (by decide) ?_
    refine r_iret C dX7_fire_99 ?_
    have er : res = ((-4 : Int32), w67) := by rw [hres, d_X7_fire]; try exact (lt_eq hu1).trans ((if_neg c7).trans ((lt_eq hu10).trans ((sc_inr hx73).trans (rfl))))
    rw [er]
    exact ⟨rfl, hb68⟩
  · skip
    refine r_iconst C dX7_fire_9 (-1 : Int32) (by decide) ?_
    refine r_iret C dX7_fire_10 ?_
    have er : res = ((-1 : Int32), R_m) := by rw [hres, d_X7_fire]; try exact (lt_eq hu1).trans ((if_pos c7).trans (rfl))
    rw [er]
    exact ⟨rfl, hb6⟩

def d_X7_layBest_L5 (n : Int32) : Nat → Int32 → Nat → Int32
  | 0, rows, _ => rows
  | n1 + 1, rows, k =>
    if n ≤ (nI k) then
      rows
    else
      d_X7_layBest_L5 n n1 (nI (rows.toNatClampNeg * 4)) (k + 1)
def d_X7_layBest_L57 (t : Int32) (n : Int32) (code : Nat) : Nat → (Nat → Nat → Int32) → Int32 → Nat → (Nat → Nat → Int32)
  | 0, R2, _, _ => R2
  | n46 + 1, R2, unit, k =>
    if n ≤ (nI k) then
      R2
    else
      lt (((pt R2 12 k (nI ((code / (unit.toNatClampNeg / 4)) % 4))) 12 k)) fun y62 =>
      lt (d_X7_spring (shf (pt (pt R2 12 k (nI ((code / (unit.toNatClampNeg / 4)) % 4))) 8 (19 + t.toNatClampNeg) y62) 0) (shf (pt (pt R2 12 k (nI ((code / (unit.toNatClampNeg / 4)) % 4))) 8 (19 + t.toNatClampNeg) y62) 5) (shf (pt (pt R2 12 k (nI ((code / (unit.toNatClampNeg / 4)) % 4))) 8 (19 + t.toNatClampNeg) y62) 8)) fun u66 =>
      d_X7_layBest_L57 t n code n46 (spl (pt (pt R2 12 k (nI ((code / (unit.toNatClampNeg / 4)) % 4))) 8 (19 + t.toNatClampNeg) y62) 8 1 u66) (nI (unit.toNatClampNeg / 4)) (k + 1)
def d_X7_layBest_L159 (n : Int32) : Nat → (Nat → Nat → Int32) → Nat → (Nat → Nat → Int32)
  | 0, R3, _ => R3
  | n86 + 1, R3, k =>
    if n ≤ (nI k) then
      R3
    else
      d_X7_layBest_L159 n n86 (pt R3 13 k (R3 12 k)) (k + 1)
def d_X7_layBest_L32 (t : Int32) (n : Int32) (s16 : Int32) : Nat → (Nat → Nat → Int32) → Int32 → Nat → (Nat → Nat → Int32) × Int32
  | 0, R, most, _ => (R, most)
  | n24 + 1, R, most, code =>
    if s16 ≤ (nI code) then
      (R, most)
    else
      lt (d_X7_copy (shf R 6) (shf R 8) 64 64 (0 : Int32) (0 : Int32)) fun u40 =>
      lt (d_X7_layBest_L57 t n code 5 (spl R 8 1 u40) s16 0) fun s74 =>
      lt (((s74 0 25) + ((1 : Int32) - (s74 8 (25 + t.toNatClampNeg))))) fun y80 =>
      if (s74 8 (1 + t.toNatClampNeg)) ≤ most then
        d_X7_layBest_L32 t n s16 n24 (pt s74 0 25 y80) most (code + 1)
      else
        lt (d_X7_layBest_L159 n 5 (pt s74 0 25 y80) 0) fun s102 =>
        d_X7_layBest_L32 t n s16 n24 s102 (s74 8 (1 + t.toNatClampNeg)) (code + 1)
def d_X7_layBest (R_m : Nat → Nat → Int32) (t : Int32) (n : Int32) : Int32 × (Nat → Nat → Int32) :=
  lt (d_X7_layBest_L5 n 5 (1 : Int32) 0) fun s16 =>
  lt (d_X7_layBest_L32 t n s16 257 (pt R_m 0 25 (0 : Int32)) (-1 : Int32) 0) fun s109 =>
  (s109.2, s109.1)
set_option maxHeartbeats 4000000 in
set_option maxRecDepth 100000 in
theorem c_X7_layBest (l : Launch) (D : DD) (o_m : Nat) (R_m : Nat → Nat → Int32) (t : Int32) (n : Int32) (h10 : R_m 0 10 = nI (R_m 0 10).toNatClampNeg) (b10 : (R_m 0 10).toNatClampNeg ≤ 6) (h11 : R_m 0 11 = nI (R_m 0 11).toNatClampNeg) (b11 : (R_m 0 11).toNatClampNeg ≤ 3) (ht : t = nI t.toNatClampNeg) (hlt : t.toNatClampNeg < 6) (hn : n = nI n.toNatClampNeg) (hln : n.toNatClampNeg ≤ 4) (res : Int32 × (Nat → Nat → Int32)) (hres : res = d_X7_layBest R_m t n) : Mt l D yX7_layBest cX7_layBest 8 (some .int) 3 75 0 0 [.ref o_m, .int t, .int n] (fun H => blk D ksModel o_m R_m H) (fun v H => v = some (.int res.1) ∧ blk D ksModel o_m res.2 H) (fp1 o_m 14) := by
  refine mt_of (own := RX7) (ls := [.val (.ref o_m), .val (.int t), .val (.int n), .unset, .unset, .unset, .unset, .unset]) rfl (by decide +kernel) rfl ?_
  intro x H C hP
  have hb_m := hP
  refine r_iconst C dX7_layBest_0 (1 : Int32) (by decide) ?_
  refine r_istore_n C dX7_layBest_1 (ls' := [.val (.ref o_m), .val (.int t), .val (.int n), .val (.int (1 : Int32)), .unset, .unset, .unset, .unset]) rfl trivial rfl ?_
  refine r_iconst C dX7_layBest_2 (0 : Int32) (by decide) ?_
  refine r_istore C dX7_layBest_3 (ls' := [.val (.ref o_m), .val (.int t), .val (.int n), .val (.int (1 : Int32)), .val (.int (0 : Int32)), .unset, .unset, .unset]) rfl trivial rfl ?_
  have q5 := cl_n (x := (1 : Int32)) (n := 1) rfl (by omega)
  have d_X7_layBest_L5_w : ∀ (n1 : Nat) (rows : Int32) (k : Nat) (H7 : Heap), True → (rows = nI rows.toNatClampNeg) → (k ≤ n.toNatClampNeg) → (rows.toNatClampNeg = 4 ^ k) → (n.toNatClampNeg - k < n1) → blk D ksModel o_m R_m H7 → ∀ s3 : Int32, s3 = d_X7_layBest_L5 n n1 rows k → (∀ (H' : Heap) (z8 : Slot) (_ : slot1 z8), True → (s3 = nI (s3).toNatClampNeg ∧ (s3).toNatClampNeg = 4 ^ n.toNatClampNeg) → blk D ksModel o_m R_m H' → WG x (fp1 o_m 14) (Fin x (fun v H => v = some (.int res.1) ∧ blk D ksModel o_m res.2 H) (fp1 o_m 14) 0 0) H' 0 0 21 [.val (.ref o_m), .val (.int t), .val (.int n), .val (.int s3), z8, .unset, .unset, .unset] []) → WG x (fp1 o_m 14) (Fin x (fun v H => v = some (.int res.1) ∧ blk D ksModel o_m res.2 H) (fp1 o_m 14) 0 0) H7 0 0 5 [.val (.ref o_m), .val (.int t), .val (.int n), .val (.int rows), .val (.int (nI k)), .unset, .unset, .unset] [] := by
    intro n1
    induction n1 with
    | zero => intro rows k H7  _ hn_rows hk hr hm9; exact absurd hm9 (Nat.not_lt_zero _)
    | succ n1 ih2 =>
      intro rows k H7  _ hn_rows hk hr hm9 hb6 s3 hs3  kx4
      refine r_iload C dX7_layBest_5 rfl ?_
      refine r_iload_n C dX7_layBest_7 rfl ?_
      refine r_ic_ge C dX7_layBest_8 (fun c10 => ?_) (fun c10 => ?_)
      · skip
        have f11 : (n.toNatClampNeg ≤ k) := nf_leI (by omega) (by omega) hn rfl c10
        have e12 : s3 = rows := by rw [hs3, d_X7_layBest_L5]; try exact (if_pos c10).trans (rfl)
        rw [e12] at kx4
        exact kx4 _ (.val (.int (nI k))) rfl trivial ⟨hn_rows, by rw [hr, show k = n.toNatClampNeg by omega]⟩ hb6
      · skip
        have f13 : ¬ (n.toNatClampNeg ≤ k) := nf_leIn (by omega) (by omega) hn rfl c10
        refine r_iload_n C dX7_layBest_11 rfl ?_
        refine r_iconst C dX7_layBest_12 (4 : Int32) (by decide) ?_
        refine r_imulN C dX7_layBest_13 (na := rows.toNatClampNeg) (nb := 4) hn_rows rfl (nc := (rows.toNatClampNeg * 4)) rfl ?_
        refine r_istore_n C dX7_layBest_14 (ls' := [.val (.ref o_m), .val (.int t), .val (.int n), .val (.int (nI (rows.toNatClampNeg * 4))), .val (.int (nI k)), .unset, .unset, .unset]) rfl rfl rfl ?_
        have hp1 := pow4_le (n := k + 1) (by omega)
        have hp2 : rows.toNatClampNeg * 4 = 4 ^ (k + 1) := by rw [hr, Nat.pow_succ]
        refine r_iinc C dX7_layBest_15 (nI (k + 1)) rfl (nI_inc k rfl) (ls' := [.val (.ref o_m), .val (.int t), .val (.int n), .val (.int (nI (rows.toNatClampNeg * 4))), .val (.int (nI (k + 1))), .unset, .unset, .unset]) rfl ?_
        refine r_goto C dX7_layBest_18 ?_
        have q14 := cl_n (x := (nI (rows.toNatClampNeg * 4))) (n := (rows.toNatClampNeg * 4)) rfl (by omega)
        have e15 : s3 = d_X7_layBest_L5 n n1 (nI (rows.toNatClampNeg * 4)) (k + 1) := by rw [hs3, d_X7_layBest_L5]; try exact (if_neg c10).trans (rfl)
        exact ih2 (nI (rows.toNatClampNeg * 4)) (k + 1) _  trivial (nnat (a := (rows.toNatClampNeg * 4)) rfl (by omega)) (by omega) (by rw [nI_clamp (by omega)]; exact hp2) (by omega) hb6 s3 e15  kx4
  obtain ⟨s16, hs16⟩ : ∃ r, r = d_X7_layBest_L5 n 5 (1 : Int32) 0 := ⟨_, rfl⟩
  refine d_X7_layBest_L5_w 5 (1 : Int32) 0 _  trivial (nnat (a := 1) rfl (by omega)) (by omega) (by decide) (by omega) hb_m s16 hs16  (fun H18 z8 hz8 e20 p19 hb17 => ?_)
  obtain ⟨hrw1, hrw2⟩ := p19
  have hrw3 := pow4_le (n := n.toNatClampNeg) (by omega)
  refine r_aload_n C dX7_layBest_21 rfl ?_
  refine r_iconst C dX7_layBest_22 (0 : Int32) (by decide) ?_
  refine r_put C hb17 (k := 0) rfl rfl (by unfold fp1; omega) fw_X7_141 fp_7_25 (Or.inr rfl) dX7_layBest_23 (fun H21 hb23 hq22 => ?_)
  refine r_iconst C dX7_layBest_26 (-1 : Int32) (by decide) ?_
  refine r_istore C dX7_layBest_27 (ls' := [.val (.ref o_m), .val (.int t), .val (.int n), .val (.int s16), .val (.int (-1 : Int32)), .unset, .unset, .unset]) rfl hz8 rfl ?_
  refine r_iconst C dX7_layBest_29 (0 : Int32) (by decide) ?_
  refine r_istore C dX7_layBest_30 (ls' := [.val (.ref o_m), .val (.int t), .val (.int n), .val (.int s16), .val (.int (-1 : Int32)), .val (.int (0 : Int32)), .unset, .unset]) rfl trivial rfl ?_
  have d_X7_layBest_L32_w : ∀ (n24 : Nat) (R : Nat → Nat → Int32) (most : Int32) (code : Nat) (H31 : Heap) (z28 : Slot) (_ : slot1 z28) (z29 : Slot) (_ : slot1 z29), True → (R 0 10 = R_m 0 10) → (R 0 11 = R_m 0 11) → (code ≤ 256) → (256 - code < n24) → blk D ksModel o_m R H31 → ∀ s26 : (Nat → Nat → Int32) × Int32, s26 = d_X7_layBest_L32 t n s16 n24 R most code → (∀ (H' : Heap) (z32 : Slot) (_ : slot1 z32) (z33 : Slot) (_ : slot1 z33) (z34 : Slot) (_ : slot1 z34), True → (s26.1 0 10 = R_m 0 10) → (s26.1 0 11 = R_m 0 11) → blk D ksModel o_m s26.1 H' → WG x (fp1 o_m 14) (Fin x (fun v H => v = some (.int res.1) ∧ blk D ksModel o_m res.2 H) (fp1 o_m 14) 0 0) H' 0 0 191 [.val (.ref o_m), .val (.int t), .val (.int n), .val (.int s16), .val (.int s26.2), z32, z33, z34] []) → WG x (fp1 o_m 14) (Fin x (fun v H => v = some (.int res.1) ∧ blk D ksModel o_m res.2 H) (fp1 o_m 14) 0 0) H31 0 0 32 [.val (.ref o_m), .val (.int t), .val (.int n), .val (.int s16), .val (.int most), .val (.int (nI code)), z28, z29] [] := by
    intro n24
    induction n24 with
    | zero => intro R most code H31 z28 hz28 z29 hz29 _ i10_R i11_R hc hm35; exact absurd hm35 (Nat.not_lt_zero _)
    | succ n24 ih25 =>
      intro R most code H31 z28 hz28 z29 hz29 _ i10_R i11_R hc hm35 hb30 s26 hs26  kx27
      refine r_iload C dX7_layBest_32 rfl ?_
      refine r_iload_n C dX7_layBest_34 rfl ?_
      refine r_ic_ge C dX7_layBest_35 (fun c36 => ?_) (fun c36 => ?_)
      · skip
        have f37 : (s16.toNatClampNeg ≤ code) := nf_leI (by omega) (by omega) hrw1 rfl c36
        have e38 : s26 = (R, most) := by rw [hs26, d_X7_layBest_L32]; try exact (if_pos c36).trans (rfl)
        rw [e38] at kx27
        exact kx27 _ (.val (.int (nI code))) rfl z28 hz28 z29 hz29 trivial i10_R i11_R hb30
      · skip
        have f39 : ¬ (s16.toNatClampNeg ≤ code) := nf_leIn (by omega) (by omega) hrw1 rfl c36
        refine r_iload_n C dX7_layBest_38 rfl ?_
        refine r_istore C dX7_layBest_39 (ls' := [.val (.ref o_m), .val (.int t), .val (.int n), .val (.int s16), .val (.int most), .val (.int (nI code)), .val (.int s16), z29]) rfl hz28 rfl ?_
        refine r_aload_n C dX7_layBest_41 rfl ?_
        refine r_get C hb30 (k := 0) rfl rfl celO_7 fw_X7_25 rfl dX7_layBest_42 ?_
        refine r_iconst C dX7_layBest_45 (0 : Int32) (by decide) ?_
        refine r_aload_n C dX7_layBest_46 rfl ?_
        refine r_get C hb30 (k := 0) rfl rfl celO_7 fw_X7_31 rfl dX7_layBest_47 ?_
        refine r_iconst C dX7_layBest_50 (0 : Int32) (by decide) ?_
        obtain ⟨u40, hu40⟩ : ∃ r, r = d_X7_copy (shf R 6) (shf R 8) 64 64 (0 : Int32) (0 : Int32) := ⟨_, rfl⟩
        refine r_callS0 C cw_X7_63 (fun l => c_X7_copy l D (o_m + 6) (o_m + 8) (shf R 6) (shf R 8) 64 64 (0 : Int32) (0 : Int32) (by omega) (by omega) (by decide) (by have q0 := cl_n (x := (0 : Int32)) (n := 0) rfl (by omega); omega) (by decide) (by have q0 := cl_n (x := (0 : Int32)) (n := 0) rfl (by omega); omega) (by omega) u40 hu40) (rest := []) ⟨(blk_sub hb30 6 1 rfl rfl), (blk_sub hb30 8 1 rfl rfl)⟩ (fun q h => by unfold fp1 at h; unfold fp1; omega) rfl rfl rfl (Nat.le_of_ble_eq_true rfl) ⟨Nat.le_of_ble_eq_true rfl, Nat.le_of_ble_eq_true rfl, Nat.le_refl 0, Nat.le_refl 0⟩ dX7_layBest_51 (fun v H41 hp42 hq43 => ?_)
        obtain ⟨rfl, hn44⟩ := hp42
        have hb45 := blk_spl hb30 8 1 rfl rfl hn44 (fun q h => hq43 q (by unfold fp1; omega))
        dsimp only [psh]
        refine r_iconst C dX7_layBest_54 (0 : Int32) (by decide) ?_
        refine r_istore C dX7_layBest_55 (ls' := [.val (.ref o_m), .val (.int t), .val (.int n), .val (.int s16), .val (.int most), .val (.int (nI code)), .val (.int s16), .val (.int (0 : Int32))]) rfl hz29 rfl ?_
        have d_X7_layBest_L57_w : ∀ (n46 : Nat) (R2 : Nat → Nat → Int32) (unit : Int32) (k : Nat) (H51 : Heap), True → (unit = nI unit.toNatClampNeg) → (R2 0 10 = R_m 0 10) → (R2 0 11 = R_m 0 11) → (k ≤ n.toNatClampNeg) → (unit.toNatClampNeg = 4 ^ (n.toNatClampNeg - k)) → (n.toNatClampNeg - k < n46) → blk D ksModel o_m R2 H51 → ∀ s48 : (Nat → Nat → Int32), s48 = d_X7_layBest_L57 t n code n46 R2 unit k → (∀ (H' : Heap) (z52 : Slot) (_ : slot1 z52) (z53 : Slot) (_ : slot1 z53), True → (s48 0 10 = R_m 0 10) → (s48 0 11 = R_m 0 11) → blk D ksModel o_m s48 H' → WG x (fp1 o_m 14) (Fin x (fun v H => v = some (.int res.1) ∧ blk D ksModel o_m res.2 H) (fp1 o_m 14) 0 0) H' 0 0 113 [.val (.ref o_m), .val (.int t), .val (.int n), .val (.int s16), .val (.int most), .val (.int (nI code)), z52, z53] []) → WG x (fp1 o_m 14) (Fin x (fun v H => v = some (.int res.1) ∧ blk D ksModel o_m res.2 H) (fp1 o_m 14) 0 0) H51 0 0 57 [.val (.ref o_m), .val (.int t), .val (.int n), .val (.int s16), .val (.int most), .val (.int (nI code)), .val (.int unit), .val (.int (nI k))] [] := by
          intro n46
          induction n46 with
          | zero => intro R2 unit k H51  _ hn_unit i10_R2 i11_R2 hk hu hm54; exact absurd hm54 (Nat.not_lt_zero _)
          | succ n46 ih47 =>
            intro R2 unit k H51  _ hn_unit i10_R2 i11_R2 hk hu hm54 hb50 s48 hs48  kx49
            refine r_iload C dX7_layBest_57 rfl ?_
            refine r_iload_n C dX7_layBest_59 rfl ?_
            refine r_ic_ge C dX7_layBest_60 (fun c55 => ?_) (fun c55 => ?_)
            · skip
              have f56 : (n.toNatClampNeg ≤ k) := nf_leI (by omega) (by omega) hn rfl c55
              have e57 : s48 = R2 := by rw [hs48, d_X7_layBest_L57]; try exact (if_pos c55).trans (rfl)
              rw [e57] at kx49
              exact kx49 _ (.val (.int unit)) rfl (.val (.int (nI k))) rfl trivial i10_R2 i11_R2 hb50
            · skip
              have f58 : ¬ (n.toNatClampNeg ≤ k) := nf_leIn (by omega) (by omega) hn rfl c55
              have hst := pow4_step hu (show k < n.toNatClampNeg by omega)
              have hps := pow4_pos (n := n.toNatClampNeg - (k + 1))
              have hle := pow4_le (n := n.toNatClampNeg - k) (by omega)
              have hdv := Nat.div_le_self code (unit.toNatClampNeg / 4)
              refine r_iload C dX7_layBest_63 rfl ?_
              refine r_iconst C dX7_layBest_65 (4 : Int32) (by decide) ?_
              refine r_idivN C dX7_layBest_66 (na := unit.toNatClampNeg) (nb := 4) hn_unit rfl (by omega) (by omega) (by omega) (nc := (unit.toNatClampNeg / 4)) rfl ?_
              refine r_istore C dX7_layBest_67 (ls' := [.val (.ref o_m), .val (.int t), .val (.int n), .val (.int s16), .val (.int most), .val (.int (nI code)), .val (.int (nI (unit.toNatClampNeg / 4))), .val (.int (nI k))]) rfl rfl rfl ?_
              refine r_aload_n C dX7_layBest_69 rfl ?_
              refine r_get C hb50 (k := 0) rfl rfl celO_7 fw_X7_43 rfl dX7_layBest_70 ?_
              refine r_iload C dX7_layBest_73 rfl ?_
              refine r_iload C dX7_layBest_75 rfl ?_
              refine r_iload C dX7_layBest_77 rfl ?_
              refine r_idivN C dX7_layBest_79 (na := code) (nb := (unit.toNatClampNeg / 4)) rfl rfl (by omega) (by omega) (by omega) (nc := (code / (unit.toNatClampNeg / 4))) rfl ?_
              refine r_iconst C dX7_layBest_80 (4 : Int32) (by decide) ?_
              refine r_iremN C dX7_layBest_81 (na := (code / (unit.toNatClampNeg / 4))) (nb := 4) rfl rfl (by omega) (by omega) (by omega) (nc := ((code / (unit.toNatClampNeg / 4)) % 4)) rfl ?_
              refine r_iast C hb50 (k := 12) rfl rfl (by unfold fp1; omega) (vp_in_n rfl (by omega) (by omega)) (j := k) (cl_n rfl (by omega)) dX7_layBest_82 (fun H59 hb61 hq60 => ?_)
              refine r_aload_n C dX7_layBest_83 rfl ?_
              refine r_get C hb61 (k := 0) rfl rfl celO_7 fw_X7_31 rfl dX7_layBest_84 ?_
              refine r_bipush C dX7_layBest_87 (19 : Int32) (by decide) ?_
              refine r_iload_n C dX7_layBest_89 rfl ?_
              refine r_iaddN C dX7_layBest_90 (na := 19) (nb := t.toNatClampNeg) rfl ht (nc := (19 + t.toNatClampNeg)) rfl ?_
              refine r_aload_n C dX7_layBest_91 rfl ?_
              refine r_get C hb61 (k := 0) rfl rfl celO_7 fw_X7_43 rfl dX7_layBest_92 ?_
              refine r_iload C dX7_layBest_95 rfl ?_
              refine r_iald C hb61 (k := 12) rfl rfl (vp_in_n rfl (by omega) (by omega)) (j := k) (cl_n rfl (by omega)) dX7_layBest_97 ?_
              refine r_topi (fun y62 hy62 => ?_)
              refine r_iast C hb61 (k := 8) rfl rfl (by unfold fp1; omega) (vp_in_n rfl (by omega) (by omega)) (j := (19 + t.toNatClampNeg)) (cl_n rfl (by omega)) dX7_layBest_98 (fun H63 hb65 hq64 => ?_)
              refine r_aload_n C dX7_layBest_99 rfl ?_
              refine r_aload_n C dX7_layBest_100 rfl ?_
              refine r_get C hb65 (k := 0) rfl rfl celO_7 fw_X7_31 rfl dX7_layBest_101 ?_
              obtain ⟨u66, hu66⟩ : ∃ r, r = d_X7_spring (shf (pt (pt R2 12 k (nI ((code / (unit.toNatClampNeg / 4)) % 4))) 8 (19 + t.toNatClampNeg) y62) 0) (shf (pt (pt R2 12 k (nI ((code / (unit.toNatClampNeg / 4)) % 4))) 8 (19 + t.toNatClampNeg) y62) 5) (shf (pt (pt R2 12 k (nI ((code / (unit.toNatClampNeg / 4)) % 4))) 8 (19 + t.toNatClampNeg) y62) 8) := ⟨_, rfl⟩
              refine r_callV0 C cw_X7_134 (fun l => c_X7_spring l D o_m (o_m + 8) (shf (pt (pt R2 12 k (nI ((code / (unit.toNatClampNeg / 4)) % 4))) 8 (19 + t.toNatClampNeg) y62) 0) (shf (pt (pt R2 12 k (nI ((code / (unit.toNatClampNeg / 4)) % 4))) 8 (19 + t.toNatClampNeg) y62) 5) (shf (pt (pt R2 12 k (nI ((code / (unit.toNatClampNeg / 4)) % 4))) 8 (19 + t.toNatClampNeg) y62) 8) (nnat (a := (R_m 0 10).toNatClampNeg) (i10_R2.trans h10) (by omega)) (show (R2 0 10).toNatClampNeg ≤ 6 by rw [cl_n (n := (R_m 0 10).toNatClampNeg) (i10_R2.trans h10) (by omega)]; omega) (nnat (a := (R_m 0 11).toNatClampNeg) (i11_R2.trans h11) (by omega)) (show (R2 0 11).toNatClampNeg ≤ 3 by rw [cl_n (n := (R_m 0 11).toNatClampNeg) (i11_R2.trans h11) (by omega)]; omega) (by omega) (by omega) u66 hu66) (rest := []) hb65 (k := 0) rfl rfl celO_7 ⟨(blk_sub hb65 0 1 rfl rfl), (blk_sub hb65 5 1 rfl rfl), (blk_sub hb65 8 1 rfl rfl)⟩ (fun q h => by unfold fp1 at h; unfold fp1; omega) rfl rfl rfl (Nat.le_of_ble_eq_true rfl) ⟨Nat.le_of_ble_eq_true rfl, Nat.le_of_ble_eq_true rfl, Nat.le_refl 0, Nat.le_refl 0⟩ dX7_layBest_104 (fun v H67 hp68 hq69 => ?_)
              obtain ⟨rfl, hn70⟩ := hp68
              have hb71 := blk_spl hb65 8 1 rfl rfl hn70 (fun q h => hq69 q (by unfold fp1; omega))
              dsimp only [psh]
              refine r_iinc C dX7_layBest_107 (nI (k + 1)) rfl (nI_inc k rfl) (ls' := [.val (.ref o_m), .val (.int t), .val (.int n), .val (.int s16), .val (.int most), .val (.int (nI code)), .val (.int (nI (unit.toNatClampNeg / 4))), .val (.int (nI (k + 1)))]) rfl ?_
              refine r_goto C dX7_layBest_110 ?_
              have q72 := cl_n (x := (nI (unit.toNatClampNeg / 4))) (n := (unit.toNatClampNeg / 4)) rfl (by omega)
              have e73 : s48 = d_X7_layBest_L57 t n code n46 (spl (pt (pt R2 12 k (nI ((code / (unit.toNatClampNeg / 4)) % 4))) 8 (19 + t.toNatClampNeg) y62) 8 1 u66) (nI (unit.toNatClampNeg / 4)) (k + 1) := by rw [hs48, d_X7_layBest_L57]; try exact (if_neg c55).trans ((lt_eq hy62).trans ((lt_eq hu66).trans (rfl)))
              exact ih47 (spl (pt (pt R2 12 k (nI ((code / (unit.toNatClampNeg / 4)) % 4))) 8 (19 + t.toNatClampNeg) y62) 8 1 u66) (nI (unit.toNatClampNeg / 4)) (k + 1) _  trivial (nnat (a := (unit.toNatClampNeg / 4)) rfl (by omega)) i10_R2 i11_R2 (by omega) (by rw [nI_clamp (by omega)]; exact hst) (by omega) hb71 s48 e73  kx49
        obtain ⟨s74, hs74⟩ : ∃ r, r = d_X7_layBest_L57 t n code 5 (spl R 8 1 u40) s16 0 := ⟨_, rfl⟩
        refine d_X7_layBest_L57_w 5 (spl R 8 1 u40) s16 0 _  trivial hrw1 i10_R i11_R (by omega) hrw2 (by omega) hb45 s74 hs74  (fun H76 z52 hz52 z53 hz53 e79 p77 p78 hb75 => ?_)
        refine r_aload_n C dX7_layBest_113 rfl ?_
        refine r_dup C dX7_layBest_114 rfl ?_
        refine r_get C hb75 (k := 0) rfl rfl celO_7 fw_X7_141 (z := .int (s74 0 25)) rfl dX7_layBest_115 ?_
        refine r_iconst C dX7_layBest_118 (1 : Int32) (by decide) ?_
        refine r_aload_n C dX7_layBest_119 rfl ?_
        refine r_get C hb75 (k := 0) rfl rfl celO_7 fw_X7_31 rfl dX7_layBest_120 ?_
        refine r_bipush C dX7_layBest_123 (25 : Int32) (by decide) ?_
        refine r_iload_n C dX7_layBest_125 rfl ?_
        refine r_iaddN C dX7_layBest_126 (na := 25) (nb := t.toNatClampNeg) rfl ht (nc := (25 + t.toNatClampNeg)) rfl ?_
        refine r_iald C hb75 (k := 8) rfl rfl (vp_in_n rfl (by omega) (by omega)) (j := (25 + t.toNatClampNeg)) (cl_n rfl (by omega)) dX7_layBest_127 ?_
        refine r_isub C dX7_layBest_128 ?_
        refine r_iadd C dX7_layBest_129 ?_
        refine r_topi (fun y80 hy80 => ?_)
        refine r_put C hb75 (k := 0) rfl rfl (by unfold fp1; omega) fw_X7_141 fp_7_25 (Or.inr rfl) dX7_layBest_130 (fun H81 hb83 hq82 => ?_)
        refine r_aload_n C dX7_layBest_133 rfl ?_
        refine r_get C hb83 (k := 0) rfl rfl celO_7 fw_X7_31 rfl dX7_layBest_134 ?_
        refine r_iconst C dX7_layBest_137 (1 : Int32) (by decide) ?_
        refine r_iload_n C dX7_layBest_138 rfl ?_
        refine r_iaddN C dX7_layBest_139 (na := 1) (nb := t.toNatClampNeg) rfl ht (nc := (1 + t.toNatClampNeg)) rfl ?_
        refine r_iald C hb83 (k := 8) rfl rfl (vp_in_n rfl (by omega) (by omega)) (j := (1 + t.toNatClampNeg)) (cl_n rfl (by omega)) dX7_layBest_140 ?_
        change WG x _ _ _ _ _ _ _ (.int (s74 8 (1 + t.toNatClampNeg)) :: _)
        refine r_iload C dX7_layBest_141 rfl ?_
        refine r_ic_le C dX7_layBest_143 (fun c84 => ?_) (fun c84 => ?_)
        · skip
          refine r_iinc C dX7_layBest_185 (nI (code + 1)) rfl (nI_inc code rfl) (ls' := [.val (.ref o_m), .val (.int t), .val (.int n), .val (.int s16), .val (.int most), .val (.int (nI (code + 1))), z52, z53]) rfl ?_
          refine r_goto C dX7_layBest_188 ?_
          have e85 : s26 = d_X7_layBest_L32 t n s16 n24 (pt s74 0 25 y80) most (code + 1) := by rw [hs26, d_X7_layBest_L32]; try exact (if_neg c36).trans ((lt_eq hu40).trans ((lt_eq hs74).trans ((lt_eq hy80).trans ((if_pos c84).trans (rfl)))))
          exact ih25 (pt s74 0 25 y80) most (code + 1) _ z52 hz52 z53 hz53 trivial p77 p78 (by omega) (by omega) hb83 s26 e85  kx27
        · skip
          refine r_aload_n C dX7_layBest_146 rfl ?_
          refine r_get C hb83 (k := 0) rfl rfl celO_7 fw_X7_31 rfl dX7_layBest_147 ?_
          refine r_iconst C dX7_layBest_150 (1 : Int32) (by decide) ?_
          refine r_iload_n C dX7_layBest_151 rfl ?_
          refine r_iaddN C dX7_layBest_152 (na := 1) (nb := t.toNatClampNeg) rfl ht (nc := (1 + t.toNatClampNeg)) rfl ?_
          refine r_iald C hb83 (k := 8) rfl rfl (vp_in_n rfl (by omega) (by omega)) (j := (1 + t.toNatClampNeg)) (cl_n rfl (by omega)) dX7_layBest_153 ?_
          change WG x _ _ _ _ _ _ _ (.int (s74 8 (1 + t.toNatClampNeg)) :: _)
          refine r_istore C dX7_layBest_154 (ls' := [.val (.ref o_m), .val (.int t), .val (.int n), .val (.int s16), .val (.int (s74 8 (1 + t.toNatClampNeg))), .val (.int (nI code)), z52, z53]) rfl rfl rfl ?_
          refine r_iconst C dX7_layBest_156 (0 : Int32) (by decide) ?_
          refine r_istore C dX7_layBest_157 (ls' := [.val (.ref o_m), .val (.int t), .val (.int n), .val (.int s16), .val (.int (s74 8 (1 + t.toNatClampNeg))), .val (.int (nI code)), z52, .val (.int (0 : Int32))]) rfl hz53 rfl ?_
          have d_X7_layBest_L159_w : ∀ (n86 : Nat) (R3 : Nat → Nat → Int32) (k : Nat) (H91 : Heap), True → (R3 0 10 = R_m 0 10) → (R3 0 11 = R_m 0 11) → (k ≤ n.toNatClampNeg) → (n.toNatClampNeg - k < n86) → blk D ksModel o_m R3 H91 → ∀ s88 : (Nat → Nat → Int32), s88 = d_X7_layBest_L159 n n86 R3 k → (∀ (H' : Heap) (z92 : Slot) (_ : slot1 z92), True → (s88 0 10 = R_m 0 10) → (s88 0 11 = R_m 0 11) → blk D ksModel o_m s88 H' → WG x (fp1 o_m 14) (Fin x (fun v H => v = some (.int res.1) ∧ blk D ksModel o_m res.2 H) (fp1 o_m 14) 0 0) H' 0 0 185 [.val (.ref o_m), .val (.int t), .val (.int n), .val (.int s16), .val (.int (s74 8 (1 + t.toNatClampNeg))), .val (.int (nI code)), z52, z92] []) → WG x (fp1 o_m 14) (Fin x (fun v H => v = some (.int res.1) ∧ blk D ksModel o_m res.2 H) (fp1 o_m 14) 0 0) H91 0 0 159 [.val (.ref o_m), .val (.int t), .val (.int n), .val (.int s16), .val (.int (s74 8 (1 + t.toNatClampNeg))), .val (.int (nI code)), z52, .val (.int (nI k))] [] := by
            intro n86
            induction n86 with
            | zero => intro R3 k H91  _ i10_R3 i11_R3 hk hm93; exact absurd hm93 (Nat.not_lt_zero _)
            | succ n86 ih87 =>
              intro R3 k H91  _ i10_R3 i11_R3 hk hm93 hb90 s88 hs88  kx89
              refine r_iload C dX7_layBest_159 rfl ?_
              refine r_iload_n C dX7_layBest_161 rfl ?_
              refine r_ic_ge C dX7_layBest_162 (fun c94 => ?_) (fun c94 => ?_)
              · skip
                have f95 : (n.toNatClampNeg ≤ k) := nf_leI (by omega) (by omega) hn rfl c94
                have e96 : s88 = R3 := by rw [hs88, d_X7_layBest_L159]; try exact (if_pos c94).trans (rfl)
                rw [e96] at kx89
                exact kx89 _ (.val (.int (nI k))) rfl trivial i10_R3 i11_R3 hb90
              · skip
                have f97 : ¬ (n.toNatClampNeg ≤ k) := nf_leIn (by omega) (by omega) hn rfl c94
                refine r_aload_n C dX7_layBest_165 rfl ?_
                refine r_get C hb90 (k := 0) rfl rfl celO_7 fw_X7_46 rfl dX7_layBest_166 ?_
                refine r_iload C dX7_layBest_169 rfl ?_
                refine r_aload_n C dX7_layBest_171 rfl ?_
                refine r_get C hb90 (k := 0) rfl rfl celO_7 fw_X7_43 rfl dX7_layBest_172 ?_
                refine r_iload C dX7_layBest_175 rfl ?_
                refine r_iald C hb90 (k := 12) rfl rfl (vp_in_n rfl (by omega) (by omega)) (j := k) (cl_n rfl (by omega)) dX7_layBest_177 ?_
                refine r_iast C hb90 (k := 13) rfl rfl (by unfold fp1; omega) (vp_in_n rfl (by omega) (by omega)) (j := k) (cl_n rfl (by omega)) dX7_layBest_178 (fun H98 hb100 hq99 => ?_)
                refine r_iinc C dX7_layBest_179 (nI (k + 1)) rfl (nI_inc k rfl) (ls' := [.val (.ref o_m), .val (.int t), .val (.int n), .val (.int s16), .val (.int (s74 8 (1 + t.toNatClampNeg))), .val (.int (nI code)), z52, .val (.int (nI (k + 1)))]) rfl ?_
                refine r_goto C dX7_layBest_182 ?_
                have e101 : s88 = d_X7_layBest_L159 n n86 (pt R3 13 k (R3 12 k)) (k + 1) := by rw [hs88, d_X7_layBest_L159]; try exact (if_neg c94).trans (rfl)
                exact ih87 (pt R3 13 k (R3 12 k)) (k + 1) _  trivial i10_R3 i11_R3 (by omega) (by omega) hb100 s88 e101  kx89
          obtain ⟨s102, hs102⟩ : ∃ r, r = d_X7_layBest_L159 n 5 (pt s74 0 25 y80) 0 := ⟨_, rfl⟩
          refine d_X7_layBest_L159_w 5 (pt s74 0 25 y80) 0 _  trivial p77 p78 (by omega) (by omega) hb83 s102 hs102  (fun H104 z92 hz92 e107 p105 p106 hb103 => ?_)
          refine r_iinc C dX7_layBest_185 (nI (code + 1)) rfl (nI_inc code rfl) (ls' := [.val (.ref o_m), .val (.int t), .val (.int n), .val (.int s16), .val (.int (s74 8 (1 + t.toNatClampNeg))), .val (.int (nI (code + 1))), z52, z92]) rfl ?_
          refine r_goto C dX7_layBest_188 ?_
          have e108 : s26 = d_X7_layBest_L32 t n s16 n24 s102 (s74 8 (1 + t.toNatClampNeg)) (code + 1) := by rw [hs26, d_X7_layBest_L32]; try exact (if_neg c36).trans ((lt_eq hu40).trans ((lt_eq hs74).trans ((lt_eq hy80).trans ((if_neg c84).trans ((lt_eq hs102).trans (rfl))))))
          exact ih25 s102 (s74 8 (1 + t.toNatClampNeg)) (code + 1) _ z52 hz52 z92 hz92 trivial p105 p106 (by omega) (by omega) hb103 s26 e108  kx27
  obtain ⟨s109, hs109⟩ : ∃ r, r = d_X7_layBest_L32 t n s16 257 (pt R_m 0 25 (0 : Int32)) (-1 : Int32) 0 := ⟨_, rfl⟩
  refine d_X7_layBest_L32_w 257 (pt R_m 0 25 (0 : Int32)) (-1 : Int32) 0 _ .unset trivial .unset trivial trivial rfl rfl (by omega) (by omega) hb23 s109 hs109  (fun H111 z32 hz32 z33 hz33 z34 hz34 e114 p112 p113 hb110 => ?_)
  refine r_iload C dX7_layBest_191 rfl ?_
  refine r_iret C dX7_layBest_193 ?_
  have er : res = (s109.2, s109.1) := by rw [hres, d_X7_layBest]; try exact (lt_eq hs16).trans ((lt_eq hs109).trans (rfl))
  rw [er]
  exact ⟨rfl, hb110⟩

def d_X7_best (R_m : Nat → Nat → Int32) (t : Int32) (n : Int32) (k : Int32) : Int32 × (Nat → Nat → Int32) :=
  lt (d_X7_isTown (shf R_m 0) t) fun u1 =>
  if u1 = 0 then
    ((-1 : Int32), R_m)
  else
    lt (d_X7_in n (1 : Int32) (4 : Int32)) fun u10 =>
    if u10 = 0 then
      ((-1 : Int32), R_m)
    else
      lt (d_X7_in k (-1 : Int32) n) fun u20 =>
      if u20 = 0 then
        ((-1 : Int32), R_m)
      else
        if (R_m 6 (25 + t.toNatClampNeg)) = (1 : Int32) then
          ((-2 : Int32), R_m)
        else
          lt (d_X7_layBest R_m t n) fun u28 =>
          if k = 0 then
            (u28.1, u28.2)
          else
            if 0 ≤ k then
              ((u28.2 13 (k.toNatClampNeg - 1)), u28.2)
            else
              ((u28.2 0 25), u28.2)
set_option maxHeartbeats 4000000 in
set_option maxRecDepth 100000 in
theorem c_X7_best (l : Launch) (D : DD) (o_m : Nat) (R_m : Nat → Nat → Int32) (t : Int32) (n : Int32) (k : Int32) (h10 : R_m 0 10 = nI (R_m 0 10).toNatClampNeg) (b10 : (R_m 0 10).toNatClampNeg ≤ 6) (h11 : R_m 0 11 = nI (R_m 0 11).toNatClampNeg) (b11 : (R_m 0 11).toNatClampNeg ≤ 3) (res : Int32 × (Nat → Nat → Int32)) (hres : res = d_X7_best R_m t n k) : Mt l D yX7_best cX7_best 5 (some .int) 4 102 0 0 [.ref o_m, .int t, .int n, .int k] (fun H => blk D ksModel o_m R_m H) (fun v H => v = some (.int res.1) ∧ blk D ksModel o_m res.2 H) (fp1 o_m 14) := by
  refine mt_of (own := RX7) (ls := [.val (.ref o_m), .val (.int t), .val (.int n), .val (.int k), .unset]) rfl (by decide +kernel) rfl ?_
  intro x H C hP
  have hb_m := hP
  refine r_aload_n C dX7_best_0 rfl ?_
  refine r_iload_n C dX7_best_1 rfl ?_
  obtain ⟨u1, hu1⟩ : ∃ r, r = d_X7_isTown (shf R_m 0) t := ⟨_, rfl⟩
  refine r_callV0 C cw_X7_113 (fun l => c_X7_isTown l D o_m (shf R_m 0) t u1 hu1) (rest := []) hb_m (k := 0) rfl rfl celO_7 (blk_sub hb_m 0 1 rfl rfl) (fun q h => h.elim) rfl rfl rfl (Nat.le_of_ble_eq_true rfl) ⟨Nat.le_of_ble_eq_true rfl, Nat.le_of_ble_eq_true rfl, Nat.le_refl 0, Nat.le_refl 0⟩ dX7_best_2 (fun v H2 hp3 hq4 => ?_)
  obtain ⟨rfl, hl5⟩ := hp3
  have hb6 := blk_kept hb_m (n := 14) rfl (fun q h1 h2 => hq4 q (fun h => h))
  dsimp only [psh]
  refine r_if_eq C dX7_best_5 (fun c7 => ?_) (fun c7 => ?_)
  · skip
    refine r_iconst C dX7_best_26 (-1 : Int32) (by decide) ?_
    refine r_iret C dX7_best_27 ?_
    have er : res = ((-1 : Int32), R_m) := by rw [hres, d_X7_best]; try exact (lt_eq hu1).trans ((if_pos c7).trans (rfl))
    rw [er]
    exact ⟨rfl, hb6⟩
  · skip
    obtain ⟨hn8, hn9⟩ := X7_isTown_nat hu1 c7 h10 b10
    refine r_iload_n C dX7_best_8 rfl ?_
    refine r_iconst C dX7_best_9 (1 : Int32) (by decide) ?_
    refine r_iconst C dX7_best_10 (4 : Int32) (by decide) ?_
    obtain ⟨u10, hu10⟩ : ∃ r, r = d_X7_in n (1 : Int32) (4 : Int32) := ⟨_, rfl⟩
    refine r_callS0 C cw_X7_67 (fun l => c_X7_in l D n (1 : Int32) (4 : Int32) u10 hu10) (rest := []) trivial (fun q h => h.elim) rfl rfl rfl (Nat.le_of_ble_eq_true rfl) ⟨Nat.le_of_ble_eq_true rfl, Nat.le_of_ble_eq_true rfl, Nat.le_refl 0, Nat.le_refl 0⟩ dX7_best_11 (fun v H11 hp12 hq13 => ?_)
    obtain ⟨rfl, hl14⟩ := hp12
    have hb15 := blk_kept hb6 (n := 14) rfl (fun q h1 h2 => hq13 q (fun h => h))
    dsimp only [psh]
    refine r_if_eq C dX7_best_14 (fun c16 => ?_) (fun c16 => ?_)
    · skip
      refine r_iconst C dX7_best_26 (-1 : Int32) (by decide) ?_
      refine r_iret C dX7_best_27 ?_
      have er : res = ((-1 : Int32), R_m) := by rw [hres, d_X7_best]; try exact (lt_eq hu1).trans ((if_neg c7).trans ((lt_eq hu10).trans ((if_pos c16).trans (rfl))))
      rw [er]
      exact ⟨rfl, hb15⟩
    · skip
      obtain ⟨hn17, hn18⟩ := X7_in_nat (M := 4) hu10 c16 (by decide) rfl (by decide)
      have hn19 : 1 ≤ n.toNatClampNeg := x_geN (X7_in_lo hu10 c16) hn17 (by decide)
      refine r_iload_n C dX7_best_17 rfl ?_
      refine r_iconst C dX7_best_18 (-1 : Int32) (by decide) ?_
      refine r_iload_n C dX7_best_19 rfl ?_
      obtain ⟨u20, hu20⟩ : ∃ r, r = d_X7_in k (-1 : Int32) n := ⟨_, rfl⟩
      refine r_callS0 C cw_X7_67 (fun l => c_X7_in l D k (-1 : Int32) n u20 hu20) (rest := []) trivial (fun q h => h.elim) rfl rfl rfl (Nat.le_of_ble_eq_true rfl) ⟨Nat.le_of_ble_eq_true rfl, Nat.le_of_ble_eq_true rfl, Nat.le_refl 0, Nat.le_refl 0⟩ dX7_best_20 (fun v H21 hp22 hq23 => ?_)
      obtain ⟨rfl, hl24⟩ := hp22
      have hb25 := blk_kept hb15 (n := 14) rfl (fun q h1 h2 => hq23 q (fun h => h))
      dsimp only [psh]
      refine r_if_ne C dX7_best_23 (fun c26 => ?_) (fun c26 => ?_)
      · skip
        refine r_aload_n C dX7_best_28 rfl ?_
        refine r_get C hb25 (k := 0) rfl rfl celO_7 fw_X7_25 rfl dX7_best_29 ?_
        refine r_bipush C dX7_best_32 (25 : Int32) (by decide) ?_
        refine r_iload_n C dX7_best_34 rfl ?_
        refine r_iaddN C dX7_best_35 (na := 25) (nb := t.toNatClampNeg) rfl hn8 (nc := (25 + t.toNatClampNeg)) rfl ?_
        refine r_iald C hb25 (k := 6) rfl rfl (vp_in_n rfl (by omega) (by omega)) (j := (25 + t.toNatClampNeg)) (cl_n rfl (by omega)) dX7_best_36 ?_
        refine r_iconst C dX7_best_37 (1 : Int32) (by decide) ?_
        refine r_ic_ne C dX7_best_38 (fun c27 => ?_) (fun c27 => ?_)
        · skip
          refine r_aload_n C dX7_best_44 rfl ?_
          refine r_iload_n C dX7_best_45 rfl ?_
          refine r_iload_n C dX7_best_46 rfl ?_
          obtain ⟨u28, hu28⟩ : ∃ r, r = d_X7_layBest R_m t n := ⟨_, rfl⟩
          refine r_callV0 C cw_X7_144 (fun l => c_X7_layBest l D o_m R_m t n h10 b10 h11 b11 hn8 (by omega) hn17 (by omega) u28 hu28) (rest := []) hb25 (k := 0) rfl rfl celO_7 hb25 (fun q h => by unfold fp1 at h; unfold fp1; omega) rfl rfl rfl (Nat.le_of_ble_eq_true rfl) ⟨Nat.le_of_ble_eq_true rfl, Nat.le_of_ble_eq_true rfl, Nat.le_refl 0, Nat.le_refl 0⟩ dX7_best_47 (fun v H29 hp30 hq31 => ?_)
          obtain ⟨rfl, hn32⟩ := hp30
          dsimp only [psh]
          refine r_istore C dX7_best_50 (ls' := [.val (.ref o_m), .val (.int t), .val (.int n), .val (.int k), .val (.int u28.1)]) rfl trivial rfl ?_
          refine r_iload_n C dX7_best_52 rfl ?_
          refine r_if_ne C dX7_best_53 (fun c33 => ?_) (fun c33 => ?_)
          · skip
            refine r_iload_n C dX7_best_61 rfl ?_
            refine r_if_ge C dX7_best_62 (fun c34 => ?_) (fun c34 => ?_)
            · skip
              have hkn : k = nI k.toNatClampNeg := nn_of (x_lo2 c34)
              have hkl : k.toNatClampNeg ≤ n.toNatClampNeg := x_leN (X7_in_hi hu20 c26) hn17 (by omega)
              have hk0 : ¬ k.toNatClampNeg = 0 := nf_eqn (by omega) (by omega) hkn rfl c33
              refine r_aload_n C dX7_best_72 rfl ?_
              refine r_get C hn32 (k := 0) rfl rfl celO_7 fw_X7_46 rfl dX7_best_73 ?_
              refine r_iload_n C dX7_best_76 rfl ?_
              refine r_iconst C dX7_best_77 (1 : Int32) (by decide) ?_
              refine r_isubN C dX7_best_78 (na := k.toNatClampNeg) (nb := 1) hkn rfl (by omega) (nc := (k.toNatClampNeg - 1)) rfl ?_
              refine r_iald C hn32 (k := 13) rfl rfl (vp_in_n rfl (by omega) (by omega)) (j := (k.toNatClampNeg - 1)) (cl_n rfl (by omega)) dX7_best_79 ?_
              refine r_iret C dX7_best_80 ?_
              have er : res = ((u28.2 13 (k.toNatClampNeg - 1)), u28.2) := by rw [hres, d_X7_best]; try exact (lt_eq hu1).trans ((if_neg c7).trans ((lt_eq hu10).trans ((if_neg c16).trans ((lt_eq hu20).trans ((if_neg c26).trans ((if_neg c27).trans ((lt_eq hu28).trans ((if_neg c33).trans ((if_pos c34).trans (rfl))))))))))
              rw [er]
              exact ⟨rfl, hn32⟩
            · skip
              refine r_aload_n C dX7_best_65 rfl ?_
              refine r_get C hn32 (k := 0) rfl rfl celO_7 fw_X7_141 (z := .int (u28.2 0 25)) rfl dX7_best_66 ?_
              refine r_goto C dX7_best_69 ?_
              refine r_iret C dX7_best_80 ?_
              have er : res = ((u28.2 0 25), u28.2) := by rw [hres, d_X7_best]; try exact (lt_eq hu1).trans ((if_neg c7).trans ((lt_eq hu10).trans ((if_neg c16).trans ((lt_eq hu20).trans ((if_neg c26).trans ((if_neg c27).trans ((lt_eq hu28).trans ((if_neg c33).trans ((if_neg c34).trans (rfl))))))))))
              rw [er]
              exact ⟨rfl, hn32⟩
          · skip
            refine r_iload C dX7_best_56 rfl ?_
            refine r_goto C dX7_best_58 ?_
            refine r_iret C dX7_best_80 ?_
            have er : res = (u28.1, u28.2) := by rw [hres, d_X7_best]; try exact (lt_eq hu1).trans ((if_neg c7).trans ((lt_eq hu10).trans ((if_neg c16).trans ((lt_eq hu20).trans ((if_neg c26).trans ((if_neg c27).trans ((lt_eq hu28).trans ((if_pos c33).trans (rfl)))))))))
            rw [er]
            exact ⟨rfl, hn32⟩
        · skip
          refine r_bipush C dX7_best_41 (-2 : Int32) (by decide) ?_
          refine r_iret C dX7_best_43 ?_
          have er : res = ((-2 : Int32), R_m) := by rw [hres, d_X7_best]; try exact (lt_eq hu1).trans ((if_neg c7).trans ((lt_eq hu10).trans ((if_neg c16).trans ((lt_eq hu20).trans ((if_neg c26).trans ((if_pos c27).trans (rfl)))))))
          rw [er]
          exact ⟨rfl, hb25⟩
      · skip
        refine r_iconst C dX7_best_26 (-1 : Int32) (by decide) ?_
        refine r_iret C dX7_best_27 ?_
        have er : res = ((-1 : Int32), R_m) := by rw [hres, d_X7_best]; try exact (lt_eq hu1).trans ((if_neg c7).trans ((lt_eq hu10).trans ((if_neg c16).trans ((lt_eq hu20).trans ((if_pos c26).trans (rfl))))))
        rw [er]
        exact ⟨rfl, hb25⟩

def d_X7_rests_L121 (t : Int32) (u : Int32) (code : Int32) (u55 : Int32 × (Nat → Nat → Int32)) (u61 : Int32 × (Nat → Nat → Int32)) : Nat → (Nat → Nat → Int32) → Int32 → Nat → (Nat → Nat → Int32) × Int32
  | 0, R2, is, _ => (R2, is)
  | n67 + 1, R2, is, k =>
    if (4 : Int32) ≤ (nI k) then
      (R2, is)
    else
      if is = 0 then
        d_X7_rests_L121 t u code u55 u61 n67 R2 (0 : Int32) (k + 1)
      else
        lt (d_X7_silverBy (shf R2 0) (shf R2 5) (shf R2 6) (shf R2 8) t u (nI k) (code - code / (4 : Int32) * (4 : Int32)) t) fun u81 =>
        if u55.1 < u81.1 then
          d_X7_rests_L121 t u code u55 u61 n67 (spl R2 8 1 u81.2) (0 : Int32) (k + 1)
        else
          lt (d_X7_silverBy (shf (spl R2 8 1 u81.2) 0) (shf (spl R2 8 1 u81.2) 5) (shf (spl R2 8 1 u81.2) 6) (shf (spl R2 8 1 u81.2) 8) t u (code / (4 : Int32)) (nI k) u) fun u89 =>
          if u61.1 < u89.1 then
            d_X7_rests_L121 t u code u55 u61 n67 (spl (spl R2 8 1 u81.2) 8 1 u89.2) (0 : Int32) (k + 1)
          else
            d_X7_rests_L121 t u code u55 u61 n67 (spl (spl R2 8 1 u81.2) 8 1 u89.2) (1 : Int32) (k + 1)
def d_X7_rests_L72 (t : Int32) (u : Int32) : Nat → (Nat → Nat → Int32) → Int32 → Int32 → Int32 → (Nat → Nat → Int32) × Int32 × Int32
  | 0, R, many, first, _ => (R, many, first)
  | n33 + 1, R, many, first, code =>
    if code < 0 then
      (R, many, first)
    else
      lt (d_X7_silverBy (shf R 0) (shf R 5) (shf R 6) (shf R 8) t u (code / (4 : Int32)) (code - code / (4 : Int32) * (4 : Int32)) t) fun u55 =>
      lt (d_X7_silverBy (shf (spl R 8 1 u55.2) 0) (shf (spl R 8 1 u55.2) 5) (shf (spl R 8 1 u55.2) 6) (shf (spl R 8 1 u55.2) 8) t u (code / (4 : Int32)) (code - code / (4 : Int32) * (4 : Int32)) u) fun u61 =>
      lt (d_X7_rests_L121 t u code u55 u61 5 (spl (spl R 8 1 u55.2) 8 1 u61.2) (1 : Int32) 0) fun s98 =>
      if s98.2 = 0 then
        if s98.2 = 0 then
          d_X7_rests_L72 t u n33 s98.1 (many + (0 : Int32)) first (code + Int32.ofInt (-1))
        else
          d_X7_rests_L72 t u n33 s98.1 (many + (0 : Int32)) code (code + Int32.ofInt (-1))
      else
        if s98.2 = 0 then
          d_X7_rests_L72 t u n33 s98.1 (many + (1 : Int32)) first (code + Int32.ofInt (-1))
        else
          d_X7_rests_L72 t u n33 s98.1 (many + (1 : Int32)) code (code + Int32.ofInt (-1))
def d_X7_rests (R_m : Nat → Nat → Int32) (t : Int32) (u : Int32) (what : Int32) : Int32 × (Nat → Nat → Int32) :=
  lt (d_X7_isTown (shf R_m 0) t) fun u1 =>
  if u1 = 0 then
    ((-1 : Int32), R_m)
  else
    lt (d_X7_isTown (shf R_m 0) u) fun u10 =>
    if u10 = 0 then
      ((-1 : Int32), R_m)
    else
      if t = u then
        ((-1 : Int32), R_m)
      else
        lt (d_X7_in what (0 : Int32) (1 : Int32)) fun u22 =>
        if u22 = 0 then
          ((-1 : Int32), R_m)
        else
          if (R_m 6 (25 + t.toNatClampNeg)) = (1 : Int32) then
            ((-2 : Int32), R_m)
          else
            if (R_m 6 (25 + u.toNatClampNeg)) = (1 : Int32) then
              ((-2 : Int32), R_m)
            else
              lt (d_X7_rests_L72 t u 17 R_m (0 : Int32) (-4 : Int32) (15 : Int32)) fun s111 =>
              if what = 0 then
                (s111.2.1, s111.1)
              else
                (s111.2.2, s111.1)
set_option maxHeartbeats 4000000 in
set_option maxRecDepth 100000 in
theorem c_X7_rests (l : Launch) (D : DD) (o_m : Nat) (R_m : Nat → Nat → Int32) (t : Int32) (u : Int32) (what : Int32) (h10 : R_m 0 10 = nI (R_m 0 10).toNatClampNeg) (b10 : (R_m 0 10).toNatClampNeg ≤ 6) (h11 : R_m 0 11 = nI (R_m 0 11).toNatClampNeg) (b11 : (R_m 0 11).toNatClampNeg ≤ 3) (res : Int32 × (Nat → Nat → Int32)) (hres : res = d_X7_rests R_m t u what) : Mt l D yX7_rests cX7_rests 13 (some .int) 4 100 0 0 [.ref o_m, .int t, .int u, .int what] (fun H => blk D ksModel o_m R_m H) (fun v H => v = some (.int res.1) ∧ blk D ksModel o_m res.2 H) (fp1 o_m 14) := by
  refine mt_of (own := RX7) (ls := [.val (.ref o_m), .val (.int t), .val (.int u), .val (.int what), .unset, .unset, .unset, .unset, .unset, .unset, .unset, .unset, .unset]) rfl (by decide +kernel) rfl ?_
  intro x H C hP
  have hb_m := hP
  refine r_aload_n C dX7_rests_0 rfl ?_
  refine r_iload_n C dX7_rests_1 rfl ?_
  obtain ⟨u1, hu1⟩ : ∃ r, r = d_X7_isTown (shf R_m 0) t := ⟨_, rfl⟩
  refine r_callV0 C cw_X7_113 (fun l => c_X7_isTown l D o_m (shf R_m 0) t u1 hu1) (rest := []) hb_m (k := 0) rfl rfl celO_7 (blk_sub hb_m 0 1 rfl rfl) (fun q h => h.elim) rfl rfl rfl (Nat.le_of_ble_eq_true rfl) ⟨Nat.le_of_ble_eq_true rfl, Nat.le_of_ble_eq_true rfl, Nat.le_refl 0, Nat.le_refl 0⟩ dX7_rests_2 (fun v H2 hp3 hq4 => ?_)
  obtain ⟨rfl, hl5⟩ := hp3
  have hb6 := blk_kept hb_m (n := 14) rfl (fun q h1 h2 => hq4 q (fun h => h))
  dsimp only [psh]
  refine r_if_eq C dX7_rests_5 (fun c7 => ?_) (fun c7 => ?_)
  · skip
    refine r_iconst C dX7_rests_30 (-1 : Int32) (by decide) ?_
    refine r_iret C dX7_rests_31 ?_
    have er : res = ((-1 : Int32), R_m) := by rw [hres, d_X7_rests]; try exact (lt_eq hu1).trans ((if_pos c7).trans (rfl))
    rw [er]
    exact ⟨rfl, hb6⟩
  · skip
    obtain ⟨hn8, hn9⟩ := X7_isTown_nat hu1 c7 h10 b10
    refine r_aload_n C dX7_rests_8 rfl ?_
    refine r_iload_n C dX7_rests_9 rfl ?_
    obtain ⟨u10, hu10⟩ : ∃ r, r = d_X7_isTown (shf R_m 0) u := ⟨_, rfl⟩
    refine r_callV0 C cw_X7_113 (fun l => c_X7_isTown l D o_m (shf R_m 0) u u10 hu10) (rest := []) hb6 (k := 0) rfl rfl celO_7 (blk_sub hb6 0 1 rfl rfl) (fun q h => h.elim) rfl rfl rfl (Nat.le_of_ble_eq_true rfl) ⟨Nat.le_of_ble_eq_true rfl, Nat.le_of_ble_eq_true rfl, Nat.le_refl 0, Nat.le_refl 0⟩ dX7_rests_10 (fun v H11 hp12 hq13 => ?_)
    obtain ⟨rfl, hl14⟩ := hp12
    have hb15 := blk_kept hb6 (n := 14) rfl (fun q h1 h2 => hq13 q (fun h => h))
    dsimp only [psh]
    refine r_if_eq C dX7_rests_13 (fun c16 => ?_) (fun c16 => ?_)
    · skip
      refine r_iconst C dX7_rests_30 (-1 : Int32) (by decide) ?_
      refine r_iret C dX7_rests_31 ?_
      have er : res = ((-1 : Int32), R_m) := by rw [hres, d_X7_rests]; try exact (lt_eq hu1).trans ((if_neg c7).trans ((lt_eq hu10).trans ((if_pos c16).trans (rfl))))
      rw [er]
      exact ⟨rfl, hb15⟩
    · skip
      obtain ⟨hn17, hn18⟩ := X7_isTown_nat hu10 c16 h10 b10
      refine r_iload_n C dX7_rests_16 rfl ?_
      refine r_iload_n C dX7_rests_17 rfl ?_
      refine r_ic_eq C dX7_rests_18 (fun c19 => ?_) (fun c19 => ?_)
      · skip
        have f20 : (t.toNatClampNeg = u.toNatClampNeg) := nf_eq (by omega) (by omega) hn8 hn17 c19
        refine r_iconst C dX7_rests_30 (-1 : Int32) (by decide) ?_
        refine r_iret C dX7_rests_31 ?_
        have er : res = ((-1 : Int32), R_m) := by rw [hres, d_X7_rests]; try exact (lt_eq hu1).trans ((if_neg c7).trans ((lt_eq hu10).trans ((if_neg c16).trans ((if_pos c19).trans (rfl)))))
        rw [er]
        exact ⟨rfl, hb15⟩
      · skip
        have f21 : ¬ (t.toNatClampNeg = u.toNatClampNeg) := nf_eqn (by omega) (by omega) hn8 hn17 c19
        refine r_iload_n C dX7_rests_21 rfl ?_
        refine r_iconst C dX7_rests_22 (0 : Int32) (by decide) ?_
        refine r_iconst C dX7_rests_23 (1 : Int32) (by decide) ?_
        obtain ⟨u22, hu22⟩ : ∃ r, r = d_X7_in what (0 : Int32) (1 : Int32) := ⟨_, rfl⟩
        refine r_callS0 C cw_X7_67 (fun l => c_X7_in l D what (0 : Int32) (1 : Int32) u22 hu22) (rest := []) trivial (fun q h => h.elim) rfl rfl rfl (Nat.le_of_ble_eq_true rfl) ⟨Nat.le_of_ble_eq_true rfl, Nat.le_of_ble_eq_true rfl, Nat.le_refl 0, Nat.le_refl 0⟩ dX7_rests_24 (fun v H23 hp24 hq25 => ?_)
        obtain ⟨rfl, hl26⟩ := hp24
        have hb27 := blk_kept hb15 (n := 14) rfl (fun q h1 h2 => hq25 q (fun h => h))
        dsimp only [psh]
        refine r_if_ne C dX7_rests_27 (fun c28 => ?_) (fun c28 => ?_)
        · skip
          obtain ⟨hn29, hn30⟩ := X7_in_nat (M := 1) hu22 c28 (by decide) rfl (by decide)
          refine r_aload_n C dX7_rests_32 rfl ?_
          refine r_get C hb27 (k := 0) rfl rfl celO_7 fw_X7_25 rfl dX7_rests_33 ?_
          refine r_bipush C dX7_rests_36 (25 : Int32) (by decide) ?_
          refine r_iload_n C dX7_rests_38 rfl ?_
          refine r_iaddN C dX7_rests_39 (na := 25) (nb := t.toNatClampNeg) rfl hn8 (nc := (25 + t.toNatClampNeg)) rfl ?_
          refine r_iald C hb27 (k := 6) rfl rfl (vp_in_n rfl (by omega) (by omega)) (j := (25 + t.toNatClampNeg)) (cl_n rfl (by omega)) dX7_rests_40 ?_
          refine r_iconst C dX7_rests_41 (1 : Int32) (by decide) ?_
          refine r_ic_eq C dX7_rests_42 (fun c31 => ?_) (fun c31 => ?_)
          · skip
            refine r_bipush C dX7_rests_58 (-2 : Int32) (by decide) ?_
            refine r_iret C dX7_rests_60 ?_
            have er : res = ((-2 : Int32), R_m) := by rw [hres, d_X7_rests]; try exact (lt_eq hu1).trans ((if_neg c7).trans ((lt_eq hu10).trans ((if_neg c16).trans ((if_neg c19).trans ((lt_eq hu22).trans ((if_neg c28).trans ((if_pos c31).trans (rfl))))))))
            rw [er]
            exact ⟨rfl, hb27⟩
          · skip
            refine r_aload_n C dX7_rests_45 rfl ?_
            refine r_get C hb27 (k := 0) rfl rfl celO_7 fw_X7_25 rfl dX7_rests_46 ?_
            refine r_bipush C dX7_rests_49 (25 : Int32) (by decide) ?_
            refine r_iload_n C dX7_rests_51 rfl ?_
            refine r_iaddN C dX7_rests_52 (na := 25) (nb := u.toNatClampNeg) rfl hn17 (nc := (25 + u.toNatClampNeg)) rfl ?_
            refine r_iald C hb27 (k := 6) rfl rfl (vp_in_n rfl (by omega) (by omega)) (j := (25 + u.toNatClampNeg)) (cl_n rfl (by omega)) dX7_rests_53 ?_
            refine r_iconst C dX7_rests_54 (1 : Int32) (by decide) ?_
            refine r_ic_ne C dX7_rests_55 (fun c32 => ?_) (fun c32 => ?_)
            · skip
              refine r_iconst C dX7_rests_61 (0 : Int32) (by decide) ?_
              refine r_istore C dX7_rests_62 (ls' := [.val (.ref o_m), .val (.int t), .val (.int u), .val (.int what), .val (.int (0 : Int32)), .unset, .unset, .unset, .unset, .unset, .unset, .unset, .unset]) rfl trivial rfl ?_
              refine r_bipush C dX7_rests_64 (-4 : Int32) (by decide) ?_
              refine r_istore C dX7_rests_66 (ls' := [.val (.ref o_m), .val (.int t), .val (.int u), .val (.int what), .val (.int (0 : Int32)), .val (.int (-4 : Int32)), .unset, .unset, .unset, .unset, .unset, .unset, .unset]) rfl trivial rfl ?_
              refine r_bipush C dX7_rests_68 (15 : Int32) (by decide) ?_
              refine r_istore C dX7_rests_70 (ls' := [.val (.ref o_m), .val (.int t), .val (.int u), .val (.int what), .val (.int (0 : Int32)), .val (.int (-4 : Int32)), .val (.int (15 : Int32)), .unset, .unset, .unset, .unset, .unset, .unset]) rfl trivial rfl ?_
              have d_X7_rests_L72_w : ∀ (n33 : Nat) (R : Nat → Nat → Int32) (many : Int32) (first : Int32) (code : Int32) (H44 : Heap) (z37 : Slot) (_ : slot1 z37) (z38 : Slot) (_ : slot1 z38) (z39 : Slot) (_ : slot1 z39) (z40 : Slot) (_ : slot1 z40) (z41 : Slot) (_ : slot1 z41) (z42 : Slot) (_ : slot1 z42), True → (R 0 10 = R_m 0 10) → (R 0 11 = R_m 0 11) → (-1 ≤ code.toInt) → (code.toInt ≤ 15) → ((code.toInt + 1).toNat < n33) → blk D ksModel o_m R H44 → ∀ s35 : (Nat → Nat → Int32) × Int32 × Int32, s35 = d_X7_rests_L72 t u n33 R many first code → (∀ (H' : Heap) (z45 : Slot) (_ : slot1 z45) (z46 : Slot) (_ : slot1 z46) (z47 : Slot) (_ : slot1 z47) (z48 : Slot) (_ : slot1 z48) (z49 : Slot) (_ : slot1 z49) (z50 : Slot) (_ : slot1 z50) (z51 : Slot) (_ : slot1 z51), True → (s35.1 0 10 = R_m 0 10) → (s35.1 0 11 = R_m 0 11) → blk D ksModel o_m s35.1 H' → WG x (fp1 o_m 14) (Fin x (fun v H => v = some (.int res.1) ∧ blk D ksModel o_m res.2 H) (fp1 o_m 14) 0 0) H' 0 0 212 [.val (.ref o_m), .val (.int t), .val (.int u), .val (.int what), .val (.int s35.2.1), .val (.int s35.2.2), z45, z46, z47, z48, z49, z50, z51] []) → WG x (fp1 o_m 14) (Fin x (fun v H => v = some (.int res.1) ∧ blk D ksModel o_m res.2 H) (fp1 o_m 14) 0 0) H44 0 0 72 [.val (.ref o_m), .val (.int t), .val (.int u), .val (.int what), .val (.int many), .val (.int first), .val (.int code), z37, z38, z39, z40, z41, z42] [] := by
                intro n33
                induction n33 with
                | zero => intro R many first code H44 z37 hz37 z38 hz38 z39 hz39 z40 hz40 z41 hz41 z42 hz42 _ i10_R i11_R hx1 hx2 hm52; exact absurd hm52 (Nat.not_lt_zero _)
                | succ n33 ih34 =>
                  intro R many first code H44 z37 hz37 z38 hz38 z39 hz39 z40 hz40 z41 hz41 z42 hz42 _ i10_R i11_R hx1 hx2 hm52 hb43 s35 hs35  kx36
                  refine r_iload C dX7_rests_72 rfl ?_
                  refine r_if_lt C dX7_rests_74 (fun c53 => ?_) (fun c53 => ?_)
                  · skip
                    have e54 : s35 = (R, many, first) := by rw [hs35, d_X7_rests_L72]; try exact (if_pos c53).trans (rfl)
                    rw [e54] at kx36
                    exact kx36 _ (.val (.int code)) rfl z37 hz37 z38 hz38 z39 hz39 z40 hz40 z41 hz41 z42 hz42 trivial i10_R i11_R hb43
                  · skip
                    refine r_iload C dX7_rests_77 rfl ?_
                    refine r_iconst C dX7_rests_79 (4 : Int32) (by decide) ?_
                    refine r_idiv C dX7_rests_80 (by decide) ?_
                    refine r_istore C dX7_rests_81 (ls' := [.val (.ref o_m), .val (.int t), .val (.int u), .val (.int what), .val (.int many), .val (.int first), .val (.int code), .val (.int (code / (4 : Int32))), z38, z39, z40, z41, z42]) rfl hz37 rfl ?_
                    refine r_iload C dX7_rests_83 rfl ?_
                    refine r_iconst C dX7_rests_85 (4 : Int32) (by decide) ?_
                    refine r_irem C dX7_rests_86 (by decide) ?_
                    refine r_istore C dX7_rests_87 (ls' := [.val (.ref o_m), .val (.int t), .val (.int u), .val (.int what), .val (.int many), .val (.int first), .val (.int code), .val (.int (code / (4 : Int32))), .val (.int (code - code / (4 : Int32) * (4 : Int32))), z39, z40, z41, z42]) rfl hz38 rfl ?_
                    refine r_aload_n C dX7_rests_89 rfl ?_
                    refine r_iload_n C dX7_rests_90 rfl ?_
                    refine r_iload_n C dX7_rests_91 rfl ?_
                    refine r_iload C dX7_rests_92 rfl ?_
                    refine r_iload C dX7_rests_94 rfl ?_
                    refine r_iload_n C dX7_rests_96 rfl ?_
                    obtain ⟨u55, hu55⟩ : ∃ r, r = d_X7_silverBy (shf R 0) (shf R 5) (shf R 6) (shf R 8) t u (code / (4 : Int32)) (code - code / (4 : Int32) * (4 : Int32)) t := ⟨_, rfl⟩
                    refine r_callV0 C cw_X7_148 (fun l => c_X7_silverBy l D o_m (shf R 0) (shf R 5) (shf R 6) (shf R 8) t u (code / (4 : Int32)) (code - code / (4 : Int32) * (4 : Int32)) t (nnat (a := (R_m 0 10).toNatClampNeg) (i10_R.trans h10) (by omega)) (show (R 0 10).toNatClampNeg ≤ 6 by rw [cl_n (n := (R_m 0 10).toNatClampNeg) (i10_R.trans h10) (by omega)]; omega) (nnat (a := (R_m 0 11).toNatClampNeg) (i11_R.trans h11) (by omega)) (show (R 0 11).toNatClampNeg ≤ 3 by rw [cl_n (n := (R_m 0 11).toNatClampNeg) (i11_R.trans h11) (by omega)]; omega) hn8 (by omega) hn17 (by omega) hn8 (by omega) u55 hu55) (rest := []) hb43 (k := 0) rfl rfl celO_7 ⟨(blk_sub hb43 0 1 rfl rfl), (blk_sub hb43 5 1 rfl rfl), (blk_sub hb43 6 1 rfl rfl), (blk_sub hb43 8 1 rfl rfl)⟩ (fun q h => by unfold fp1 at h; unfold fp1; omega) rfl rfl rfl (Nat.le_of_ble_eq_true rfl) ⟨Nat.le_of_ble_eq_true rfl, Nat.le_of_ble_eq_true rfl, Nat.le_refl 0, Nat.le_refl 0⟩ dX7_rests_97 (fun v H56 hp57 hq58 => ?_)
                    obtain ⟨rfl, hn59⟩ := hp57
                    have hb60 := blk_spl hb43 8 1 rfl rfl hn59 (fun q h => hq58 q (by unfold fp1; omega))
                    dsimp only [psh]
                    refine r_istore C dX7_rests_100 (ls' := [.val (.ref o_m), .val (.int t), .val (.int u), .val (.int what), .val (.int many), .val (.int first), .val (.int code), .val (.int (code / (4 : Int32))), .val (.int (code - code / (4 : Int32) * (4 : Int32))), .val (.int u55.1), z40, z41, z42]) rfl hz39 rfl ?_
                    refine r_aload_n C dX7_rests_102 rfl ?_
                    refine r_iload_n C dX7_rests_103 rfl ?_
                    refine r_iload_n C dX7_rests_104 rfl ?_
                    refine r_iload C dX7_rests_105 rfl ?_
                    refine r_iload C dX7_rests_107 rfl ?_
                    refine r_iload_n C dX7_rests_109 rfl ?_
                    obtain ⟨u61, hu61⟩ : ∃ r, r = d_X7_silverBy (shf (spl R 8 1 u55.2) 0) (shf (spl R 8 1 u55.2) 5) (shf (spl R 8 1 u55.2) 6) (shf (spl R 8 1 u55.2) 8) t u (code / (4 : Int32)) (code - code / (4 : Int32) * (4 : Int32)) u := ⟨_, rfl⟩
                    refine r_callV0 C cw_X7_148 (fun l => c_X7_silverBy l D o_m (shf (spl R 8 1 u55.2) 0) (shf (spl R 8 1 u55.2) 5) (shf (spl R 8 1 u55.2) 6) (shf (spl R 8 1 u55.2) 8) t u (code / (4 : Int32)) (code - code / (4 : Int32) * (4 : Int32)) u (nnat (a := (R_m 0 10).toNatClampNeg) (i10_R.trans h10) (by omega)) (show (R 0 10).toNatClampNeg ≤ 6 by rw [cl_n (n := (R_m 0 10).toNatClampNeg) (i10_R.trans h10) (by omega)]; omega) (nnat (a := (R_m 0 11).toNatClampNeg) (i11_R.trans h11) (by omega)) (show (R 0 11).toNatClampNeg ≤ 3 by rw [cl_n (n := (R_m 0 11).toNatClampNeg) (i11_R.trans h11) (by omega)]; omega) hn8 (by omega) hn17 (by omega) hn17 (by omega) u61 hu61) (rest := []) hb60 (k := 0) rfl rfl celO_7 ⟨(blk_sub hb60 0 1 rfl rfl), (blk_sub hb60 5 1 rfl rfl), (blk_sub hb60 6 1 rfl rfl), (blk_sub hb60 8 1 rfl rfl)⟩ (fun q h => by unfold fp1 at h; unfold fp1; omega) rfl rfl rfl (Nat.le_of_ble_eq_true rfl) ⟨Nat.le_of_ble_eq_true rfl, Nat.le_of_ble_eq_true rfl, Nat.le_refl 0, Nat.le_refl 0⟩ dX7_rests_110 (fun v H62 hp63 hq64 => ?_)
                    obtain ⟨rfl, hn65⟩ := hp63
                    have hb66 := blk_spl hb60 8 1 rfl rfl hn65 (fun q h => hq64 q (by unfold fp1; omega))
                    dsimp only [psh]
                    refine r_istore C dX7_rests_113 (ls' := [.val (.ref o_m), .val (.int t), .val (.int u), .val (.int what), .val (.int many), .val (.int first), .val (.int code), .val (.int (code / (4 : Int32))), .val (.int (code - code / (4 : Int32) * (4 : Int32))), .val (.int u55.1), .val (.int u61.1), z41, z42]) rfl hz40 rfl ?_
                    refine r_iconst C dX7_rests_115 (1 : Int32) (by decide) ?_
                    refine r_istore C dX7_rests_116 (ls' := [.val (.ref o_m), .val (.int t), .val (.int u), .val (.int what), .val (.int many), .val (.int first), .val (.int code), .val (.int (code / (4 : Int32))), .val (.int (code - code / (4 : Int32) * (4 : Int32))), .val (.int u55.1), .val (.int u61.1), .val (.int (1 : Int32)), z42]) rfl hz41 rfl ?_
                    refine r_iconst C dX7_rests_118 (0 : Int32) (by decide) ?_
                    refine r_istore C dX7_rests_119 (ls' := [.val (.ref o_m), .val (.int t), .val (.int u), .val (.int what), .val (.int many), .val (.int first), .val (.int code), .val (.int (code / (4 : Int32))), .val (.int (code - code / (4 : Int32) * (4 : Int32))), .val (.int u55.1), .val (.int u61.1), .val (.int (1 : Int32)), .val (.int (0 : Int32))]) rfl hz42 rfl ?_
                    have d_X7_rests_L121_w : ∀ (n67 : Nat) (R2 : Nat → Nat → Int32) (is : Int32) (k : Nat) (H72 : Heap), True → (R2 0 10 = R_m 0 10) → (R2 0 11 = R_m 0 11) → (k ≤ 4) → (4 - k < n67) → blk D ksModel o_m R2 H72 → ∀ s69 : (Nat → Nat → Int32) × Int32, s69 = d_X7_rests_L121 t u code u55 u61 n67 R2 is k → (∀ (H' : Heap) (z73 : Slot) (_ : slot1 z73), True → (s69.1 0 10 = R_m 0 10) → (s69.1 0 11 = R_m 0 11) → blk D ksModel o_m s69.1 H' → WG x (fp1 o_m 14) (Fin x (fun v H => v = some (.int res.1) ∧ blk D ksModel o_m res.2 H) (fp1 o_m 14) 0 0) H' 0 0 177 [.val (.ref o_m), .val (.int t), .val (.int u), .val (.int what), .val (.int many), .val (.int first), .val (.int code), .val (.int (code / (4 : Int32))), .val (.int (code - code / (4 : Int32) * (4 : Int32))), .val (.int u55.1), .val (.int u61.1), .val (.int s69.2), z73] []) → WG x (fp1 o_m 14) (Fin x (fun v H => v = some (.int res.1) ∧ blk D ksModel o_m res.2 H) (fp1 o_m 14) 0 0) H72 0 0 121 [.val (.ref o_m), .val (.int t), .val (.int u), .val (.int what), .val (.int many), .val (.int first), .val (.int code), .val (.int (code / (4 : Int32))), .val (.int (code - code / (4 : Int32) * (4 : Int32))), .val (.int u55.1), .val (.int u61.1), .val (.int is), .val (.int (nI k))] [] := by
                      intro n67
                      induction n67 with
                      | zero => intro R2 is k H72  _ i10_R2 i11_R2 hk hm74; exact absurd hm74 (Nat.not_lt_zero _)
                      | succ n67 ih68 =>
                        intro R2 is k H72  _ i10_R2 i11_R2 hk hm74 hb71 s69 hs69  kx70
                        refine r_iload C dX7_rests_121 rfl ?_
                        refine r_iconst C dX7_rests_123 (4 : Int32) (by decide) ?_
                        refine r_ic_ge C dX7_rests_124 (fun c75 => ?_) (fun c75 => ?_)
                        · skip
                          have f76 : (4 ≤ k) := nf_leI (by omega) (by omega) rfl rfl c75
                          have e77 : s69 = (R2, is) := by rw [hs69, d_X7_rests_L121]; try exact (if_pos c75).trans (rfl)
                          rw [e77] at kx70
                          exact kx70 _ (.val (.int (nI k))) rfl trivial i10_R2 i11_R2 hb71
                        · skip
                          have f78 : ¬ (4 ≤ k) := nf_leIn (by omega) (by omega) rfl rfl c75
                          refine r_iload C dX7_rests_127 rfl ?_
                          refine r_if_eq C dX7_rests_129 (fun c79 => ?_) (fun c79 => ?_)
                          · skip
                            refine r_iconst C dX7_rests_168 (0 : Int32) (by decide) ?_
                            refine r_istore C dX7_rests_169 (ls' := [.val (.ref o_m), .val (.int t), .val (.int u), .val (.int what), .val (.int many), .val (.int first), .val (.int code), .val (.int (code / (4 : Int32))), .val (.int (code - code / (4 : Int32) * (4 : Int32))), .val (.int u55.1), .val (.int u61.1), .val (.int (0 : Int32)), .val (.int (nI k))]) rfl rfl rfl ?_
                            refine r_iinc C dX7_rests_171 (nI (k + 1)) rfl (nI_inc k rfl) (ls' := [.val (.ref o_m), .val (.int t), .val (.int u), .val (.int what), .val (.int many), .val (.int first), .val (.int code), .val (.int (code / (4 : Int32))), .val (.int (code - code / (4 : Int32) * (4 : Int32))), .val (.int u55.1), .val (.int u61.1), .val (.int (0 : Int32)), .val (.int (nI (k + 1)))]) rfl ?_
                            refine r_goto C dX7_rests_174 ?_
                            have e80 : s69 = d_X7_rests_L121 t u code u55 u61 n67 R2 (0 : Int32) (k + 1) := by rw [hs69, d_X7_rests_L121]; try exact (if_neg c75).trans ((if_pos c79).trans (rfl))
                            exact ih68 R2 (0 : Int32) (k + 1) _  trivial i10_R2 i11_R2 (by omega) (by omega) hb71 s69 e80  kx70
                          · skip
                            refine r_aload_n C dX7_rests_132 rfl ?_
                            refine r_iload_n C dX7_rests_133 rfl ?_
                            refine r_iload_n C dX7_rests_134 rfl ?_
                            refine r_iload C dX7_rests_135 rfl ?_
                            refine r_iload C dX7_rests_137 rfl ?_
                            refine r_iload_n C dX7_rests_139 rfl ?_
                            obtain ⟨u81, hu81⟩ : ∃ r, r = d_X7_silverBy (shf R2 0) (shf R2 5) (shf R2 6) (shf R2 8) t u (nI k) (code - code / (4 : Int32) * (4 : Int32)) t := ⟨_, rfl⟩
                            refine r_callV0 C cw_X7_148 (fun l => c_X7_silverBy l D o_m (shf R2 0) (shf R2 5) (shf R2 6) (shf R2 8) t u (nI k) (code - code / (4 : Int32) * (4 : Int32)) t (nnat (a := (R_m 0 10).toNatClampNeg) (i10_R2.trans h10) (by omega)) (show (R2 0 10).toNatClampNeg ≤ 6 by rw [cl_n (n := (R_m 0 10).toNatClampNeg) (i10_R2.trans h10) (by omega)]; omega) (nnat (a := (R_m 0 11).toNatClampNeg) (i11_R2.trans h11) (by omega)) (show (R2 0 11).toNatClampNeg ≤ 3 by rw [cl_n (n := (R_m 0 11).toNatClampNeg) (i11_R2.trans h11) (by omega)]; omega) hn8 (by omega) hn17 (by omega) hn8 (by omega) u81 hu81) (rest := []) hb71 (k := 0) rfl rfl celO_7 ⟨(blk_sub hb71 0 1 rfl rfl), (blk_sub hb71 5 1 rfl rfl), (blk_sub hb71 6 1 rfl rfl), (blk_sub hb71 8 1 rfl rfl)⟩ (fun q h => by unfold fp1 at h; unfold fp1; omega) rfl rfl rfl (Nat.le_of_ble_eq_true rfl) ⟨Nat.le_of_ble_eq_true rfl, Nat.le_of_ble_eq_true rfl, Nat.le_refl 0, Nat.le_refl 0⟩ dX7_rests_140 (fun v H82 hp83 hq84 => ?_)
                            obtain ⟨rfl, hn85⟩ := hp83
                            have hb86 := blk_spl hb71 8 1 rfl rfl hn85 (fun q h => hq84 q (by unfold fp1; omega))
                            dsimp only [psh]
                            refine r_iload C dX7_rests_143 rfl ?_
                            refine r_ic_gt C dX7_rests_145 (fun c87 => ?_) (fun c87 => ?_)
                            · skip
                              refine r_iconst C dX7_rests_168 (0 : Int32) (by decide) ?_
                              refine r_istore C dX7_rests_169 (ls' := [.val (.ref o_m), .val (.int t), .val (.int u), .val (.int what), .val (.int many), .val (.int first), .val (.int code), .val (.int (code / (4 : Int32))), .val (.int (code - code / (4 : Int32) * (4 : Int32))), .val (.int u55.1), .val (.int u61.1), .val (.int (0 : Int32)), .val (.int (nI k))]) rfl rfl rfl ?_
                              refine r_iinc C dX7_rests_171 (nI (k + 1)) rfl (nI_inc k rfl) (ls' := [.val (.ref o_m), .val (.int t), .val (.int u), .val (.int what), .val (.int many), .val (.int first), .val (.int code), .val (.int (code / (4 : Int32))), .val (.int (code - code / (4 : Int32) * (4 : Int32))), .val (.int u55.1), .val (.int u61.1), .val (.int (0 : Int32)), .val (.int (nI (k + 1)))]) rfl ?_
                              refine r_goto C dX7_rests_174 ?_
                              have e88 : s69 = d_X7_rests_L121 t u code u55 u61 n67 (spl R2 8 1 u81.2) (0 : Int32) (k + 1) := by rw [hs69, d_X7_rests_L121]; try exact (if_neg c75).trans ((if_neg c79).trans ((lt_eq hu81).trans ((if_pos c87).trans (rfl))))
                              exact ih68 (spl R2 8 1 u81.2) (0 : Int32) (k + 1) _  trivial i10_R2 i11_R2 (by omega) (by omega) hb86 s69 e88  kx70
                            · skip
                              refine r_aload_n C dX7_rests_148 rfl ?_
                              refine r_iload_n C dX7_rests_149 rfl ?_
                              refine r_iload_n C dX7_rests_150 rfl ?_
                              refine r_iload C dX7_rests_151 rfl ?_
                              refine r_iload C dX7_rests_153 rfl ?_
                              refine r_iload_n C dX7_rests_155 rfl ?_
                              obtain ⟨u89, hu89⟩ : ∃ r, r = d_X7_silverBy (shf (spl R2 8 1 u81.2) 0) (shf (spl R2 8 1 u81.2) 5) (shf (spl R2 8 1 u81.2) 6) (shf (spl R2 8 1 u81.2) 8) t u (code / (4 : Int32)) (nI k) u := ⟨_, rfl⟩
                              refine r_callV0 C cw_X7_148 (fun l => c_X7_silverBy l D o_m (shf (spl R2 8 1 u81.2) 0) (shf (spl R2 8 1 u81.2) 5) (shf (spl R2 8 1 u81.2) 6) (shf (spl R2 8 1 u81.2) 8) t u (code / (4 : Int32)) (nI k) u (nnat (a := (R_m 0 10).toNatClampNeg) (i10_R2.trans h10) (by omega)) (show (R2 0 10).toNatClampNeg ≤ 6 by rw [cl_n (n := (R_m 0 10).toNatClampNeg) (i10_R2.trans h10) (by omega)]; omega) (nnat (a := (R_m 0 11).toNatClampNeg) (i11_R2.trans h11) (by omega)) (show (R2 0 11).toNatClampNeg ≤ 3 by rw [cl_n (n := (R_m 0 11).toNatClampNeg) (i11_R2.trans h11) (by omega)]; omega) hn8 (by omega) hn17 (by omega) hn17 (by omega) u89 hu89) (rest := []) hb86 (k := 0) rfl rfl celO_7 ⟨(blk_sub hb86 0 1 rfl rfl), (blk_sub hb86 5 1 rfl rfl), (blk_sub hb86 6 1 rfl rfl), (blk_sub hb86 8 1 rfl rfl)⟩ (fun q h => by unfold fp1 at h; unfold fp1; omega) rfl rfl rfl (Nat.le_of_ble_eq_true rfl) ⟨Nat.le_of_ble_eq_true rfl, Nat.le_of_ble_eq_true rfl, Nat.le_refl 0, Nat.le_refl 0⟩ dX7_rests_156 (fun v H90 hp91 hq92 => ?_)
                              obtain ⟨rfl, hn93⟩ := hp91
                              have hb94 := blk_spl hb86 8 1 rfl rfl hn93 (fun q h => hq92 q (by unfold fp1; omega))
                              dsimp only [psh]
                              refine r_iload C dX7_rests_159 rfl ?_
                              refine r_ic_gt C dX7_rests_161 (fun c95 => ?_) (fun c95 => ?_)
                              · skip
                                refine r_iconst C dX7_rests_168 (0 : Int32) (by decide) ?_
                                refine r_istore C dX7_rests_169 (ls' := [.val (.ref o_m), .val (.int t), .val (.int u), .val (.int what), .val (.int many), .val (.int first), .val (.int code), .val (.int (code / (4 : Int32))), .val (.int (code - code / (4 : Int32) * (4 : Int32))), .val (.int u55.1), .val (.int u61.1), .val (.int (0 : Int32)), .val (.int (nI k))]) rfl rfl rfl ?_
                                refine r_iinc C dX7_rests_171 (nI (k + 1)) rfl (nI_inc k rfl) (ls' := [.val (.ref o_m), .val (.int t), .val (.int u), .val (.int what), .val (.int many), .val (.int first), .val (.int code), .val (.int (code / (4 : Int32))), .val (.int (code - code / (4 : Int32) * (4 : Int32))), .val (.int u55.1), .val (.int u61.1), .val (.int (0 : Int32)), .val (.int (nI (k + 1)))]) rfl ?_
                                refine r_goto C dX7_rests_174 ?_
                                have e96 : s69 = d_X7_rests_L121 t u code u55 u61 n67 (spl (spl R2 8 1 u81.2) 8 1 u89.2) (0 : Int32) (k + 1) := by rw [hs69, d_X7_rests_L121]; try exact (if_neg c75).trans ((if_neg c79).trans ((lt_eq hu81).trans ((if_neg c87).trans ((lt_eq hu89).trans ((if_pos c95).trans (rfl))))))
                                exact ih68 (spl (spl R2 8 1 u81.2) 8 1 u89.2) (0 : Int32) (k + 1) _  trivial i10_R2 i11_R2 (by omega) (by omega) hb94 s69 e96  kx70
                              · skip
                                refine r_iconst C dX7_rests_164 (1 : Int32) (by decide) ?_
                                refine r_goto C dX7_rests_165 ?_
                                refine r_istore C dX7_rests_169 (ls' := [.val (.ref o_m), .val (.int t), .val (.int u), .val (.int what), .val (.int many), .val (.int first), .val (.int code), .val (.int (code / (4 : Int32))), .val (.int (code - code / (4 : Int32) * (4 : Int32))), .val (.int u55.1), .val (.int u61.1), .val (.int (1 : Int32)), .val (.int (nI k))]) rfl rfl rfl ?_
                                refine r_iinc C dX7_rests_171 (nI (k + 1)) rfl (nI_inc k rfl) (ls' := [.val (.ref o_m), .val (.int t), .val (.int u), .val (.int what), .val (.int many), .val (.int first), .val (.int code), .val (.int (code / (4 : Int32))), .val (.int (code - code / (4 : Int32) * (4 : Int32))), .val (.int u55.1), .val (.int u61.1), .val (.int (1 : Int32)), .val (.int (nI (k + 1)))]) rfl ?_
                                refine r_goto C dX7_rests_174 ?_
                                have e97 : s69 = d_X7_rests_L121 t u code u55 u61 n67 (spl (spl R2 8 1 u81.2) 8 1 u89.2) (1 : Int32) (k + 1) := by rw [hs69, d_X7_rests_L121]; try exact (if_neg c75).trans ((if_neg c79).trans ((lt_eq hu81).trans ((if_neg c87).trans ((lt_eq hu89).trans ((if_neg c95).trans (rfl))))))
                                exact ih68 (spl (spl R2 8 1 u81.2) 8 1 u89.2) (1 : Int32) (k + 1) _  trivial i10_R2 i11_R2 (by omega) (by omega) hb94 s69 e97  kx70
                    obtain ⟨s98, hs98⟩ : ∃ r, r = d_X7_rests_L121 t u code u55 u61 5 (spl (spl R 8 1 u55.2) 8 1 u61.2) (1 : Int32) 0 := ⟨_, rfl⟩
                    refine d_X7_rests_L121_w 5 (spl (spl R 8 1 u55.2) 8 1 u61.2) (1 : Int32) 0 _  trivial i10_R i11_R (by omega) (by omega) hb66 s98 hs98  (fun H100 z73 hz73 e103 p101 p102 hb99 => ?_)
                    refine r_iload C dX7_rests_177 rfl ?_
                    refine r_iload C dX7_rests_179 rfl ?_
                    refine r_if_eq C dX7_rests_181 (fun c104 => ?_) (fun c104 => ?_)
                    · skip
                      refine r_iconst C dX7_rests_188 (0 : Int32) (by decide) ?_
                      refine r_iadd C dX7_rests_189 ?_
                      refine r_istore C dX7_rests_190 (ls' := [.val (.ref o_m), .val (.int t), .val (.int u), .val (.int what), .val (.int (many + (0 : Int32))), .val (.int first), .val (.int code), .val (.int (code / (4 : Int32))), .val (.int (code - code / (4 : Int32) * (4 : Int32))), .val (.int u55.1), .val (.int u61.1), .val (.int s98.2), z73]) rfl rfl rfl ?_
                      refine r_iload C dX7_rests_192 rfl ?_
                      refine r_if_eq C dX7_rests_194 (fun c105 => ?_) (fun c105 => ?_)
                      · skip
                        refine r_iload C dX7_rests_202 rfl ?_
                        refine r_istore C dX7_rests_204 (ls' := [.val (.ref o_m), .val (.int t), .val (.int u), .val (.int what), .val (.int (many + (0 : Int32))), .val (.int first), .val (.int code), .val (.int (code / (4 : Int32))), .val (.int (code - code / (4 : Int32) * (4 : Int32))), .val (.int u55.1), .val (.int u61.1), .val (.int s98.2), z73]) rfl rfl rfl ?_
                        refine r_iinc C dX7_rests_206 (code + Int32.ofInt (-1)) rfl rfl (ls' := [.val (.ref o_m), .val (.int t), .val (.int u), .val (.int what), .val (.int (many + (0 : Int32))), .val (.int first), .val (.int (code + Int32.ofInt (-1))), .val (.int (code / (4 : Int32))), .val (.int (code - code / (4 : Int32) * (4 : Int32))), .val (.int u55.1), .val (.int u61.1), .val (.int s98.2), z73]) rfl ?_
                        refine r_goto C dX7_rests_209 ?_
                        have e106 : s35 = d_X7_rests_L72 t u n33 s98.1 (many + (0 : Int32)) first (code + Int32.ofInt (-1)) := by rw [hs35, d_X7_rests_L72]; try exact (if_neg c53).trans ((lt_eq hu55).trans ((lt_eq hu61).trans ((lt_eq hs98).trans ((if_pos c104).trans ((if_pos c105).trans (rfl))))))
                        exact ih34 s98.1 (many + (0 : Int32)) first (code + Int32.ofInt (-1)) _ (.val (.int (code / (4 : Int32)))) rfl (.val (.int (code - code / (4 : Int32) * (4 : Int32)))) rfl (.val (.int u55.1)) rfl (.val (.int u61.1)) rfl (.val (.int s98.2)) rfl z73 hz73 trivial p101 p102 (by rw [dec1 c53]; have := x_lo1 c53; omega) (by rw [dec1 c53]; omega) (by rw [dec1 c53]; have := x_lo1 c53; omega) hb99 s35 e106  kx36
                      · skip
                        refine r_iload C dX7_rests_197 rfl ?_
                        refine r_goto C dX7_rests_199 ?_
                        refine r_istore C dX7_rests_204 (ls' := [.val (.ref o_m), .val (.int t), .val (.int u), .val (.int what), .val (.int (many + (0 : Int32))), .val (.int code), .val (.int code), .val (.int (code / (4 : Int32))), .val (.int (code - code / (4 : Int32) * (4 : Int32))), .val (.int u55.1), .val (.int u61.1), .val (.int s98.2), z73]) rfl rfl rfl ?_
                        refine r_iinc C dX7_rests_206 (code + Int32.ofInt (-1)) rfl rfl (ls' := [.val (.ref o_m), .val (.int t), .val (.int u), .val (.int what), .val (.int (many + (0 : Int32))), .val (.int code), .val (.int (code + Int32.ofInt (-1))), .val (.int (code / (4 : Int32))), .val (.int (code - code / (4 : Int32) * (4 : Int32))), .val (.int u55.1), .val (.int u61.1), .val (.int s98.2), z73]) rfl ?_
                        refine r_goto C dX7_rests_209 ?_
                        have e107 : s35 = d_X7_rests_L72 t u n33 s98.1 (many + (0 : Int32)) code (code + Int32.ofInt (-1)) := by rw [hs35, d_X7_rests_L72]; try exact (if_neg c53).trans ((lt_eq hu55).trans ((lt_eq hu61).trans ((lt_eq hs98).trans ((if_pos c104).trans ((if_neg c105).trans (rfl))))))
                        exact ih34 s98.1 (many + (0 : Int32)) code (code + Int32.ofInt (-1)) _ (.val (.int (code / (4 : Int32)))) rfl (.val (.int (code - code / (4 : Int32) * (4 : Int32)))) rfl (.val (.int u55.1)) rfl (.val (.int u61.1)) rfl (.val (.int s98.2)) rfl z73 hz73 trivial p101 p102 (by rw [dec1 c53]; have := x_lo1 c53; omega) (by rw [dec1 c53]; omega) (by rw [dec1 c53]; have := x_lo1 c53; omega) hb99 s35 e107  kx36
                    · skip
                      refine r_iconst C dX7_rests_184 (1 : Int32) (by decide) ?_
                      refine r_goto C dX7_rests_185 ?_
                      refine r_iadd C dX7_rests_189 ?_
                      refine r_istore C dX7_rests_190 (ls' := [.val (.ref o_m), .val (.int t), .val (.int u), .val (.int what), .val (.int (many + (1 : Int32))), .val (.int first), .val (.int code), .val (.int (code / (4 : Int32))), .val (.int (code - code / (4 : Int32) * (4 : Int32))), .val (.int u55.1), .val (.int u61.1), .val (.int s98.2), z73]) rfl rfl rfl ?_
                      refine r_iload C dX7_rests_192 rfl ?_
                      refine r_if_eq C dX7_rests_194 (fun c108 => ?_) (fun c108 => ?_)
                      · skip
                        refine r_iload C dX7_rests_202 rfl ?_
                        refine r_istore C dX7_rests_204 (ls' := [.val (.ref o_m), .val (.int t), .val (.int u), .val (.int what), .val (.int (many + (1 : Int32))), .val (.int first), .val (.int code), .val (.int (code / (4 : Int32))), .val (.int (code - code / (4 : Int32) * (4 : Int32))), .val (.int u55.1), .val (.int u61.1), .val (.int s98.2), z73]) rfl rfl rfl ?_
                        refine r_iinc C dX7_rests_206 (code + Int32.ofInt (-1)) rfl rfl (ls' := [.val (.ref o_m), .val (.int t), .val (.int u), .val (.int what), .val (.int (many + (1 : Int32))), .val (.int first), .val (.int (code + Int32.ofInt (-1))), .val (.int (code / (4 : Int32))), .val (.int (code - code / (4 : Int32) * (4 : Int32))), .val (.int u55.1), .val (.int u61.1), .val (.int s98.2), z73]) rfl ?_
                        refine r_goto C dX7_rests_209 ?_
                        have e109 : s35 = d_X7_rests_L72 t u n33 s98.1 (many + (1 : Int32)) first (code + Int32.ofInt (-1)) := by rw [hs35, d_X7_rests_L72]; try exact (if_neg c53).trans ((lt_eq hu55).trans ((lt_eq hu61).trans ((lt_eq hs98).trans ((if_neg c104).trans ((if_pos c108).trans (rfl))))))
                        exact ih34 s98.1 (many + (1 : Int32)) first (code + Int32.ofInt (-1)) _ (.val (.int (code / (4 : Int32)))) rfl (.val (.int (code - code / (4 : Int32) * (4 : Int32)))) rfl (.val (.int u55.1)) rfl (.val (.int u61.1)) rfl (.val (.int s98.2)) rfl z73 hz73 trivial p101 p102 (by rw [dec1 c53]; have := x_lo1 c53; omega) (by rw [dec1 c53]; omega) (by rw [dec1 c53]; have := x_lo1 c53; omega) hb99 s35 e109  kx36
                      · skip
                        refine r_iload C dX7_rests_197 rfl ?_
                        refine r_goto C dX7_rests_199 ?_
                        refine r_istore C dX7_rests_204 (ls' := [.val (.ref o_m), .val (.int t), .val (.int u), .val (.int what), .val (.int (many + (1 : Int32))), .val (.int code), .val (.int code), .val (.int (code / (4 : Int32))), .val (.int (code - code / (4 : Int32) * (4 : Int32))), .val (.int u55.1), .val (.int u61.1), .val (.int s98.2), z73]) rfl rfl rfl ?_
                        refine r_iinc C dX7_rests_206 (code + Int32.ofInt (-1)) rfl rfl (ls' := [.val (.ref o_m), .val (.int t), .val (.int u), .val (.int what), .val (.int (many + (1 : Int32))), .val (.int code), .val (.int (code + Int32.ofInt (-1))), .val (.int (code / (4 : Int32))), .val (.int (code - code / (4 : Int32) * (4 : Int32))), .val (.int u55.1), .val (.int u61.1), .val (.int s98.2), z73]) rfl ?_
                        refine r_goto C dX7_rests_209 ?_
                        have e110 : s35 = d_X7_rests_L72 t u n33 s98.1 (many + (1 : Int32)) code (code + Int32.ofInt (-1)) := by rw [hs35, d_X7_rests_L72]; try exact (if_neg c53).trans ((lt_eq hu55).trans ((lt_eq hu61).trans ((lt_eq hs98).trans ((if_neg c104).trans ((if_neg c108).trans (rfl))))))
                        exact ih34 s98.1 (many + (1 : Int32)) code (code + Int32.ofInt (-1)) _ (.val (.int (code / (4 : Int32)))) rfl (.val (.int (code - code / (4 : Int32) * (4 : Int32)))) rfl (.val (.int u55.1)) rfl (.val (.int u61.1)) rfl (.val (.int s98.2)) rfl z73 hz73 trivial p101 p102 (by rw [dec1 c53]; have := x_lo1 c53; omega) (by rw [dec1 c53]; omega) (by rw [dec1 c53]; have := x_lo1 c53; omega) hb99 s35 e110  kx36
              obtain ⟨s111, hs111⟩ : ∃ r, r = d_X7_rests_L72 t u 17 R_m (0 : Int32) (-4 : Int32) (15 : Int32) := ⟨_, rfl⟩
              refine d_X7_rests_L72_w 17 R_m (0 : Int32) (-4 : Int32) (15 : Int32) _ .unset trivial .unset trivial .unset trivial .unset trivial .unset trivial .unset trivial trivial rfl rfl (by decide) (by decide) (by decide) hb27 s111 hs111  (fun H113 z45 hz45 z46 hz46 z47 hz47 z48 hz48 z49 hz49 z50 hz50 z51 hz51 e116 p114 p115 hb112 => ?_)
              refine r_iload_n C dX7_rests_212 rfl ?_
              refine r_if_ne C dX7_rests_213 (fun c117 => ?_) (fun c117 => ?_)
              · skip
                have f118 : ¬ (what.toNatClampNeg = 0) := nf_eqn (by omega) (by omega) hn29 rfl c117
                refine r_iload C dX7_rests_221 rfl ?_
                refine r_iret C dX7_rests_223 ?_
                have er : res = (s111.2.2, s111.1) := by rw [hres, d_X7_rests]; try exact (lt_eq hu1).trans ((if_neg c7).trans ((lt_eq hu10).trans ((if_neg c16).trans ((if_neg c19).trans ((lt_eq hu22).trans ((if_neg c28).trans ((if_neg c31).trans ((if_neg c32).trans ((lt_eq hs111).trans ((if_neg c117).trans (rfl)))))))))))
                rw [er]
                exact ⟨rfl, hb112⟩
              · skip
                have f119 : (what.toNatClampNeg = 0) := nf_eq (by omega) (by omega) hn29 rfl c117
                refine r_iload C dX7_rests_216 rfl ?_
                refine r_goto C dX7_rests_218 ?_
                refine r_iret C dX7_rests_223 ?_
                have er : res = (s111.2.1, s111.1) := by rw [hres, d_X7_rests]; try exact (lt_eq hu1).trans ((if_neg c7).trans ((lt_eq hu10).trans ((if_neg c16).trans ((if_neg c19).trans ((lt_eq hu22).trans ((if_neg c28).trans ((if_neg c31).trans ((if_neg c32).trans ((lt_eq hs111).trans ((if_pos c117).trans (rfl)))))))))))
                rw [er]
                exact ⟨rfl, hb112⟩
            · skip
              refine r_bipush C dX7_rests_58 (-2 : Int32) (by decide) ?_
              refine r_iret C dX7_rests_60 ?_
              have er : res = ((-2 : Int32), R_m) := by rw [hres, d_X7_rests]; try exact (lt_eq hu1).trans ((if_neg c7).trans ((lt_eq hu10).trans ((if_neg c16).trans ((if_neg c19).trans ((lt_eq hu22).trans ((if_neg c28).trans ((if_neg c31).trans ((if_pos c32).trans (rfl)))))))))
              rw [er]
              exact ⟨rfl, hb27⟩
        · skip
          refine r_iconst C dX7_rests_30 (-1 : Int32) (by decide) ?_
          refine r_iret C dX7_rests_31 ?_
          have er : res = ((-1 : Int32), R_m) := by rw [hres, d_X7_rests]; try exact (lt_eq hu1).trans ((if_neg c7).trans ((lt_eq hu10).trans ((if_neg c16).trans ((if_neg c19).trans ((lt_eq hu22).trans ((if_pos c28).trans (rfl)))))))
          rw [er]
          exact ⟨rfl, hb27⟩

def d_X7_walled_L70 (n : Int32) : Nat → (Nat → Nat → Int32) → Nat → (Nat → Nat → Int32)
  | 0, R2, _ => R2
  | n46 + 1, R2, k =>
    if n ≤ (nI k) then
      R2
    else
      lt (d_X7_spring (shf R2 0) (shf R2 5) (shf R2 8)) fun u58 =>
      d_X7_walled_L70 n n46 (spl R2 8 1 u58) (k + 1)
def d_X7_walled_L38 (t : Int32) (n : Int32) : Nat → (Nat → Nat → Int32) → Nat → (Int32 × (Nat → Nat → Int32)) ⊕ ((Nat → Nat → Int32))
  | 0, R, _ => .inr R
  | n21 + 1, R, w =>
    if (20 : Int32) < (nI w) then
      .inr R
    else
      lt (d_X7_copy (shf R 6) (shf R 8) 64 64 (0 : Int32) (0 : Int32)) fun u37 =>
      lt (d_X7_walled_L70 n 21 (pt (spl R 8 1 u37) 8 (13 + t.toNatClampNeg) (nI w)) 0) fun s65 =>
      if (s65 8 (25 + t.toNatClampNeg)) = 0 then
        .inl ((nI w), s65)
      else
        d_X7_walled_L38 t n n21 s65 (w + 1)
def d_X7_walled (R_m : Nat → Nat → Int32) (t : Int32) (n : Int32) : Int32 × (Nat → Nat → Int32) :=
  lt (d_X7_isTown (shf R_m 0) t) fun u1 =>
  if u1 = 0 then
    ((-1 : Int32), R_m)
  else
    lt (d_X7_in n (1 : Int32) (20 : Int32)) fun u10 =>
    if u10 = 0 then
      ((-1 : Int32), R_m)
    else
      if (R_m 6 (25 + t.toNatClampNeg)) = (1 : Int32) then
        ((-2 : Int32), R_m)
      else
        sc (d_X7_walled_L38 t n 22 R_m 0) (fun r => r) fun w74 =>
        ((-4 : Int32), w74)
set_option maxHeartbeats 4000000 in
set_option maxRecDepth 100000 in
theorem c_X7_walled (l : Launch) (D : DD) (o_m : Nat) (R_m : Nat → Nat → Int32) (t : Int32) (n : Int32) (h10 : R_m 0 10 = nI (R_m 0 10).toNatClampNeg) (b10 : (R_m 0 10).toNatClampNeg ≤ 6) (h11 : R_m 0 11 = nI (R_m 0 11).toNatClampNeg) (b11 : (R_m 0 11).toNatClampNeg ≤ 3) (res : Int32 × (Nat → Nat → Int32)) (hres : res = d_X7_walled R_m t n) : Mt l D yX7_walled cX7_walled 5 (some .int) 3 75 0 0 [.ref o_m, .int t, .int n] (fun H => blk D ksModel o_m R_m H) (fun v H => v = some (.int res.1) ∧ blk D ksModel o_m res.2 H) (fp1 o_m 14) := by
  refine mt_of (own := RX7) (ls := [.val (.ref o_m), .val (.int t), .val (.int n), .unset, .unset]) rfl (by decide +kernel) rfl ?_
  intro x H C hP
  have hb_m := hP
  refine r_aload_n C dX7_walled_0 rfl ?_
  refine r_iload_n C dX7_walled_1 rfl ?_
  obtain ⟨u1, hu1⟩ : ∃ r, r = d_X7_isTown (shf R_m 0) t := ⟨_, rfl⟩
  refine r_callV0 C cw_X7_113 (fun l => c_X7_isTown l D o_m (shf R_m 0) t u1 hu1) (rest := []) hb_m (k := 0) rfl rfl celO_7 (blk_sub hb_m 0 1 rfl rfl) (fun q h => h.elim) rfl rfl rfl (Nat.le_of_ble_eq_true rfl) ⟨Nat.le_of_ble_eq_true rfl, Nat.le_of_ble_eq_true rfl, Nat.le_refl 0, Nat.le_refl 0⟩ dX7_walled_2 (fun v H2 hp3 hq4 => ?_)
  obtain ⟨rfl, hl5⟩ := hp3
  have hb6 := blk_kept hb_m (n := 14) rfl (fun q h1 h2 => hq4 q (fun h => h))
  dsimp only [psh]
  refine r_if_eq C dX7_walled_5 (fun c7 => ?_) (fun c7 => ?_)
  · skip
    refine r_iconst C dX7_walled_18 (-1 : Int32) (by decide) ?_
    refine r_iret C dX7_walled_19 ?_
    have er : res = ((-1 : Int32), R_m) := by rw [hres, d_X7_walled]; try exact (lt_eq hu1).trans ((if_pos c7).trans (rfl))
    rw [er]
    exact ⟨rfl, hb6⟩
  · skip
    obtain ⟨hn8, hn9⟩ := X7_isTown_nat hu1 c7 h10 b10
    refine r_iload_n C dX7_walled_8 rfl ?_
    refine r_iconst C dX7_walled_9 (1 : Int32) (by decide) ?_
    refine r_bipush C dX7_walled_10 (20 : Int32) (by decide) ?_
    obtain ⟨u10, hu10⟩ : ∃ r, r = d_X7_in n (1 : Int32) (20 : Int32) := ⟨_, rfl⟩
    refine r_callS0 C cw_X7_67 (fun l => c_X7_in l D n (1 : Int32) (20 : Int32) u10 hu10) (rest := []) trivial (fun q h => h.elim) rfl rfl rfl (Nat.le_of_ble_eq_true rfl) ⟨Nat.le_of_ble_eq_true rfl, Nat.le_of_ble_eq_true rfl, Nat.le_refl 0, Nat.le_refl 0⟩ dX7_walled_12 (fun v H11 hp12 hq13 => ?_)
    obtain ⟨rfl, hl14⟩ := hp12
    have hb15 := blk_kept hb6 (n := 14) rfl (fun q h1 h2 => hq13 q (fun h => h))
    dsimp only [psh]
    refine r_if_ne C dX7_walled_15 (fun c16 => ?_) (fun c16 => ?_)
    · skip
      obtain ⟨hn17, hn18⟩ := X7_in_nat (M := 20) hu10 c16 (by decide) rfl (by decide)
      have hn19 : 1 ≤ n.toNatClampNeg := x_geN (X7_in_lo hu10 c16) hn17 (by decide)
      refine r_aload_n C dX7_walled_20 rfl ?_
      refine r_get C hb15 (k := 0) rfl rfl celO_7 fw_X7_25 rfl dX7_walled_21 ?_
      refine r_bipush C dX7_walled_24 (25 : Int32) (by decide) ?_
      refine r_iload_n C dX7_walled_26 rfl ?_
      refine r_iaddN C dX7_walled_27 (na := 25) (nb := t.toNatClampNeg) rfl hn8 (nc := (25 + t.toNatClampNeg)) rfl ?_
      refine r_iald C hb15 (k := 6) rfl rfl (vp_in_n rfl (by omega) (by omega)) (j := (25 + t.toNatClampNeg)) (cl_n rfl (by omega)) dX7_walled_28 ?_
      refine r_iconst C dX7_walled_29 (1 : Int32) (by decide) ?_
      refine r_ic_ne C dX7_walled_30 (fun c20 => ?_) (fun c20 => ?_)
      · skip
        refine r_iconst C dX7_walled_36 (0 : Int32) (by decide) ?_
        refine r_istore_n C dX7_walled_37 (ls' := [.val (.ref o_m), .val (.int t), .val (.int n), .val (.int (0 : Int32)), .unset]) rfl trivial rfl ?_
        have d_X7_walled_L38_w : ∀ (n21 : Nat) (R : Nat → Nat → Int32) (w : Nat) (H27 : Heap) (z25 : Slot) (_ : slot1 z25), True → (R 0 10 = R_m 0 10) → (R 0 11 = R_m 0 11) → (w ≤ 21) → (21 - w < n21) → blk D ksModel o_m R H27 → ∀ s23 : (Int32 × (Nat → Nat → Int32)) ⊕ ((Nat → Nat → Int32)), s23 = d_X7_walled_L38 t n n21 R w → (∀ r, s23 = .inl r → res = r) → (∀ (w28 : (Nat → Nat → Int32)) (H' : Heap) (z29 : Slot) (_ : slot1 z29) (z30 : Slot) (_ : slot1 z30), s23 = .inr w28 → (w28 0 10 = R_m 0 10) → (w28 0 11 = R_m 0 11) → blk D ksModel o_m w28 H' → WG x (fp1 o_m 14) (Fin x (fun v H => v = some (.int res.1) ∧ blk D ksModel o_m res.2 H) (fp1 o_m 14) 0 0) H' 0 0 110 [.val (.ref o_m), .val (.int t), .val (.int n), z29, z30] []) → WG x (fp1 o_m 14) (Fin x (fun v H => v = some (.int res.1) ∧ blk D ksModel o_m res.2 H) (fp1 o_m 14) 0 0) H27 0 0 38 [.val (.ref o_m), .val (.int t), .val (.int n), .val (.int (nI w)), z25] [] := by
          intro n21
          induction n21 with
          | zero => intro R w H27 z25 hz25 _ i10_R i11_R hw hm31; exact absurd hm31 (Nat.not_lt_zero _)
          | succ n21 ih22 =>
            intro R w H27 z25 hz25 _ i10_R i11_R hw hm31 hb26 s23 hs23 hr32 kx24
            refine r_iload_n C dX7_walled_38 rfl ?_
            refine r_bipush C dX7_walled_39 (20 : Int32) (by decide) ?_
            refine r_ic_gt C dX7_walled_41 (fun c33 => ?_) (fun c33 => ?_)
            · skip
              have f34 : (20 < w) := nf_ltI (by omega) (by omega) rfl rfl c33
              have e35 : s23 = .inr R := by rw [hs23, d_X7_walled_L38]; try exact (if_pos c33).trans (rfl)
              exact kx24 R _ (.val (.int (nI w))) rfl z25 hz25 e35 i10_R i11_R hb26
            · skip
              have f36 : ¬ (20 < w) := nf_ltIn (by omega) (by omega) rfl rfl c33
              refine r_aload_n C dX7_walled_44 rfl ?_
              refine r_get C hb26 (k := 0) rfl rfl celO_7 fw_X7_25 rfl dX7_walled_45 ?_
              refine r_iconst C dX7_walled_48 (0 : Int32) (by decide) ?_
              refine r_aload_n C dX7_walled_49 rfl ?_
              refine r_get C hb26 (k := 0) rfl rfl celO_7 fw_X7_31 rfl dX7_walled_50 ?_
              refine r_iconst C dX7_walled_53 (0 : Int32) (by decide) ?_
              obtain ⟨u37, hu37⟩ : ∃ r, r = d_X7_copy (shf R 6) (shf R 8) 64 64 (0 : Int32) (0 : Int32) := ⟨_, rfl⟩
              refine r_callS0 C cw_X7_63 (fun l => c_X7_copy l D (o_m + 6) (o_m + 8) (shf R 6) (shf R 8) 64 64 (0 : Int32) (0 : Int32) (by omega) (by omega) (by decide) (by have q0 := cl_n (x := (0 : Int32)) (n := 0) rfl (by omega); omega) (by decide) (by have q0 := cl_n (x := (0 : Int32)) (n := 0) rfl (by omega); omega) (by omega) u37 hu37) (rest := []) ⟨(blk_sub hb26 6 1 rfl rfl), (blk_sub hb26 8 1 rfl rfl)⟩ (fun q h => by unfold fp1 at h; unfold fp1; omega) rfl rfl rfl (Nat.le_of_ble_eq_true rfl) ⟨Nat.le_of_ble_eq_true rfl, Nat.le_of_ble_eq_true rfl, Nat.le_refl 0, Nat.le_refl 0⟩ dX7_walled_54 (fun v H38 hp39 hq40 => ?_)
              obtain ⟨rfl, hn41⟩ := hp39
              have hb42 := blk_spl hb26 8 1 rfl rfl hn41 (fun q h => hq40 q (by unfold fp1; omega))
              dsimp only [psh]
              refine r_aload_n C dX7_walled_57 rfl ?_
              refine r_get C hb42 (k := 0) rfl rfl celO_7 fw_X7_31 rfl dX7_walled_58 ?_
              refine r_bipush C dX7_walled_61 (13 : Int32) (by decide) ?_
              refine r_iload_n C dX7_walled_63 rfl ?_
              refine r_iaddN C dX7_walled_64 (na := 13) (nb := t.toNatClampNeg) rfl hn8 (nc := (13 + t.toNatClampNeg)) rfl ?_
              refine r_iload_n C dX7_walled_65 rfl ?_
              refine r_iast C hb42 (k := 8) rfl rfl (by unfold fp1; omega) (vp_in_n rfl (by omega) (by omega)) (j := (13 + t.toNatClampNeg)) (cl_n rfl (by omega)) dX7_walled_66 (fun H43 hb45 hq44 => ?_)
              refine r_iconst C dX7_walled_67 (0 : Int32) (by decide) ?_
              refine r_istore C dX7_walled_68 (ls' := [.val (.ref o_m), .val (.int t), .val (.int n), .val (.int (nI w)), .val (.int (0 : Int32))]) rfl hz25 rfl ?_
              have d_X7_walled_L70_w : ∀ (n46 : Nat) (R2 : Nat → Nat → Int32) (k : Nat) (H51 : Heap), True → (R2 0 10 = R_m 0 10) → (R2 0 11 = R_m 0 11) → (k ≤ 20) → (20 - k < n46) → blk D ksModel o_m R2 H51 → ∀ s48 : (Nat → Nat → Int32), s48 = d_X7_walled_L70 n n46 R2 k → (∀ (H' : Heap) (z52 : Slot) (_ : slot1 z52), True → (s48 0 10 = R_m 0 10) → (s48 0 11 = R_m 0 11) → blk D ksModel o_m s48 H' → WG x (fp1 o_m 14) (Fin x (fun v H => v = some (.int res.1) ∧ blk D ksModel o_m res.2 H) (fp1 o_m 14) 0 0) H' 0 0 90 [.val (.ref o_m), .val (.int t), .val (.int n), .val (.int (nI w)), z52] []) → WG x (fp1 o_m 14) (Fin x (fun v H => v = some (.int res.1) ∧ blk D ksModel o_m res.2 H) (fp1 o_m 14) 0 0) H51 0 0 70 [.val (.ref o_m), .val (.int t), .val (.int n), .val (.int (nI w)), .val (.int (nI k))] [] := by
                intro n46
                induction n46 with
                | zero => intro R2 k H51  _ i10_R2 i11_R2 hk hm53; exact absurd hm53 (Nat.not_lt_zero _)
                | succ n46 ih47 =>
                  intro R2 k H51  _ i10_R2 i11_R2 hk hm53 hb50 s48 hs48  kx49
                  refine r_iload C dX7_walled_70 rfl ?_
                  refine r_iload_n C dX7_walled_72 rfl ?_
                  refine r_ic_ge C dX7_walled_73 (fun c54 => ?_) (fun c54 => ?_)
                  · skip
                    have f55 : (n.toNatClampNeg ≤ k) := nf_leI (by omega) (by omega) hn17 rfl c54
                    have e56 : s48 = R2 := by rw [hs48, d_X7_walled_L70]; try exact (if_pos c54).trans (rfl)
                    rw [e56] at kx49
                    exact kx49 _ (.val (.int (nI k))) rfl trivial i10_R2 i11_R2 hb50
                  · skip
                    have f57 : ¬ (n.toNatClampNeg ≤ k) := nf_leIn (by omega) (by omega) hn17 rfl c54
                    refine r_aload_n C dX7_walled_76 rfl ?_
                    refine r_aload_n C dX7_walled_77 rfl ?_
                    refine r_get C hb50 (k := 0) rfl rfl celO_7 fw_X7_31 rfl dX7_walled_78 ?_
                    obtain ⟨u58, hu58⟩ : ∃ r, r = d_X7_spring (shf R2 0) (shf R2 5) (shf R2 8) := ⟨_, rfl⟩
                    refine r_callV0 C cw_X7_134 (fun l => c_X7_spring l D o_m (o_m + 8) (shf R2 0) (shf R2 5) (shf R2 8) (nnat (a := (R_m 0 10).toNatClampNeg) (i10_R2.trans h10) (by omega)) (show (R2 0 10).toNatClampNeg ≤ 6 by rw [cl_n (n := (R_m 0 10).toNatClampNeg) (i10_R2.trans h10) (by omega)]; omega) (nnat (a := (R_m 0 11).toNatClampNeg) (i11_R2.trans h11) (by omega)) (show (R2 0 11).toNatClampNeg ≤ 3 by rw [cl_n (n := (R_m 0 11).toNatClampNeg) (i11_R2.trans h11) (by omega)]; omega) (by omega) (by omega) u58 hu58) (rest := []) hb50 (k := 0) rfl rfl celO_7 ⟨(blk_sub hb50 0 1 rfl rfl), (blk_sub hb50 5 1 rfl rfl), (blk_sub hb50 8 1 rfl rfl)⟩ (fun q h => by unfold fp1 at h; unfold fp1; omega) rfl rfl rfl (Nat.le_of_ble_eq_true rfl) ⟨Nat.le_of_ble_eq_true rfl, Nat.le_of_ble_eq_true rfl, Nat.le_refl 0, Nat.le_refl 0⟩ dX7_walled_81 (fun v H59 hp60 hq61 => ?_)
                    obtain ⟨rfl, hn62⟩ := hp60
                    have hb63 := blk_spl hb50 8 1 rfl rfl hn62 (fun q h => hq61 q (by unfold fp1; omega))
                    dsimp only [psh]
                    refine r_iinc C dX7_walled_84 (nI (k + 1)) rfl (nI_inc k rfl) (ls' := [.val (.ref o_m), .val (.int t), .val (.int n), .val (.int (nI w)), .val (.int (nI (k + 1)))]) rfl ?_
                    refine r_goto C dX7_walled_87 ?_
                    have e64 : s48 = d_X7_walled_L70 n n46 (spl R2 8 1 u58) (k + 1) := by rw [hs48, d_X7_walled_L70]; try exact (if_neg c54).trans ((lt_eq hu58).trans (rfl))
                    exact ih47 (spl R2 8 1 u58) (k + 1) _  trivial i10_R2 i11_R2 (by omega) (by omega) hb63 s48 e64  kx49
              obtain ⟨s65, hs65⟩ : ∃ r, r = d_X7_walled_L70 n 21 (pt (spl R 8 1 u37) 8 (13 + t.toNatClampNeg) (nI w)) 0 := ⟨_, rfl⟩
              refine d_X7_walled_L70_w 21 (pt (spl R 8 1 u37) 8 (13 + t.toNatClampNeg) (nI w)) 0 _  trivial i10_R i11_R (by omega) (by omega) hb45 s65 hs65  (fun H67 z52 hz52 e70 p68 p69 hb66 => ?_)
              refine r_aload_n C dX7_walled_90 rfl ?_
              refine r_get C hb66 (k := 0) rfl rfl celO_7 fw_X7_31 rfl dX7_walled_91 ?_
              refine r_bipush C dX7_walled_94 (25 : Int32) (by decide) ?_
              refine r_iload_n C dX7_walled_96 rfl ?_
              refine r_iaddN C dX7_walled_97 (na := 25) (nb := t.toNatClampNeg) rfl hn8 (nc := (25 + t.toNatClampNeg)) rfl ?_
              refine r_iald C hb66 (k := 8) rfl rfl (vp_in_n rfl (by omega) (by omega)) (j := (25 + t.toNatClampNeg)) (cl_n rfl (by omega)) dX7_walled_98 ?_
              refine r_if_ne C dX7_walled_99 (fun c71 => ?_) (fun c71 => ?_)
              · skip
                refine r_iinc C dX7_walled_104 (nI (w + 1)) rfl (nI_inc w rfl) (ls' := [.val (.ref o_m), .val (.int t), .val (.int n), .val (.int (nI (w + 1))), z52]) rfl ?_
                refine r_goto C dX7_walled_107 ?_
                have e72 : s23 = d_X7_walled_L38 t n n21 s65 (w + 1) := by rw [hs23, d_X7_walled_L38]; try exact (if_neg c33).trans ((lt_eq hu37).trans ((lt_eq hs65).trans ((if_neg c71).trans (rfl))))
                exact ih22 s65 (w + 1) _ z52 hz52 trivial p68 p69 (by omega) (by omega) hb66 s23 e72 hr32 kx24
              · skip
                refine r_iload_n C dX7_walled_102 rfl ?_
                refine r_iret C dX7_walled_103 ?_
                have er : res = ((nI w), s65) := hr32 _ (by rw [hs23, d_X7_walled_L38]; try exact (if_neg c33).trans ((lt_eq hu37).trans ((lt_eq hs65).trans ((if_pos c71).trans (rfl)))))
                rw [er]
                exact ⟨rfl, hb66⟩
        obtain ⟨s73, hs73⟩ : ∃ r, r = d_X7_walled_L38 t n 22 R_m 0 := ⟨_, rfl⟩
        refine d_X7_walled_L38_w 22 R_m 0 _ .unset trivial trivial rfl rfl (by omega) (by omega) hb15 s73 hs73 (fun r e => by rw [hres, d_X7_walled]; exact (lt_eq hu1).trans ((if_neg c7).trans ((lt_eq hu10).trans ((if_neg c16).trans ((if_neg c20).trans (sc_inl (hs73.symm.trans e))))))) (fun w74 H76 z29 hz29 z30 hz30 e79 p77 p78 hb75 => ?_)
        have hx80 : d_X7_walled_L38 t n 22 R_m 0 = .inr w74 := hs73.symm.trans e79
        refine r_bipush C dX7_walled_110 (-4 : Int32) (by decide) ?_
        refine r_iret C dX7_walled_112 ?_
        have er : res = ((-4 : Int32), w74) := by rw [hres, d_X7_walled]; try exact (lt_eq hu1).trans ((if_neg c7).trans ((lt_eq hu10).trans ((if_neg c16).trans ((if_neg c20).trans ((sc_inr hx80).trans (rfl))))))
        rw [er]
        exact ⟨rfl, hb75⟩
      · skip
        refine r_bipush C dX7_walled_33 (-2 : Int32) (by decide) ?_
        refine r_iret C dX7_walled_35 ?_
        have er : res = ((-2 : Int32), R_m) := by rw [hres, d_X7_walled]; try exact (lt_eq hu1).trans ((if_neg c7).trans ((lt_eq hu10).trans ((if_neg c16).trans ((if_pos c20).trans (rfl)))))
        rw [er]
        exact ⟨rfl, hb15⟩
    · skip
      refine r_iconst C dX7_walled_18 (-1 : Int32) (by decide) ?_
      refine r_iret C dX7_walled_19 ?_
      have er : res = ((-1 : Int32), R_m) := by rw [hres, d_X7_walled]; try exact (lt_eq hu1).trans ((if_neg c7).trans ((lt_eq hu10).trans ((if_pos c16).trans (rfl))))
      rw [er]
      exact ⟨rfl, hb15⟩
