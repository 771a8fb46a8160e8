def d_X7_in (v : Int32) (lo : Int32) (hi : Int32) : Int32 :=
  if v < lo then
    (0 : Int32)
  else
    if hi < v then
      (0 : Int32)
    else
      (1 : Int32)
set_option maxHeartbeats 4000000 in
set_option maxRecDepth 100000 in
theorem c_X7_in (l : Launch) (D : DD) (v : Int32) (lo : Int32) (hi : Int32)  (res : Int32) (hres : res = d_X7_in v lo hi) : Mt l D yX7_in cX7_in 3 (some .boolean) 0 0 0 0 [.int v, .int lo, .int hi] (fun H => True) (fun v H => v = some (.int res) ∧ bl res) fp0 := by
  refine mt_of (own := RX7) (ls := [.val (.int v), .val (.int lo), .val (.int hi)]) rfl (by decide +kernel) rfl ?_
  intro x H C hP
  refine r_iload_n C dX7_in_0 rfl ?_
  refine r_iload_n C dX7_in_1 rfl ?_
  refine r_ic_lt C dX7_in_2 (fun c1 => ?_) (fun c1 => ?_)
  · skip
    refine r_iconst C dX7_in_14 (0 : Int32) (by decide) ?_
    refine r_zret C dX7_in_15 (Or.inl rfl) ?_
    have er : res = (0 : Int32) := by rw [hres, d_X7_in]; try exact (if_pos c1).trans (rfl)
    rw [er]
    exact ⟨rfl, (Or.inl rfl)⟩
  · skip
    refine r_iload_n C dX7_in_5 rfl ?_
    refine r_iload_n C dX7_in_6 rfl ?_
    refine r_ic_gt C dX7_in_7 (fun c2 => ?_) (fun c2 => ?_)
    · skip
      refine r_iconst C dX7_in_14 (0 : Int32) (by decide) ?_
      refine r_zret C dX7_in_15 (Or.inl rfl) ?_
      have er : res = (0 : Int32) := by rw [hres, d_X7_in]; try exact (if_neg c1).trans ((if_pos c2).trans (rfl))
      rw [er]
      exact ⟨rfl, (Or.inl rfl)⟩
    · skip
      refine r_iconst C dX7_in_10 (1 : Int32) (by decide) ?_
      refine r_goto C dX7_in_11 ?_
      refine r_zret C dX7_in_15 (Or.inr rfl) ?_
      have er : res = (1 : Int32) := by rw [hres, d_X7_in]; try exact (if_neg c1).trans ((if_neg c2).trans (rfl))
      rw [er]
      exact ⟨rfl, (Or.inr rfl)⟩

def d_X7_copy_L3 (R_a : Nat → Nat → Int32) (p : Int32) (q : Int32) : Nat → (Nat → Nat → Int32) → Nat → (Nat → Nat → Int32)
  | 0, R, _ => R
  | n1 + 1, R, k =>
    if (64 : Int32) ≤ (nI k) then
      R
    else
      d_X7_copy_L3 R_a p q n1 (pt R 0 (q.toNatClampNeg + k) (R_a 0 (p.toNatClampNeg + k))) (k + 1)
def d_X7_copy (R_a : Nat → Nat → Int32) (R_b : Nat → Nat → Int32) (la : Nat) (lb : Nat) (p : Int32) (q : Int32) : (Nat → Nat → Int32) :=
  lt (d_X7_copy_L3 R_a p q 65 R_b 0) fun s19 =>
  s19
set_option maxHeartbeats 4000000 in
set_option maxRecDepth 100000 in
theorem c_X7_copy (l : Launch) (D : DD) (o_a o_b : Nat) (R_a : Nat → Nat → Int32) (R_b : Nat → Nat → Int32) (la : Nat) (lb : Nat) (p : Int32) (q : Int32) (hla : la ≤ 512) (hlb : lb ≤ 512) (hp : p = nI p.toNatClampNeg) (hlp : p.toNatClampNeg + 64 ≤ la) (hq : q = nI q.toNatClampNeg) (hlq : q.toNatClampNeg + 64 ≤ lb) (hd : o_a ≠ o_b) (res : (Nat → Nat → Int32)) (hres : res = d_X7_copy R_a R_b la lb p q) : Mt l D yX7_copy cX7_copy 5 none 0 0 0 0 [.ref o_a, .int p, .ref o_b, .int q] (fun H => blk D (ksI la) o_a R_a H ∧ blk D (ksI lb) o_b R_b H) (fun v H => v = none ∧ blk D (ksI lb) o_b res H) (fp1 o_b 1) := by
  refine mt_of (own := RX7) (ls := [.val (.ref o_a), .val (.int p), .val (.ref o_b), .val (.int q), .unset]) rfl (by decide +kernel) rfl ?_
  intro x H C hP
  obtain ⟨hb_a, hb_b⟩ := hP
  refine r_iconst C dX7_copy_0 (0 : Int32) (by decide) ?_
  refine r_istore C dX7_copy_1 (ls' := [.val (.ref o_a), .val (.int p), .val (.ref o_b), .val (.int q), .val (.int (0 : Int32))]) rfl trivial rfl ?_
  have d_X7_copy_L3_w : ∀ (n1 : Nat) (R : Nat → Nat → Int32) (k : Nat) (H7 : Heap), True → (k ≤ 64) → (64 - k < n1) → blk D (ksI la) o_a R_a H7 → blk D (ksI lb) o_b R H7 → ∀ s3 : (Nat → Nat → Int32), s3 = d_X7_copy_L3 R_a p q n1 R k → (∀ (H' : Heap) (z8 : Slot) (_ : slot1 z8), True → blk D (ksI la) o_a R_a H' → blk D (ksI lb) o_b s3 H' → WG x (fp1 o_b 1) (Fin x (fun v H => v = none ∧ blk D (ksI lb) o_b res H) (fp1 o_b 1) 0 0) H' 0 0 28 [.val (.ref o_a), .val (.int p), .val (.ref o_b), .val (.int q), z8] []) → WG x (fp1 o_b 1) (Fin x (fun v H => v = none ∧ blk D (ksI lb) o_b res H) (fp1 o_b 1) 0 0) H7 0 0 3 [.val (.ref o_a), .val (.int p), .val (.ref o_b), .val (.int q), .val (.int (nI k))] [] := by
    intro n1
    induction n1 with
    | zero => intro R k H7  _ hk hm9; exact absurd hm9 (Nat.not_lt_zero _)
    | succ n1 ih2 =>
      intro R k H7  _ hk hm9 hb5 hb6 s3 hs3  kx4
      refine r_iload C dX7_copy_3 rfl ?_
      refine r_bipush C dX7_copy_5 (64 : Int32) (by decide) ?_
      refine r_ic_ge C dX7_copy_7 (fun c10 => ?_) (fun c10 => ?_)
      · skip
        have f11 : (64 ≤ k) := nf_leI (by omega) (by omega) rfl rfl c10
        have e12 : s3 = R := by rw [hs3, d_X7_copy_L3]; try exact (if_pos c10).trans (rfl)
        rw [e12] at kx4
        exact kx4 _ (.val (.int (nI k))) rfl trivial  hb5 hb6
      · skip
        have f13 : ¬ (64 ≤ k) := nf_leIn (by omega) (by omega) rfl rfl c10
        refine r_aload_n C dX7_copy_10 rfl ?_
        refine r_iload_n C dX7_copy_11 rfl ?_
        refine r_iload C dX7_copy_12 rfl ?_
        refine r_iaddN C dX7_copy_14 (na := q.toNatClampNeg) (nb := k) hq rfl (nc := (q.toNatClampNeg + k)) rfl ?_
        refine r_aload_n C dX7_copy_15 rfl ?_
        refine r_iload_n C dX7_copy_16 rfl ?_
        refine r_iload C dX7_copy_17 rfl ?_
        refine r_iaddN C dX7_copy_19 (na := p.toNatClampNeg) (nb := k) hp rfl (nc := (p.toNatClampNeg + k)) rfl ?_
        refine r_iald C hb5 (k := 0) rfl rfl (vp_in_n rfl (by omega) (by omega)) (j := (p.toNatClampNeg + k)) (cl_n rfl (by omega)) dX7_copy_20 ?_
        refine r_iast C hb6 (k := 0) rfl rfl (by unfold fp1; omega) (vp_in_n rfl (by omega) (by omega)) (j := (q.toNatClampNeg + k)) (cl_n rfl (by omega)) dX7_copy_21 (fun H14 hb16 hq15 => ?_)
        have hb17 := blk_kept hb5 (n := 1) rfl (fun q h1 h2 => hq15 q (by omega))
        refine r_iinc C dX7_copy_22 (nI (k + 1)) rfl (nI_inc k rfl) (ls' := [.val (.ref o_a), .val (.int p), .val (.ref o_b), .val (.int q), .val (.int (nI (k + 1)))]) rfl ?_
        refine r_goto C dX7_copy_25 ?_
        have e18 : s3 = d_X7_copy_L3 R_a p q n1 (pt R 0 (q.toNatClampNeg + k) (R_a 0 (p.toNatClampNeg + k))) (k + 1) := by rw [hs3, d_X7_copy_L3]; try exact (if_neg c10).trans (rfl)
        exact ih2 (pt R 0 (q.toNatClampNeg + k) (R_a 0 (p.toNatClampNeg + k))) (k + 1) _  trivial (by omega) (by omega) hb17 hb16 s3 e18  kx4
  obtain ⟨s19, hs19⟩ : ∃ r, r = d_X7_copy_L3 R_a p q 65 R_b 0 := ⟨_, rfl⟩
  refine d_X7_copy_L3_w 65 R_b 0 _  trivial (by omega) (by omega) hb_a hb_b s19 hs19  (fun H22 z8 hz8 e23  hb20 hb21 => ?_)
  refine r_vret C dX7_copy_28 ?_
  have er : res = s19 := by rw [hres, d_X7_copy]; try exact (lt_eq hs19).trans (rfl)
  rw [er]
  exact ⟨rfl, hb21⟩

def d_X7_layTown (R_m : Nat → Nat → Int32) (R_kr : Nat → Nat → Int32) (R_rd : Nat → Nat → Int32) (t : Int32) (k : Int32) (s : Int32) (i : Int32) (w : Int32) (way : Int32) : (Nat → Nat → Int32) × (Nat → Nat → Int32) :=
  ((pt R_kr 0 t.toNatClampNeg k), (pt (pt (pt (pt R_rd 0 (1 + t.toNatClampNeg) s) 0 (7 + t.toNatClampNeg) i) 0 (13 + t.toNatClampNeg) w) 0 (19 + t.toNatClampNeg) way))
set_option maxHeartbeats 4000000 in
set_option maxRecDepth 100000 in
theorem c_X7_layTown (l : Launch) (D : DD) (o_m : Nat) (R_m : Nat → Nat → Int32) (R_kr : Nat → Nat → Int32) (R_rd : Nat → Nat → Int32) (t : Int32) (k : Int32) (s : Int32) (i : Int32) (w : Int32) (way : Int32) (ht : t = nI t.toNatClampNeg) (hlt : t.toNatClampNeg < 6) (res : (Nat → Nat → Int32) × (Nat → Nat → Int32)) (hres : res = d_X7_layTown R_m R_kr R_rd t k s i w way) : Mt l D yX7_layTown cX7_layTown 7 none 0 0 0 0 [.ref o_m, .int t, .int k, .int s, .int i, .int w, .int way] (fun H => blk D ksM0 o_m R_m H ∧ blk D (ksI 6) (o_m + 3) R_kr H ∧ blk D (ksI 64) (o_m + 4) R_rd H) (fun v H => v = none ∧ blk D (ksI 6) (o_m + 3) res.1 H ∧ blk D (ksI 64) (o_m + 4) res.2 H) (fp2 (o_m + 3) 1 (o_m + 4) 1) := by
  refine mt_of (own := RX7) (ls := [.val (.ref o_m), .val (.int t), .val (.int k), .val (.int s), .val (.int i), .val (.int w), .val (.int way)]) rfl (by decide +kernel) rfl ?_
  intro x H C hP
  obtain ⟨hb_m, hb_kr, hb_rd⟩ := hP
  refine r_aload_n C dX7_layTown_0 rfl ?_
  refine r_get C hb_m (k := 0) rfl rfl celO_7 fw_X7_16 rfl dX7_layTown_1 ?_
  refine r_iload_n C dX7_layTown_4 rfl ?_
  refine r_iload_n C dX7_layTown_5 rfl ?_
  refine r_iast C hb_kr (k := 0) rfl rfl (by unfold fp2; omega) (vp_in_n ht (by omega) (by omega)) (j := t.toNatClampNeg) (cl_n ht (by omega)) dX7_layTown_6 (fun H1 hb3 hq2 => ?_)
  have hb4 := blk_kept hb_m (n := 1) rfl (fun q h1 h2 => hq2 q (by omega))
  have hb5 := blk_kept hb_rd (n := 1) rfl (fun q h1 h2 => hq2 q (by omega))
  refine r_aload_n C dX7_layTown_7 rfl ?_
  refine r_get C hb4 (k := 0) rfl rfl celO_7 fw_X7_19 rfl dX7_layTown_8 ?_
  refine r_iconst C dX7_layTown_11 (1 : Int32) (by decide) ?_
  refine r_iload_n C dX7_layTown_12 rfl ?_
  refine r_iaddN C dX7_layTown_13 (na := 1) (nb := t.toNatClampNeg) rfl ht (nc := (1 + t.toNatClampNeg)) rfl ?_
  refine r_iload_n C dX7_layTown_14 rfl ?_
  refine r_iast C hb5 (k := 0) rfl rfl (by unfold fp2; omega) (vp_in_n rfl (by omega) (by omega)) (j := (1 + t.toNatClampNeg)) (cl_n rfl (by omega)) dX7_layTown_15 (fun H6 hb8 hq7 => ?_)
  have hb9 := blk_kept hb4 (n := 1) rfl (fun q h1 h2 => hq7 q (by omega))
  have hb10 := blk_kept hb3 (n := 1) rfl (fun q h1 h2 => hq7 q (by omega))
  refine r_aload_n C dX7_layTown_16 rfl ?_
  refine r_get C hb9 (k := 0) rfl rfl celO_7 fw_X7_19 rfl dX7_layTown_17 ?_
  refine r_bipush C dX7_layTown_20 (7 : Int32) (by decide) ?_
  refine r_iload_n C dX7_layTown_22 rfl ?_
  refine r_iaddN C dX7_layTown_23 (na := 7) (nb := t.toNatClampNeg) rfl ht (nc := (7 + t.toNatClampNeg)) rfl ?_
  refine r_iload C dX7_layTown_24 rfl ?_
  refine r_iast C hb8 (k := 0) rfl rfl (by unfold fp2; omega) (vp_in_n rfl (by omega) (by omega)) (j := (7 + t.toNatClampNeg)) (cl_n rfl (by omega)) dX7_layTown_26 (fun H11 hb13 hq12 => ?_)
  have hb14 := blk_kept hb9 (n := 1) rfl (fun q h1 h2 => hq12 q (by omega))
  have hb15 := blk_kept hb10 (n := 1) rfl (fun q h1 h2 => hq12 q (by omega))
  refine r_aload_n C dX7_layTown_27 rfl ?_
  refine r_get C hb14 (k := 0) rfl rfl celO_7 fw_X7_19 rfl dX7_layTown_28 ?_
  refine r_bipush C dX7_layTown_31 (13 : Int32) (by decide) ?_
  refine r_iload_n C dX7_layTown_33 rfl ?_
  refine r_iaddN C dX7_layTown_34 (na := 13) (nb := t.toNatClampNeg) rfl ht (nc := (13 + t.toNatClampNeg)) rfl ?_
  refine r_iload C dX7_layTown_35 rfl ?_
  refine r_iast C hb13 (k := 0) rfl rfl (by unfold fp2; omega) (vp_in_n rfl (by omega) (by omega)) (j := (13 + t.toNatClampNeg)) (cl_n rfl (by omega)) dX7_layTown_37 (fun H16 hb18 hq17 => ?_)
  have hb19 := blk_kept hb14 (n := 1) rfl (fun q h1 h2 => hq17 q (by omega))
  have hb20 := blk_kept hb15 (n := 1) rfl (fun q h1 h2 => hq17 q (by omega))
  refine r_aload_n C dX7_layTown_38 rfl ?_
  refine r_get C hb19 (k := 0) rfl rfl celO_7 fw_X7_19 rfl dX7_layTown_39 ?_
  refine r_bipush C dX7_layTown_42 (19 : Int32) (by decide) ?_
  refine r_iload_n C dX7_layTown_44 rfl ?_
  refine r_iaddN C dX7_layTown_45 (na := 19) (nb := t.toNatClampNeg) rfl ht (nc := (19 + t.toNatClampNeg)) rfl ?_
  refine r_iload C dX7_layTown_46 rfl ?_
  refine r_iast C hb18 (k := 0) rfl rfl (by unfold fp2; omega) (vp_in_n rfl (by omega) (by omega)) (j := (19 + t.toNatClampNeg)) (cl_n rfl (by omega)) dX7_layTown_48 (fun H21 hb23 hq22 => ?_)
  have hb24 := blk_kept hb19 (n := 1) rfl (fun q h1 h2 => hq22 q (by omega))
  have hb25 := blk_kept hb20 (n := 1) rfl (fun q h1 h2 => hq22 q (by omega))
  refine r_vret C dX7_layTown_49 ?_
  have er : res = ((pt R_kr 0 t.toNatClampNeg k), (pt (pt (pt (pt R_rd 0 (1 + t.toNatClampNeg) s) 0 (7 + t.toNatClampNeg) i) 0 (13 + t.toNatClampNeg) w) 0 (19 + t.toNatClampNeg) way)) := by rw [hres, d_X7_layTown]; try exact rfl
  rw [er]
  exact ⟨rfl, hb25, hb23⟩

def d_X7_isTown (R_m : Nat → Nat → Int32) (t : Int32) : Int32 :=
  lt (d_X7_in t (0 : Int32) ((R_m 0 10) - (1 : Int32))) fun u1 =>
  u1
set_option maxHeartbeats 4000000 in
set_option maxRecDepth 100000 in
theorem c_X7_isTown (l : Launch) (D : DD) (o_m : Nat) (R_m : Nat → Nat → Int32) (t : Int32)  (res : Int32) (hres : res = d_X7_isTown R_m t) : Mt l D yX7_isTown cX7_isTown 2 (some .boolean) 1 22 0 0 [.ref o_m, .int t] (fun H => blk D ksM0 o_m R_m H) (fun v H => v = some (.int res) ∧ bl res) fp0 := by
  refine mt_of (own := RX7) (ls := [.val (.ref o_m), .val (.int t)]) rfl (by decide +kernel) rfl ?_
  intro x H C hP
  have hb_m := hP
  refine r_iload_n C dX7_isTown_0 rfl ?_
  refine r_iconst C dX7_isTown_1 (0 : Int32) (by decide) ?_
  refine r_aload_n C dX7_isTown_2 rfl ?_
  refine r_get C hb_m (k := 0) rfl rfl celO_7 fw_X7_49 (z := .int (R_m 0 10)) rfl dX7_isTown_3 ?_
  refine r_iconst C dX7_isTown_6 (1 : Int32) (by decide) ?_
  refine r_isub C dX7_isTown_7 ?_
  obtain ⟨u1, hu1⟩ : ∃ r, r = d_X7_in t (0 : Int32) ((R_m 0 10) - (1 : Int32)) := ⟨_, rfl⟩
  refine r_callS0 C cw_X7_67 (fun l => c_X7_in l D t (0 : Int32) ((R_m 0 10) - (1 : Int32)) u1 hu1) (rest := []) trivial (fun q h => h.elim) rfl rfl rfl (Nat.le_of_ble_eq_true rfl) ⟨Nat.le_of_ble_eq_true rfl, Nat.le_of_ble_eq_true rfl, Nat.le_refl 0, Nat.le_refl 0⟩ dX7_isTown_8 (fun v H2 hp3 hq4 => ?_)
  obtain ⟨rfl, hl5⟩ := hp3
  have hb6 := blk_kept hb_m (n := 1) rfl (fun q h1 h2 => hq4 q (fun h => h))
  dsimp only [psh]
  refine r_zret C dX7_isTown_11 hl5 ?_
  have er : res = u1 := by rw [hres, d_X7_isTown]; try exact (lt_eq hu1).trans (rfl)
  rw [er]
  exact ⟨rfl, hl5⟩

def d_X7_isCrew (R_m : Nat → Nat → Int32) (c : Int32) : Int32 :=
  lt (d_X7_in c (0 : Int32) ((R_m 0 11) - (1 : Int32))) fun u1 =>
  u1
set_option maxHeartbeats 4000000 in
set_option maxRecDepth 100000 in
theorem c_X7_isCrew (l : Launch) (D : DD) (o_m : Nat) (R_m : Nat → Nat → Int32) (c : Int32)  (res : Int32) (hres : res = d_X7_isCrew R_m c) : Mt l D yX7_isCrew cX7_isCrew 2 (some .boolean) 1 22 0 0 [.ref o_m, .int c] (fun H => blk D ksM0 o_m R_m H) (fun v H => v = some (.int res) ∧ bl res) fp0 := by
  refine mt_of (own := RX7) (ls := [.val (.ref o_m), .val (.int c)]) rfl (by decide +kernel) rfl ?_
  intro x H C hP
  have hb_m := hP
  refine r_iload_n C dX7_isCrew_0 rfl ?_
  refine r_iconst C dX7_isCrew_1 (0 : Int32) (by decide) ?_
  refine r_aload_n C dX7_isCrew_2 rfl ?_
  refine r_get C hb_m (k := 0) rfl rfl celO_7 fw_X7_53 (z := .int (R_m 0 11)) rfl dX7_isCrew_3 ?_
  refine r_iconst C dX7_isCrew_6 (1 : Int32) (by decide) ?_
  refine r_isub C dX7_isCrew_7 ?_
  obtain ⟨u1, hu1⟩ : ∃ r, r = d_X7_in c (0 : Int32) ((R_m 0 11) - (1 : Int32)) := ⟨_, rfl⟩
  refine r_callS0 C cw_X7_67 (fun l => c_X7_in l D c (0 : Int32) ((R_m 0 11) - (1 : Int32)) u1 hu1) (rest := []) trivial (fun q h => h.elim) rfl rfl rfl (Nat.le_of_ble_eq_true rfl) ⟨Nat.le_of_ble_eq_true rfl, Nat.le_of_ble_eq_true rfl, Nat.le_refl 0, Nat.le_refl 0⟩ dX7_isCrew_8 (fun v H2 hp3 hq4 => ?_)
  obtain ⟨rfl, hl5⟩ := hp3
  have hb6 := blk_kept hb_m (n := 1) rfl (fun q h1 h2 => hq4 q (fun h => h))
  dsimp only [psh]
  refine r_zret C dX7_isCrew_11 hl5 ?_
  have er : res = u1 := by rw [hres, d_X7_isCrew]; try exact (lt_eq hu1).trans (rfl)
  rw [er]
  exact ⟨rfl, hl5⟩

def d_X7_letterAt (R_m : Nat → Nat → Int32) (R_tx : Nat → Nat → Int32) (k : Int32) : Int32 :=
  if (R_m 0 0) ≤ k then
    (-1 : Int32)
  else
    (R_tx 0 k.toNatClampNeg)
set_option maxHeartbeats 4000000 in
set_option maxRecDepth 100000 in
theorem c_X7_letterAt (l : Launch) (D : DD) (o_m : Nat) (R_m : Nat → Nat → Int32) (R_tx : Nat → Nat → Int32) (k : Int32) (h0 : R_m 0 0 = nI (R_m 0 0).toNatClampNeg) (b0 : (R_m 0 0).toNatClampNeg ≤ 200) (hk : k = nI k.toNatClampNeg) (hlk : k.toNatClampNeg ≤ 1000) (res : Int32) (hres : res = d_X7_letterAt R_m R_tx k) : Mt l D yX7_letterAt cX7_letterAt 2 (some .int) 0 0 0 0 [.ref o_m, .int k] (fun H => blk D ksM0 o_m R_m H ∧ blk D (ksI 200) (o_m + 1) R_tx H) (fun v H => v = some (.int res)) fp0 := by
  refine mt_of (own := RX7) (ls := [.val (.ref o_m), .val (.int k)]) rfl (by decide +kernel) rfl ?_
  intro x H C hP
  obtain ⟨hb_m, hb_tx⟩ := hP
  refine r_iload_n C dX7_letterAt_0 rfl ?_
  refine r_aload_n C dX7_letterAt_1 rfl ?_
  refine r_get C hb_m (k := 0) rfl rfl celO_7 fw_X7_71 (z := .int (R_m 0 0)) rfl dX7_letterAt_2 ?_
  refine r_ic_ge C dX7_letterAt_5 (fun c1 => ?_) (fun c1 => ?_)
  · skip
    have f2 : ((R_m 0 0).toNatClampNeg ≤ k.toNatClampNeg) := nf_leI (by omega) (by omega) h0 hk c1
    refine r_iconst C dX7_letterAt_17 (-1 : Int32) (by decide) ?_
    refine r_iret C dX7_letterAt_18 ?_
    have er : res = (-1 : Int32) := by rw [hres, d_X7_letterAt]; try exact (if_pos c1).trans (rfl)
    rw [er]
  · skip
    have f3 : ¬ ((R_m 0 0).toNatClampNeg ≤ k.toNatClampNeg) := nf_leIn (by omega) (by omega) h0 hk c1
    refine r_aload_n C dX7_letterAt_8 rfl ?_
    refine r_get C hb_m (k := 0) rfl rfl celO_7 fw_X7_7 rfl dX7_letterAt_9 ?_
    refine r_iload_n C dX7_letterAt_12 rfl ?_
    refine r_iald C hb_tx (k := 0) rfl rfl (vp_in_n hk (by omega) (by omega)) (j := k.toNatClampNeg) (cl_n hk (by omega)) dX7_letterAt_13 ?_
    refine r_goto C dX7_letterAt_14 ?_
    refine r_iret C dX7_letterAt_18 ?_
    have er : res = (R_tx 0 k.toNatClampNeg) := by rw [hres, d_X7_letterAt]; try exact (if_neg c1).trans (rfl)
    rw [er]

def d_X7_askOf (R_m : Nat → Nat → Int32) (R_q : Nat → Nat → Int32) (R_s : Nat → Nat → Int32) (c : Int32) (t : Int32) : Int32 :=
  lt (((R_s 0 ((46 + (6 * c.toNatClampNeg)) + t.toNatClampNeg)) / (2 : Int32))) fun y1 =>
  if y1 ≤ (R_s 0 (40 + c.toNatClampNeg)) then
    if (R_q 0 t.toNatClampNeg) = (3 : Int32) then
      ((R_s 0 (40 + c.toNatClampNeg)) / (2 : Int32))
    else
      (R_s 0 (40 + c.toNatClampNeg))
  else
    if (R_q 0 t.toNatClampNeg) = (3 : Int32) then
      (y1 / (2 : Int32))
    else
      y1
set_option maxHeartbeats 4000000 in
set_option maxRecDepth 100000 in
theorem c_X7_askOf (l : Launch) (D : DD) (o_m o_s : Nat) (R_m : Nat → Nat → Int32) (R_q : Nat → Nat → Int32) (R_s : Nat → Nat → Int32) (c : Int32) (t : Int32) (hc : c = nI c.toNatClampNeg) (hlc : c.toNatClampNeg < 3) (ht : t = nI t.toNatClampNeg) (hlt : t.toNatClampNeg < 6) (res : Int32) (hres : res = d_X7_askOf R_m R_q R_s c t) : Mt l D yX7_askOf cX7_askOf 6 (some .int) 0 0 0 0 [.ref o_m, .ref o_s, .int c, .int t] (fun H => blk D ksM0 o_m R_m H ∧ blk D (ksI 6) (o_m + 5) R_q H ∧ blk D (ksI 64) o_s R_s H) (fun v H => v = some (.int res)) fp0 := by
  refine mt_of (own := RX7) (ls := [.val (.ref o_m), .val (.ref o_s), .val (.int c), .val (.int t), .unset, .unset]) rfl (by decide +kernel) rfl ?_
  intro x H C hP
  obtain ⟨hb_m, hb_q, hb_s⟩ := hP
  refine r_aload_n C dX7_askOf_0 rfl ?_
  refine r_bipush C dX7_askOf_1 (46 : Int32) (by decide) ?_
  refine r_bipush C dX7_askOf_3 (6 : Int32) (by decide) ?_
  refine r_iload_n C dX7_askOf_5 rfl ?_
  refine r_imulN C dX7_askOf_6 (na := 6) (nb := c.toNatClampNeg) rfl hc (nc := (6 * c.toNatClampNeg)) rfl ?_
  refine r_iaddN C dX7_askOf_7 (na := 46) (nb := (6 * c.toNatClampNeg)) rfl rfl (nc := (46 + (6 * c.toNatClampNeg))) rfl ?_
  refine r_iload_n C dX7_askOf_8 rfl ?_
  refine r_iaddN C dX7_askOf_9 (na := (46 + (6 * c.toNatClampNeg))) (nb := t.toNatClampNeg) rfl ht (nc := ((46 + (6 * c.toNatClampNeg)) + t.toNatClampNeg)) rfl ?_
  refine r_iald C hb_s (k := 0) rfl rfl (vp_in_n rfl (by omega) (by omega)) (j := ((46 + (6 * c.toNatClampNeg)) + t.toNatClampNeg)) (cl_n rfl (by omega)) dX7_askOf_10 ?_
  refine r_iconst C dX7_askOf_11 (2 : Int32) (by decide) ?_
  refine r_idiv C dX7_askOf_12 (by decide) ?_
  refine r_topi (fun y1 hy1 => ?_)
  refine r_istore C dX7_askOf_13 (ls' := [.val (.ref o_m), .val (.ref o_s), .val (.int c), .val (.int t), .val (.int y1), .unset]) rfl trivial rfl ?_
  refine r_iload C dX7_askOf_15 rfl ?_
  refine r_aload_n C dX7_askOf_17 rfl ?_
  refine r_bipush C dX7_askOf_18 (40 : Int32) (by decide) ?_
  refine r_iload_n C dX7_askOf_20 rfl ?_
  refine r_iaddN C dX7_askOf_21 (na := 40) (nb := c.toNatClampNeg) rfl hc (nc := (40 + c.toNatClampNeg)) rfl ?_
  refine r_iald C hb_s (k := 0) rfl rfl (vp_in_n rfl (by omega) (by omega)) (j := (40 + c.toNatClampNeg)) (cl_n rfl (by omega)) dX7_askOf_22 ?_
  refine r_ic_le C dX7_askOf_23 (fun c2 => ?_) (fun c2 => ?_)
  · skip
    refine r_aload_n C dX7_askOf_31 rfl ?_
    refine r_bipush C dX7_askOf_32 (40 : Int32) (by decide) ?_
    refine r_iload_n C dX7_askOf_34 rfl ?_
    refine r_iaddN C dX7_askOf_35 (na := 40) (nb := c.toNatClampNeg) rfl hc (nc := (40 + c.toNatClampNeg)) rfl ?_
    refine r_iald C hb_s (k := 0) rfl rfl (vp_in_n rfl (by omega) (by omega)) (j := (40 + c.toNatClampNeg)) (cl_n rfl (by omega)) dX7_askOf_36 ?_
    refine r_istore C dX7_askOf_37 (ls' := [.val (.ref o_m), .val (.ref o_s), .val (.int c), .val (.int t), .val (.int y1), .val (.int (R_s 0 (40 + c.toNatClampNeg)))]) rfl trivial rfl ?_
    refine r_aload_n C dX7_askOf_39 rfl ?_
    refine r_get C hb_m (k := 0) rfl rfl celO_7 fw_X7_22 rfl dX7_askOf_40 ?_
    refine r_iload_n C dX7_askOf_43 rfl ?_
    refine r_iald C hb_q (k := 0) rfl rfl (vp_in_n ht (by omega) (by omega)) (j := t.toNatClampNeg) (cl_n ht (by omega)) dX7_askOf_44 ?_
    refine r_iconst C dX7_askOf_45 (3 : Int32) (by decide) ?_
    refine r_ic_ne C dX7_askOf_46 (fun c3 => ?_) (fun c3 => ?_)
    · skip
      refine r_iload C dX7_askOf_56 rfl ?_
      refine r_iret C dX7_askOf_58 ?_
      have er : res = (R_s 0 (40 + c.toNatClampNeg)) := by rw [hres, d_X7_askOf]; try exact (lt_eq hy1).trans ((if_pos c2).trans ((if_neg c3).trans (rfl)))
      rw [er]
    · skip
      refine r_iload C dX7_askOf_49 rfl ?_
      refine r_iconst C dX7_askOf_51 (2 : Int32) (by decide) ?_
      refine r_idiv C dX7_askOf_52 (by decide) ?_
      refine r_goto C dX7_askOf_53 ?_
      refine r_iret C dX7_askOf_58 ?_
      have er : res = ((R_s 0 (40 + c.toNatClampNeg)) / (2 : Int32)) := by rw [hres, d_X7_askOf]; try exact (lt_eq hy1).trans ((if_pos c2).trans ((if_pos c3).trans (rfl)))
      rw [er]
  · skip
    refine r_iload C dX7_askOf_26 rfl ?_
    refine r_goto C dX7_askOf_28 ?_
    refine r_istore C dX7_askOf_37 (ls' := [.val (.ref o_m), .val (.ref o_s), .val (.int c), .val (.int t), .val (.int y1), .val (.int y1)]) rfl trivial rfl ?_
    refine r_aload_n C dX7_askOf_39 rfl ?_
    refine r_get C hb_m (k := 0) rfl rfl celO_7 fw_X7_22 rfl dX7_askOf_40 ?_
    refine r_iload_n C dX7_askOf_43 rfl ?_
    refine r_iald C hb_q (k := 0) rfl rfl (vp_in_n ht (by omega) (by omega)) (j := t.toNatClampNeg) (cl_n ht (by omega)) dX7_askOf_44 ?_
    refine r_iconst C dX7_askOf_45 (3 : Int32) (by decide) ?_
    refine r_ic_ne C dX7_askOf_46 (fun c4 => ?_) (fun c4 => ?_)
    · skip
      refine r_iload C dX7_askOf_56 rfl ?_
      refine r_iret C dX7_askOf_58 ?_
      have er : res = y1 := by rw [hres, d_X7_askOf]; try exact (lt_eq hy1).trans ((if_neg c2).trans ((if_neg c4).trans (rfl)))
      rw [er]
    · skip
      refine r_iload C dX7_askOf_49 rfl ?_
      refine r_iconst C dX7_askOf_51 (2 : Int32) (by decide) ?_
      refine r_idiv C dX7_askOf_52 (by decide) ?_
      refine r_goto C dX7_askOf_53 ?_
      refine r_iret C dX7_askOf_58 ?_
      have er : res = (y1 / (2 : Int32)) := by rw [hres, d_X7_askOf]; try exact (lt_eq hy1).trans ((if_neg c2).trans ((if_pos c4).trans (rfl)))
      rw [er]

def d_X7_pays (R_m : Nat → Nat → Int32) (R_q : Nat → Nat → Int32) (R_s : Nat → Nat → Int32) (c : Int32) (t : Int32) (n : Int32) : Int32 × (Nat → Nat → Int32) :=
  if (R_q 0 t.toNatClampNeg) = (2 : Int32) then
    lt ((((pt R_s 0 (1 + t.toNatClampNeg) ((R_s 0 (1 + t.toNatClampNeg)) - (n - (n / (2 : Int32))))) 0 (31 + t.toNatClampNeg)) + n)) fun y23 =>
    (n, (pt (pt (pt R_s 0 (1 + t.toNatClampNeg) ((R_s 0 (1 + t.toNatClampNeg)) - (n - (n / (2 : Int32))))) 0 (31 + t.toNatClampNeg) y23) 0 ((46 + (6 * c.toNatClampNeg)) + t.toNatClampNeg) ((2 : Int32) * n)))
  else
    lt ((((pt R_s 0 (1 + t.toNatClampNeg) ((R_s 0 (1 + t.toNatClampNeg)) - n)) 0 (31 + t.toNatClampNeg)) + n)) fun y7 =>
    (n, (pt (pt (pt R_s 0 (1 + t.toNatClampNeg) ((R_s 0 (1 + t.toNatClampNeg)) - n)) 0 (31 + t.toNatClampNeg) y7) 0 ((46 + (6 * c.toNatClampNeg)) + t.toNatClampNeg) ((2 : Int32) * n)))
set_option maxHeartbeats 4000000 in
set_option maxRecDepth 100000 in
theorem c_X7_pays (l : Launch) (D : DD) (o_m o_s : Nat) (R_m : Nat → Nat → Int32) (R_q : Nat → Nat → Int32) (R_s : Nat → Nat → Int32) (c : Int32) (t : Int32) (n : Int32) (hc : c = nI c.toNatClampNeg) (hlc : c.toNatClampNeg < 3) (ht : t = nI t.toNatClampNeg) (hlt : t.toNatClampNeg < 6) (hd1 : o_s ≠ o_m) (hd2 : o_s ≠ o_m + 5) (res : Int32 × (Nat → Nat → Int32)) (hres : res = d_X7_pays R_m R_q R_s c t n) : Mt l D yX7_pays cX7_pays 5 (some .int) 0 0 0 0 [.ref o_m, .ref o_s, .int c, .int t, .int n] (fun H => blk D ksM0 o_m R_m H ∧ blk D (ksI 6) (o_m + 5) R_q H ∧ blk D (ksI 64) o_s R_s H) (fun v H => v = some (.int res.1) ∧ blk D (ksI 64) o_s res.2 H) (fp1 o_s 1) := by
  refine mt_of (own := RX7) (ls := [.val (.ref o_m), .val (.ref o_s), .val (.int c), .val (.int t), .val (.int n)]) rfl (by decide +kernel) rfl ?_
  intro x H C hP
  obtain ⟨hb_m, hb_q, hb_s⟩ := hP
  refine r_aload_n C dX7_pays_0 rfl ?_
  refine r_iconst C dX7_pays_1 (1 : Int32) (by decide) ?_
  refine r_iload_n C dX7_pays_2 rfl ?_
  refine r_iaddN C dX7_pays_3 (na := 1) (nb := t.toNatClampNeg) rfl ht (nc := (1 + t.toNatClampNeg)) rfl ?_
  refine r_dup2 C dX7_pays_4 rfl rfl ?_
  refine r_iald C hb_s (k := 0) rfl rfl (vp_in_n rfl (by omega) (by omega)) (j := (1 + t.toNatClampNeg)) (cl_n rfl (by omega)) dX7_pays_5 ?_
  refine r_aload_n C dX7_pays_6 rfl ?_
  refine r_get C hb_m (k := 0) rfl rfl celO_7 fw_X7_22 rfl dX7_pays_7 ?_
  refine r_iload_n C dX7_pays_10 rfl ?_
  refine r_iald C hb_q (k := 0) rfl rfl (vp_in_n ht (by omega) (by omega)) (j := t.toNatClampNeg) (cl_n ht (by omega)) dX7_pays_11 ?_
  refine r_iconst C dX7_pays_12 (2 : Int32) (by decide) ?_
  refine r_ic_ne C dX7_pays_13 (fun c1 => ?_) (fun c1 => ?_)
  · skip
    refine r_iload C dX7_pays_26 rfl ?_
    refine r_isub C dX7_pays_28 ?_
    refine r_iast C hb_s (k := 0) rfl rfl (by unfold fp1; omega) (vp_in_n rfl (by omega) (by omega)) (j := (1 + t.toNatClampNeg)) (cl_n rfl (by omega)) dX7_pays_29 (fun H2 hb4 hq3 => ?_)
    have hb5 := blk_kept hb_m (n := 1) rfl (fun q h1 h2 => hq3 q (by omega))
    have hb6 := blk_kept hb_q (n := 1) rfl (fun q h1 h2 => hq3 q (by omega))
    refine r_aload_n C dX7_pays_30 rfl ?_
    refine r_bipush C dX7_pays_31 (31 : Int32) (by decide) ?_
    refine r_iload_n C dX7_pays_33 rfl ?_
    refine r_iaddN C dX7_pays_34 (na := 31) (nb := t.toNatClampNeg) rfl ht (nc := (31 + t.toNatClampNeg)) rfl ?_
    refine r_dup2 C dX7_pays_35 rfl rfl ?_
    refine r_iald C hb4 (k := 0) rfl rfl (vp_in_n rfl (by omega) (by omega)) (j := (31 + t.toNatClampNeg)) (cl_n rfl (by omega)) dX7_pays_36 ?_
    refine r_iload C dX7_pays_37 rfl ?_
    refine r_iadd C dX7_pays_39 ?_
    refine r_topi (fun y7 hy7 => ?_)
    refine r_iast C hb4 (k := 0) rfl rfl (by unfold fp1; omega) (vp_in_n rfl (by omega) (by omega)) (j := (31 + t.toNatClampNeg)) (cl_n rfl (by omega)) dX7_pays_40 (fun H8 hb10 hq9 => ?_)
    have hb11 := blk_kept hb5 (n := 1) rfl (fun q h1 h2 => hq9 q (by omega))
    have hb12 := blk_kept hb6 (n := 1) rfl (fun q h1 h2 => hq9 q (by omega))
    refine r_aload_n C dX7_pays_41 rfl ?_
    refine r_bipush C dX7_pays_42 (46 : Int32) (by decide) ?_
    refine r_bipush C dX7_pays_44 (6 : Int32) (by decide) ?_
    refine r_iload_n C dX7_pays_46 rfl ?_
    refine r_imulN C dX7_pays_47 (na := 6) (nb := c.toNatClampNeg) rfl hc (nc := (6 * c.toNatClampNeg)) rfl ?_
    refine r_iaddN C dX7_pays_48 (na := 46) (nb := (6 * c.toNatClampNeg)) rfl rfl (nc := (46 + (6 * c.toNatClampNeg))) rfl ?_
    refine r_iload_n C dX7_pays_49 rfl ?_
    refine r_iaddN C dX7_pays_50 (na := (46 + (6 * c.toNatClampNeg))) (nb := t.toNatClampNeg) rfl ht (nc := ((46 + (6 * c.toNatClampNeg)) + t.toNatClampNeg)) rfl ?_
    refine r_iconst C dX7_pays_51 (2 : Int32) (by decide) ?_
    refine r_iload C dX7_pays_52 rfl ?_
    refine r_imul C dX7_pays_54 ?_
    refine r_iast C hb10 (k := 0) rfl rfl (by unfold fp1; omega) (vp_in_n rfl (by omega) (by omega)) (j := ((46 + (6 * c.toNatClampNeg)) + t.toNatClampNeg)) (cl_n rfl (by omega)) dX7_pays_55 (fun H13 hb15 hq14 => ?_)
    have hb16 := blk_kept hb11 (n := 1) rfl (fun q h1 h2 => hq14 q (by omega))
    have hb17 := blk_kept hb12 (n := 1) rfl (fun q h1 h2 => hq14 q (by omega))
    refine r_iload C dX7_pays_56 rfl ?_
    refine r_iret C dX7_pays_58 ?_
    have er : res = (n, (pt (pt (pt R_s 0 (1 + t.toNatClampNeg) ((R_s 0 (1 + t.toNatClampNeg)) - n)) 0 (31 + t.toNatClampNeg) y7) 0 ((46 + (6 * c.toNatClampNeg)) + t.toNatClampNeg) ((2 : Int32) * n))) := by rw [hres, d_X7_pays]; try exact (if_neg c1).trans ((lt_eq hy7).trans (rfl))
    rw [er]
    exact ⟨rfl, hb15⟩
  · skip
    refine r_iload C dX7_pays_16 rfl ?_
    refine r_iload C dX7_pays_18 rfl ?_
    refine r_iconst C dX7_pays_20 (2 : Int32) (by decide) ?_
    refine r_idiv C dX7_pays_21 (by decide) ?_
    refine r_isub C dX7_pays_22 ?_
    refine r_goto C dX7_pays_23 ?_
    refine r_isub C dX7_pays_28 ?_
    refine r_iast C hb_s (k := 0) rfl rfl (by unfold fp1; omega) (vp_in_n rfl (by omega) (by omega)) (j := (1 + t.toNatClampNeg)) (cl_n rfl (by omega)) dX7_pays_29 (fun H18 hb20 hq19 => ?_)
    have hb21 := blk_kept hb_m (n := 1) rfl (fun q h1 h2 => hq19 q (by omega))
    have hb22 := blk_kept hb_q (n := 1) rfl (fun q h1 h2 => hq19 q (by omega))
    refine r_aload_n C dX7_pays_30 rfl ?_
    refine r_bipush C dX7_pays_31 (31 : Int32) (by decide) ?_
    refine r_iload_n C dX7_pays_33 rfl ?_
    refine r_iaddN C dX7_pays_34 (na := 31) (nb := t.toNatClampNeg) rfl ht (nc := (31 + t.toNatClampNeg)) rfl ?_
    refine r_dup2 C dX7_pays_35 rfl rfl ?_
    refine r_iald C hb20 (k := 0) rfl rfl (vp_in_n rfl (by omega) (by omega)) (j := (31 + t.toNatClampNeg)) (cl_n rfl (by omega)) dX7_pays_36 ?_
    refine r_iload C dX7_pays_37 rfl ?_
    refine r_iadd C dX7_pays_39 ?_
    refine r_topi (fun y23 hy23 => ?_)
    refine r_iast C hb20 (k := 0) rfl rfl (by unfold fp1; omega) (vp_in_n rfl (by omega) (by omega)) (j := (31 + t.toNatClampNeg)) (cl_n rfl (by omega)) dX7_pays_40 (fun H24 hb26 hq25 => ?_)
    have hb27 := blk_kept hb21 (n := 1) rfl (fun q h1 h2 => hq25 q (by omega))
    have hb28 := blk_kept hb22 (n := 1) rfl (fun q h1 h2 => hq25 q (by omega))
    refine r_aload_n C dX7_pays_41 rfl ?_
    refine r_bipush C dX7_pays_42 (46 : Int32) (by decide) ?_
    refine r_bipush C dX7_pays_44 (6 : Int32) (by decide) ?_
    refine r_iload_n C dX7_pays_46 rfl ?_
    refine r_imulN C dX7_pays_47 (na := 6) (nb := c.toNatClampNeg) rfl hc (nc := (6 * c.toNatClampNeg)) rfl ?_
    refine r_iaddN C dX7_pays_48 (na := 46) (nb := (6 * c.toNatClampNeg)) rfl rfl (nc := (46 + (6 * c.toNatClampNeg))) rfl ?_
    refine r_iload_n C dX7_pays_49 rfl ?_
    refine r_iaddN C dX7_pays_50 (na := (46 + (6 * c.toNatClampNeg))) (nb := t.toNatClampNeg) rfl ht (nc := ((46 + (6 * c.toNatClampNeg)) + t.toNatClampNeg)) rfl ?_
    refine r_iconst C dX7_pays_51 (2 : Int32) (by decide) ?_
    refine r_iload C dX7_pays_52 rfl ?_
    refine r_imul C dX7_pays_54 ?_
    refine r_iast C hb26 (k := 0) rfl rfl (by unfold fp1; omega) (vp_in_n rfl (by omega) (by omega)) (j := ((46 + (6 * c.toNatClampNeg)) + t.toNatClampNeg)) (cl_n rfl (by omega)) dX7_pays_55 (fun H29 hb31 hq30 => ?_)
    have hb32 := blk_kept hb27 (n := 1) rfl (fun q h1 h2 => hq30 q (by omega))
    have hb33 := blk_kept hb28 (n := 1) rfl (fun q h1 h2 => hq30 q (by omega))
    refine r_iload C dX7_pays_56 rfl ?_
    refine r_iret C dX7_pays_58 ?_
    have er : res = (n, (pt (pt (pt R_s 0 (1 + t.toNatClampNeg) ((R_s 0 (1 + t.toNatClampNeg)) - (n - (n / (2 : Int32))))) 0 (31 + t.toNatClampNeg) y23) 0 ((46 + (6 * c.toNatClampNeg)) + t.toNatClampNeg) ((2 : Int32) * n))) := by rw [hres, d_X7_pays]; try exact (if_pos c1).trans ((lt_eq hy23).trans (rfl))
    rw [er]
    exact ⟨rfl, hb31⟩

def d_X7_comeUp_L8 (R_m : Nat → Nat → Int32) (R_q : Nat → Nat → Int32) (c : Int32) : Nat → (Nat → Nat → Int32) → Int32 → Int32 → Nat → (Nat → Nat → Int32) × Int32
  | 0, R, has, _, _ => (R, has)
  | n1 + 1, R, has, goes, t =>
    if (R_m 0 10) ≤ (nI t) then
      (R, has)
    else
      if goes = 0 then
        (R, has)
      else
        if (R 0 (25 + t)) = (1 : Int32) then
          d_X7_comeUp_L8 R_m R_q c n1 R has goes (t + 1)
        else
          lt (d_X7_askOf R_m R_q R c (nI t)) fun u23 =>
          if (R 0 (19 + t)) = 0 then
            if (R 0 (1 + t)) < u23 then
              if (R 0 (19 + t)) = (2 : Int32) then
                if (R 0 (1 + t)) < (u23 / (3 : Int32)) then
                  if (R_q 0 t) = (1 : Int32) then
                    if (R 0 (37 + c.toNatClampNeg)) ≤ ((6 : Int32) * (R 0 (13 + t))) then
                      if (R 0 (37 + c.toNatClampNeg)) ≤ (3 : Int32) then
                        d_X7_comeUp_L8 R_m R_q c n1 (pt R 0 (37 + c.toNatClampNeg) (1 : Int32)) has goes (t + 1)
                      else
                        d_X7_comeUp_L8 R_m R_q c n1 (pt R 0 (37 + c.toNatClampNeg) ((R 0 (37 + c.toNatClampNeg)) - (2 : Int32))) has goes (t + 1)
                    else
                      d_X7_comeUp_L8 R_m R_q c n1 (pt (pt (pt R 0 (1 + t) (0 : Int32)) 0 (25 + t) (1 : Int32)) 0 ((46 + (6 * c.toNatClampNeg)) + t) (0 : Int32)) (has + (R 0 (1 + t))) (0 : Int32) (t + 1)
                  else
                    if (R 0 (37 + c.toNatClampNeg)) ≤ ((5 : Int32) * (R 0 (13 + t))) then
                      if (R 0 (37 + c.toNatClampNeg)) ≤ (3 : Int32) then
                        d_X7_comeUp_L8 R_m R_q c n1 (pt R 0 (37 + c.toNatClampNeg) (1 : Int32)) has goes (t + 1)
                      else
                        d_X7_comeUp_L8 R_m R_q c n1 (pt R 0 (37 + c.toNatClampNeg) ((R 0 (37 + c.toNatClampNeg)) - (2 : Int32))) has goes (t + 1)
                    else
                      d_X7_comeUp_L8 R_m R_q c n1 (pt (pt (pt R 0 (1 + t) (0 : Int32)) 0 (25 + t) (1 : Int32)) 0 ((46 + (6 * c.toNatClampNeg)) + t) (0 : Int32)) (has + (R 0 (1 + t))) (0 : Int32) (t + 1)
                else
                  lt (d_X7_pays R_m R_q R c (nI t) (u23 / (3 : Int32))) fun u288 =>
                  d_X7_comeUp_L8 R_m R_q c n1 u288.2 (has + u288.1) goes (t + 1)
              else
                if (R_q 0 t) = (1 : Int32) then
                  if (R 0 (37 + c.toNatClampNeg)) ≤ ((6 : Int32) * (R 0 (13 + t))) then
                    if (R 0 (37 + c.toNatClampNeg)) ≤ (3 : Int32) then
                      d_X7_comeUp_L8 R_m R_q c n1 (pt R 0 (37 + c.toNatClampNeg) (1 : Int32)) has goes (t + 1)
                    else
                      d_X7_comeUp_L8 R_m R_q c n1 (pt R 0 (37 + c.toNatClampNeg) ((R 0 (37 + c.toNatClampNeg)) - (2 : Int32))) has goes (t + 1)
                  else
                    d_X7_comeUp_L8 R_m R_q c n1 (pt (pt (pt R 0 (1 + t) (0 : Int32)) 0 (25 + t) (1 : Int32)) 0 ((46 + (6 * c.toNatClampNeg)) + t) (0 : Int32)) (has + (R 0 (1 + t))) (0 : Int32) (t + 1)
                else
                  if (R 0 (37 + c.toNatClampNeg)) ≤ ((5 : Int32) * (R 0 (13 + t))) then
                    if (R 0 (37 + c.toNatClampNeg)) ≤ (3 : Int32) then
                      d_X7_comeUp_L8 R_m R_q c n1 (pt R 0 (37 + c.toNatClampNeg) (1 : Int32)) has goes (t + 1)
                    else
                      d_X7_comeUp_L8 R_m R_q c n1 (pt R 0 (37 + c.toNatClampNeg) ((R 0 (37 + c.toNatClampNeg)) - (2 : Int32))) has goes (t + 1)
                  else
                    d_X7_comeUp_L8 R_m R_q c n1 (pt (pt (pt R 0 (1 + t) (0 : Int32)) 0 (25 + t) (1 : Int32)) 0 ((46 + (6 * c.toNatClampNeg)) + t) (0 : Int32)) (has + (R 0 (1 + t))) (0 : Int32) (t + 1)
            else
              lt (d_X7_pays R_m R_q R c (nI t) u23) fun u296 =>
              d_X7_comeUp_L8 R_m R_q c n1 u296.2 (has + u296.1) (0 : Int32) (t + 1)
          else
            if (R 0 (19 + t)) = (2 : Int32) then
              if (R 0 (1 + t)) < (u23 / (3 : Int32)) then
                if (R_q 0 t) = (1 : Int32) then
                  if (R 0 (37 + c.toNatClampNeg)) ≤ ((6 : Int32) * (R 0 (13 + t))) then
                    if (R 0 (37 + c.toNatClampNeg)) ≤ (3 : Int32) then
                      d_X7_comeUp_L8 R_m R_q c n1 (pt R 0 (37 + c.toNatClampNeg) (1 : Int32)) has goes (t + 1)
                    else
                      d_X7_comeUp_L8 R_m R_q c n1 (pt R 0 (37 + c.toNatClampNeg) ((R 0 (37 + c.toNatClampNeg)) - (2 : Int32))) has goes (t + 1)
                  else
                    d_X7_comeUp_L8 R_m R_q c n1 (pt (pt (pt R 0 (1 + t) (0 : Int32)) 0 (25 + t) (1 : Int32)) 0 ((46 + (6 * c.toNatClampNeg)) + t) (0 : Int32)) (has + (R 0 (1 + t))) (0 : Int32) (t + 1)
                else
                  if (R 0 (37 + c.toNatClampNeg)) ≤ ((5 : Int32) * (R 0 (13 + t))) then
                    if (R 0 (37 + c.toNatClampNeg)) ≤ (3 : Int32) then
                      d_X7_comeUp_L8 R_m R_q c n1 (pt R 0 (37 + c.toNatClampNeg) (1 : Int32)) has goes (t + 1)
                    else
                      d_X7_comeUp_L8 R_m R_q c n1 (pt R 0 (37 + c.toNatClampNeg) ((R 0 (37 + c.toNatClampNeg)) - (2 : Int32))) has goes (t + 1)
                  else
                    d_X7_comeUp_L8 R_m R_q c n1 (pt (pt (pt R 0 (1 + t) (0 : Int32)) 0 (25 + t) (1 : Int32)) 0 ((46 + (6 * c.toNatClampNeg)) + t) (0 : Int32)) (has + (R 0 (1 + t))) (0 : Int32) (t + 1)
              else
                lt (d_X7_pays R_m R_q R c (nI t) (u23 / (3 : Int32))) fun u155 =>
                d_X7_comeUp_L8 R_m R_q c n1 u155.2 (has + u155.1) goes (t + 1)
            else
              if (R_q 0 t) = (1 : Int32) then
                if (R 0 (37 + c.toNatClampNeg)) ≤ ((6 : Int32) * (R 0 (13 + t))) then
                  if (R 0 (37 + c.toNatClampNeg)) ≤ (3 : Int32) then
                    d_X7_comeUp_L8 R_m R_q c n1 (pt R 0 (37 + c.toNatClampNeg) (1 : Int32)) has goes (t + 1)
                  else
                    d_X7_comeUp_L8 R_m R_q c n1 (pt R 0 (37 + c.toNatClampNeg) ((R 0 (37 + c.toNatClampNeg)) - (2 : Int32))) has goes (t + 1)
                else
                  d_X7_comeUp_L8 R_m R_q c n1 (pt (pt (pt R 0 (1 + t) (0 : Int32)) 0 (25 + t) (1 : Int32)) 0 ((46 + (6 * c.toNatClampNeg)) + t) (0 : Int32)) (has + (R 0 (1 + t))) (0 : Int32) (t + 1)
              else
                if (R 0 (37 + c.toNatClampNeg)) ≤ ((5 : Int32) * (R 0 (13 + t))) then
                  if (R 0 (37 + c.toNatClampNeg)) ≤ (3 : Int32) then
                    d_X7_comeUp_L8 R_m R_q c n1 (pt R 0 (37 + c.toNatClampNeg) (1 : Int32)) has goes (t + 1)
                  else
                    d_X7_comeUp_L8 R_m R_q c n1 (pt R 0 (37 + c.toNatClampNeg) ((R 0 (37 + c.toNatClampNeg)) - (2 : Int32))) has goes (t + 1)
                else
                  d_X7_comeUp_L8 R_m R_q c n1 (pt (pt (pt R 0 (1 + t) (0 : Int32)) 0 (25 + t) (1 : Int32)) 0 ((46 + (6 * c.toNatClampNeg)) + t) (0 : Int32)) (has + (R 0 (1 + t))) (0 : Int32) (t + 1)
def d_X7_comeUp (R_m : Nat → Nat → Int32) (R_q : Nat → Nat → Int32) (R_s : Nat → Nat → Int32) (c : Int32) : (Nat → Nat → Int32) :=
  lt (d_X7_comeUp_L8 R_m R_q c 7 R_s (0 : Int32) (1 : Int32) 0) fun s305 =>
  lt (((s305.1 0 (37 + c.toNatClampNeg)) + (s305.2 / (10 : Int32)))) fun y311 =>
  if y311 ≤ (99 : Int32) then
    (pt s305.1 0 (37 + c.toNatClampNeg) y311)
  else
    (pt s305.1 0 (37 + c.toNatClampNeg) (99 : Int32))
set_option maxHeartbeats 4000000 in
set_option maxRecDepth 100000 in
theorem c_X7_comeUp (l : Launch) (D : DD) (o_m o_s : Nat) (R_m : Nat → Nat → Int32) (R_q : Nat → Nat → Int32) (R_s : Nat → Nat → Int32) (c : Int32) (h10 : R_m 0 10 = nI (R_m 0 10).toNatClampNeg) (b10 : (R_m 0 10).toNatClampNeg ≤ 6) (hc : c = nI c.toNatClampNeg) (hlc : c.toNatClampNeg < 3) (hd1 : o_s ≠ o_m) (hd2 : o_s ≠ o_m + 5) (res : (Nat → Nat → Int32)) (hres : res = d_X7_comeUp R_m R_q R_s c) : Mt l D yX7_comeUp cX7_comeUp 8 none 1 25 0 0 [.ref o_m, .ref o_s, .int c] (fun H => blk D ksM0 o_m R_m H ∧ blk D (ksI 6) (o_m + 5) R_q H ∧ blk D (ksI 64) o_s R_s H) (fun v H => v = none ∧ blk D (ksI 64) o_s res H) (fp1 o_s 1) := by
  refine mt_of (own := RX7) (ls := [.val (.ref o_m), .val (.ref o_s), .val (.int c), .unset, .unset, .unset, .unset, .unset]) rfl (by decide +kernel) rfl ?_
  intro x H C hP
  obtain ⟨hb_m, hb_q, hb_s⟩ := hP
  refine r_iconst C dX7_comeUp_0 (0 : Int32) (by decide) ?_
  refine r_istore_n C dX7_comeUp_1 (ls' := [.val (.ref o_m), .val (.ref o_s), .val (.int c), .val (.int (0 : Int32)), .unset, .unset, .unset, .unset]) rfl trivial rfl ?_
  refine r_iconst C dX7_comeUp_2 (1 : Int32) (by decide) ?_
  refine r_istore C dX7_comeUp_3 (ls' := [.val (.ref o_m), .val (.ref o_s), .val (.int c), .val (.int (0 : Int32)), .val (.int (1 : Int32)), .unset, .unset, .unset]) rfl trivial rfl ?_
  refine r_iconst C dX7_comeUp_5 (0 : Int32) (by decide) ?_
  refine r_istore C dX7_comeUp_6 (ls' := [.val (.ref o_m), .val (.ref o_s), .val (.int c), .val (.int (0 : Int32)), .val (.int (1 : Int32)), .val (.int (0 : Int32)), .unset, .unset]) rfl trivial rfl ?_
  have d_X7_comeUp_L8_w : ∀ (n1 : Nat) (R : Nat → Nat → Int32) (has : Int32) (goes : Int32) (t : Nat) (H10 : Heap) (z5 : Slot) (_ : slot1 z5) (z6 : Slot) (_ : slot1 z6), True → (t ≤ (R_m 0 10).toNatClampNeg) → (6 - t < n1) → blk D ksM0 o_m R_m H10 → blk D (ksI 6) (o_m + 5) R_q H10 → blk D (ksI 64) o_s R H10 → ∀ s3 : (Nat → Nat → Int32) × Int32, s3 = d_X7_comeUp_L8 R_m R_q c n1 R has goes t → (∀ (H' : Heap) (z11 : Slot) (_ : slot1 z11) (z12 : Slot) (_ : slot1 z12) (z13 : Slot) (_ : slot1 z13) (z14 : Slot) (_ : slot1 z14), True → blk D ksM0 o_m R_m H' → blk D (ksI 6) (o_m + 5) R_q H' → blk D (ksI 64) o_s s3.1 H' → WG x (fp1 o_s 1) (Fin x (fun v H => v = none ∧ blk D (ksI 64) o_s res H) (fp1 o_s 1) 0 0) H' 0 0 238 [.val (.ref o_m), .val (.ref o_s), .val (.int c), .val (.int s3.2), z11, z12, z13, z14] []) → WG x (fp1 o_s 1) (Fin x (fun v H => v = none ∧ blk D (ksI 64) o_s res H) (fp1 o_s 1) 0 0) H10 0 0 8 [.val (.ref o_m), .val (.ref o_s), .val (.int c), .val (.int has), .val (.int goes), .val (.int (nI t)), z5, z6] [] := by
    intro n1
    induction n1 with
    | zero => intro R has goes t H10 z5 hz5 z6 hz6 _ ht hm15; exact absurd hm15 (Nat.not_lt_zero _)
    | succ n1 ih2 =>
      intro R has goes t H10 z5 hz5 z6 hz6 _ ht hm15 hb7 hb8 hb9 s3 hs3  kx4
      refine r_iload C dX7_comeUp_8 rfl ?_
      refine r_aload_n C dX7_comeUp_10 rfl ?_
      refine r_get C hb7 (k := 0) rfl rfl celO_7 fw_X7_49 (z := .int (R_m 0 10)) rfl dX7_comeUp_11 ?_
      refine r_ic_ge C dX7_comeUp_14 (fun c16 => ?_) (fun c16 => ?_)
      · skip
        have f17 : ((R_m 0 10).toNatClampNeg ≤ t) := nf_leI (by omega) (by omega) h10 rfl c16
        have e18 : s3 = (R, has) := by rw [hs3, d_X7_comeUp_L8]; try exact (if_pos c16).trans (rfl)
        rw [e18] at kx4
        exact kx4 _ (.val (.int goes)) rfl (.val (.int (nI t))) rfl z5 hz5 z6 hz6 trivial  hb7 hb8 hb9
      · skip
        have f19 : ¬ ((R_m 0 10).toNatClampNeg ≤ t) := nf_leIn (by omega) (by omega) h10 rfl c16
        refine r_iload C dX7_comeUp_17 rfl ?_
        refine r_if_eq C dX7_comeUp_19 (fun c20 => ?_) (fun c20 => ?_)
        · skip
          have e21 : s3 = (R, has) := by rw [hs3, d_X7_comeUp_L8]; try exact (if_neg c16).trans ((if_pos c20).trans (rfl))
          rw [e21] at kx4
          exact kx4 _ (.val (.int goes)) rfl (.val (.int (nI t))) rfl z5 hz5 z6 hz6 trivial  hb7 hb8 hb9
        · skip
          refine r_aload_n C dX7_comeUp_22 rfl ?_
          refine r_bipush C dX7_comeUp_23 (25 : Int32) (by decide) ?_
          refine r_iload C dX7_comeUp_25 rfl ?_
          refine r_iaddN C dX7_comeUp_27 (na := 25) (nb := t) rfl rfl (nc := (25 + t)) rfl ?_
          refine r_iald C hb9 (k := 0) rfl rfl (vp_in_n rfl (by omega) (by omega)) (j := (25 + t)) (cl_n rfl (by omega)) dX7_comeUp_28 ?_
          refine r_iconst C dX7_comeUp_29 (1 : Int32) (by decide) ?_
          refine r_ic_ne C dX7_comeUp_30 (fun c22 => ?_) (fun c22 => ?_)
          · skip
            refine r_aload_n C dX7_comeUp_36 rfl ?_
            refine r_aload_n C dX7_comeUp_37 rfl ?_
            refine r_iload_n C dX7_comeUp_38 rfl ?_
            refine r_iload C dX7_comeUp_39 rfl ?_
            obtain ⟨u23, hu23⟩ : ∃ r, r = d_X7_askOf R_m R_q R c (nI t) := ⟨_, rfl⟩
            refine r_callV0 C cw_X7_119 (fun l => c_X7_askOf l D o_m o_s R_m R_q R c (nI t) hc (by omega) (nnat (a := t) rfl (by omega)) (by have q0 := cl_n (x := (nI t)) (n := t) rfl (by omega); omega) u23 hu23) (rest := []) hb7 (k := 0) rfl rfl celO_7 ⟨hb7, hb8, hb9⟩ (fun q h => h.elim) rfl rfl rfl (Nat.le_of_ble_eq_true rfl) ⟨Nat.le_of_ble_eq_true rfl, Nat.le_of_ble_eq_true rfl, Nat.le_refl 0, Nat.le_refl 0⟩ dX7_comeUp_41 (fun v H24 hp25 hq26 => ?_)
            subst hp25
            have hb27 := blk_kept hb7 (n := 1) rfl (fun q h1 h2 => hq26 q (fun h => h))
            have hb28 := blk_kept hb8 (n := 1) rfl (fun q h1 h2 => hq26 q (fun h => h))
            have hb29 := blk_kept hb9 (n := 1) rfl (fun q h1 h2 => hq26 q (fun h => h))
            dsimp only [psh]
            refine r_istore C dX7_comeUp_44 (ls' := [.val (.ref o_m), .val (.ref o_s), .val (.int c), .val (.int has), .val (.int goes), .val (.int (nI t)), .val (.int u23), z6]) rfl hz5 rfl ?_
            refine r_aload_n C dX7_comeUp_46 rfl ?_
            refine r_bipush C dX7_comeUp_47 (19 : Int32) (by decide) ?_
            refine r_iload C dX7_comeUp_49 rfl ?_
            refine r_iaddN C dX7_comeUp_51 (na := 19) (nb := t) rfl rfl (nc := (19 + t)) rfl ?_
            refine r_iald C hb29 (k := 0) rfl rfl (vp_in_n rfl (by omega) (by omega)) (j := (19 + t)) (cl_n rfl (by omega)) dX7_comeUp_52 ?_
            refine r_istore C dX7_comeUp_53 (ls' := [.val (.ref o_m), .val (.ref o_s), .val (.int c), .val (.int has), .val (.int goes), .val (.int (nI t)), .val (.int u23), .val (.int (R 0 (19 + t)))]) rfl hz6 rfl ?_
            refine r_iload C dX7_comeUp_55 rfl ?_
            refine r_if_ne C dX7_comeUp_57 (fun c30 => ?_) (fun c30 => ?_)
            · skip
              refine r_iload C dX7_comeUp_90 rfl ?_
              refine r_iconst C dX7_comeUp_92 (2 : Int32) (by decide) ?_
              refine r_ic_ne C dX7_comeUp_93 (fun c31 => ?_) (fun c31 => ?_)
              · skip
                refine r_aload_n C dX7_comeUp_127 rfl ?_
                refine r_bipush C dX7_comeUp_128 (37 : Int32) (by decide) ?_
                refine r_iload_n C dX7_comeUp_130 rfl ?_
                refine r_iaddN C dX7_comeUp_131 (na := 37) (nb := c.toNatClampNeg) rfl hc (nc := (37 + c.toNatClampNeg)) rfl ?_
                refine r_iald C hb29 (k := 0) rfl rfl (vp_in_n rfl (by omega) (by omega)) (j := (37 + c.toNatClampNeg)) (cl_n rfl (by omega)) dX7_comeUp_132 ?_
                refine r_aload_n C dX7_comeUp_133 rfl ?_
                refine r_get C hb27 (k := 0) rfl rfl celO_7 fw_X7_22 rfl dX7_comeUp_134 ?_
                refine r_iload C dX7_comeUp_137 rfl ?_
                refine r_iald C hb28 (k := 0) rfl rfl (vp_in_n rfl (by omega) (by omega)) (j := t) (cl_n rfl (by omega)) dX7_comeUp_139 ?_
                refine r_iconst C dX7_comeUp_140 (1 : Int32) (by decide) ?_
                refine r_ic_ne C dX7_comeUp_141 (fun c32 => ?_) (fun c32 => ?_)
                · skip
                  refine r_iconst C dX7_comeUp_149 (5 : Int32) (by decide) ?_
                  refine r_aload_n C dX7_comeUp_150 rfl ?_
                  refine r_bipush C dX7_comeUp_151 (13 : Int32) (by decide) ?_
                  refine r_iload C dX7_comeUp_153 rfl ?_
                  refine r_iaddN C dX7_comeUp_155 (na := 13) (nb := t) rfl rfl (nc := (13 + t)) rfl ?_
                  refine r_iald C hb29 (k := 0) rfl rfl (vp_in_n rfl (by omega) (by omega)) (j := (13 + t)) (cl_n rfl (by omega)) dX7_comeUp_156 ?_
                  refine r_imul C dX7_comeUp_157 ?_
                  refine r_ic_le C dX7_comeUp_158 (fun c33 => ?_) (fun c33 => ?_)
                  · skip
                    refine r_aload_n C dX7_comeUp_204 rfl ?_
                    refine r_bipush C dX7_comeUp_205 (37 : Int32) (by decide) ?_
                    refine r_iload_n C dX7_comeUp_207 rfl ?_
                    refine r_iaddN C dX7_comeUp_208 (na := 37) (nb := c.toNatClampNeg) rfl hc (nc := (37 + c.toNatClampNeg)) rfl ?_
                    refine r_aload_n C dX7_comeUp_209 rfl ?_
                    refine r_bipush C dX7_comeUp_210 (37 : Int32) (by decide) ?_
                    refine r_iload_n C dX7_comeUp_212 rfl ?_
                    refine r_iaddN C dX7_comeUp_213 (na := 37) (nb := c.toNatClampNeg) rfl hc (nc := (37 + c.toNatClampNeg)) rfl ?_
                    refine r_iald C hb29 (k := 0) rfl rfl (vp_in_n rfl (by omega) (by omega)) (j := (37 + c.toNatClampNeg)) (cl_n rfl (by omega)) dX7_comeUp_214 ?_
                    refine r_iconst C dX7_comeUp_215 (3 : Int32) (by decide) ?_
                    refine r_ic_le C dX7_comeUp_216 (fun c34 => ?_) (fun c34 => ?_)
                    · skip
                      refine r_iconst C dX7_comeUp_230 (1 : Int32) (by decide) ?_
                      refine r_iast C hb29 (k := 0) rfl rfl (by unfold fp1; omega) (vp_in_n rfl (by omega) (by omega)) (j := (37 + c.toNatClampNeg)) (cl_n rfl (by omega)) dX7_comeUp_231 (fun H35 hb37 hq36 => ?_)
                      have hb38 := blk_kept hb27 (n := 1) rfl (fun q h1 h2 => hq36 q (by omega))
                      have hb39 := blk_kept hb28 (n := 1) rfl (fun q h1 h2 => hq36 q (by omega))
                      refine r_iinc C dX7_comeUp_232 (nI (t + 1)) rfl (nI_inc t rfl) (ls' := [.val (.ref o_m), .val (.ref o_s), .val (.int c), .val (.int has), .val (.int goes), .val (.int (nI (t + 1))), .val (.int u23), .val (.int (R 0 (19 + t)))]) rfl ?_
                      refine r_goto C dX7_comeUp_235 ?_
                      have e40 : s3 = d_X7_comeUp_L8 R_m R_q c n1 (pt R 0 (37 + c.toNatClampNeg) (1 : Int32)) has goes (t + 1) := by rw [hs3, d_X7_comeUp_L8]; try exact (if_neg c16).trans ((if_neg c20).trans ((if_neg c22).trans ((lt_eq hu23).trans ((if_neg c30).trans ((if_neg c31).trans ((if_neg c32).trans ((if_pos c33).trans ((if_pos c34).trans (rfl)))))))))
                      exact ih2 (pt R 0 (37 + c.toNatClampNeg) (1 : Int32)) has goes (t + 1) _ (.val (.int u23)) rfl (.val (.int (R 0 (19 + t)))) rfl trivial (by omega) (by omega) hb38 hb39 hb37 s3 e40  kx4
                    · skip
                      refine r_aload_n C dX7_comeUp_219 rfl ?_
                      refine r_bipush C dX7_comeUp_220 (37 : Int32) (by decide) ?_
                      refine r_iload_n C dX7_comeUp_222 rfl ?_
                      refine r_iaddN C dX7_comeUp_223 (na := 37) (nb := c.toNatClampNeg) rfl hc (nc := (37 + c.toNatClampNeg)) rfl ?_
                      refine r_iald C hb29 (k := 0) rfl rfl (vp_in_n rfl (by omega) (by omega)) (j := (37 + c.toNatClampNeg)) (cl_n rfl (by omega)) dX7_comeUp_224 ?_
                      refine r_iconst C dX7_comeUp_225 (2 : Int32) (by decide) ?_
                      refine r_isub C dX7_comeUp_226 ?_
                      refine r_goto C dX7_comeUp_227 ?_
                      refine r_iast C hb29 (k := 0) rfl rfl (by unfold fp1; omega) (vp_in_n rfl (by omega) (by omega)) (j := (37 + c.toNatClampNeg)) (cl_n rfl (by omega)) dX7_comeUp_231 (fun H41 hb43 hq42 => ?_)
                      have hb44 := blk_kept hb27 (n := 1) rfl (fun q h1 h2 => hq42 q (by omega))
                      have hb45 := blk_kept hb28 (n := 1) rfl (fun q h1 h2 => hq42 q (by omega))
                      refine r_iinc C dX7_comeUp_232 (nI (t + 1)) rfl (nI_inc t rfl) (ls' := [.val (.ref o_m), .val (.ref o_s), .val (.int c), .val (.int has), .val (.int goes), .val (.int (nI (t + 1))), .val (.int u23), .val (.int (R 0 (19 + t)))]) rfl ?_
                      refine r_goto C dX7_comeUp_235 ?_
                      have e46 : s3 = d_X7_comeUp_L8 R_m R_q c n1 (pt R 0 (37 + c.toNatClampNeg) ((R 0 (37 + c.toNatClampNeg)) - (2 : Int32))) has goes (t + 1) := by rw [hs3, d_X7_comeUp_L8]; try exact (if_neg c16).trans ((if_neg c20).trans ((if_neg c22).trans ((lt_eq hu23).trans ((if_neg c30).trans ((if_neg c31).trans ((if_neg c32).trans ((if_pos c33).trans ((if_neg c34).trans (rfl)))))))))
                      exact ih2 (pt R 0 (37 + c.toNatClampNeg) ((R 0 (37 + c.toNatClampNeg)) - (2 : Int32))) has goes (t + 1) _ (.val (.int u23)) rfl (.val (.int (R 0 (19 + t)))) rfl trivial (by omega) (by omega) hb44 hb45 hb43 s3 e46  kx4
                  · skip
                    refine r_iload_n C dX7_comeUp_161 rfl ?_
                    refine r_aload_n C dX7_comeUp_162 rfl ?_
                    refine r_iconst C dX7_comeUp_163 (1 : Int32) (by decide) ?_
                    refine r_iload C dX7_comeUp_164 rfl ?_
                    refine r_iaddN C dX7_comeUp_166 (na := 1) (nb := t) rfl rfl (nc := (1 + t)) rfl ?_
                    refine r_iald C hb29 (k := 0) rfl rfl (vp_in_n rfl (by omega) (by omega)) (j := (1 + t)) (cl_n rfl (by omega)) dX7_comeUp_167 ?_
                    refine r_iadd C dX7_comeUp_168 ?_
                    refine r_istore_n C dX7_comeUp_169 (ls' := [.val (.ref o_m), .val (.ref o_s), .val (.int c), .val (.int (has + (R 0 (1 + t)))), .val (.int goes), .val (.int (nI t)), .val (.int u23), .val (.int (R 0 (19 + t)))]) rfl rfl rfl ?_
                    refine r_aload_n C dX7_comeUp_170 rfl ?_
                    refine r_iconst C dX7_comeUp_171 (1 : Int32) (by decide) ?_
                    refine r_iload C dX7_comeUp_172 rfl ?_
                    refine r_iaddN C dX7_comeUp_174 (na := 1) (nb := t) rfl rfl (nc := (1 + t)) rfl ?_
                    refine r_iconst C dX7_comeUp_175 (0 : Int32) (by decide) ?_
                    refine r_iast C hb29 (k := 0) rfl rfl (by unfold fp1; omega) (vp_in_n rfl (by omega) (by omega)) (j := (1 + t)) (cl_n rfl (by omega)) dX7_comeUp_176 (fun H47 hb49 hq48 => ?_)
                    have hb50 := blk_kept hb27 (n := 1) rfl (fun q h1 h2 => hq48 q (by omega))
                    have hb51 := blk_kept hb28 (n := 1) rfl (fun q h1 h2 => hq48 q (by omega))
                    refine r_aload_n C dX7_comeUp_177 rfl ?_
                    refine r_bipush C dX7_comeUp_178 (25 : Int32) (by decide) ?_
                    refine r_iload C dX7_comeUp_180 rfl ?_
                    refine r_iaddN C dX7_comeUp_182 (na := 25) (nb := t) rfl rfl (nc := (25 + t)) rfl ?_
                    refine r_iconst C dX7_comeUp_183 (1 : Int32) (by decide) ?_
                    refine r_iast C hb49 (k := 0) rfl rfl (by unfold fp1; omega) (vp_in_n rfl (by omega) (by omega)) (j := (25 + t)) (cl_n rfl (by omega)) dX7_comeUp_184 (fun H52 hb54 hq53 => ?_)
                    have hb55 := blk_kept hb50 (n := 1) rfl (fun q h1 h2 => hq53 q (by omega))
                    have hb56 := blk_kept hb51 (n := 1) rfl (fun q h1 h2 => hq53 q (by omega))
                    refine r_aload_n C dX7_comeUp_185 rfl ?_
                    refine r_bipush C dX7_comeUp_186 (46 : Int32) (by decide) ?_
                    refine r_bipush C dX7_comeUp_188 (6 : Int32) (by decide) ?_
                    refine r_iload_n C dX7_comeUp_190 rfl ?_
                    refine r_imulN C dX7_comeUp_191 (na := 6) (nb := c.toNatClampNeg) rfl hc (nc := (6 * c.toNatClampNeg)) rfl ?_
                    refine r_iaddN C dX7_comeUp_192 (na := 46) (nb := (6 * c.toNatClampNeg)) rfl rfl (nc := (46 + (6 * c.toNatClampNeg))) rfl ?_
                    refine r_iload C dX7_comeUp_193 rfl ?_
                    refine r_iaddN C dX7_comeUp_195 (na := (46 + (6 * c.toNatClampNeg))) (nb := t) rfl rfl (nc := ((46 + (6 * c.toNatClampNeg)) + t)) rfl ?_
                    refine r_iconst C dX7_comeUp_196 (0 : Int32) (by decide) ?_
                    refine r_iast C hb54 (k := 0) rfl rfl (by unfold fp1; omega) (vp_in_n rfl (by omega) (by omega)) (j := ((46 + (6 * c.toNatClampNeg)) + t)) (cl_n rfl (by omega)) dX7_comeUp_197 (fun H57 hb59 hq58 => ?_)
                    have hb60 := blk_kept hb55 (n := 1) rfl (fun q h1 h2 => hq58 q (by omega))
                    have hb61 := blk_kept hb56 (n := 1) rfl (fun q h1 h2 => hq58 q (by omega))
                    refine r_iconst C dX7_comeUp_198 (0 : Int32) (by decide) ?_
                    refine r_istore C dX7_comeUp_199 (ls' := [.val (.ref o_m), .val (.ref o_s), .val (.int c), .val (.int (has + (R 0 (1 + t)))), .val (.int (0 : Int32)), .val (.int (nI t)), .val (.int u23), .val (.int (R 0 (19 + t)))]) rfl rfl rfl ?_
                    refine r_goto C dX7_comeUp_201 ?_
                    refine r_iinc C dX7_comeUp_232 (nI (t + 1)) rfl (nI_inc t rfl) (ls' := [.val (.ref o_m), .val (.ref o_s), .val (.int c), .val (.int (has + (R 0 (1 + t)))), .val (.int (0 : Int32)), .val (.int (nI (t + 1))), .val (.int u23), .val (.int (R 0 (19 + t)))]) rfl ?_
                    refine r_goto C dX7_comeUp_235 ?_
                    have e62 : s3 = d_X7_comeUp_L8 R_m R_q c n1 (pt (pt (pt R 0 (1 + t) (0 : Int32)) 0 (25 + t) (1 : Int32)) 0 ((46 + (6 * c.toNatClampNeg)) + t) (0 : Int32)) (has + (R 0 (1 + t))) (0 : Int32) (t + 1) := by rw [hs3, d_X7_comeUp_L8]; try exact (if_neg c16).trans ((if_neg c20).trans ((if_neg c22).trans ((lt_eq hu23).trans ((if_neg c30).trans ((if_neg c31).trans ((if_neg c32).trans ((if_neg c33).trans (rfl))))))))
                    exact ih2 (pt (pt (pt R 0 (1 + t) (0 : Int32)) 0 (25 + t) (1 : Int32)) 0 ((46 + (6 * c.toNatClampNeg)) + t) (0 : Int32)) (has + (R 0 (1 + t))) (0 : Int32) (t + 1) _ (.val (.int u23)) rfl (.val (.int (R 0 (19 + t)))) rfl trivial (by omega) (by omega) hb60 hb61 hb59 s3 e62  kx4
                · skip
                  refine r_bipush C dX7_comeUp_144 (6 : Int32) (by decide) ?_
                  refine r_goto C dX7_comeUp_146 ?_
                  refine r_aload_n C dX7_comeUp_150 rfl ?_
                  refine r_bipush C dX7_comeUp_151 (13 : Int32) (by decide) ?_
                  refine r_iload C dX7_comeUp_153 rfl ?_
                  refine r_iaddN C dX7_comeUp_155 (na := 13) (nb := t) rfl rfl (nc := (13 + t)) rfl ?_
                  refine r_iald C hb29 (k := 0) rfl rfl (vp_in_n rfl (by omega) (by omega)) (j := (13 + t)) (cl_n rfl (by omega)) dX7_comeUp_156 ?_
                  refine r_imul C dX7_comeUp_157 ?_
                  refine r_ic_le C dX7_comeUp_158 (fun c63 => ?_) (fun c63 => ?_)
                  · skip
                    refine r_aload_n C dX7_comeUp_204 rfl ?_
                    refine r_bipush C dX7_comeUp_205 (37 : Int32) (by decide) ?_
                    refine r_iload_n C dX7_comeUp_207 rfl ?_
                    refine r_iaddN C dX7_comeUp_208 (na := 37) (nb := c.toNatClampNeg) rfl hc (nc := (37 + c.toNatClampNeg)) rfl ?_
                    refine r_aload_n C dX7_comeUp_209 rfl ?_
                    refine r_bipush C dX7_comeUp_210 (37 : Int32) (by decide) ?_
                    refine r_iload_n C dX7_comeUp_212 rfl ?_
                    refine r_iaddN C dX7_comeUp_213 (na := 37) (nb := c.toNatClampNeg) rfl hc (nc := (37 + c.toNatClampNeg)) rfl ?_
                    refine r_iald C hb29 (k := 0) rfl rfl (vp_in_n rfl (by omega) (by omega)) (j := (37 + c.toNatClampNeg)) (cl_n rfl (by omega)) dX7_comeUp_214 ?_
                    refine r_iconst C dX7_comeUp_215 (3 : Int32) (by decide) ?_
                    refine r_ic_le C dX7_comeUp_216 (fun c64 => ?_) (fun c64 => ?_)
                    · skip
                      refine r_iconst C dX7_comeUp_230 (1 : Int32) (by decide) ?_
                      refine r_iast C hb29 (k := 0) rfl rfl (by unfold fp1; omega) (vp_in_n rfl (by omega) (by omega)) (j := (37 + c.toNatClampNeg)) (cl_n rfl (by omega)) dX7_comeUp_231 (fun H65 hb67 hq66 => ?_)
                      have hb68 := blk_kept hb27 (n := 1) rfl (fun q h1 h2 => hq66 q (by omega))
                      have hb69 := blk_kept hb28 (n := 1) rfl (fun q h1 h2 => hq66 q (by omega))
                      refine r_iinc C dX7_comeUp_232 (nI (t + 1)) rfl (nI_inc t rfl) (ls' := [.val (.ref o_m), .val (.ref o_s), .val (.int c), .val (.int has), .val (.int goes), .val (.int (nI (t + 1))), .val (.int u23), .val (.int (R 0 (19 + t)))]) rfl ?_
                      refine r_goto C dX7_comeUp_235 ?_
                      have e70 : s3 = d_X7_comeUp_L8 R_m R_q c n1 (pt R 0 (37 + c.toNatClampNeg) (1 : Int32)) has goes (t + 1) := by rw [hs3, d_X7_comeUp_L8]; try exact (if_neg c16).trans ((if_neg c20).trans ((if_neg c22).trans ((lt_eq hu23).trans ((if_neg c30).trans ((if_neg c31).trans ((if_pos c32).trans ((if_pos c63).trans ((if_pos c64).trans (rfl)))))))))
                      exact ih2 (pt R 0 (37 + c.toNatClampNeg) (1 : Int32)) has goes (t + 1) _ (.val (.int u23)) rfl (.val (.int (R 0 (19 + t)))) rfl trivial (by omega) (by omega) hb68 hb69 hb67 s3 e70  kx4
                    · skip
                      refine r_aload_n C dX7_comeUp_219 rfl ?_
                      refine r_bipush C dX7_comeUp_220 (37 : Int32) (by decide) ?_
                      refine r_iload_n C dX7_comeUp_222 rfl ?_
                      refine r_iaddN C dX7_comeUp_223 (na := 37) (nb := c.toNatClampNeg) rfl hc (nc := (37 + c.toNatClampNeg)) rfl ?_
                      refine r_iald C hb29 (k := 0) rfl rfl (vp_in_n rfl (by omega) (by omega)) (j := (37 + c.toNatClampNeg)) (cl_n rfl (by omega)) dX7_comeUp_224 ?_
                      refine r_iconst C dX7_comeUp_225 (2 : Int32) (by decide) ?_
                      refine r_isub C dX7_comeUp_226 ?_
                      refine r_goto C dX7_comeUp_227 ?_
                      refine r_iast C hb29 (k := 0) rfl rfl (by unfold fp1; omega) (vp_in_n rfl (by omega) (by omega)) (j := (37 + c.toNatClampNeg)) (cl_n rfl (by omega)) dX7_comeUp_231 (fun H71 hb73 hq72 => ?_)
                      have hb74 := blk_kept hb27 (n := 1) rfl (fun q h1 h2 => hq72 q (by omega))
                      have hb75 := blk_kept hb28 (n := 1) rfl (fun q h1 h2 => hq72 q (by omega))
                      refine r_iinc C dX7_comeUp_232 (nI (t + 1)) rfl (nI_inc t rfl) (ls' := [.val (.ref o_m), .val (.ref o_s), .val (.int c), .val (.int has), .val (.int goes), .val (.int (nI (t + 1))), .val (.int u23), .val (.int (R 0 (19 + t)))]) rfl ?_
                      refine r_goto C dX7_comeUp_235 ?_
                      have e76 : s3 = d_X7_comeUp_L8 R_m R_q c n1 (pt R 0 (37 + c.toNatClampNeg) ((R 0 (37 + c.toNatClampNeg)) - (2 : Int32))) has goes (t + 1) := by rw [hs3, d_X7_comeUp_L8]; try exact (if_neg c16).trans ((if_neg c20).trans ((if_neg c22).trans ((lt_eq hu23).trans ((if_neg c30).trans ((if_neg c31).trans ((if_pos c32).trans ((if_pos c63).trans ((if_neg c64).trans (rfl)))))))))
                      exact ih2 (pt R 0 (37 + c.toNatClampNeg) ((R 0 (37 + c.toNatClampNeg)) - (2 : Int32))) has goes (t + 1) _ (.val (.int u23)) rfl (.val (.int (R 0 (19 + t)))) rfl trivial (by omega) (by omega) hb74 hb75 hb73 s3 e76  kx4
                  · skip
                    refine r_iload_n C dX7_comeUp_161 rfl ?_
                    refine r_aload_n C dX7_comeUp_162 rfl ?_
                    refine r_iconst C dX7_comeUp_163 (1 : Int32) (by decide) ?_
                    refine r_iload C dX7_comeUp_164 rfl ?_
                    refine r_iaddN C dX7_comeUp_166 (na := 1) (nb := t) rfl rfl (nc := (1 + t)) rfl ?_
                    refine r_iald C hb29 (k := 0) rfl rfl (vp_in_n rfl (by omega) (by omega)) (j := (1 + t)) (cl_n rfl (by omega)) dX7_comeUp_167 ?_
                    refine r_iadd C dX7_comeUp_168 ?_
                    refine r_istore_n C dX7_comeUp_169 (ls' := [.val (.ref o_m), .val (.ref o_s), .val (.int c), .val (.int (has + (R 0 (1 + t)))), .val (.int goes), .val (.int (nI t)), .val (.int u23), .val (.int (R 0 (19 + t)))]) rfl rfl rfl ?_
                    refine r_aload_n C dX7_comeUp_170 rfl ?_
                    refine r_iconst C dX7_comeUp_171 (1 : Int32) (by decide) ?_
                    refine r_iload C dX7_comeUp_172 rfl ?_
                    refine r_iaddN C dX7_comeUp_174 (na := 1) (nb := t) rfl rfl (nc := (1 + t)) rfl ?_
                    refine r_iconst C dX7_comeUp_175 (0 : Int32) (by decide) ?_
                    refine r_iast C hb29 (k := 0) rfl rfl (by unfold fp1; omega) (vp_in_n rfl (by omega) (by omega)) (j := (1 + t)) (cl_n rfl (by omega)) dX7_comeUp_176 (fun H77 hb79 hq78 => ?_)
                    have hb80 := blk_kept hb27 (n := 1) rfl (fun q h1 h2 => hq78 q (by omega))
                    have hb81 := blk_kept hb28 (n := 1) rfl (fun q h1 h2 => hq78 q (by omega))
                    refine r_aload_n C dX7_comeUp_177 rfl ?_
                    refine r_bipush C dX7_comeUp_178 (25 : Int32) (by decide) ?_
                    refine r_iload C dX7_comeUp_180 rfl ?_
                    refine r_iaddN C dX7_comeUp_182 (na := 25) (nb := t) rfl rfl (nc := (25 + t)) rfl ?_
                    refine r_iconst C dX7_comeUp_183 (1 : Int32) (by decide) ?_
                    refine r_iast C hb79 (k := 0) rfl rfl (by unfold fp1; omega) (vp_in_n rfl (by omega) (by omega)) (j := (25 + t)) (cl_n rfl (by omega)) dX7_comeUp_184 (fun H82 hb84 hq83 => ?_)
                    have hb85 := blk_kept hb80 (n := 1) rfl (fun q h1 h2 => hq83 q (by omega))
                    have hb86 := blk_kept hb81 (n := 1) rfl (fun q h1 h2 => hq83 q (by omega))
                    refine r_aload_n C dX7_comeUp_185 rfl ?_
                    refine r_bipush C dX7_comeUp_186 (46 : Int32) (by decide) ?_
                    refine r_bipush C dX7_comeUp_188 (6 : Int32) (by decide) ?_
                    refine r_iload_n C dX7_comeUp_190 rfl ?_
                    refine r_imulN C dX7_comeUp_191 (na := 6) (nb := c.toNatClampNeg) rfl hc (nc := (6 * c.toNatClampNeg)) rfl ?_
                    refine r_iaddN C dX7_comeUp_192 (na := 46) (nb := (6 * c.toNatClampNeg)) rfl rfl (nc := (46 + (6 * c.toNatClampNeg))) rfl ?_
                    refine r_iload C dX7_comeUp_193 rfl ?_
                    refine r_iaddN C dX7_comeUp_195 (na := (46 + (6 * c.toNatClampNeg))) (nb := t) rfl rfl (nc := ((46 + (6 * c.toNatClampNeg)) + t)) rfl ?_
                    refine r_iconst C dX7_comeUp_196 (0 : Int32) (by decide) ?_
                    refine r_iast C hb84 (k := 0) rfl rfl (by unfold fp1; omega) (vp_in_n rfl (by omega) (by omega)) (j := ((46 + (6 * c.toNatClampNeg)) + t)) (cl_n rfl (by omega)) dX7_comeUp_197 (fun H87 hb89 hq88 => ?_)
                    have hb90 := blk_kept hb85 (n := 1) rfl (fun q h1 h2 => hq88 q (by omega))
                    have hb91 := blk_kept hb86 (n := 1) rfl (fun q h1 h2 => hq88 q (by omega))
                    refine r_iconst C dX7_comeUp_198 (0 : Int32) (by decide) ?_
                    refine r_istore C dX7_comeUp_199 (ls' := [.val (.ref o_m), .val (.ref o_s), .val (.int c), .val (.int (has + (R 0 (1 + t)))), .val (.int (0 : Int32)), .val (.int (nI t)), .val (.int u23), .val (.int (R 0 (19 + t)))]) rfl rfl rfl ?_
                    refine r_goto C dX7_comeUp_201 ?_
                    refine r_iinc C dX7_comeUp_232 (nI (t + 1)) rfl (nI_inc t rfl) (ls' := [.val (.ref o_m), .val (.ref o_s), .val (.int c), .val (.int (has + (R 0 (1 + t)))), .val (.int (0 : Int32)), .val (.int (nI (t + 1))), .val (.int u23), .val (.int (R 0 (19 + t)))]) rfl ?_
                    refine r_goto C dX7_comeUp_235 ?_
                    have e92 : s3 = d_X7_comeUp_L8 R_m R_q c n1 (pt (pt (pt R 0 (1 + t) (0 : Int32)) 0 (25 + t) (1 : Int32)) 0 ((46 + (6 * c.toNatClampNeg)) + t) (0 : Int32)) (has + (R 0 (1 + t))) (0 : Int32) (t + 1) := by rw [hs3, d_X7_comeUp_L8]; try exact (if_neg c16).trans ((if_neg c20).trans ((if_neg c22).trans ((lt_eq hu23).trans ((if_neg c30).trans ((if_neg c31).trans ((if_pos c32).trans ((if_neg c63).trans (rfl))))))))
                    exact ih2 (pt (pt (pt R 0 (1 + t) (0 : Int32)) 0 (25 + t) (1 : Int32)) 0 ((46 + (6 * c.toNatClampNeg)) + t) (0 : Int32)) (has + (R 0 (1 + t))) (0 : Int32) (t + 1) _ (.val (.int u23)) rfl (.val (.int (R 0 (19 + t)))) rfl trivial (by omega) (by omega) hb90 hb91 hb89 s3 e92  kx4
              · skip
                refine r_aload_n C dX7_comeUp_96 rfl ?_
                refine r_iconst C dX7_comeUp_97 (1 : Int32) (by decide) ?_
                refine r_iload C dX7_comeUp_98 rfl ?_
                refine r_iaddN C dX7_comeUp_100 (na := 1) (nb := t) rfl rfl (nc := (1 + t)) rfl ?_
                refine r_iald C hb29 (k := 0) rfl rfl (vp_in_n rfl (by omega) (by omega)) (j := (1 + t)) (cl_n rfl (by omega)) dX7_comeUp_101 ?_
                refine r_iload C dX7_comeUp_102 rfl ?_
                refine r_iconst C dX7_comeUp_104 (3 : Int32) (by decide) ?_
                refine r_idiv C dX7_comeUp_105 (by decide) ?_
                refine r_ic_lt C dX7_comeUp_106 (fun c93 => ?_) (fun c93 => ?_)
                · skip
                  refine r_aload_n C dX7_comeUp_127 rfl ?_
                  refine r_bipush C dX7_comeUp_128 (37 : Int32) (by decide) ?_
                  refine r_iload_n C dX7_comeUp_130 rfl ?_
                  refine r_iaddN C dX7_comeUp_131 (na := 37) (nb := c.toNatClampNeg) rfl hc (nc := (37 + c.toNatClampNeg)) rfl ?_
                  refine r_iald C hb29 (k := 0) rfl rfl (vp_in_n rfl (by omega) (by omega)) (j := (37 + c.toNatClampNeg)) (cl_n rfl (by omega)) dX7_comeUp_132 ?_
                  refine r_aload_n C dX7_comeUp_133 rfl ?_
                  refine r_get C hb27 (k := 0) rfl rfl celO_7 fw_X7_22 rfl dX7_comeUp_134 ?_
                  refine r_iload C dX7_comeUp_137 rfl ?_
                  refine r_iald C hb28 (k := 0) rfl rfl (vp_in_n rfl (by omega) (by omega)) (j := t) (cl_n rfl (by omega)) dX7_comeUp_139 ?_
                  refine r_iconst C dX7_comeUp_140 (1 : Int32) (by decide) ?_
                  refine r_ic_ne C dX7_comeUp_141 (fun c94 => ?_) (fun c94 => ?_)
                  · skip
                    refine r_iconst C dX7_comeUp_149 (5 : Int32) (by decide) ?_
                    refine r_aload_n C dX7_comeUp_150 rfl ?_
                    refine r_bipush C dX7_comeUp_151 (13 : Int32) (by decide) ?_
                    refine r_iload C dX7_comeUp_153 rfl ?_
                    refine r_iaddN C dX7_comeUp_155 (na := 13) (nb := t) rfl rfl (nc := (13 + t)) rfl ?_
                    refine r_iald C hb29 (k := 0) rfl rfl (vp_in_n rfl (by omega) (by omega)) (j := (13 + t)) (cl_n rfl (by omega)) dX7_comeUp_156 ?_
                    refine r_imul C dX7_comeUp_157 ?_
                    refine r_ic_le C dX7_comeUp_158 (fun c95 => ?_) (fun c95 => ?_)
                    · skip
                      refine r_aload_n C dX7_comeUp_204 rfl ?_
                      refine r_bipush C dX7_comeUp_205 (37 : Int32) (by decide) ?_
                      refine r_iload_n C dX7_comeUp_207 rfl ?_
                      refine r_iaddN C dX7_comeUp_208 (na := 37) (nb := c.toNatClampNeg) rfl hc (nc := (37 + c.toNatClampNeg)) rfl ?_
                      refine r_aload_n C dX7_comeUp_209 rfl ?_
                      refine r_bipush C dX7_comeUp_210 (37 : Int32) (by decide) ?_
                      refine r_iload_n C dX7_comeUp_212 rfl ?_
                      refine r_iaddN C dX7_comeUp_213 (na := 37) (nb := c.toNatClampNeg) rfl hc (nc := (37 + c.toNatClampNeg)) rfl ?_
                      refine r_iald C hb29 (k := 0) rfl rfl (vp_in_n rfl (by omega) (by omega)) (j := (37 + c.toNatClampNeg)) (cl_n rfl (by omega)) dX7_comeUp_214 ?_
                      refine r_iconst C dX7_comeUp_215 (3 : Int32) (by decide) ?_
                      refine r_ic_le C dX7_comeUp_216 (fun c96 => ?_) (fun c96 => ?_)
                      · skip
                        refine r_iconst C dX7_comeUp_230 (1 : Int32) (by decide) ?_
                        refine r_iast C hb29 (k := 0) rfl rfl (by unfold fp1; omega) (vp_in_n rfl (by omega) (by omega)) (j := (37 + c.toNatClampNeg)) (cl_n rfl (by omega)) dX7_comeUp_231 (fun H97 hb99 hq98 => ?_)
                        have hb100 := blk_kept hb27 (n := 1) rfl (fun q h1 h2 => hq98 q (by omega))
                        have hb101 := blk_kept hb28 (n := 1) rfl (fun q h1 h2 => hq98 q (by omega))
                        refine r_iinc C dX7_comeUp_232 (nI (t + 1)) rfl (nI_inc t rfl) (ls' := [.val (.ref o_m), .val (.ref o_s), .val (.int c), .val (.int has), .val (.int goes), .val (.int (nI (t + 1))), .val (.int u23), .val (.int (R 0 (19 + t)))]) rfl ?_
                        refine r_goto C dX7_comeUp_235 ?_
                        have e102 : s3 = d_X7_comeUp_L8 R_m R_q c n1 (pt R 0 (37 + c.toNatClampNeg) (1 : Int32)) has goes (t + 1) := by rw [hs3, d_X7_comeUp_L8]; try exact (if_neg c16).trans ((if_neg c20).trans ((if_neg c22).trans ((lt_eq hu23).trans ((if_neg c30).trans ((if_pos c31).trans ((if_pos c93).trans ((if_neg c94).trans ((if_pos c95).trans ((if_pos c96).trans (rfl))))))))))
                        exact ih2 (pt R 0 (37 + c.toNatClampNeg) (1 : Int32)) has goes (t + 1) _ (.val (.int u23)) rfl (.val (.int (R 0 (19 + t)))) rfl trivial (by omega) (by omega) hb100 hb101 hb99 s3 e102  kx4
                      · skip
                        refine r_aload_n C dX7_comeUp_219 rfl ?_
                        refine r_bipush C dX7_comeUp_220 (37 : Int32) (by decide) ?_
                        refine r_iload_n C dX7_comeUp_222 rfl ?_
                        refine r_iaddN C dX7_comeUp_223 (na := 37) (nb := c.toNatClampNeg) rfl hc (nc := (37 + c.toNatClampNeg)) rfl ?_
                        refine r_iald C hb29 (k := 0) rfl rfl (vp_in_n rfl (by omega) (by omega)) (j := (37 + c.toNatClampNeg)) (cl_n rfl (by omega)) dX7_comeUp_224 ?_
                        refine r_iconst C dX7_comeUp_225 (2 : Int32) (by decide) ?_
                        refine r_isub C dX7_comeUp_226 ?_
                        refine r_goto C dX7_comeUp_227 ?_
                        refine r_iast C hb29 (k := 0) rfl rfl (by unfold fp1; omega) (vp_in_n rfl (by omega) (by omega)) (j := (37 + c.toNatClampNeg)) (cl_n rfl (by omega)) dX7_comeUp_231 (fun H103 hb105 hq104 => ?_)
                        have hb106 := blk_kept hb27 (n := 1) rfl (fun q h1 h2 => hq104 q (by omega))
                        have hb107 := blk_kept hb28 (n := 1) rfl (fun q h1 h2 => hq104 q (by omega))
                        refine r_iinc C dX7_comeUp_232 (nI (t + 1)) rfl (nI_inc t rfl) (ls' := [.val (.ref o_m), .val (.ref o_s), .val (.int c), .val (.int has), .val (.int goes), .val (.int (nI (t + 1))), .val (.int u23), .val (.int (R 0 (19 + t)))]) rfl ?_
                        refine r_goto C dX7_comeUp_235 ?_
                        have e108 : s3 = d_X7_comeUp_L8 R_m R_q c n1 (pt R 0 (37 + c.toNatClampNeg) ((R 0 (37 + c.toNatClampNeg)) - (2 : Int32))) has goes (t + 1) := by rw [hs3, d_X7_comeUp_L8]; try exact (if_neg c16).trans ((if_neg c20).trans ((if_neg c22).trans ((lt_eq hu23).trans ((if_neg c30).trans ((if_pos c31).trans ((if_pos c93).trans ((if_neg c94).trans ((if_pos c95).trans ((if_neg c96).trans (rfl))))))))))
                        exact ih2 (pt R 0 (37 + c.toNatClampNeg) ((R 0 (37 + c.toNatClampNeg)) - (2 : Int32))) has goes (t + 1) _ (.val (.int u23)) rfl (.val (.int (R 0 (19 + t)))) rfl trivial (by omega) (by omega) hb106 hb107 hb105 s3 e108  kx4
                    · skip
                      refine r_iload_n C dX7_comeUp_161 rfl ?_
                      refine r_aload_n C dX7_comeUp_162 rfl ?_
                      refine r_iconst C dX7_comeUp_163 (1 : Int32) (by decide) ?_
                      refine r_iload C dX7_comeUp_164 rfl ?_
                      refine r_iaddN C dX7_comeUp_166 (na := 1) (nb := t) rfl rfl (nc := (1 + t)) rfl ?_
                      refine r_iald C hb29 (k := 0) rfl rfl (vp_in_n rfl (by omega) (by omega)) (j := (1 + t)) (cl_n rfl (by omega)) dX7_comeUp_167 ?_
                      refine r_iadd C dX7_comeUp_168 ?_
                      refine r_istore_n C dX7_comeUp_169 (ls' := [.val (.ref o_m), .val (.ref o_s), .val (.int c), .val (.int (has + (R 0 (1 + t)))), .val (.int goes), .val (.int (nI t)), .val (.int u23), .val (.int (R 0 (19 + t)))]) rfl rfl rfl ?_
                      refine r_aload_n C dX7_comeUp_170 rfl ?_
                      refine r_iconst C dX7_comeUp_171 (1 : Int32) (by decide) ?_
                      refine r_iload C dX7_comeUp_172 rfl ?_
                      refine r_iaddN C dX7_comeUp_174 (na := 1) (nb := t) rfl rfl (nc := (1 + t)) rfl ?_
                      refine r_iconst C dX7_comeUp_175 (0 : Int32) (by decide) ?_
                      refine r_iast C hb29 (k := 0) rfl rfl (by unfold fp1; omega) (vp_in_n rfl (by omega) (by omega)) (j := (1 + t)) (cl_n rfl (by omega)) dX7_comeUp_176 (fun H109 hb111 hq110 => ?_)
                      have hb112 := blk_kept hb27 (n := 1) rfl (fun q h1 h2 => hq110 q (by omega))
                      have hb113 := blk_kept hb28 (n := 1) rfl (fun q h1 h2 => hq110 q (by omega))
                      refine r_aload_n C dX7_comeUp_177 rfl ?_
                      refine r_bipush C dX7_comeUp_178 (25 : Int32) (by decide) ?_
                      refine r_iload C dX7_comeUp_180 rfl ?_
                      refine r_iaddN C dX7_comeUp_182 (na := 25) (nb := t) rfl rfl (nc := (25 + t)) rfl ?_
                      refine r_iconst C dX7_comeUp_183 (1 : Int32) (by decide) ?_
                      refine r_iast C hb111 (k := 0) rfl rfl (by unfold fp1; omega) (vp_in_n rfl (by omega) (by omega)) (j := (25 + t)) (cl_n rfl (by omega)) dX7_comeUp_184 (fun H114 hb116 hq115 => ?_)
                      have hb117 := blk_kept hb112 (n := 1) rfl (fun q h1 h2 => hq115 q (by omega))
                      have hb118 := blk_kept hb113 (n := 1) rfl (fun q h1 h2 => hq115 q (by omega))
                      refine r_aload_n C dX7_comeUp_185 rfl ?_
                      refine r_bipush C dX7_comeUp_186 (46 : Int32) (by decide) ?_
                      refine r_bipush C dX7_comeUp_188 (6 : Int32) (by decide) ?_
                      refine r_iload_n C dX7_comeUp_190 rfl ?_
                      refine r_imulN C dX7_comeUp_191 (na := 6) (nb := c.toNatClampNeg) rfl hc (nc := (6 * c.toNatClampNeg)) rfl ?_
                      refine r_iaddN C dX7_comeUp_192 (na := 46) (nb := (6 * c.toNatClampNeg)) rfl rfl (nc := (46 + (6 * c.toNatClampNeg))) rfl ?_
                      refine r_iload C dX7_comeUp_193 rfl ?_
                      refine r_iaddN C dX7_comeUp_195 (na := (46 + (6 * c.toNatClampNeg))) (nb := t) rfl rfl (nc := ((46 + (6 * c.toNatClampNeg)) + t)) rfl ?_
                      refine r_iconst C dX7_comeUp_196 (0 : Int32) (by decide) ?_
                      refine r_iast C hb116 (k := 0) rfl rfl (by unfold fp1; omega) (vp_in_n rfl (by omega) (by omega)) (j := ((46 + (6 * c.toNatClampNeg)) + t)) (cl_n rfl (by omega)) dX7_comeUp_197 (fun H119 hb121 hq120 => ?_)
                      have hb122 := blk_kept hb117 (n := 1) rfl (fun q h1 h2 => hq120 q (by omega))
                      have hb123 := blk_kept hb118 (n := 1) rfl (fun q h1 h2 => hq120 q (by omega))
                      refine r_iconst C dX7_comeUp_198 (0 : Int32) (by decide) ?_
                      refine r_istore C dX7_comeUp_199 (ls' := [.val (.ref o_m), .val (.ref o_s), .val (.int c), .val (.int (has + (R 0 (1 + t)))), .val (.int (0 : Int32)), .val (.int (nI t)), .val (.int u23), .val (.int (R 0 (19 + t)))]) rfl rfl rfl ?_
                      refine r_goto C dX7_comeUp_201 ?_
                      refine r_iinc C dX7_comeUp_232 (nI (t + 1)) rfl (nI_inc t rfl) (ls' := [.val (.ref o_m), .val (.ref o_s), .val (.int c), .val (.int (has + (R 0 (1 + t)))), .val (.int (0 : Int32)), .val (.int (nI (t + 1))), .val (.int u23), .val (.int (R 0 (19 + t)))]) rfl ?_
                      refine r_goto C dX7_comeUp_235 ?_
                      have e124 : s3 = d_X7_comeUp_L8 R_m R_q c n1 (pt (pt (pt R 0 (1 + t) (0 : Int32)) 0 (25 + t) (1 : Int32)) 0 ((46 + (6 * c.toNatClampNeg)) + t) (0 : Int32)) (has + (R 0 (1 + t))) (0 : Int32) (t + 1) := by rw [hs3, d_X7_comeUp_L8]; try exact (if_neg c16).trans ((if_neg c20).trans ((if_neg c22).trans ((lt_eq hu23).trans ((if_neg c30).trans ((if_pos c31).trans ((if_pos c93).trans ((if_neg c94).trans ((if_neg c95).trans (rfl)))))))))
                      exact ih2 (pt (pt (pt R 0 (1 + t) (0 : Int32)) 0 (25 + t) (1 : Int32)) 0 ((46 + (6 * c.toNatClampNeg)) + t) (0 : Int32)) (has + (R 0 (1 + t))) (0 : Int32) (t + 1) _ (.val (.int u23)) rfl (.val (.int (R 0 (19 + t)))) rfl trivial (by omega) (by omega) hb122 hb123 hb121 s3 e124  kx4
                  · skip
                    refine r_bipush C dX7_comeUp_144 (6 : Int32) (by decide) ?_
                    refine r_goto C dX7_comeUp_146 ?_
                    refine r_aload_n C dX7_comeUp_150 rfl ?_
                    refine r_bipush C dX7_comeUp_151 (13 : Int32) (by decide) ?_
                    refine r_iload C dX7_comeUp_153 rfl ?_
                    refine r_iaddN C dX7_comeUp_155 (na := 13) (nb := t) rfl rfl (nc := (13 + t)) rfl ?_
                    refine r_iald C hb29 (k := 0) rfl rfl (vp_in_n rfl (by omega) (by omega)) (j := (13 + t)) (cl_n rfl (by omega)) dX7_comeUp_156 ?_
                    refine r_imul C dX7_comeUp_157 ?_
                    refine r_ic_le C dX7_comeUp_158 (fun c125 => ?_) (fun c125 => ?_)
                    · skip
                      refine r_aload_n C dX7_comeUp_204 rfl ?_
                      refine r_bipush C dX7_comeUp_205 (37 : Int32) (by decide) ?_
                      refine r_iload_n C dX7_comeUp_207 rfl ?_
                      refine r_iaddN C dX7_comeUp_208 (na := 37) (nb := c.toNatClampNeg) rfl hc (nc := (37 + c.toNatClampNeg)) rfl ?_
                      refine r_aload_n C dX7_comeUp_209 rfl ?_
                      refine r_bipush C dX7_comeUp_210 (37 : Int32) (by decide) ?_
                      refine r_iload_n C dX7_comeUp_212 rfl ?_
                      refine r_iaddN C dX7_comeUp_213 (na := 37) (nb := c.toNatClampNeg) rfl hc (nc := (37 + c.toNatClampNeg)) rfl ?_
                      refine r_iald C hb29 (k := 0) rfl rfl (vp_in_n rfl (by omega) (by omega)) (j := (37 + c.toNatClampNeg)) (cl_n rfl (by omega)) dX7_comeUp_214 ?_
                      refine r_iconst C dX7_comeUp_215 (3 : Int32) (by decide) ?_
                      refine r_ic_le C dX7_comeUp_216 (fun c126 => ?_) (fun c126 => ?_)
                      · skip
                        refine r_iconst C dX7_comeUp_230 (1 : Int32) (by decide) ?_
                        refine r_iast C hb29 (k := 0) rfl rfl (by unfold fp1; omega) (vp_in_n rfl (by omega) (by omega)) (j := (37 + c.toNatClampNeg)) (cl_n rfl (by omega)) dX7_comeUp_231 (fun H127 hb129 hq128 => ?_)
                        have hb130 := blk_kept hb27 (n := 1) rfl (fun q h1 h2 => hq128 q (by omega))
                        have hb131 := blk_kept hb28 (n := 1) rfl (fun q h1 h2 => hq128 q (by omega))
                        refine r_iinc C dX7_comeUp_232 (nI (t + 1)) rfl (nI_inc t rfl) (ls' := [.val (.ref o_m), .val (.ref o_s), .val (.int c), .val (.int has), .val (.int goes), .val (.int (nI (t + 1))), .val (.int u23), .val (.int (R 0 (19 + t)))]) rfl ?_
                        refine r_goto C dX7_comeUp_235 ?_
                        have e132 : s3 = d_X7_comeUp_L8 R_m R_q c n1 (pt R 0 (37 + c.toNatClampNeg) (1 : Int32)) has goes (t + 1) := by rw [hs3, d_X7_comeUp_L8]; try exact (if_neg c16).trans ((if_neg c20).trans ((if_neg c22).trans ((lt_eq hu23).trans ((if_neg c30).trans ((if_pos c31).trans ((if_pos c93).trans ((if_pos c94).trans ((if_pos c125).trans ((if_pos c126).trans (rfl))))))))))
                        exact ih2 (pt R 0 (37 + c.toNatClampNeg) (1 : Int32)) has goes (t + 1) _ (.val (.int u23)) rfl (.val (.int (R 0 (19 + t)))) rfl trivial (by omega) (by omega) hb130 hb131 hb129 s3 e132  kx4
                      · skip
                        refine r_aload_n C dX7_comeUp_219 rfl ?_
                        refine r_bipush C dX7_comeUp_220 (37 : Int32) (by decide) ?_
                        refine r_iload_n C dX7_comeUp_222 rfl ?_
                        refine r_iaddN C dX7_comeUp_223 (na := 37) (nb := c.toNatClampNeg) rfl hc (nc := (37 + c.toNatClampNeg)) rfl ?_
                        refine r_iald C hb29 (k := 0) rfl rfl (vp_in_n rfl (by omega) (by omega)) (j := (37 + c.toNatClampNeg)) (cl_n rfl (by omega)) dX7_comeUp_224 ?_
                        refine r_iconst C dX7_comeUp_225 (2 : Int32) (by decide) ?_
                        refine r_isub C dX7_comeUp_226 ?_
                        refine r_goto C dX7_comeUp_227 ?_
                        refine r_iast C hb29 (k := 0) rfl rfl (by unfold fp1; omega) (vp_in_n rfl (by omega) (by omega)) (j := (37 + c.toNatClampNeg)) (cl_n rfl (by omega)) dX7_comeUp_231 (fun H133 hb135 hq134 => ?_)
                        have hb136 := blk_kept hb27 (n := 1) rfl (fun q h1 h2 => hq134 q (by omega))
                        have hb137 := blk_kept hb28 (n := 1) rfl (fun q h1 h2 => hq134 q (by omega))
                        refine r_iinc C dX7_comeUp_232 (nI (t + 1)) rfl (nI_inc t rfl) (ls' := [.val (.ref o_m), .val (.ref o_s), .val (.int c), .val (.int has), .val (.int goes), .val (.int (nI (t + 1))), .val (.int u23), .val (.int (R 0 (19 + t)))]) rfl ?_
                        refine r_goto C dX7_comeUp_235 ?_
                        have e138 : s3 = d_X7_comeUp_L8 R_m R_q c n1 (pt R 0 (37 + c.toNatClampNeg) ((R 0 (37 + c.toNatClampNeg)) - (2 : Int32))) has goes (t + 1) := by rw [hs3, d_X7_comeUp_L8]; try exact (if_neg c16).trans ((if_neg c20).trans ((if_neg c22).trans ((lt_eq hu23).trans ((if_neg c30).trans ((if_pos c31).trans ((if_pos c93).trans ((if_pos c94).trans ((if_pos c125).trans ((if_neg c126).trans (rfl))))))))))
                        exact ih2 (pt R 0 (37 + c.toNatClampNeg) ((R 0 (37 + c.toNatClampNeg)) - (2 : Int32))) has goes (t + 1) _ (.val (.int u23)) rfl (.val (.int (R 0 (19 + t)))) rfl trivial (by omega) (by omega) hb136 hb137 hb135 s3 e138  kx4
                    · skip
                      refine r_iload_n C dX7_comeUp_161 rfl ?_
                      refine r_aload_n C dX7_comeUp_162 rfl ?_
                      refine r_iconst C dX7_comeUp_163 (1 : Int32) (by decide) ?_
                      refine r_iload C dX7_comeUp_164 rfl ?_
                      refine r_iaddN C dX7_comeUp_166 (na := 1) (nb := t) rfl rfl (nc := (1 + t)) rfl ?_
                      refine r_iald C hb29 (k := 0) rfl rfl (vp_in_n rfl (by omega) (by omega)) (j := (1 + t)) (cl_n rfl (by omega)) dX7_comeUp_167 ?_
                      refine r_iadd C dX7_comeUp_168 ?_
                      refine r_istore_n C dX7_comeUp_169 (ls' := [.val (.ref o_m), .val (.ref o_s), .val (.int c), .val (.int (has + (R 0 (1 + t)))), .val (.int goes), .val (.int (nI t)), .val (.int u23), .val (.int (R 0 (19 + t)))]) rfl rfl rfl ?_
                      refine r_aload_n C dX7_comeUp_170 rfl ?_
                      refine r_iconst C dX7_comeUp_171 (1 : Int32) (by decide) ?_
                      refine r_iload C dX7_comeUp_172 rfl ?_
                      refine r_iaddN C dX7_comeUp_174 (na := 1) (nb := t) rfl rfl (nc := (1 + t)) rfl ?_
                      refine r_iconst C dX7_comeUp_175 (0 : Int32) (by decide) ?_
                      refine r_iast C hb29 (k := 0) rfl rfl (by unfold fp1; omega) (vp_in_n rfl (by omega) (by omega)) (j := (1 + t)) (cl_n rfl (by omega)) dX7_comeUp_176 (fun H139 hb141 hq140 => ?_)
                      have hb142 := blk_kept hb27 (n := 1) rfl (fun q h1 h2 => hq140 q (by omega))
                      have hb143 := blk_kept hb28 (n := 1) rfl (fun q h1 h2 => hq140 q (by omega))
                      refine r_aload_n C dX7_comeUp_177 rfl ?_
                      refine r_bipush C dX7_comeUp_178 (25 : Int32) (by decide) ?_
                      refine r_iload C dX7_comeUp_180 rfl ?_
                      refine r_iaddN C dX7_comeUp_182 (na := 25) (nb := t) rfl rfl (nc := (25 + t)) rfl ?_
                      refine r_iconst C dX7_comeUp_183 (1 : Int32) (by decide) ?_
                      refine r_iast C hb141 (k := 0) rfl rfl (by unfold fp1; omega) (vp_in_n rfl (by omega) (by omega)) (j := (25 + t)) (cl_n rfl (by omega)) dX7_comeUp_184 (fun H144 hb146 hq145 => ?_)
                      have hb147 := blk_kept hb142 (n := 1) rfl (fun q h1 h2 => hq145 q (by omega))
                      have hb148 := blk_kept hb143 (n := 1) rfl (fun q h1 h2 => hq145 q (by omega))
                      refine r_aload_n C dX7_comeUp_185 rfl ?_
                      refine r_bipush C dX7_comeUp_186 (46 : Int32) (by decide) ?_
                      refine r_bipush C dX7_comeUp_188 (6 : Int32) (by decide) ?_
                      refine r_iload_n C dX7_comeUp_190 rfl ?_
                      refine r_imulN C dX7_comeUp_191 (na := 6) (nb := c.toNatClampNeg) rfl hc (nc := (6 * c.toNatClampNeg)) rfl ?_
                      refine r_iaddN C dX7_comeUp_192 (na := 46) (nb := (6 * c.toNatClampNeg)) rfl rfl (nc := (46 + (6 * c.toNatClampNeg))) rfl ?_
                      refine r_iload C dX7_comeUp_193 rfl ?_
                      refine r_iaddN C dX7_comeUp_195 (na := (46 + (6 * c.toNatClampNeg))) (nb := t) rfl rfl (nc := ((46 + (6 * c.toNatClampNeg)) + t)) rfl ?_
                      refine r_iconst C dX7_comeUp_196 (0 : Int32) (by decide) ?_
                      refine r_iast C hb146 (k := 0) rfl rfl (by unfold fp1; omega) (vp_in_n rfl (by omega) (by omega)) (j := ((46 + (6 * c.toNatClampNeg)) + t)) (cl_n rfl (by omega)) dX7_comeUp_197 (fun H149 hb151 hq150 => ?_)
                      have hb152 := blk_kept hb147 (n := 1) rfl (fun q h1 h2 => hq150 q (by omega))
                      have hb153 := blk_kept hb148 (n := 1) rfl (fun q h1 h2 => hq150 q (by omega))
                      refine r_iconst C dX7_comeUp_198 (0 : Int32) (by decide) ?_
                      refine r_istore C dX7_comeUp_199 (ls' := [.val (.ref o_m), .val (.ref o_s), .val (.int c), .val (.int (has + (R 0 (1 + t)))), .val (.int (0 : Int32)), .val (.int (nI t)), .val (.int u23), .val (.int (R 0 (19 + t)))]) rfl rfl rfl ?_
                      refine r_goto C dX7_comeUp_201 ?_
                      refine r_iinc C dX7_comeUp_232 (nI (t + 1)) rfl (nI_inc t rfl) (ls' := [.val (.ref o_m), .val (.ref o_s), .val (.int c), .val (.int (has + (R 0 (1 + t)))), .val (.int (0 : Int32)), .val (.int (nI (t + 1))), .val (.int u23), .val (.int (R 0 (19 + t)))]) rfl ?_
                      refine r_goto C dX7_comeUp_235 ?_
                      have e154 : s3 = d_X7_comeUp_L8 R_m R_q c n1 (pt (pt (pt R 0 (1 + t) (0 : Int32)) 0 (25 + t) (1 : Int32)) 0 ((46 + (6 * c.toNatClampNeg)) + t) (0 : Int32)) (has + (R 0 (1 + t))) (0 : Int32) (t + 1) := by rw [hs3, d_X7_comeUp_L8]; try exact (if_neg c16).trans ((if_neg c20).trans ((if_neg c22).trans ((lt_eq hu23).trans ((if_neg c30).trans ((if_pos c31).trans ((if_pos c93).trans ((if_pos c94).trans ((if_neg c125).trans (rfl)))))))))
                      exact ih2 (pt (pt (pt R 0 (1 + t) (0 : Int32)) 0 (25 + t) (1 : Int32)) 0 ((46 + (6 * c.toNatClampNeg)) + t) (0 : Int32)) (has + (R 0 (1 + t))) (0 : Int32) (t + 1) _ (.val (.int u23)) rfl (.val (.int (R 0 (19 + t)))) rfl trivial (by omega) (by omega) hb152 hb153 hb151 s3 e154  kx4
                · skip
                  refine r_iload_n C dX7_comeUp_109 rfl ?_
                  refine r_aload_n C dX7_comeUp_110 rfl ?_
                  refine r_aload_n C dX7_comeUp_111 rfl ?_
                  refine r_iload_n C dX7_comeUp_112 rfl ?_
                  refine r_iload C dX7_comeUp_113 rfl ?_
                  refine r_iload C dX7_comeUp_115 rfl ?_
                  refine r_iconst C dX7_comeUp_117 (3 : Int32) (by decide) ?_
                  refine r_idiv C dX7_comeUp_118 (by decide) ?_
                  obtain ⟨u155, hu155⟩ : ∃ r, r = d_X7_pays R_m R_q R c (nI t) (u23 / (3 : Int32)) := ⟨_, rfl⟩
                  refine r_callV0 C cw_X7_123 (fun l => c_X7_pays l D o_m o_s R_m R_q R c (nI t) (u23 / (3 : Int32)) hc (by omega) (nnat (a := t) rfl (by omega)) (by have q0 := cl_n (x := (nI t)) (n := t) rfl (by omega); omega) (by omega) (by omega) u155 hu155) (rest := [.int has]) hb27 (k := 0) rfl rfl celO_7 ⟨hb27, hb28, hb29⟩ (fun q h => by unfold fp1 at h; unfold fp1; omega) rfl rfl rfl (Nat.le_of_ble_eq_true rfl) ⟨Nat.le_of_ble_eq_true rfl, Nat.le_of_ble_eq_true rfl, Nat.le_refl 0, Nat.le_refl 0⟩ dX7_comeUp_119 (fun v H156 hp157 hq158 => ?_)
                  obtain ⟨rfl, hn159⟩ := hp157
                  have hb160 := blk_kept hb27 (n := 1) rfl (fun q h1 h2 => hq158 q (by unfold fp1; omega))
                  have hb161 := blk_kept hb28 (n := 1) rfl (fun q h1 h2 => hq158 q (by unfold fp1; omega))
                  dsimp only [psh]
                  refine r_iadd C dX7_comeUp_122 ?_
                  refine r_istore_n C dX7_comeUp_123 (ls' := [.val (.ref o_m), .val (.ref o_s), .val (.int c), .val (.int (has + u155.1)), .val (.int goes), .val (.int (nI t)), .val (.int u23), .val (.int (R 0 (19 + t)))]) rfl rfl rfl ?_
                  refine r_goto C dX7_comeUp_124 ?_
                  refine r_iinc C dX7_comeUp_232 (nI (t + 1)) rfl (nI_inc t rfl) (ls' := [.val (.ref o_m), .val (.ref o_s), .val (.int c), .val (.int (has + u155.1)), .val (.int goes), .val (.int (nI (t + 1))), .val (.int u23), .val (.int (R 0 (19 + t)))]) rfl ?_
                  refine r_goto C dX7_comeUp_235 ?_
                  have e162 : s3 = d_X7_comeUp_L8 R_m R_q c n1 u155.2 (has + u155.1) goes (t + 1) := by rw [hs3, d_X7_comeUp_L8]; try exact (if_neg c16).trans ((if_neg c20).trans ((if_neg c22).trans ((lt_eq hu23).trans ((if_neg c30).trans ((if_pos c31).trans ((if_neg c93).trans ((lt_eq hu155).trans (rfl))))))))
                  exact ih2 u155.2 (has + u155.1) goes (t + 1) _ (.val (.int u23)) rfl (.val (.int (R 0 (19 + t)))) rfl trivial (by omega) (by omega) hb160 hb161 hn159 s3 e162  kx4
            · skip
              refine r_aload_n C dX7_comeUp_60 rfl ?_
              refine r_iconst C dX7_comeUp_61 (1 : Int32) (by decide) ?_
              refine r_iload C dX7_comeUp_62 rfl ?_
              refine r_iaddN C dX7_comeUp_64 (na := 1) (nb := t) rfl rfl (nc := (1 + t)) rfl ?_
              refine r_iald C hb29 (k := 0) rfl rfl (vp_in_n rfl (by omega) (by omega)) (j := (1 + t)) (cl_n rfl (by omega)) dX7_comeUp_65 ?_
              refine r_iload C dX7_comeUp_66 rfl ?_
              refine r_ic_lt C dX7_comeUp_68 (fun c163 => ?_) (fun c163 => ?_)
              · skip
                refine r_iload C dX7_comeUp_90 rfl ?_
                refine r_iconst C dX7_comeUp_92 (2 : Int32) (by decide) ?_
                refine r_ic_ne C dX7_comeUp_93 (fun c164 => ?_) (fun c164 => ?_)
                · skip
                  refine r_aload_n C dX7_comeUp_127 rfl ?_
                  refine r_bipush C dX7_comeUp_128 (37 : Int32) (by decide) ?_
                  refine r_iload_n C dX7_comeUp_130 rfl ?_
                  refine r_iaddN C dX7_comeUp_131 (na := 37) (nb := c.toNatClampNeg) rfl hc (nc := (37 + c.toNatClampNeg)) rfl ?_
                  refine r_iald C hb29 (k := 0) rfl rfl (vp_in_n rfl (by omega) (by omega)) (j := (37 + c.toNatClampNeg)) (cl_n rfl (by omega)) dX7_comeUp_132 ?_
                  refine r_aload_n C dX7_comeUp_133 rfl ?_
                  refine r_get C hb27 (k := 0) rfl rfl celO_7 fw_X7_22 rfl dX7_comeUp_134 ?_
                  refine r_iload C dX7_comeUp_137 rfl ?_
                  refine r_iald C hb28 (k := 0) rfl rfl (vp_in_n rfl (by omega) (by omega)) (j := t) (cl_n rfl (by omega)) dX7_comeUp_139 ?_
                  refine r_iconst C dX7_comeUp_140 (1 : Int32) (by decide) ?_
                  refine r_ic_ne C dX7_comeUp_141 (fun c165 => ?_) (fun c165 => ?_)
                  · skip
                    refine r_iconst C dX7_comeUp_149 (5 : Int32) (by decide) ?_
                    refine r_aload_n C dX7_comeUp_150 rfl ?_
                    refine r_bipush C dX7_comeUp_151 (13 : Int32) (by decide) ?_
                    refine r_iload C dX7_comeUp_153 rfl ?_
                    refine r_iaddN C dX7_comeUp_155 (na := 13) (nb := t) rfl rfl (nc := (13 + t)) rfl ?_
                    refine r_iald C hb29 (k := 0) rfl rfl (vp_in_n rfl (by omega) (by omega)) (j := (13 + t)) (cl_n rfl (by omega)) dX7_comeUp_156 ?_
                    refine r_imul C dX7_comeUp_157 ?_
                    refine r_ic_le C dX7_comeUp_158 (fun c166 => ?_) (fun c166 => ?_)
                    · skip
                      refine r_aload_n C dX7_comeUp_204 rfl ?_
                      refine r_bipush C dX7_comeUp_205 (37 : Int32) (by decide) ?_
                      refine r_iload_n C dX7_comeUp_207 rfl ?_
                      refine r_iaddN C dX7_comeUp_208 (na := 37) (nb := c.toNatClampNeg) rfl hc (nc := (37 + c.toNatClampNeg)) rfl ?_
                      refine r_aload_n C dX7_comeUp_209 rfl ?_
                      refine r_bipush C dX7_comeUp_210 (37 : Int32) (by decide) ?_
                      refine r_iload_n C dX7_comeUp_212 rfl ?_
                      refine r_iaddN C dX7_comeUp_213 (na := 37) (nb := c.toNatClampNeg) rfl hc (nc := (37 + c.toNatClampNeg)) rfl ?_
                      refine r_iald C hb29 (k := 0) rfl rfl (vp_in_n rfl (by omega) (by omega)) (j := (37 + c.toNatClampNeg)) (cl_n rfl (by omega)) dX7_comeUp_214 ?_
                      refine r_iconst C dX7_comeUp_215 (3 : Int32) (by decide) ?_
                      refine r_ic_le C dX7_comeUp_216 (fun c167 => ?_) (fun c167 => ?_)
                      · skip
                        refine r_iconst C dX7_comeUp_230 (1 : Int32) (by decide) ?_
                        refine r_iast C hb29 (k := 0) rfl rfl (by unfold fp1; omega) (vp_in_n rfl (by omega) (by omega)) (j := (37 + c.toNatClampNeg)) (cl_n rfl (by omega)) dX7_comeUp_231 (fun H168 hb170 hq169 => ?_)
                        have hb171 := blk_kept hb27 (n := 1) rfl (fun q h1 h2 => hq169 q (by omega))
                        have hb172 := blk_kept hb28 (n := 1) rfl (fun q h1 h2 => hq169 q (by omega))
                        refine r_iinc C dX7_comeUp_232 (nI (t + 1)) rfl (nI_inc t rfl) (ls' := [.val (.ref o_m), .val (.ref o_s), .val (.int c), .val (.int has), .val (.int goes), .val (.int (nI (t + 1))), .val (.int u23), .val (.int (R 0 (19 + t)))]) rfl ?_
                        refine r_goto C dX7_comeUp_235 ?_
                        have e173 : s3 = d_X7_comeUp_L8 R_m R_q c n1 (pt R 0 (37 + c.toNatClampNeg) (1 : Int32)) has goes (t + 1) := by rw [hs3, d_X7_comeUp_L8]; try exact (if_neg c16).trans ((if_neg c20).trans ((if_neg c22).trans ((lt_eq hu23).trans ((if_pos c30).trans ((if_pos c163).trans ((if_neg c164).trans ((if_neg c165).trans ((if_pos c166).trans ((if_pos c167).trans (rfl))))))))))
                        exact ih2 (pt R 0 (37 + c.toNatClampNeg) (1 : Int32)) has goes (t + 1) _ (.val (.int u23)) rfl (.val (.int (R 0 (19 + t)))) rfl trivial (by omega) (by omega) hb171 hb172 hb170 s3 e173  kx4
                      · skip
                        refine r_aload_n C dX7_comeUp_219 rfl ?_
                        refine r_bipush C dX7_comeUp_220 (37 : Int32) (by decide) ?_
                        refine r_iload_n C dX7_comeUp_222 rfl ?_
                        refine r_iaddN C dX7_comeUp_223 (na := 37) (nb := c.toNatClampNeg) rfl hc (nc := (37 + c.toNatClampNeg)) rfl ?_
                        refine r_iald C hb29 (k := 0) rfl rfl (vp_in_n rfl (by omega) (by omega)) (j := (37 + c.toNatClampNeg)) (cl_n rfl (by omega)) dX7_comeUp_224 ?_
                        refine r_iconst C dX7_comeUp_225 (2 : Int32) (by decide) ?_
                        refine r_isub C dX7_comeUp_226 ?_
                        refine r_goto C dX7_comeUp_227 ?_
                        refine r_iast C hb29 (k := 0) rfl rfl (by unfold fp1; omega) (vp_in_n rfl (by omega) (by omega)) (j := (37 + c.toNatClampNeg)) (cl_n rfl (by omega)) dX7_comeUp_231 (fun H174 hb176 hq175 => ?_)
                        have hb177 := blk_kept hb27 (n := 1) rfl (fun q h1 h2 => hq175 q (by omega))
                        have hb178 := blk_kept hb28 (n := 1) rfl (fun q h1 h2 => hq175 q (by omega))
                        refine r_iinc C dX7_comeUp_232 (nI (t + 1)) rfl (nI_inc t rfl) (ls' := [.val (.ref o_m), .val (.ref o_s), .val (.int c), .val (.int has), .val (.int goes), .val (.int (nI (t + 1))), .val (.int u23), .val (.int (R 0 (19 + t)))]) rfl ?_
                        refine r_goto C dX7_comeUp_235 ?_
                        have e179 : s3 = d_X7_comeUp_L8 R_m R_q c n1 (pt R 0 (37 + c.toNatClampNeg) ((R 0 (37 + c.toNatClampNeg)) - (2 : Int32))) has goes (t + 1) := by rw [hs3, d_X7_comeUp_L8]; try exact (if_neg c16).trans ((if_neg c20).trans ((if_neg c22).trans ((lt_eq hu23).trans ((if_pos c30).trans ((if_pos c163).trans ((if_neg c164).trans ((if_neg c165).trans ((if_pos c166).trans ((if_neg c167).trans (rfl))))))))))
                        exact ih2 (pt R 0 (37 + c.toNatClampNeg) ((R 0 (37 + c.toNatClampNeg)) - (2 : Int32))) has goes (t + 1) _ (.val (.int u23)) rfl (.val (.int (R 0 (19 + t)))) rfl trivial (by omega) (by omega) hb177 hb178 hb176 s3 e179  kx4
                    · skip
                      refine r_iload_n C dX7_comeUp_161 rfl ?_
                      refine r_aload_n C dX7_comeUp_162 rfl ?_
                      refine r_iconst C dX7_comeUp_163 (1 : Int32) (by decide) ?_
                      refine r_iload C dX7_comeUp_164 rfl ?_
                      refine r_iaddN C dX7_comeUp_166 (na := 1) (nb := t) rfl rfl (nc := (1 + t)) rfl ?_
                      refine r_iald C hb29 (k := 0) rfl rfl (vp_in_n rfl (by omega) (by omega)) (j := (1 + t)) (cl_n rfl (by omega)) dX7_comeUp_167 ?_
                      refine r_iadd C dX7_comeUp_168 ?_
                      refine r_istore_n C dX7_comeUp_169 (ls' := [.val (.ref o_m), .val (.ref o_s), .val (.int c), .val (.int (has + (R 0 (1 + t)))), .val (.int goes), .val (.int (nI t)), .val (.int u23), .val (.int (R 0 (19 + t)))]) rfl rfl rfl ?_
                      refine r_aload_n C dX7_comeUp_170 rfl ?_
                      refine r_iconst C dX7_comeUp_171 (1 : Int32) (by decide) ?_
                      refine r_iload C dX7_comeUp_172 rfl ?_
                      refine r_iaddN C dX7_comeUp_174 (na := 1) (nb := t) rfl rfl (nc := (1 + t)) rfl ?_
                      refine r_iconst C dX7_comeUp_175 (0 : Int32) (by decide) ?_
                      refine r_iast C hb29 (k := 0) rfl rfl (by unfold fp1; omega) (vp_in_n rfl (by omega) (by omega)) (j := (1 + t)) (cl_n rfl (by omega)) dX7_comeUp_176 (fun H180 hb182 hq181 => ?_)
                      have hb183 := blk_kept hb27 (n := 1) rfl (fun q h1 h2 => hq181 q (by omega))
                      have hb184 := blk_kept hb28 (n := 1) rfl (fun q h1 h2 => hq181 q (by omega))
                      refine r_aload_n C dX7_comeUp_177 rfl ?_
                      refine r_bipush C dX7_comeUp_178 (25 : Int32) (by decide) ?_
                      refine r_iload C dX7_comeUp_180 rfl ?_
                      refine r_iaddN C dX7_comeUp_182 (na := 25) (nb := t) rfl rfl (nc := (25 + t)) rfl ?_
                      refine r_iconst C dX7_comeUp_183 (1 : Int32) (by decide) ?_
                      refine r_iast C hb182 (k := 0) rfl rfl (by unfold fp1; omega) (vp_in_n rfl (by omega) (by omega)) (j := (25 + t)) (cl_n rfl (by omega)) dX7_comeUp_184 (fun H185 hb187 hq186 => ?_)
                      have hb188 := blk_kept hb183 (n := 1) rfl (fun q h1 h2 => hq186 q (by omega))
                      have hb189 := blk_kept hb184 (n := 1) rfl (fun q h1 h2 => hq186 q (by omega))
                      refine r_aload_n C dX7_comeUp_185 rfl ?_
                      refine r_bipush C dX7_comeUp_186 (46 : Int32) (by decide) ?_
                      refine r_bipush C dX7_comeUp_188 (6 : Int32) (by decide) ?_
                      refine r_iload_n C dX7_comeUp_190 rfl ?_
                      refine r_imulN C dX7_comeUp_191 (na := 6) (nb := c.toNatClampNeg) rfl hc (nc := (6 * c.toNatClampNeg)) rfl ?_
                      refine r_iaddN C dX7_comeUp_192 (na := 46) (nb := (6 * c.toNatClampNeg)) rfl rfl (nc := (46 + (6 * c.toNatClampNeg))) rfl ?_
                      refine r_iload C dX7_comeUp_193 rfl ?_
                      refine r_iaddN C dX7_comeUp_195 (na := (46 + (6 * c.toNatClampNeg))) (nb := t) rfl rfl (nc := ((46 + (6 * c.toNatClampNeg)) + t)) rfl ?_
                      refine r_iconst C dX7_comeUp_196 (0 : Int32) (by decide) ?_
                      refine r_iast C hb187 (k := 0) rfl rfl (by unfold fp1; omega) (vp_in_n rfl (by omega) (by omega)) (j := ((46 + (6 * c.toNatClampNeg)) + t)) (cl_n rfl (by omega)) dX7_comeUp_197 (fun H190 hb192 hq191 => ?_)
                      have hb193 := blk_kept hb188 (n := 1) rfl (fun q h1 h2 => hq191 q (by omega))
                      have hb194 := blk_kept hb189 (n := 1) rfl (fun q h1 h2 => hq191 q (by omega))
                      refine r_iconst C dX7_comeUp_198 (0 : Int32) (by decide) ?_
                      refine r_istore C dX7_comeUp_199 (ls' := [.val (.ref o_m), .val (.ref o_s), .val (.int c), .val (.int (has + (R 0 (1 + t)))), .val (.int (0 : Int32)), .val (.int (nI t)), .val (.int u23), .val (.int (R 0 (19 + t)))]) rfl rfl rfl ?_
                      refine r_goto C dX7_comeUp_201 ?_
                      refine r_iinc C dX7_comeUp_232 (nI (t + 1)) rfl (nI_inc t rfl) (ls' := [.val (.ref o_m), .val (.ref o_s), .val (.int c), .val (.int (has + (R 0 (1 + t)))), .val (.int (0 : Int32)), .val (.int (nI (t + 1))), .val (.int u23), .val (.int (R 0 (19 + t)))]) rfl ?_
                      refine r_goto C dX7_comeUp_235 ?_
                      have e195 : s3 = d_X7_comeUp_L8 R_m R_q c n1 (pt (pt (pt R 0 (1 + t) (0 : Int32)) 0 (25 + t) (1 : Int32)) 0 ((46 + (6 * c.toNatClampNeg)) + t) (0 : Int32)) (has + (R 0 (1 + t))) (0 : Int32) (t + 1) := by rw [hs3, d_X7_comeUp_L8]; try exact (if_neg c16).trans ((if_neg c20).trans ((if_neg c22).trans ((lt_eq hu23).trans ((if_pos c30).trans ((if_pos c163).trans ((if_neg c164).trans ((if_neg c165).trans ((if_neg c166).trans (rfl)))))))))
                      exact ih2 (pt (pt (pt R 0 (1 + t) (0 : Int32)) 0 (25 + t) (1 : Int32)) 0 ((46 + (6 * c.toNatClampNeg)) + t) (0 : Int32)) (has + (R 0 (1 + t))) (0 : Int32) (t + 1) _ (.val (.int u23)) rfl (.val (.int (R 0 (19 + t)))) rfl trivial (by omega) (by omega) hb193 hb194 hb192 s3 e195  kx4
                  · skip
                    refine r_bipush C dX7_comeUp_144 (6 : Int32) (by decide) ?_
                    refine r_goto C dX7_comeUp_146 ?_
                    refine r_aload_n C dX7_comeUp_150 rfl ?_
                    refine r_bipush C dX7_comeUp_151 (13 : Int32) (by decide) ?_
                    refine r_iload C dX7_comeUp_153 rfl ?_
                    refine r_iaddN C dX7_comeUp_155 (na := 13) (nb := t) rfl rfl (nc := (13 + t)) rfl ?_
                    refine r_iald C hb29 (k := 0) rfl rfl (vp_in_n rfl (by omega) (by omega)) (j := (13 + t)) (cl_n rfl (by omega)) dX7_comeUp_156 ?_
                    refine r_imul C dX7_comeUp_157 ?_
                    refine r_ic_le C dX7_comeUp_158 (fun c196 => ?_) (fun c196 => ?_)
                    · skip
                      refine r_aload_n C dX7_comeUp_204 rfl ?_
                      refine r_bipush C dX7_comeUp_205 (37 : Int32) (by decide) ?_
                      refine r_iload_n C dX7_comeUp_207 rfl ?_
                      refine r_iaddN C dX7_comeUp_208 (na := 37) (nb := c.toNatClampNeg) rfl hc (nc := (37 + c.toNatClampNeg)) rfl ?_
                      refine r_aload_n C dX7_comeUp_209 rfl ?_
                      refine r_bipush C dX7_comeUp_210 (37 : Int32) (by decide) ?_
                      refine r_iload_n C dX7_comeUp_212 rfl ?_
                      refine r_iaddN C dX7_comeUp_213 (na := 37) (nb := c.toNatClampNeg) rfl hc (nc := (37 + c.toNatClampNeg)) rfl ?_
                      refine r_iald C hb29 (k := 0) rfl rfl (vp_in_n rfl (by omega) (by omega)) (j := (37 + c.toNatClampNeg)) (cl_n rfl (by omega)) dX7_comeUp_214 ?_
                      refine r_iconst C dX7_comeUp_215 (3 : Int32) (by decide) ?_
                      refine r_ic_le C dX7_comeUp_216 (fun c197 => ?_) (fun c197 => ?_)
                      · skip
                        refine r_iconst C dX7_comeUp_230 (1 : Int32) (by decide) ?_
                        refine r_iast C hb29 (k := 0) rfl rfl (by unfold fp1; omega) (vp_in_n rfl (by omega) (by omega)) (j := (37 + c.toNatClampNeg)) (cl_n rfl (by omega)) dX7_comeUp_231 (fun H198 hb200 hq199 => ?_)
                        have hb201 := blk_kept hb27 (n := 1) rfl (fun q h1 h2 => hq199 q (by omega))
                        have hb202 := blk_kept hb28 (n := 1) rfl (fun q h1 h2 => hq199 q (by omega))
                        refine r_iinc C dX7_comeUp_232 (nI (t + 1)) rfl (nI_inc t rfl) (ls' := [.val (.ref o_m), .val (.ref o_s), .val (.int c), .val (.int has), .val (.int goes), .val (.int (nI (t + 1))), .val (.int u23), .val (.int (R 0 (19 + t)))]) rfl ?_
                        refine r_goto C dX7_comeUp_235 ?_
                        have e203 : s3 = d_X7_comeUp_L8 R_m R_q c n1 (pt R 0 (37 + c.toNatClampNeg) (1 : Int32)) has goes (t + 1) := by rw [hs3, d_X7_comeUp_L8]; try exact (if_neg c16).trans ((if_neg c20).trans ((if_neg c22).trans ((lt_eq hu23).trans ((if_pos c30).trans ((if_pos c163).trans ((if_neg c164).trans ((if_pos c165).trans ((if_pos c196).trans ((if_pos c197).trans (rfl))))))))))
                        exact ih2 (pt R 0 (37 + c.toNatClampNeg) (1 : Int32)) has goes (t + 1) _ (.val (.int u23)) rfl (.val (.int (R 0 (19 + t)))) rfl trivial (by omega) (by omega) hb201 hb202 hb200 s3 e203  kx4
                      · skip
                        refine r_aload_n C dX7_comeUp_219 rfl ?_
                        refine r_bipush C dX7_comeUp_220 (37 : Int32) (by decide) ?_
                        refine r_iload_n C dX7_comeUp_222 rfl ?_
                        refine r_iaddN C dX7_comeUp_223 (na := 37) (nb := c.toNatClampNeg) rfl hc (nc := (37 + c.toNatClampNeg)) rfl ?_
                        refine r_iald C hb29 (k := 0) rfl rfl (vp_in_n rfl (by omega) (by omega)) (j := (37 + c.toNatClampNeg)) (cl_n rfl (by omega)) dX7_comeUp_224 ?_
                        refine r_iconst C dX7_comeUp_225 (2 : Int32) (by decide) ?_
                        refine r_isub C dX7_comeUp_226 ?_
                        refine r_goto C dX7_comeUp_227 ?_
                        refine r_iast C hb29 (k := 0) rfl rfl (by unfold fp1; omega) (vp_in_n rfl (by omega) (by omega)) (j := (37 + c.toNatClampNeg)) (cl_n rfl (by omega)) dX7_comeUp_231 (fun H204 hb206 hq205 => ?_)
                        have hb207 := blk_kept hb27 (n := 1) rfl (fun q h1 h2 => hq205 q (by omega))
                        have hb208 := blk_kept hb28 (n := 1) rfl (fun q h1 h2 => hq205 q (by omega))
                        refine r_iinc C dX7_comeUp_232 (nI (t + 1)) rfl (nI_inc t rfl) (ls' := [.val (.ref o_m), .val (.ref o_s), .val (.int c), .val (.int has), .val (.int goes), .val (.int (nI (t + 1))), .val (.int u23), .val (.int (R 0 (19 + t)))]) rfl ?_
                        refine r_goto C dX7_comeUp_235 ?_
                        have e209 : s3 = d_X7_comeUp_L8 R_m R_q c n1 (pt R 0 (37 + c.toNatClampNeg) ((R 0 (37 + c.toNatClampNeg)) - (2 : Int32))) has goes (t + 1) := by rw [hs3, d_X7_comeUp_L8]; try exact (if_neg c16).trans ((if_neg c20).trans ((if_neg c22).trans ((lt_eq hu23).trans ((if_pos c30).trans ((if_pos c163).trans ((if_neg c164).trans ((if_pos c165).trans ((if_pos c196).trans ((if_neg c197).trans (rfl))))))))))
                        exact ih2 (pt R 0 (37 + c.toNatClampNeg) ((R 0 (37 + c.toNatClampNeg)) - (2 : Int32))) has goes (t + 1) _ (.val (.int u23)) rfl (.val (.int (R 0 (19 + t)))) rfl trivial (by omega) (by omega) hb207 hb208 hb206 s3 e209  kx4
                    · skip
                      refine r_iload_n C dX7_comeUp_161 rfl ?_
                      refine r_aload_n C dX7_comeUp_162 rfl ?_
                      refine r_iconst C dX7_comeUp_163 (1 : Int32) (by decide) ?_
                      refine r_iload C dX7_comeUp_164 rfl ?_
                      refine r_iaddN C dX7_comeUp_166 (na := 1) (nb := t) rfl rfl (nc := (1 + t)) rfl ?_
                      refine r_iald C hb29 (k := 0) rfl rfl (vp_in_n rfl (by omega) (by omega)) (j := (1 + t)) (cl_n rfl (by omega)) dX7_comeUp_167 ?_
                      refine r_iadd C dX7_comeUp_168 ?_
                      refine r_istore_n C dX7_comeUp_169 (ls' := [.val (.ref o_m), .val (.ref o_s), .val (.int c), .val (.int (has + (R 0 (1 + t)))), .val (.int goes), .val (.int (nI t)), .val (.int u23), .val (.int (R 0 (19 + t)))]) rfl rfl rfl ?_
                      refine r_aload_n C dX7_comeUp_170 rfl ?_
                      refine r_iconst C dX7_comeUp_171 (1 : Int32) (by decide) ?_
                      refine r_iload C dX7_comeUp_172 rfl ?_
                      refine r_iaddN C dX7_comeUp_174 (na := 1) (nb := t) rfl rfl (nc := (1 + t)) rfl ?_
                      refine r_iconst C dX7_comeUp_175 (0 : Int32) (by decide) ?_
                      refine r_iast C hb29 (k := 0) rfl rfl (by unfold fp1; omega) (vp_in_n rfl (by omega) (by omega)) (j := (1 + t)) (cl_n rfl (by omega)) dX7_comeUp_176 (fun H210 hb212 hq211 => ?_)
                      have hb213 := blk_kept hb27 (n := 1) rfl (fun q h1 h2 => hq211 q (by omega))
                      have hb214 := blk_kept hb28 (n := 1) rfl (fun q h1 h2 => hq211 q (by omega))
                      refine r_aload_n C dX7_comeUp_177 rfl ?_
                      refine r_bipush C dX7_comeUp_178 (25 : Int32) (by decide) ?_
                      refine r_iload C dX7_comeUp_180 rfl ?_
                      refine r_iaddN C dX7_comeUp_182 (na := 25) (nb := t) rfl rfl (nc := (25 + t)) rfl ?_
                      refine r_iconst C dX7_comeUp_183 (1 : Int32) (by decide) ?_
                      refine r_iast C hb212 (k := 0) rfl rfl (by unfold fp1; omega) (vp_in_n rfl (by omega) (by omega)) (j := (25 + t)) (cl_n rfl (by omega)) dX7_comeUp_184 (fun H215 hb217 hq216 => ?_)
                      have hb218 := blk_kept hb213 (n := 1) rfl (fun q h1 h2 => hq216 q (by omega))
                      have hb219 := blk_kept hb214 (n := 1) rfl (fun q h1 h2 => hq216 q (by omega))
                      refine r_aload_n C dX7_comeUp_185 rfl ?_
                      refine r_bipush C dX7_comeUp_186 (46 : Int32) (by decide) ?_
                      refine r_bipush C dX7_comeUp_188 (6 : Int32) (by decide) ?_
                      refine r_iload_n C dX7_comeUp_190 rfl ?_
                      refine r_imulN C dX7_comeUp_191 (na := 6) (nb := c.toNatClampNeg) rfl hc (nc := (6 * c.toNatClampNeg)) rfl ?_
                      refine r_iaddN C dX7_comeUp_192 (na := 46) (nb := (6 * c.toNatClampNeg)) rfl rfl (nc := (46 + (6 * c.toNatClampNeg))) rfl ?_
                      refine r_iload C dX7_comeUp_193 rfl ?_
                      refine r_iaddN C dX7_comeUp_195 (na := (46 + (6 * c.toNatClampNeg))) (nb := t) rfl rfl (nc := ((46 + (6 * c.toNatClampNeg)) + t)) rfl ?_
                      refine r_iconst C dX7_comeUp_196 (0 : Int32) (by decide) ?_
                      refine r_iast C hb217 (k := 0) rfl rfl (by unfold fp1; omega) (vp_in_n rfl (by omega) (by omega)) (j := ((46 + (6 * c.toNatClampNeg)) + t)) (cl_n rfl (by omega)) dX7_comeUp_197 (fun H220 hb222 hq221 => ?_)
                      have hb223 := blk_kept hb218 (n := 1) rfl (fun q h1 h2 => hq221 q (by omega))
                      have hb224 := blk_kept hb219 (n := 1) rfl (fun q h1 h2 => hq221 q (by omega))
                      refine r_iconst C dX7_comeUp_198 (0 : Int32) (by decide) ?_
                      refine r_istore C dX7_comeUp_199 (ls' := [.val (.ref o_m), .val (.ref o_s), .val (.int c), .val (.int (has + (R 0 (1 + t)))), .val (.int (0 : Int32)), .val (.int (nI t)), .val (.int u23), .val (.int (R 0 (19 + t)))]) rfl rfl rfl ?_
                      refine r_goto C dX7_comeUp_201 ?_
                      refine r_iinc C dX7_comeUp_232 (nI (t + 1)) rfl (nI_inc t rfl) (ls' := [.val (.ref o_m), .val (.ref o_s), .val (.int c), .val (.int (has + (R 0 (1 + t)))), .val (.int (0 : Int32)), .val (.int (nI (t + 1))), .val (.int u23), .val (.int (R 0 (19 + t)))]) rfl ?_
                      refine r_goto C dX7_comeUp_235 ?_
                      have e225 : s3 = d_X7_comeUp_L8 R_m R_q c n1 (pt (pt (pt R 0 (1 + t) (0 : Int32)) 0 (25 + t) (1 : Int32)) 0 ((46 + (6 * c.toNatClampNeg)) + t) (0 : Int32)) (has + (R 0 (1 + t))) (0 : Int32) (t + 1) := by rw [hs3, d_X7_comeUp_L8]; try exact (if_neg c16).trans ((if_neg c20).trans ((if_neg c22).trans ((lt_eq hu23).trans ((if_pos c30).trans ((if_pos c163).trans ((if_neg c164).trans ((if_pos c165).trans ((if_neg c196).trans (rfl)))))))))
                      exact ih2 (pt (pt (pt R 0 (1 + t) (0 : Int32)) 0 (25 + t) (1 : Int32)) 0 ((46 + (6 * c.toNatClampNeg)) + t) (0 : Int32)) (has + (R 0 (1 + t))) (0 : Int32) (t + 1) _ (.val (.int u23)) rfl (.val (.int (R 0 (19 + t)))) rfl trivial (by omega) (by omega) hb223 hb224 hb222 s3 e225  kx4
                · skip
                  refine r_aload_n C dX7_comeUp_96 rfl ?_
                  refine r_iconst C dX7_comeUp_97 (1 : Int32) (by decide) ?_
                  refine r_iload C dX7_comeUp_98 rfl ?_
                  refine r_iaddN C dX7_comeUp_100 (na := 1) (nb := t) rfl rfl (nc := (1 + t)) rfl ?_
                  refine r_iald C hb29 (k := 0) rfl rfl (vp_in_n rfl (by omega) (by omega)) (j := (1 + t)) (cl_n rfl (by omega)) dX7_comeUp_101 ?_
                  refine r_iload C dX7_comeUp_102 rfl ?_
                  refine r_iconst C dX7_comeUp_104 (3 : Int32) (by decide) ?_
                  refine r_idiv C dX7_comeUp_105 (by decide) ?_
                  refine r_ic_lt C dX7_comeUp_106 (fun c226 => ?_) (fun c226 => ?_)
                  · skip
                    refine r_aload_n C dX7_comeUp_127 rfl ?_
                    refine r_bipush C dX7_comeUp_128 (37 : Int32) (by decide) ?_
                    refine r_iload_n C dX7_comeUp_130 rfl ?_
                    refine r_iaddN C dX7_comeUp_131 (na := 37) (nb := c.toNatClampNeg) rfl hc (nc := (37 + c.toNatClampNeg)) rfl ?_
                    refine r_iald C hb29 (k := 0) rfl rfl (vp_in_n rfl (by omega) (by omega)) (j := (37 + c.toNatClampNeg)) (cl_n rfl (by omega)) dX7_comeUp_132 ?_
                    refine r_aload_n C dX7_comeUp_133 rfl ?_
                    refine r_get C hb27 (k := 0) rfl rfl celO_7 fw_X7_22 rfl dX7_comeUp_134 ?_
                    refine r_iload C dX7_comeUp_137 rfl ?_
                    refine r_iald C hb28 (k := 0) rfl rfl (vp_in_n rfl (by omega) (by omega)) (j := t) (cl_n rfl (by omega)) dX7_comeUp_139 ?_
                    refine r_iconst C dX7_comeUp_140 (1 : Int32) (by decide) ?_
                    refine r_ic_ne C dX7_comeUp_141 (fun c227 => ?_) (fun c227 => ?_)
                    · skip
                      refine r_iconst C dX7_comeUp_149 (5 : Int32) (by decide) ?_
                      refine r_aload_n C dX7_comeUp_150 rfl ?_
                      refine r_bipush C dX7_comeUp_151 (13 : Int32) (by decide) ?_
                      refine r_iload C dX7_comeUp_153 rfl ?_
                      refine r_iaddN C dX7_comeUp_155 (na := 13) (nb := t) rfl rfl (nc := (13 + t)) rfl ?_
                      refine r_iald C hb29 (k := 0) rfl rfl (vp_in_n rfl (by omega) (by omega)) (j := (13 + t)) (cl_n rfl (by omega)) dX7_comeUp_156 ?_
                      refine r_imul C dX7_comeUp_157 ?_
                      refine r_ic_le C dX7_comeUp_158 (fun c228 => ?_) (fun c228 => ?_)
                      · skip
                        refine r_aload_n C dX7_comeUp_204 rfl ?_
                        refine r_bipush C dX7_comeUp_205 (37 : Int32) (by decide) ?_
                        refine r_iload_n C dX7_comeUp_207 rfl ?_
                        refine r_iaddN C dX7_comeUp_208 (na := 37) (nb := c.toNatClampNeg) rfl hc (nc := (37 + c.toNatClampNeg)) rfl ?_
                        refine r_aload_n C dX7_comeUp_209 rfl ?_
                        refine r_bipush C dX7_comeUp_210 (37 : Int32) (by decide) ?_
                        refine r_iload_n C dX7_comeUp_212 rfl ?_
                        refine r_iaddN C dX7_comeUp_213 (na := 37) (nb := c.toNatClampNeg) rfl hc (nc := (37 + c.toNatClampNeg)) rfl ?_
                        refine r_iald C hb29 (k := 0) rfl rfl (vp_in_n rfl (by omega) (by omega)) (j := (37 + c.toNatClampNeg)) (cl_n rfl (by omega)) dX7_comeUp_214 ?_
                        refine r_iconst C dX7_comeUp_215 (3 : Int32) (by decide) ?_
                        refine r_ic_le C dX7_comeUp_216 (fun c229 => ?_) (fun c229 => ?_)
                        · skip
                          refine r_iconst C dX7_comeUp_230 (1 : Int32) (by decide) ?_
                          refine r_iast C hb29 (k := 0) rfl rfl (by unfold fp1; omega) (vp_in_n rfl (by omega) (by omega)) (j := (37 + c.toNatClampNeg)) (cl_n rfl (by omega)) dX7_comeUp_231 (fun H230 hb232 hq231 => ?_)
                          have hb233 := blk_kept hb27 (n := 1) rfl (fun q h1 h2 => hq231 q (by omega))
                          have hb234 := blk_kept hb28 (n := 1) rfl (fun q h1 h2 => hq231 q (by omega))
                          refine r_iinc C dX7_comeUp_232 (nI (t + 1)) rfl (nI_inc t rfl) (ls' := [.val (.ref o_m), .val (.ref o_s), .val (.int c), .val (.int has), .val (.int goes), .val (.int (nI (t + 1))), .val (.int u23), .val (.int (R 0 (19 + t)))]) rfl ?_
                          refine r_goto C dX7_comeUp_235 ?_
                          have e235 : s3 = d_X7_comeUp_L8 R_m R_q c n1 (pt R 0 (37 + c.toNatClampNeg) (1 : Int32)) has goes (t + 1) := by rw [hs3, d_X7_comeUp_L8]; try exact (if_neg c16).trans ((if_neg c20).trans ((if_neg c22).trans ((lt_eq hu23).trans ((if_pos c30).trans ((if_pos c163).trans ((if_pos c164).trans ((if_pos c226).trans ((if_neg c227).trans ((if_pos c228).trans ((if_pos c229).trans (rfl)))))))))))
                          exact ih2 (pt R 0 (37 + c.toNatClampNeg) (1 : Int32)) has goes (t + 1) _ (.val (.int u23)) rfl (.val (.int (R 0 (19 + t)))) rfl trivial (by omega) (by omega) hb233 hb234 hb232 s3 e235  kx4
                        · skip
                          refine r_aload_n C dX7_comeUp_219 rfl ?_
                          refine r_bipush C dX7_comeUp_220 (37 : Int32) (by decide) ?_
                          refine r_iload_n C dX7_comeUp_222 rfl ?_
                          refine r_iaddN C dX7_comeUp_223 (na := 37) (nb := c.toNatClampNeg) rfl hc (nc := (37 + c.toNatClampNeg)) rfl ?_
                          refine r_iald C hb29 (k := 0) rfl rfl (vp_in_n rfl (by omega) (by omega)) (j := (37 + c.toNatClampNeg)) (cl_n rfl (by omega)) dX7_comeUp_224 ?_
                          refine r_iconst C dX7_comeUp_225 (2 : Int32) (by decide) ?_
                          refine r_isub C dX7_comeUp_226 ?_
                          refine r_goto C dX7_comeUp_227 ?_
                          refine r_iast C hb29 (k := 0) rfl rfl (by unfold fp1; omega) (vp_in_n rfl (by omega) (by omega)) (j := (37 + c.toNatClampNeg)) (cl_n rfl (by omega)) dX7_comeUp_231 (fun H236 hb238 hq237 => ?_)
                          have hb239 := blk_kept hb27 (n := 1) rfl (fun q h1 h2 => hq237 q (by omega))
                          have hb240 := blk_kept hb28 (n := 1) rfl (fun q h1 h2 => hq237 q (by omega))
                          refine r_iinc C dX7_comeUp_232 (nI (t + 1)) rfl (nI_inc t rfl) (ls' := [.val (.ref o_m), .val (.ref o_s), .val (.int c), .val (.int has), .val (.int goes), .val (.int (nI (t + 1))), .val (.int u23), .val (.int (R 0 (19 + t)))]) rfl ?_
                          refine r_goto C dX7_comeUp_235 ?_
                          have e241 : s3 = d_X7_comeUp_L8 R_m R_q c n1 (pt R 0 (37 + c.toNatClampNeg) ((R 0 (37 + c.toNatClampNeg)) - (2 : Int32))) has goes (t + 1) := by rw [hs3, d_X7_comeUp_L8]; try exact (if_neg c16).trans ((if_neg c20).trans ((if_neg c22).trans ((lt_eq hu23).trans ((if_pos c30).trans ((if_pos c163).trans ((if_pos c164).trans ((if_pos c226).trans ((if_neg c227).trans ((if_pos c228).trans ((if_neg c229).trans (rfl)))))))))))
                          exact ih2 (pt R 0 (37 + c.toNatClampNeg) ((R 0 (37 + c.toNatClampNeg)) - (2 : Int32))) has goes (t + 1) _ (.val (.int u23)) rfl (.val (.int (R 0 (19 + t)))) rfl trivial (by omega) (by omega) hb239 hb240 hb238 s3 e241  kx4
                      · skip
                        refine r_iload_n C dX7_comeUp_161 rfl ?_
                        refine r_aload_n C dX7_comeUp_162 rfl ?_
                        refine r_iconst C dX7_comeUp_163 (1 : Int32) (by decide) ?_
                        refine r_iload C dX7_comeUp_164 rfl ?_
                        refine r_iaddN C dX7_comeUp_166 (na := 1) (nb := t) rfl rfl (nc := (1 + t)) rfl ?_
                        refine r_iald C hb29 (k := 0) rfl rfl (vp_in_n rfl (by omega) (by omega)) (j := (1 + t)) (cl_n rfl (by omega)) dX7_comeUp_167 ?_
                        refine r_iadd C dX7_comeUp_168 ?_
                        refine r_istore_n C dX7_comeUp_169 (ls' := [.val (.ref o_m), .val (.ref o_s), .val (.int c), .val (.int (has + (R 0 (1 + t)))), .val (.int goes), .val (.int (nI t)), .val (.int u23), .val (.int (R 0 (19 + t)))]) rfl rfl rfl ?_
                        refine r_aload_n C dX7_comeUp_170 rfl ?_
                        refine r_iconst C dX7_comeUp_171 (1 : Int32) (by decide) ?_
                        refine r_iload C dX7_comeUp_172 rfl ?_
                        refine r_iaddN C dX7_comeUp_174 (na := 1) (nb := t) rfl rfl (nc := (1 + t)) rfl ?_
                        refine r_iconst C dX7_comeUp_175 (0 : Int32) (by decide) ?_
                        refine r_iast C hb29 (k := 0) rfl rfl (by unfold fp1; omega) (vp_in_n rfl (by omega) (by omega)) (j := (1 + t)) (cl_n rfl (by omega)) dX7_comeUp_176 (fun H242 hb244 hq243 => ?_)
                        have hb245 := blk_kept hb27 (n := 1) rfl (fun q h1 h2 => hq243 q (by omega))
                        have hb246 := blk_kept hb28 (n := 1) rfl (fun q h1 h2 => hq243 q (by omega))
                        refine r_aload_n C dX7_comeUp_177 rfl ?_
                        refine r_bipush C dX7_comeUp_178 (25 : Int32) (by decide) ?_
                        refine r_iload C dX7_comeUp_180 rfl ?_
                        refine r_iaddN C dX7_comeUp_182 (na := 25) (nb := t) rfl rfl (nc := (25 + t)) rfl ?_
                        refine r_iconst C dX7_comeUp_183 (1 : Int32) (by decide) ?_
                        refine r_iast C hb244 (k := 0) rfl rfl (by unfold fp1; omega) (vp_in_n rfl (by omega) (by omega)) (j := (25 + t)) (cl_n rfl (by omega)) dX7_comeUp_184 (fun H247 hb249 hq248 => ?_)
                        have hb250 := blk_kept hb245 (n := 1) rfl (fun q h1 h2 => hq248 q (by omega))
                        have hb251 := blk_kept hb246 (n := 1) rfl (fun q h1 h2 => hq248 q (by omega))
                        refine r_aload_n C dX7_comeUp_185 rfl ?_
                        refine r_bipush C dX7_comeUp_186 (46 : Int32) (by decide) ?_
                        refine r_bipush C dX7_comeUp_188 (6 : Int32) (by decide) ?_
                        refine r_iload_n C dX7_comeUp_190 rfl ?_
                        refine r_imulN C dX7_comeUp_191 (na := 6) (nb := c.toNatClampNeg) rfl hc (nc := (6 * c.toNatClampNeg)) rfl ?_
                        refine r_iaddN C dX7_comeUp_192 (na := 46) (nb := (6 * c.toNatClampNeg)) rfl rfl (nc := (46 + (6 * c.toNatClampNeg))) rfl ?_
                        refine r_iload C dX7_comeUp_193 rfl ?_
                        refine r_iaddN C dX7_comeUp_195 (na := (46 + (6 * c.toNatClampNeg))) (nb := t) rfl rfl (nc := ((46 + (6 * c.toNatClampNeg)) + t)) rfl ?_
                        refine r_iconst C dX7_comeUp_196 (0 : Int32) (by decide) ?_
                        refine r_iast C hb249 (k := 0) rfl rfl (by unfold fp1; omega) (vp_in_n rfl (by omega) (by omega)) (j := ((46 + (6 * c.toNatClampNeg)) + t)) (cl_n rfl (by omega)) dX7_comeUp_197 (fun H252 hb254 hq253 => ?_)
                        have hb255 := blk_kept hb250 (n := 1) rfl (fun q h1 h2 => hq253 q (by omega))
                        have hb256 := blk_kept hb251 (n := 1) rfl (fun q h1 h2 => hq253 q (by omega))
                        refine r_iconst C dX7_comeUp_198 (0 : Int32) (by decide) ?_
                        refine r_istore C dX7_comeUp_199 (ls' := [.val (.ref o_m), .val (.ref o_s), .val (.int c), .val (.int (has + (R 0 (1 + t)))), .val (.int (0 : Int32)), .val (.int (nI t)), .val (.int u23), .val (.int (R 0 (19 + t)))]) rfl rfl rfl ?_
                        refine r_goto C dX7_comeUp_201 ?_
                        refine r_iinc C dX7_comeUp_232 (nI (t + 1)) rfl (nI_inc t rfl) (ls' := [.val (.ref o_m), .val (.ref o_s), .val (.int c), .val (.int (has + (R 0 (1 + t)))), .val (.int (0 : Int32)), .val (.int (nI (t + 1))), .val (.int u23), .val (.int (R 0 (19 + t)))]) rfl ?_
                        refine r_goto C dX7_comeUp_235 ?_
                        have e257 : s3 = d_X7_comeUp_L8 R_m R_q c n1 (pt (pt (pt R 0 (1 + t) (0 : Int32)) 0 (25 + t) (1 : Int32)) 0 ((46 + (6 * c.toNatClampNeg)) + t) (0 : Int32)) (has + (R 0 (1 + t))) (0 : Int32) (t + 1) := by rw [hs3, d_X7_comeUp_L8]; try exact (if_neg c16).trans ((if_neg c20).trans ((if_neg c22).trans ((lt_eq hu23).trans ((if_pos c30).trans ((if_pos c163).trans ((if_pos c164).trans ((if_pos c226).trans ((if_neg c227).trans ((if_neg c228).trans (rfl))))))))))
                        exact ih2 (pt (pt (pt R 0 (1 + t) (0 : Int32)) 0 (25 + t) (1 : Int32)) 0 ((46 + (6 * c.toNatClampNeg)) + t) (0 : Int32)) (has + (R 0 (1 + t))) (0 : Int32) (t + 1) _ (.val (.int u23)) rfl (.val (.int (R 0 (19 + t)))) rfl trivial (by omega) (by omega) hb255 hb256 hb254 s3 e257  kx4
                    · skip
                      refine r_bipush C dX7_comeUp_144 (6 : Int32) (by decide) ?_
                      refine r_goto C dX7_comeUp_146 ?_
                      refine r_aload_n C dX7_comeUp_150 rfl ?_
                      refine r_bipush C dX7_comeUp_151 (13 : Int32) (by decide) ?_
                      refine r_iload C dX7_comeUp_153 rfl ?_
                      refine r_iaddN C dX7_comeUp_155 (na := 13) (nb := t) rfl rfl (nc := (13 + t)) rfl ?_
                      refine r_iald C hb29 (k := 0) rfl rfl (vp_in_n rfl (by omega) (by omega)) (j := (13 + t)) (cl_n rfl (by omega)) dX7_comeUp_156 ?_
                      refine r_imul C dX7_comeUp_157 ?_
                      refine r_ic_le C dX7_comeUp_158 (fun c258 => ?_) (fun c258 => ?_)
                      · skip
                        refine r_aload_n C dX7_comeUp_204 rfl ?_
                        refine r_bipush C dX7_comeUp_205 (37 : Int32) (by decide) ?_
                        refine r_iload_n C dX7_comeUp_207 rfl ?_
                        refine r_iaddN C dX7_comeUp_208 (na := 37) (nb := c.toNatClampNeg) rfl hc (nc := (37 + c.toNatClampNeg)) rfl ?_
                        refine r_aload_n C dX7_comeUp_209 rfl ?_
                        refine r_bipush C dX7_comeUp_210 (37 : Int32) (by decide) ?_
                        refine r_iload_n C dX7_comeUp_212 rfl ?_
                        refine r_iaddN C dX7_comeUp_213 (na := 37) (nb := c.toNatClampNeg) rfl hc (nc := (37 + c.toNatClampNeg)) rfl ?_
                        refine r_iald C hb29 (k := 0) rfl rfl (vp_in_n rfl (by omega) (by omega)) (j := (37 + c.toNatClampNeg)) (cl_n rfl (by omega)) dX7_comeUp_214 ?_
                        refine r_iconst C dX7_comeUp_215 (3 : Int32) (by decide) ?_
                        refine r_ic_le C dX7_comeUp_216 (fun c259 => ?_) (fun c259 => ?_)
                        · skip
                          refine r_iconst C dX7_comeUp_230 (1 : Int32) (by decide) ?_
                          refine r_iast C hb29 (k := 0) rfl rfl (by unfold fp1; omega) (vp_in_n rfl (by omega) (by omega)) (j := (37 + c.toNatClampNeg)) (cl_n rfl (by omega)) dX7_comeUp_231 (fun H260 hb262 hq261 => ?_)
                          have hb263 := blk_kept hb27 (n := 1) rfl (fun q h1 h2 => hq261 q (by omega))
                          have hb264 := blk_kept hb28 (n := 1) rfl (fun q h1 h2 => hq261 q (by omega))
                          refine r_iinc C dX7_comeUp_232 (nI (t + 1)) rfl (nI_inc t rfl) (ls' := [.val (.ref o_m), .val (.ref o_s), .val (.int c), .val (.int has), .val (.int goes), .val (.int (nI (t + 1))), .val (.int u23), .val (.int (R 0 (19 + t)))]) rfl ?_
                          refine r_goto C dX7_comeUp_235 ?_
                          have e265 : s3 = d_X7_comeUp_L8 R_m R_q c n1 (pt R 0 (37 + c.toNatClampNeg) (1 : Int32)) has goes (t + 1) := by rw [hs3, d_X7_comeUp_L8]; try exact (if_neg c16).trans ((if_neg c20).trans ((if_neg c22).trans ((lt_eq hu23).trans ((if_pos c30).trans ((if_pos c163).trans ((if_pos c164).trans ((if_pos c226).trans ((if_pos c227).trans ((if_pos c258).trans ((if_pos c259).trans (rfl)))))))))))
                          exact ih2 (pt R 0 (37 + c.toNatClampNeg) (1 : Int32)) has goes (t + 1) _ (.val (.int u23)) rfl (.val (.int (R 0 (19 + t)))) rfl trivial (by omega) (by omega) hb263 hb264 hb262 s3 e265  kx4
                        · skip
                          refine r_aload_n C dX7_comeUp_219 rfl ?_
                          refine r_bipush C dX7_comeUp_220 (37 : Int32) (by decide) ?_
                          refine r_iload_n C dX7_comeUp_222 rfl ?_
                          refine r_iaddN C dX7_comeUp_223 (na := 37) (nb := c.toNatClampNeg) rfl hc (nc := (37 + c.toNatClampNeg)) rfl ?_
                          refine r_iald C hb29 (k := 0) rfl rfl (vp_in_n rfl (by omega) (by omega)) (j := (37 + c.toNatClampNeg)) (cl_n rfl (by omega)) dX7_comeUp_224 ?_
                          refine r_iconst C dX7_comeUp_225 (2 : Int32) (by decide) ?_
                          refine r_isub C dX7_comeUp_226 ?_
                          refine r_goto C dX7_comeUp_227 ?_
                          refine r_iast C hb29 (k := 0) rfl rfl (by unfold fp1; omega) (vp_in_n rfl (by omega) (by omega)) (j := (37 + c.toNatClampNeg)) (cl_n rfl (by omega)) dX7_comeUp_231 (fun H266 hb268 hq267 => ?_)
                          have hb269 := blk_kept hb27 (n := 1) rfl (fun q h1 h2 => hq267 q (by omega))
                          have hb270 := blk_kept hb28 (n := 1) rfl (fun q h1 h2 => hq267 q (by omega))
                          refine r_iinc C dX7_comeUp_232 (nI (t + 1)) rfl (nI_inc t rfl) (ls' := [.val (.ref o_m), .val (.ref o_s), .val (.int c), .val (.int has), .val (.int goes), .val (.int (nI (t + 1))), .val (.int u23), .val (.int (R 0 (19 + t)))]) rfl ?_
                          refine r_goto C dX7_comeUp_235 ?_
                          have e271 : s3 = d_X7_comeUp_L8 R_m R_q c n1 (pt R 0 (37 + c.toNatClampNeg) ((R 0 (37 + c.toNatClampNeg)) - (2 : Int32))) has goes (t + 1) := by rw [hs3, d_X7_comeUp_L8]; try exact (if_neg c16).trans ((if_neg c20).trans ((if_neg c22).trans ((lt_eq hu23).trans ((if_pos c30).trans ((if_pos c163).trans ((if_pos c164).trans ((if_pos c226).trans ((if_pos c227).trans ((if_pos c258).trans ((if_neg c259).trans (rfl)))))))))))
                          exact ih2 (pt R 0 (37 + c.toNatClampNeg) ((R 0 (37 + c.toNatClampNeg)) - (2 : Int32))) has goes (t + 1) _ (.val (.int u23)) rfl (.val (.int (R 0 (19 + t)))) rfl trivial (by omega) (by omega) hb269 hb270 hb268 s3 e271  kx4
                      · skip
                        refine r_iload_n C dX7_comeUp_161 rfl ?_
                        refine r_aload_n C dX7_comeUp_162 rfl ?_
                        refine r_iconst C dX7_comeUp_163 (1 : Int32) (by decide) ?_
                        refine r_iload C dX7_comeUp_164 rfl ?_
                        refine r_iaddN C dX7_comeUp_166 (na := 1) (nb := t) rfl rfl (nc := (1 + t)) rfl ?_
                        refine r_iald C hb29 (k := 0) rfl rfl (vp_in_n rfl (by omega) (by omega)) (j := (1 + t)) (cl_n rfl (by omega)) dX7_comeUp_167 ?_
                        refine r_iadd C dX7_comeUp_168 ?_
                        refine r_istore_n C dX7_comeUp_169 (ls' := [.val (.ref o_m), .val (.ref o_s), .val (.int c), .val (.int (has + (R 0 (1 + t)))), .val (.int goes), .val (.int (nI t)), .val (.int u23), .val (.int (R 0 (19 + t)))]) rfl rfl rfl ?_
                        refine r_aload_n C dX7_comeUp_170 rfl ?_
                        refine r_iconst C dX7_comeUp_171 (1 : Int32) (by decide) ?_
                        refine r_iload C dX7_comeUp_172 rfl ?_
                        refine r_iaddN C dX7_comeUp_174 (na := 1) (nb := t) rfl rfl (nc := (1 + t)) rfl ?_
                        refine r_iconst C dX7_comeUp_175 (0 : Int32) (by decide) ?_
                        refine r_iast C hb29 (k := 0) rfl rfl (by unfold fp1; omega) (vp_in_n rfl (by omega) (by omega)) (j := (1 + t)) (cl_n rfl (by omega)) dX7_comeUp_176 (fun H272 hb274 hq273 => ?_)
                        have hb275 := blk_kept hb27 (n := 1) rfl (fun q h1 h2 => hq273 q (by omega))
                        have hb276 := blk_kept hb28 (n := 1) rfl (fun q h1 h2 => hq273 q (by omega))
                        refine r_aload_n C dX7_comeUp_177 rfl ?_
                        refine r_bipush C dX7_comeUp_178 (25 : Int32) (by decide) ?_
                        refine r_iload C dX7_comeUp_180 rfl ?_
                        refine r_iaddN C dX7_comeUp_182 (na := 25) (nb := t) rfl rfl (nc := (25 + t)) rfl ?_
                        refine r_iconst C dX7_comeUp_183 (1 : Int32) (by decide) ?_
                        refine r_iast C hb274 (k := 0) rfl rfl (by unfold fp1; omega) (vp_in_n rfl (by omega) (by omega)) (j := (25 + t)) (cl_n rfl (by omega)) dX7_comeUp_184 (fun H277 hb279 hq278 => ?_)
                        have hb280 := blk_kept hb275 (n := 1) rfl (fun q h1 h2 => hq278 q (by omega))
                        have hb281 := blk_kept hb276 (n := 1) rfl (fun q h1 h2 => hq278 q (by omega))
                        refine r_aload_n C dX7_comeUp_185 rfl ?_
                        refine r_bipush C dX7_comeUp_186 (46 : Int32) (by decide) ?_
                        refine r_bipush C dX7_comeUp_188 (6 : Int32) (by decide) ?_
                        refine r_iload_n C dX7_comeUp_190 rfl ?_
                        refine r_imulN C dX7_comeUp_191 (na := 6) (nb := c.toNatClampNeg) rfl hc (nc := (6 * c.toNatClampNeg)) rfl ?_
                        refine r_iaddN C dX7_comeUp_192 (na := 46) (nb := (6 * c.toNatClampNeg)) rfl rfl (nc := (46 + (6 * c.toNatClampNeg))) rfl ?_
                        refine r_iload C dX7_comeUp_193 rfl ?_
                        refine r_iaddN C dX7_comeUp_195 (na := (46 + (6 * c.toNatClampNeg))) (nb := t) rfl rfl (nc := ((46 + (6 * c.toNatClampNeg)) + t)) rfl ?_
                        refine r_iconst C dX7_comeUp_196 (0 : Int32) (by decide) ?_
                        refine r_iast C hb279 (k := 0) rfl rfl (by unfold fp1; omega) (vp_in_n rfl (by omega) (by omega)) (j := ((46 + (6 * c.toNatClampNeg)) + t)) (cl_n rfl (by omega)) dX7_comeUp_197 (fun H282 hb284 hq283 => ?_)
                        have hb285 := blk_kept hb280 (n := 1) rfl (fun q h1 h2 => hq283 q (by omega))
                        have hb286 := blk_kept hb281 (n := 1) rfl (fun q h1 h2 => hq283 q (by omega))
                        refine r_iconst C dX7_comeUp_198 (0 : Int32) (by decide) ?_
                        refine r_istore C dX7_comeUp_199 (ls' := [.val (.ref o_m), .val (.ref o_s), .val (.int c), .val (.int (has + (R 0 (1 + t)))), .val (.int (0 : Int32)), .val (.int (nI t)), .val (.int u23), .val (.int (R 0 (19 + t)))]) rfl rfl rfl ?_
                        refine r_goto C dX7_comeUp_201 ?_
                        refine r_iinc C dX7_comeUp_232 (nI (t + 1)) rfl (nI_inc t rfl) (ls' := [.val (.ref o_m), .val (.ref o_s), .val (.int c), .val (.int (has + (R 0 (1 + t)))), .val (.int (0 : Int32)), .val (.int (nI (t + 1))), .val (.int u23), .val (.int (R 0 (19 + t)))]) rfl ?_
                        refine r_goto C dX7_comeUp_235 ?_
                        have e287 : s3 = d_X7_comeUp_L8 R_m R_q c n1 (pt (pt (pt R 0 (1 + t) (0 : Int32)) 0 (25 + t) (1 : Int32)) 0 ((46 + (6 * c.toNatClampNeg)) + t) (0 : Int32)) (has + (R 0 (1 + t))) (0 : Int32) (t + 1) := by rw [hs3, d_X7_comeUp_L8]; try exact (if_neg c16).trans ((if_neg c20).trans ((if_neg c22).trans ((lt_eq hu23).trans ((if_pos c30).trans ((if_pos c163).trans ((if_pos c164).trans ((if_pos c226).trans ((if_pos c227).trans ((if_neg c258).trans (rfl))))))))))
                        exact ih2 (pt (pt (pt R 0 (1 + t) (0 : Int32)) 0 (25 + t) (1 : Int32)) 0 ((46 + (6 * c.toNatClampNeg)) + t) (0 : Int32)) (has + (R 0 (1 + t))) (0 : Int32) (t + 1) _ (.val (.int u23)) rfl (.val (.int (R 0 (19 + t)))) rfl trivial (by omega) (by omega) hb285 hb286 hb284 s3 e287  kx4
                  · skip
                    refine r_iload_n C dX7_comeUp_109 rfl ?_
                    refine r_aload_n C dX7_comeUp_110 rfl ?_
                    refine r_aload_n C dX7_comeUp_111 rfl ?_
                    refine r_iload_n C dX7_comeUp_112 rfl ?_
                    refine r_iload C dX7_comeUp_113 rfl ?_
                    refine r_iload C dX7_comeUp_115 rfl ?_
                    refine r_iconst C dX7_comeUp_117 (3 : Int32) (by decide) ?_
                    refine r_idiv C dX7_comeUp_118 (by decide) ?_
                    obtain ⟨u288, hu288⟩ : ∃ r, r = d_X7_pays R_m R_q R c (nI t) (u23 / (3 : Int32)) := ⟨_, rfl⟩
                    refine r_callV0 C cw_X7_123 (fun l => c_X7_pays l D o_m o_s R_m R_q R c (nI t) (u23 / (3 : Int32)) hc (by omega) (nnat (a := t) rfl (by omega)) (by have q0 := cl_n (x := (nI t)) (n := t) rfl (by omega); omega) (by omega) (by omega) u288 hu288) (rest := [.int has]) hb27 (k := 0) rfl rfl celO_7 ⟨hb27, hb28, hb29⟩ (fun q h => by unfold fp1 at h; unfold fp1; omega) rfl rfl rfl (Nat.le_of_ble_eq_true rfl) ⟨Nat.le_of_ble_eq_true rfl, Nat.le_of_ble_eq_true rfl, Nat.le_refl 0, Nat.le_refl 0⟩ dX7_comeUp_119 (fun v H289 hp290 hq291 => ?_)
                    obtain ⟨rfl, hn292⟩ := hp290
                    have hb293 := blk_kept hb27 (n := 1) rfl (fun q h1 h2 => hq291 q (by unfold fp1; omega))
                    have hb294 := blk_kept hb28 (n := 1) rfl (fun q h1 h2 => hq291 q (by unfold fp1; omega))
                    dsimp only [psh]
                    refine r_iadd C dX7_comeUp_122 ?_
                    refine r_istore_n C dX7_comeUp_123 (ls' := [.val (.ref o_m), .val (.ref o_s), .val (.int c), .val (.int (has + u288.1)), .val (.int goes), .val (.int (nI t)), .val (.int u23), .val (.int (R 0 (19 + t)))]) rfl rfl rfl ?_
                    refine r_goto C dX7_comeUp_124 ?_
                    refine r_iinc C dX7_comeUp_232 (nI (t + 1)) rfl (nI_inc t rfl) (ls' := [.val (.ref o_m), .val (.ref o_s), .val (.int c), .val (.int (has + u288.1)), .val (.int goes), .val (.int (nI (t + 1))), .val (.int u23), .val (.int (R 0 (19 + t)))]) rfl ?_
                    refine r_goto C dX7_comeUp_235 ?_
                    have e295 : s3 = d_X7_comeUp_L8 R_m R_q c n1 u288.2 (has + u288.1) goes (t + 1) := by rw [hs3, d_X7_comeUp_L8]; try exact (if_neg c16).trans ((if_neg c20).trans ((if_neg c22).trans ((lt_eq hu23).trans ((if_pos c30).trans ((if_pos c163).trans ((if_pos c164).trans ((if_neg c226).trans ((lt_eq hu288).trans (rfl)))))))))
                    exact ih2 u288.2 (has + u288.1) goes (t + 1) _ (.val (.int u23)) rfl (.val (.int (R 0 (19 + t)))) rfl trivial (by omega) (by omega) hb293 hb294 hn292 s3 e295  kx4
              · skip
                refine r_iload_n C dX7_comeUp_71 rfl ?_
                refine r_aload_n C dX7_comeUp_72 rfl ?_
                refine r_aload_n C dX7_comeUp_73 rfl ?_
                refine r_iload_n C dX7_comeUp_74 rfl ?_
                refine r_iload C dX7_comeUp_75 rfl ?_
                refine r_iload C dX7_comeUp_77 rfl ?_
                obtain ⟨u296, hu296⟩ : ∃ r, r = d_X7_pays R_m R_q R c (nI t) u23 := ⟨_, rfl⟩
                refine r_callV0 C cw_X7_123 (fun l => c_X7_pays l D o_m o_s R_m R_q R c (nI t) u23 hc (by omega) (nnat (a := t) rfl (by omega)) (by have q0 := cl_n (x := (nI t)) (n := t) rfl (by omega); omega) (by omega) (by omega) u296 hu296) (rest := [.int has]) hb27 (k := 0) rfl rfl celO_7 ⟨hb27, hb28, hb29⟩ (fun q h => by unfold fp1 at h; unfold fp1; omega) rfl rfl rfl (Nat.le_of_ble_eq_true rfl) ⟨Nat.le_of_ble_eq_true rfl, Nat.le_of_ble_eq_true rfl, Nat.le_refl 0, Nat.le_refl 0⟩ dX7_comeUp_79 (fun v H297 hp298 hq299 => ?_)
                obtain ⟨rfl, hn300⟩ := hp298
                have hb301 := blk_kept hb27 (n := 1) rfl (fun q h1 h2 => hq299 q (by unfold fp1; omega))
                have hb302 := blk_kept hb28 (n := 1) rfl (fun q h1 h2 => hq299 q (by unfold fp1; omega))
                dsimp only [psh]
                refine r_iadd C dX7_comeUp_82 ?_
                refine r_istore_n C dX7_comeUp_83 (ls' := [.val (.ref o_m), .val (.ref o_s), .val (.int c), .val (.int (has + u296.1)), .val (.int goes), .val (.int (nI t)), .val (.int u23), .val (.int (R 0 (19 + t)))]) rfl rfl rfl ?_
                refine r_iconst C dX7_comeUp_84 (0 : Int32) (by decide) ?_
                refine r_istore C dX7_comeUp_85 (ls' := [.val (.ref o_m), .val (.ref o_s), .val (.int c), .val (.int (has + u296.1)), .val (.int (0 : Int32)), .val (.int (nI t)), .val (.int u23), .val (.int (R 0 (19 + t)))]) rfl rfl rfl ?_
                refine r_goto C dX7_comeUp_87 ?_
                refine r_iinc C dX7_comeUp_232 (nI (t + 1)) rfl (nI_inc t rfl) (ls' := [.val (.ref o_m), .val (.ref o_s), .val (.int c), .val (.int (has + u296.1)), .val (.int (0 : Int32)), .val (.int (nI (t + 1))), .val (.int u23), .val (.int (R 0 (19 + t)))]) rfl ?_
                refine r_goto C dX7_comeUp_235 ?_
                have e303 : s3 = d_X7_comeUp_L8 R_m R_q c n1 u296.2 (has + u296.1) (0 : Int32) (t + 1) := by rw [hs3, d_X7_comeUp_L8]; try exact (if_neg c16).trans ((if_neg c20).trans ((if_neg c22).trans ((lt_eq hu23).trans ((if_pos c30).trans ((if_neg c163).trans ((lt_eq hu296).trans (rfl)))))))
                exact ih2 u296.2 (has + u296.1) (0 : Int32) (t + 1) _ (.val (.int u23)) rfl (.val (.int (R 0 (19 + t)))) rfl trivial (by omega) (by omega) hb301 hb302 hn300 s3 e303  kx4
          · skip
            refine r_goto C dX7_comeUp_33 ?_
            refine r_iinc C dX7_comeUp_232 (nI (t + 1)) rfl (nI_inc t rfl) (ls' := [.val (.ref o_m), .val (.ref o_s), .val (.int c), .val (.int has), .val (.int goes), .val (.int (nI (t + 1))), z5, z6]) rfl ?_
            refine r_goto C dX7_comeUp_235 ?_
            have e304 : s3 = d_X7_comeUp_L8 R_m R_q c n1 R has goes (t + 1) := by rw [hs3, d_X7_comeUp_L8]; try exact (if_neg c16).trans ((if_neg c20).trans ((if_pos c22).trans (rfl)))
            exact ih2 R has goes (t + 1) _ z5 hz5 z6 hz6 trivial (by omega) (by omega) hb7 hb8 hb9 s3 e304  kx4
  obtain ⟨s305, hs305⟩ : ∃ r, r = d_X7_comeUp_L8 R_m R_q c 7 R_s (0 : Int32) (1 : Int32) 0 := ⟨_, rfl⟩
  refine d_X7_comeUp_L8_w 7 R_s (0 : Int32) (1 : Int32) 0 _ .unset trivial .unset trivial trivial (by omega) (by omega) hb_m hb_q hb_s s305 hs305  (fun H309 z11 hz11 z12 hz12 z13 hz13 z14 hz14 e310  hb306 hb307 hb308 => ?_)
  refine r_aload_n C dX7_comeUp_238 rfl ?_
  refine r_bipush C dX7_comeUp_239 (37 : Int32) (by decide) ?_
  refine r_iload_n C dX7_comeUp_241 rfl ?_
  refine r_iaddN C dX7_comeUp_242 (na := 37) (nb := c.toNatClampNeg) rfl hc (nc := (37 + c.toNatClampNeg)) rfl ?_
  refine r_iald C hb308 (k := 0) rfl rfl (vp_in_n rfl (by omega) (by omega)) (j := (37 + c.toNatClampNeg)) (cl_n rfl (by omega)) dX7_comeUp_243 ?_
  refine r_iload_n C dX7_comeUp_244 rfl ?_
  refine r_bipush C dX7_comeUp_245 (10 : Int32) (by decide) ?_
  refine r_idiv C dX7_comeUp_247 (by decide) ?_
  refine r_iadd C dX7_comeUp_248 ?_
  refine r_topi (fun y311 hy311 => ?_)
  refine r_istore C dX7_comeUp_249 (ls' := [.val (.ref o_m), .val (.ref o_s), .val (.int c), .val (.int s305.2), z11, .val (.int y311), z13, z14]) rfl hz12 rfl ?_
  refine r_aload_n C dX7_comeUp_251 rfl ?_
  refine r_bipush C dX7_comeUp_252 (37 : Int32) (by decide) ?_
  refine r_iload_n C dX7_comeUp_254 rfl ?_
  refine r_iaddN C dX7_comeUp_255 (na := 37) (nb := c.toNatClampNeg) rfl hc (nc := (37 + c.toNatClampNeg)) rfl ?_
  refine r_iload C dX7_comeUp_256 rfl ?_
  refine r_bipush C dX7_comeUp_258 (99 : Int32) (by decide) ?_
  refine r_ic_le C dX7_comeUp_260 (fun c312 => ?_) (fun c312 => ?_)
  · skip
    refine r_iload C dX7_comeUp_268 rfl ?_
    refine r_iast C hb308 (k := 0) rfl rfl (by unfold fp1; omega) (vp_in_n rfl (by omega) (by omega)) (j := (37 + c.toNatClampNeg)) (cl_n rfl (by omega)) dX7_comeUp_270 (fun H313 hb315 hq314 => ?_)
    have hb316 := blk_kept hb306 (n := 1) rfl (fun q h1 h2 => hq314 q (by omega))
    have hb317 := blk_kept hb307 (n := 1) rfl (fun q h1 h2 => hq314 q (by omega))
    refine r_vret C dX7_comeUp_271 ?_
    have er : res = (pt s305.1 0 (37 + c.toNatClampNeg) y311) := by rw [hres, d_X7_comeUp]; try exact (lt_eq hs305).trans ((lt_eq hy311).trans ((if_pos c312).trans (rfl)))
    rw [er]
    exact ⟨rfl, hb315⟩
  · skip
    refine r_bipush C dX7_comeUp_263 (99 : Int32) (by decide) ?_
    refine r_goto C dX7_comeUp_265 ?_
    refine r_iast C hb308 (k := 0) rfl rfl (by unfold fp1; omega) (vp_in_n rfl (by omega) (by omega)) (j := (37 + c.toNatClampNeg)) (cl_n rfl (by omega)) dX7_comeUp_270 (fun H318 hb320 hq319 => ?_)
    have hb321 := blk_kept hb306 (n := 1) rfl (fun q h1 h2 => hq319 q (by omega))
    have hb322 := blk_kept hb307 (n := 1) rfl (fun q h1 h2 => hq319 q (by omega))
    refine r_vret C dX7_comeUp_271 ?_
    have er : res = (pt s305.1 0 (37 + c.toNatClampNeg) (99 : Int32)) := by rw [hres, d_X7_comeUp]; try exact (lt_eq hs305).trans ((lt_eq hy311).trans ((if_neg c312).trans (rfl)))
    rw [er]
    exact ⟨rfl, hb320⟩

def d_X7_spring_L2 (R_m : Nat → Nat → Int32) : Nat → (Nat → Nat → Int32) → Nat → (Nat → Nat → Int32)
  | 0, R, _ => R
  | n1 + 1, R, t =>
    if (R_m 0 10) ≤ (nI t) then
      R
    else
      if (R 0 (25 + t)) = 0 then
        if ((R 0 (1 + t)) + (R 0 (7 + t))) ≤ (999 : Int32) then
          d_X7_spring_L2 R_m n1 (pt R 0 (1 + t) ((R 0 (1 + t)) + (R 0 (7 + t)))) (t + 1)
        else
          d_X7_spring_L2 R_m n1 (pt R 0 (1 + t) (999 : Int32)) (t + 1)
      else
        d_X7_spring_L2 R_m n1 R (t + 1)
def d_X7_spring_L59 (R_m : Nat → Nat → Int32) : Nat → (Nat → Nat → Int32) → Nat → (Nat → Nat → Int32)
  | 0, R, _ => R
  | n38 + 1, R, t =>
    if (R_m 0 10) ≤ (nI t) then
      R
    else
      if (R 0 (25 + t)) = 0 then
        if (R 0 (19 + t)) = (3 : Int32) then
          if (R 0 (1 + t)) < (R_m 0 12) then
            d_X7_spring_L59 R_m n38 R (t + 1)
          else
            if (20 : Int32) ≤ (R 0 (13 + t)) then
              d_X7_spring_L59 R_m n38 R (t + 1)
            else
              lt ((((pt R 0 (1 + t) ((R 0 (1 + t)) - (R_m 0 12))) 0 (13 + t)) + (1 : Int32))) fun y67 =>
              d_X7_spring_L59 R_m n38 (pt (pt R 0 (1 + t) ((R 0 (1 + t)) - (R_m 0 12))) 0 (13 + t) y67) (t + 1)
        else
          d_X7_spring_L59 R_m n38 R (t + 1)
      else
        d_X7_spring_L59 R_m n38 R (t + 1)
def d_X7_spring_L139 (R_m : Nat → Nat → Int32) (R_q : Nat → Nat → Int32) : Nat → (Nat → Nat → Int32) → Nat → (Nat → Nat → Int32)
  | 0, R, _ => R
  | n80 + 1, R, c =>
    if (R_m 0 11) ≤ (nI c) then
      R
    else
      if (R 0 (43 + c)) = 0 then
        lt (d_X7_comeUp R_m R_q R (nI c)) fun u98 =>
        d_X7_spring_L139 R_m R_q n80 u98 (c + 1)
      else
        d_X7_spring_L139 R_m R_q n80 R (c + 1)
def d_X7_spring (R_m : Nat → Nat → Int32) (R_q : Nat → Nat → Int32) (R_s : Nat → Nat → Int32) : (Nat → Nat → Int32) :=
  lt (d_X7_spring_L2 R_m 7 R_s 0) fun s32 =>
  lt (d_X7_spring_L59 R_m 7 s32 0) fun s74 =>
  lt (d_X7_spring_L139 R_m R_q 4 s74 0) fun s106 =>
  (pt s106 0 0 ((s106 0 0) + (1 : Int32)))
set_option maxHeartbeats 4000000 in
set_option maxRecDepth 100000 in
theorem c_X7_spring (l : Launch) (D : DD) (o_m o_s : Nat) (R_m : Nat → Nat → Int32) (R_q : Nat → Nat → Int32) (R_s : Nat → Nat → Int32) (h10 : R_m 0 10 = nI (R_m 0 10).toNatClampNeg) (b10 : (R_m 0 10).toNatClampNeg ≤ 6) (h11 : R_m 0 11 = nI (R_m 0 11).toNatClampNeg) (b11 : (R_m 0 11).toNatClampNeg ≤ 3) (hd1 : o_s ≠ o_m) (hd2 : o_s ≠ o_m + 5) (res : (Nat → Nat → Int32)) (hres : res = d_X7_spring R_m R_q R_s) : Mt l D yX7_spring cX7_spring 4 none 2 52 0 0 [.ref o_m, .ref o_s] (fun H => blk D ksM0 o_m R_m H ∧ blk D (ksI 6) (o_m + 5) R_q H ∧ blk D (ksI 64) o_s R_s H) (fun v H => v = none ∧ blk D (ksI 64) o_s res H) (fp1 o_s 1) := by
  refine mt_of (own := RX7) (ls := [.val (.ref o_m), .val (.ref o_s), .unset, .unset]) rfl (by decide +kernel) rfl ?_
  intro x H C hP
  obtain ⟨hb_m, hb_q, hb_s⟩ := hP
  refine r_iconst C dX7_spring_0 (0 : Int32) (by decide) ?_
  refine r_istore_n C dX7_spring_1 (ls' := [.val (.ref o_m), .val (.ref o_s), .val (.int (0 : Int32)), .unset]) rfl trivial rfl ?_
  have d_X7_spring_L2_w : ∀ (n1 : Nat) (R : Nat → Nat → Int32) (t : Nat) (H9 : Heap) (z5 : Slot) (_ : slot1 z5), True → (t ≤ (R_m 0 10).toNatClampNeg) → (6 - t < n1) → blk D ksM0 o_m R_m H9 → blk D (ksI 6) (o_m + 5) R_q H9 → blk D (ksI 64) o_s R H9 → ∀ s3 : (Nat → Nat → Int32), s3 = d_X7_spring_L2 R_m n1 R t → (∀ (H' : Heap) (z10 : Slot) (_ : slot1 z10) (z11 : Slot) (_ : slot1 z11), True → blk D ksM0 o_m R_m H' → blk D (ksI 6) (o_m + 5) R_q H' → blk D (ksI 64) o_s s3 H' → WG x (fp1 o_s 1) (Fin x (fun v H => v = none ∧ blk D (ksI 64) o_s res H) (fp1 o_s 1) 0 0) H' 0 0 57 [.val (.ref o_m), .val (.ref o_s), z10, z11] []) → WG x (fp1 o_s 1) (Fin x (fun v H => v = none ∧ blk D (ksI 64) o_s res H) (fp1 o_s 1) 0 0) H9 0 0 2 [.val (.ref o_m), .val (.ref o_s), .val (.int (nI t)), z5] [] := by
    intro n1
    induction n1 with
    | zero => intro R t H9 z5 hz5 _ ht hm12; exact absurd hm12 (Nat.not_lt_zero _)
    | succ n1 ih2 =>
      intro R t H9 z5 hz5 _ ht hm12 hb6 hb7 hb8 s3 hs3  kx4
      refine r_iload_n C dX7_spring_2 rfl ?_
      refine r_aload_n C dX7_spring_3 rfl ?_
      refine r_get C hb6 (k := 0) rfl rfl celO_7 fw_X7_49 (z := .int (R_m 0 10)) rfl dX7_spring_4 ?_
      refine r_ic_ge C dX7_spring_7 (fun c13 => ?_) (fun c13 => ?_)
      · skip
        have f14 : ((R_m 0 10).toNatClampNeg ≤ t) := nf_leI (by omega) (by omega) h10 rfl c13
        have e15 : s3 = R := by rw [hs3, d_X7_spring_L2]; try exact (if_pos c13).trans (rfl)
        rw [e15] at kx4
        exact kx4 _ (.val (.int (nI t))) rfl z5 hz5 trivial  hb6 hb7 hb8
      · skip
        have f16 : ¬ ((R_m 0 10).toNatClampNeg ≤ t) := nf_leIn (by omega) (by omega) h10 rfl c13
        refine r_aload_n C dX7_spring_10 rfl ?_
        refine r_bipush C dX7_spring_11 (25 : Int32) (by decide) ?_
        refine r_iload_n C dX7_spring_13 rfl ?_
        refine r_iaddN C dX7_spring_14 (na := 25) (nb := t) rfl rfl (nc := (25 + t)) rfl ?_
        refine r_iald C hb8 (k := 0) rfl rfl (vp_in_n rfl (by omega) (by omega)) (j := (25 + t)) (cl_n rfl (by omega)) dX7_spring_15 ?_
        refine r_if_ne C dX7_spring_16 (fun c17 => ?_) (fun c17 => ?_)
        · skip
          refine r_iinc C dX7_spring_51 (nI (t + 1)) rfl (nI_inc t rfl) (ls' := [.val (.ref o_m), .val (.ref o_s), .val (.int (nI (t + 1))), z5]) rfl ?_
          refine r_goto C dX7_spring_54 ?_
          have e18 : s3 = d_X7_spring_L2 R_m n1 R (t + 1) := by rw [hs3, d_X7_spring_L2]; try exact (if_neg c13).trans ((if_neg c17).trans (rfl))
          exact ih2 R (t + 1) _ z5 hz5 trivial (by omega) (by omega) hb6 hb7 hb8 s3 e18  kx4
        · skip
          refine r_aload_n C dX7_spring_19 rfl ?_
          refine r_iconst C dX7_spring_20 (1 : Int32) (by decide) ?_
          refine r_iload_n C dX7_spring_21 rfl ?_
          refine r_iaddN C dX7_spring_22 (na := 1) (nb := t) rfl rfl (nc := (1 + t)) rfl ?_
          refine r_iald C hb8 (k := 0) rfl rfl (vp_in_n rfl (by omega) (by omega)) (j := (1 + t)) (cl_n rfl (by omega)) dX7_spring_23 ?_
          refine r_aload_n C dX7_spring_24 rfl ?_
          refine r_bipush C dX7_spring_25 (7 : Int32) (by decide) ?_
          refine r_iload_n C dX7_spring_27 rfl ?_
          refine r_iaddN C dX7_spring_28 (na := 7) (nb := t) rfl rfl (nc := (7 + t)) rfl ?_
          refine r_iald C hb8 (k := 0) rfl rfl (vp_in_n rfl (by omega) (by omega)) (j := (7 + t)) (cl_n rfl (by omega)) dX7_spring_29 ?_
          refine r_iadd C dX7_spring_30 ?_
          refine r_istore_n C dX7_spring_31 (ls' := [.val (.ref o_m), .val (.ref o_s), .val (.int (nI t)), .val (.int ((R 0 (1 + t)) + (R 0 (7 + t))))]) rfl hz5 rfl ?_
          refine r_aload_n C dX7_spring_32 rfl ?_
          refine r_iconst C dX7_spring_33 (1 : Int32) (by decide) ?_
          refine r_iload_n C dX7_spring_34 rfl ?_
          refine r_iaddN C dX7_spring_35 (na := 1) (nb := t) rfl rfl (nc := (1 + t)) rfl ?_
          refine r_iload_n C dX7_spring_36 rfl ?_
          refine r_sipush C dX7_spring_37 (999 : Int32) (by decide) ?_
          refine r_ic_le C dX7_spring_40 (fun c19 => ?_) (fun c19 => ?_)
          · skip
            refine r_iload_n C dX7_spring_49 rfl ?_
            refine r_iast C hb8 (k := 0) rfl rfl (by unfold fp1; omega) (vp_in_n rfl (by omega) (by omega)) (j := (1 + t)) (cl_n rfl (by omega)) dX7_spring_50 (fun H20 hb22 hq21 => ?_)
            have hb23 := blk_kept hb6 (n := 1) rfl (fun q h1 h2 => hq21 q (by omega))
            have hb24 := blk_kept hb7 (n := 1) rfl (fun q h1 h2 => hq21 q (by omega))
            refine r_iinc C dX7_spring_51 (nI (t + 1)) rfl (nI_inc t rfl) (ls' := [.val (.ref o_m), .val (.ref o_s), .val (.int (nI (t + 1))), .val (.int ((R 0 (1 + t)) + (R 0 (7 + t))))]) rfl ?_
            refine r_goto C dX7_spring_54 ?_
            have e25 : s3 = d_X7_spring_L2 R_m n1 (pt R 0 (1 + t) ((R 0 (1 + t)) + (R 0 (7 + t)))) (t + 1) := by rw [hs3, d_X7_spring_L2]; try exact (if_neg c13).trans ((if_pos c17).trans ((if_pos c19).trans (rfl)))
            exact ih2 (pt R 0 (1 + t) ((R 0 (1 + t)) + (R 0 (7 + t)))) (t + 1) _ (.val (.int ((R 0 (1 + t)) + (R 0 (7 + t))))) rfl trivial (by omega) (by omega) hb23 hb24 hb22 s3 e25  kx4
          · skip
            refine r_sipush C dX7_spring_43 (999 : Int32) (by decide) ?_
            refine r_goto C dX7_spring_46 ?_
            refine r_iast C hb8 (k := 0) rfl rfl (by unfold fp1; omega) (vp_in_n rfl (by omega) (by omega)) (j := (1 + t)) (cl_n rfl (by omega)) dX7_spring_50 (fun H26 hb28 hq27 => ?_)
            have hb29 := blk_kept hb6 (n := 1) rfl (fun q h1 h2 => hq27 q (by omega))
            have hb30 := blk_kept hb7 (n := 1) rfl (fun q h1 h2 => hq27 q (by omega))
            refine r_iinc C dX7_spring_51 (nI (t + 1)) rfl (nI_inc t rfl) (ls' := [.val (.ref o_m), .val (.ref o_s), .val (.int (nI (t + 1))), .val (.int ((R 0 (1 + t)) + (R 0 (7 + t))))]) rfl ?_
            refine r_goto C dX7_spring_54 ?_
            have e31 : s3 = d_X7_spring_L2 R_m n1 (pt R 0 (1 + t) (999 : Int32)) (t + 1) := by rw [hs3, d_X7_spring_L2]; try exact (if_neg c13).trans ((if_pos c17).trans ((if_neg c19).trans (rfl)))
            exact ih2 (pt R 0 (1 + t) (999 : Int32)) (t + 1) _ (.val (.int ((R 0 (1 + t)) + (R 0 (7 + t))))) rfl trivial (by omega) (by omega) hb29 hb30 hb28 s3 e31  kx4
  obtain ⟨s32, hs32⟩ : ∃ r, r = d_X7_spring_L2 R_m 7 R_s 0 := ⟨_, rfl⟩
  refine d_X7_spring_L2_w 7 R_s 0 _ .unset trivial trivial (by omega) (by omega) hb_m hb_q hb_s s32 hs32  (fun H36 z10 hz10 z11 hz11 e37  hb33 hb34 hb35 => ?_)
  refine r_iconst C dX7_spring_57 (0 : Int32) (by decide) ?_
  refine r_istore_n C dX7_spring_58 (ls' := [.val (.ref o_m), .val (.ref o_s), .val (.int (0 : Int32)), z11]) rfl hz10 rfl ?_
  have d_X7_spring_L59_w : ∀ (n38 : Nat) (R : Nat → Nat → Int32) (t : Nat) (H46 : Heap) (z42 : Slot) (_ : slot1 z42), True → (t ≤ (R_m 0 10).toNatClampNeg) → (6 - t < n38) → blk D ksM0 o_m R_m H46 → blk D (ksI 6) (o_m + 5) R_q H46 → blk D (ksI 64) o_s R H46 → ∀ s40 : (Nat → Nat → Int32), s40 = d_X7_spring_L59 R_m n38 R t → (∀ (H' : Heap) (z47 : Slot) (_ : slot1 z47) (z48 : Slot) (_ : slot1 z48), True → blk D ksM0 o_m R_m H' → blk D (ksI 6) (o_m + 5) R_q H' → blk D (ksI 64) o_s s40 H' → WG x (fp1 o_s 1) (Fin x (fun v H => v = none ∧ blk D (ksI 64) o_s res H) (fp1 o_s 1) 0 0) H' 0 0 137 [.val (.ref o_m), .val (.ref o_s), z47, z48] []) → WG x (fp1 o_s 1) (Fin x (fun v H => v = none ∧ blk D (ksI 64) o_s res H) (fp1 o_s 1) 0 0) H46 0 0 59 [.val (.ref o_m), .val (.ref o_s), .val (.int (nI t)), z42] [] := by
    intro n38
    induction n38 with
    | zero => intro R t H46 z42 hz42 _ ht hm49; exact absurd hm49 (Nat.not_lt_zero _)
    | succ n38 ih39 =>
      intro R t H46 z42 hz42 _ ht hm49 hb43 hb44 hb45 s40 hs40  kx41
      refine r_iload_n C dX7_spring_59 rfl ?_
      refine r_aload_n C dX7_spring_60 rfl ?_
      refine r_get C hb43 (k := 0) rfl rfl celO_7 fw_X7_49 (z := .int (R_m 0 10)) rfl dX7_spring_61 ?_
      refine r_ic_ge C dX7_spring_64 (fun c50 => ?_) (fun c50 => ?_)
      · skip
        have f51 : ((R_m 0 10).toNatClampNeg ≤ t) := nf_leI (by omega) (by omega) h10 rfl c50
        have e52 : s40 = R := by rw [hs40, d_X7_spring_L59]; try exact (if_pos c50).trans (rfl)
        rw [e52] at kx41
        exact kx41 _ (.val (.int (nI t))) rfl z42 hz42 trivial  hb43 hb44 hb45
      · skip
        have f53 : ¬ ((R_m 0 10).toNatClampNeg ≤ t) := nf_leIn (by omega) (by omega) h10 rfl c50
        refine r_aload_n C dX7_spring_67 rfl ?_
        refine r_bipush C dX7_spring_68 (25 : Int32) (by decide) ?_
        refine r_iload_n C dX7_spring_70 rfl ?_
        refine r_iaddN C dX7_spring_71 (na := 25) (nb := t) rfl rfl (nc := (25 + t)) rfl ?_
        refine r_iald C hb45 (k := 0) rfl rfl (vp_in_n rfl (by omega) (by omega)) (j := (25 + t)) (cl_n rfl (by omega)) dX7_spring_72 ?_
        refine r_if_ne C dX7_spring_73 (fun c54 => ?_) (fun c54 => ?_)
        · skip
          refine r_iinc C dX7_spring_131 (nI (t + 1)) rfl (nI_inc t rfl) (ls' := [.val (.ref o_m), .val (.ref o_s), .val (.int (nI (t + 1))), z42]) rfl ?_
          refine r_goto C dX7_spring_134 ?_
          have e55 : s40 = d_X7_spring_L59 R_m n38 R (t + 1) := by rw [hs40, d_X7_spring_L59]; try exact (if_neg c50).trans ((if_neg c54).trans (rfl))
          exact ih39 R (t + 1) _ z42 hz42 trivial (by omega) (by omega) hb43 hb44 hb45 s40 e55  kx41
        · skip
          refine r_aload_n C dX7_spring_76 rfl ?_
          refine r_bipush C dX7_spring_77 (19 : Int32) (by decide) ?_
          refine r_iload_n C dX7_spring_79 rfl ?_
          refine r_iaddN C dX7_spring_80 (na := 19) (nb := t) rfl rfl (nc := (19 + t)) rfl ?_
          refine r_iald C hb45 (k := 0) rfl rfl (vp_in_n rfl (by omega) (by omega)) (j := (19 + t)) (cl_n rfl (by omega)) dX7_spring_81 ?_
          refine r_iconst C dX7_spring_82 (3 : Int32) (by decide) ?_
          refine r_ic_ne C dX7_spring_83 (fun c56 => ?_) (fun c56 => ?_)
          · skip
            refine r_iinc C dX7_spring_131 (nI (t + 1)) rfl (nI_inc t rfl) (ls' := [.val (.ref o_m), .val (.ref o_s), .val (.int (nI (t + 1))), z42]) rfl ?_
            refine r_goto C dX7_spring_134 ?_
            have e57 : s40 = d_X7_spring_L59 R_m n38 R (t + 1) := by rw [hs40, d_X7_spring_L59]; try exact (if_neg c50).trans ((if_pos c54).trans ((if_neg c56).trans (rfl)))
            exact ih39 R (t + 1) _ z42 hz42 trivial (by omega) (by omega) hb43 hb44 hb45 s40 e57  kx41
          · skip
            refine r_aload_n C dX7_spring_86 rfl ?_
            refine r_iconst C dX7_spring_87 (1 : Int32) (by decide) ?_
            refine r_iload_n C dX7_spring_88 rfl ?_
            refine r_iaddN C dX7_spring_89 (na := 1) (nb := t) rfl rfl (nc := (1 + t)) rfl ?_
            refine r_iald C hb45 (k := 0) rfl rfl (vp_in_n rfl (by omega) (by omega)) (j := (1 + t)) (cl_n rfl (by omega)) dX7_spring_90 ?_
            refine r_aload_n C dX7_spring_91 rfl ?_
            refine r_get C hb43 (k := 0) rfl rfl celO_7 fw_X7_56 (z := .int (R_m 0 12)) rfl dX7_spring_92 ?_
            refine r_ic_lt C dX7_spring_95 (fun c58 => ?_) (fun c58 => ?_)
            · skip
              refine r_iinc C dX7_spring_131 (nI (t + 1)) rfl (nI_inc t rfl) (ls' := [.val (.ref o_m), .val (.ref o_s), .val (.int (nI (t + 1))), z42]) rfl ?_
              refine r_goto C dX7_spring_134 ?_
              have e59 : s40 = d_X7_spring_L59 R_m n38 R (t + 1) := by rw [hs40, d_X7_spring_L59]; try exact (if_neg c50).trans ((if_pos c54).trans ((if_pos c56).trans ((if_pos c58).trans (rfl))))
              exact ih39 R (t + 1) _ z42 hz42 trivial (by omega) (by omega) hb43 hb44 hb45 s40 e59  kx41
            · skip
              refine r_aload_n C dX7_spring_98 rfl ?_
              refine r_bipush C dX7_spring_99 (13 : Int32) (by decide) ?_
              refine r_iload_n C dX7_spring_101 rfl ?_
              refine r_iaddN C dX7_spring_102 (na := 13) (nb := t) rfl rfl (nc := (13 + t)) rfl ?_
              refine r_iald C hb45 (k := 0) rfl rfl (vp_in_n rfl (by omega) (by omega)) (j := (13 + t)) (cl_n rfl (by omega)) dX7_spring_103 ?_
              refine r_bipush C dX7_spring_104 (20 : Int32) (by decide) ?_
              refine r_ic_ge C dX7_spring_106 (fun c60 => ?_) (fun c60 => ?_)
              · skip
                refine r_iinc C dX7_spring_131 (nI (t + 1)) rfl (nI_inc t rfl) (ls' := [.val (.ref o_m), .val (.ref o_s), .val (.int (nI (t + 1))), z42]) rfl ?_
                refine r_goto C dX7_spring_134 ?_
                have e61 : s40 = d_X7_spring_L59 R_m n38 R (t + 1) := by rw [hs40, d_X7_spring_L59]; try exact (if_neg c50).trans ((if_pos c54).trans ((if_pos c56).trans ((if_neg c58).trans ((if_pos c60).trans (rfl)))))
                exact ih39 R (t + 1) _ z42 hz42 trivial (by omega) (by omega) hb43 hb44 hb45 s40 e61  kx41
              · skip
                refine r_aload_n C dX7_spring_109 rfl ?_
                refine r_iconst C dX7_spring_110 (1 : Int32) (by decide) ?_
                refine r_iload_n C dX7_spring_111 rfl ?_
                refine r_iaddN C dX7_spring_112 (na := 1) (nb := t) rfl rfl (nc := (1 + t)) rfl ?_
                refine r_dup2 C dX7_spring_113 rfl rfl ?_
                refine r_iald C hb45 (k := 0) rfl rfl (vp_in_n rfl (by omega) (by omega)) (j := (1 + t)) (cl_n rfl (by omega)) dX7_spring_114 ?_
                refine r_aload_n C dX7_spring_115 rfl ?_
                refine r_get C hb43 (k := 0) rfl rfl celO_7 fw_X7_56 (z := .int (R_m 0 12)) rfl dX7_spring_116 ?_
                refine r_isub C dX7_spring_119 ?_
                refine r_iast C hb45 (k := 0) rfl rfl (by unfold fp1; omega) (vp_in_n rfl (by omega) (by omega)) (j := (1 + t)) (cl_n rfl (by omega)) dX7_spring_120 (fun H62 hb64 hq63 => ?_)
                have hb65 := blk_kept hb43 (n := 1) rfl (fun q h1 h2 => hq63 q (by omega))
                have hb66 := blk_kept hb44 (n := 1) rfl (fun q h1 h2 => hq63 q (by omega))
                refine r_aload_n C dX7_spring_121 rfl ?_
                refine r_bipush C dX7_spring_122 (13 : Int32) (by decide) ?_
                refine r_iload_n C dX7_spring_124 rfl ?_
                refine r_iaddN C dX7_spring_125 (na := 13) (nb := t) rfl rfl (nc := (13 + t)) rfl ?_
                refine r_dup2 C dX7_spring_126 rfl rfl ?_
                refine r_iald C hb64 (k := 0) rfl rfl (vp_in_n rfl (by omega) (by omega)) (j := (13 + t)) (cl_n rfl (by omega)) dX7_spring_127 ?_
                refine r_iconst C dX7_spring_128 (1 : Int32) (by decide) ?_
                refine r_iadd C dX7_spring_129 ?_
                refine r_topi (fun y67 hy67 => ?_)
                refine r_iast C hb64 (k := 0) rfl rfl (by unfold fp1; omega) (vp_in_n rfl (by omega) (by omega)) (j := (13 + t)) (cl_n rfl (by omega)) dX7_spring_130 (fun H68 hb70 hq69 => ?_)
                have hb71 := blk_kept hb65 (n := 1) rfl (fun q h1 h2 => hq69 q (by omega))
                have hb72 := blk_kept hb66 (n := 1) rfl (fun q h1 h2 => hq69 q (by omega))
                refine r_iinc C dX7_spring_131 (nI (t + 1)) rfl (nI_inc t rfl) (ls' := [.val (.ref o_m), .val (.ref o_s), .val (.int (nI (t + 1))), z42]) rfl ?_
                refine r_goto C dX7_spring_134 ?_
                have e73 : s40 = d_X7_spring_L59 R_m n38 (pt (pt R 0 (1 + t) ((R 0 (1 + t)) - (R_m 0 12))) 0 (13 + t) y67) (t + 1) := by rw [hs40, d_X7_spring_L59]; try exact (if_neg c50).trans ((if_pos c54).trans ((if_pos c56).trans ((if_neg c58).trans ((if_neg c60).trans ((lt_eq hy67).trans (rfl))))))
                exact ih39 (pt (pt R 0 (1 + t) ((R 0 (1 + t)) - (R_m 0 12))) 0 (13 + t) y67) (t + 1) _ z42 hz42 trivial (by omega) (by omega) hb71 hb72 hb70 s40 e73  kx41
  obtain ⟨s74, hs74⟩ : ∃ r, r = d_X7_spring_L59 R_m 7 s32 0 := ⟨_, rfl⟩
  refine d_X7_spring_L59_w 7 s32 0 _ z11 hz11 trivial (by omega) (by omega) hb33 hb34 hb35 s74 hs74  (fun H78 z47 hz47 z48 hz48 e79  hb75 hb76 hb77 => ?_)
  refine r_iconst C dX7_spring_137 (0 : Int32) (by decide) ?_
  refine r_istore_n C dX7_spring_138 (ls' := [.val (.ref o_m), .val (.ref o_s), .val (.int (0 : Int32)), z48]) rfl hz47 rfl ?_
  have d_X7_spring_L139_w : ∀ (n80 : Nat) (R : Nat → Nat → Int32) (c : Nat) (H88 : Heap) (z84 : Slot) (_ : slot1 z84), True → (c ≤ (R_m 0 11).toNatClampNeg) → (3 - c < n80) → blk D ksM0 o_m R_m H88 → blk D (ksI 6) (o_m + 5) R_q H88 → blk D (ksI 64) o_s R H88 → ∀ s82 : (Nat → Nat → Int32), s82 = d_X7_spring_L139 R_m R_q n80 R c → (∀ (H' : Heap) (z89 : Slot) (_ : slot1 z89) (z90 : Slot) (_ : slot1 z90), True → blk D ksM0 o_m R_m H' → blk D (ksI 6) (o_m + 5) R_q H' → blk D (ksI 64) o_s s82 H' → WG x (fp1 o_s 1) (Fin x (fun v H => v = none ∧ blk D (ksI 64) o_s res H) (fp1 o_s 1) 0 0) H' 0 0 168 [.val (.ref o_m), .val (.ref o_s), z89, z90] []) → WG x (fp1 o_s 1) (Fin x (fun v H => v = none ∧ blk D (ksI 64) o_s res H) (fp1 o_s 1) 0 0) H88 0 0 139 [.val (.ref o_m), .val (.ref o_s), .val (.int (nI c)), z84] [] := by
    intro n80
    induction n80 with
    | zero => intro R c H88 z84 hz84 _ hc hm91; exact absurd hm91 (Nat.not_lt_zero _)
    | succ n80 ih81 =>
      intro R c H88 z84 hz84 _ hc hm91 hb85 hb86 hb87 s82 hs82  kx83
      refine r_iload_n C dX7_spring_139 rfl ?_
      refine r_aload_n C dX7_spring_140 rfl ?_
      refine r_get C hb85 (k := 0) rfl rfl celO_7 fw_X7_53 (z := .int (R_m 0 11)) rfl dX7_spring_141 ?_
      refine r_ic_ge C dX7_spring_144 (fun c92 => ?_) (fun c92 => ?_)
      · skip
        have f93 : ((R_m 0 11).toNatClampNeg ≤ c) := nf_leI (by omega) (by omega) h11 rfl c92
        have e94 : s82 = R := by rw [hs82, d_X7_spring_L139]; try exact (if_pos c92).trans (rfl)
        rw [e94] at kx83
        exact kx83 _ (.val (.int (nI c))) rfl z84 hz84 trivial  hb85 hb86 hb87
      · skip
        have f95 : ¬ ((R_m 0 11).toNatClampNeg ≤ c) := nf_leIn (by omega) (by omega) h11 rfl c92
        refine r_aload_n C dX7_spring_147 rfl ?_
        refine r_bipush C dX7_spring_148 (43 : Int32) (by decide) ?_
        refine r_iload_n C dX7_spring_150 rfl ?_
        refine r_iaddN C dX7_spring_151 (na := 43) (nb := c) rfl rfl (nc := (43 + c)) rfl ?_
        refine r_iald C hb87 (k := 0) rfl rfl (vp_in_n rfl (by omega) (by omega)) (j := (43 + c)) (cl_n rfl (by omega)) dX7_spring_152 ?_
        refine r_if_ne C dX7_spring_153 (fun c96 => ?_) (fun c96 => ?_)
        · skip
          refine r_iinc C dX7_spring_162 (nI (c + 1)) rfl (nI_inc c rfl) (ls' := [.val (.ref o_m), .val (.ref o_s), .val (.int (nI (c + 1))), z84]) rfl ?_
          refine r_goto C dX7_spring_165 ?_
          have e97 : s82 = d_X7_spring_L139 R_m R_q n80 R (c + 1) := by rw [hs82, d_X7_spring_L139]; try exact (if_neg c92).trans ((if_neg c96).trans (rfl))
          exact ih81 R (c + 1) _ z84 hz84 trivial (by omega) (by omega) hb85 hb86 hb87 s82 e97  kx83
        · skip
          refine r_aload_n C dX7_spring_156 rfl ?_
          refine r_aload_n C dX7_spring_157 rfl ?_
          refine r_iload_n C dX7_spring_158 rfl ?_
          obtain ⟨u98, hu98⟩ : ∃ r, r = d_X7_comeUp R_m R_q R (nI c) := ⟨_, rfl⟩
          refine r_callV0 C cw_X7_127 (fun l => c_X7_comeUp l D o_m o_s R_m R_q R (nI c) h10 b10 (nnat (a := c) rfl (by omega)) (by have q0 := cl_n (x := (nI c)) (n := c) rfl (by omega); omega) (by omega) (by omega) u98 hu98) (rest := []) hb85 (k := 0) rfl rfl celO_7 ⟨hb85, hb86, hb87⟩ (fun q h => by unfold fp1 at h; unfold fp1; omega) rfl rfl rfl (Nat.le_of_ble_eq_true rfl) ⟨Nat.le_of_ble_eq_true rfl, Nat.le_of_ble_eq_true rfl, Nat.le_refl 0, Nat.le_refl 0⟩ dX7_spring_159 (fun v H99 hp100 hq101 => ?_)
          obtain ⟨rfl, hn102⟩ := hp100
          have hb103 := blk_kept hb85 (n := 1) rfl (fun q h1 h2 => hq101 q (by unfold fp1; omega))
          have hb104 := blk_kept hb86 (n := 1) rfl (fun q h1 h2 => hq101 q (by unfold fp1; omega))
          dsimp only [psh]
          refine r_iinc C dX7_spring_162 (nI (c + 1)) rfl (nI_inc c rfl) (ls' := [.val (.ref o_m), .val (.ref o_s), .val (.int (nI (c + 1))), z84]) rfl ?_
          refine r_goto C dX7_spring_165 ?_
          have e105 : s82 = d_X7_spring_L139 R_m R_q n80 u98 (c + 1) := by rw [hs82, d_X7_spring_L139]; try exact (if_neg c92).trans ((if_pos c96).trans ((lt_eq hu98).trans (rfl)))
          exact ih81 u98 (c + 1) _ z84 hz84 trivial (by omega) (by omega) hb103 hb104 hn102 s82 e105  kx83
  obtain ⟨s106, hs106⟩ : ∃ r, r = d_X7_spring_L139 R_m R_q 4 s74 0 := ⟨_, rfl⟩
  refine d_X7_spring_L139_w 4 s74 0 _ z48 hz48 trivial (by omega) (by omega) hb75 hb76 hb77 s106 hs106  (fun H110 z89 hz89 z90 hz90 e111  hb107 hb108 hb109 => ?_)
  refine r_aload_n C dX7_spring_168 rfl ?_
  refine r_iconst C dX7_spring_169 (0 : Int32) (by decide) ?_
  refine r_dup2 C dX7_spring_170 rfl rfl ?_
  refine r_iald C hb109 (k := 0) rfl rfl (vp_in_c 0 rfl (by decide)) (j := 0) (cl_n rfl (by decide)) dX7_spring_171 ?_
  refine r_iconst C dX7_spring_172 (1 : Int32) (by decide) ?_
  refine r_iadd C dX7_spring_173 ?_
  refine r_iast C hb109 (k := 0) rfl rfl (by unfold fp1; omega) (vp_in_c 0 rfl (by decide)) (j := 0) (cl_n rfl (by decide)) dX7_spring_174 (fun H112 hb114 hq113 => ?_)
  have hb115 := blk_kept hb107 (n := 1) rfl (fun q h1 h2 => hq113 q (by omega))
  have hb116 := blk_kept hb108 (n := 1) rfl (fun q h1 h2 => hq113 q (by omega))
  refine r_vret C dX7_spring_175 ?_
  have er : res = (pt s106 0 0 ((s106 0 0) + (1 : Int32))) := by rw [hres, d_X7_spring]; try exact (lt_eq hs32).trans ((lt_eq hs74).trans ((lt_eq hs106).trans (rfl)))
  rw [er]
  exact ⟨rfl, hb114⟩

def d_X7_note_L11  : Nat → (Nat → Nat → Int32) → Nat → (Nat → Nat → Int32)
  | 0, R, _ => R
  | n16 + 1, R, k =>
    if (448 : Int32) ≤ (nI k) then
      R
    else
      d_X7_note_L11  n16 (pt R 0 k (R 0 (k + 64))) (k + 1)
def d_X7_note (R_m : Nat → Nat → Int32) (R_nw : Nat → Nat → Int32) (R_bk : Nat → Nat → Int32) : (Nat → Nat → Int32) × (Nat → Nat → Int32) :=
  if (R_m 0 18) = (8 : Int32) then
    lt (d_X7_note_L11 449 R_bk 0) fun s36 =>
    lt (d_X7_copy R_nw s36 64 512 (0 : Int32) (nI (64 * ((R_m 0 18).toNatClampNeg - 1)))) fun u47 =>
    ((pt (pt R_m 0 18 (nI ((R_m 0 18).toNatClampNeg - 1))) 0 18 (nI (((R_m 0 18).toNatClampNeg - 1) + 1))), u47)
  else
    lt (d_X7_copy R_nw R_bk 64 512 (0 : Int32) (nI (64 * (R_m 0 18).toNatClampNeg))) fun u3 =>
    ((pt R_m 0 18 (nI ((R_m 0 18).toNatClampNeg + 1))), u3)
set_option maxHeartbeats 4000000 in
set_option maxRecDepth 100000 in
theorem c_X7_note (l : Launch) (D : DD) (o_m : Nat) (R_m : Nat → Nat → Int32) (R_nw : Nat → Nat → Int32) (R_bk : Nat → Nat → Int32) (h18 : R_m 0 18 = nI (R_m 0 18).toNatClampNeg) (b18 : (R_m 0 18).toNatClampNeg ≤ 8) (res : (Nat → Nat → Int32) × (Nat → Nat → Int32)) (hres : res = d_X7_note R_m R_nw R_bk) : Mt l D yX7_note cX7_note 2 none 1 24 0 0 [.ref o_m] (fun H => blk D ksM0 o_m R_m H ∧ blk D (ksI 64) (o_m + 6) R_nw H ∧ blk D (ksI 512) (o_m + 9) R_bk H) (fun v H => v = none ∧ blk D ksM0 o_m res.1 H ∧ blk D (ksI 512) (o_m + 9) res.2 H) (fp2 o_m 1 (o_m + 9) 1) := by
  refine mt_of (own := RX7) (ls := [.val (.ref o_m), .unset]) rfl (by decide +kernel) rfl ?_
  intro x H C hP
  obtain ⟨hb_m, hb_nw, hb_bk⟩ := hP
  refine r_aload_n C dX7_note_0 rfl ?_
  refine r_get C hb_m (k := 0) rfl rfl celO_7 fw_X7_107 (z := .int (R_m 0 18)) rfl dX7_note_1 ?_
  refine r_bipush C dX7_note_4 (8 : Int32) (by decide) ?_
  refine r_ic_ne C dX7_note_6 (fun c1 => ?_) (fun c1 => ?_)
  · skip
    have f2 : ¬ ((R_m 0 18).toNatClampNeg = 8) := nf_eqn (by omega) (by omega) h18 rfl c1
    refine r_aload_n C dX7_note_49 rfl ?_
    refine r_get C hb_m (k := 0) rfl rfl celO_7 fw_X7_25 rfl dX7_note_50 ?_
    refine r_iconst C dX7_note_53 (0 : Int32) (by decide) ?_
    refine r_aload_n C dX7_note_54 rfl ?_
    refine r_get C hb_m (k := 0) rfl rfl celO_7 fw_X7_34 rfl dX7_note_55 ?_
    refine r_bipush C dX7_note_58 (64 : Int32) (by decide) ?_
    refine r_aload_n C dX7_note_60 rfl ?_
    refine r_get C hb_m (k := 0) rfl rfl celO_7 fw_X7_107 (z := .int (R_m 0 18)) rfl dX7_note_61 ?_
    refine r_imulN C dX7_note_64 (na := 64) (nb := (R_m 0 18).toNatClampNeg) rfl h18 (nc := (64 * (R_m 0 18).toNatClampNeg)) rfl ?_
    obtain ⟨u3, hu3⟩ : ∃ r, r = d_X7_copy R_nw R_bk 64 512 (0 : Int32) (nI (64 * (R_m 0 18).toNatClampNeg)) := ⟨_, rfl⟩
    refine r_callS0 C cw_X7_63 (fun l => c_X7_copy l D (o_m + 6) (o_m + 9) R_nw R_bk 64 512 (0 : Int32) (nI (64 * (R_m 0 18).toNatClampNeg)) (by omega) (by omega) (by decide) (by have q0 := cl_n (x := (0 : Int32)) (n := 0) rfl (by omega); omega) (nnat (a := (64 * (R_m 0 18).toNatClampNeg)) rfl (by omega)) (by have q0 := cl_n (x := (nI (64 * (R_m 0 18).toNatClampNeg))) (n := (64 * (R_m 0 18).toNatClampNeg)) rfl (by omega); omega) (by omega) u3 hu3) (rest := []) ⟨hb_nw, hb_bk⟩ (fun q h => by unfold fp1 at h; unfold fp2; omega) rfl rfl rfl (Nat.le_of_ble_eq_true rfl) ⟨Nat.le_of_ble_eq_true rfl, Nat.le_of_ble_eq_true rfl, Nat.le_refl 0, Nat.le_refl 0⟩ dX7_note_65 (fun v H4 hp5 hq6 => ?_)
    obtain ⟨rfl, hn7⟩ := hp5
    have hb8 := blk_kept hb_m (n := 1) rfl (fun q h1 h2 => hq6 q (by unfold fp1; omega))
    have hb9 := blk_kept hb_nw (n := 1) rfl (fun q h1 h2 => hq6 q (by unfold fp1; omega))
    dsimp only [psh]
    refine r_aload_n C dX7_note_68 rfl ?_
    refine r_dup C dX7_note_69 rfl ?_
    refine r_get C hb8 (k := 0) rfl rfl celO_7 fw_X7_107 (z := .int (R_m 0 18)) rfl dX7_note_70 ?_
    refine r_iconst C dX7_note_73 (1 : Int32) (by decide) ?_
    refine r_iaddN C dX7_note_74 (na := (R_m 0 18).toNatClampNeg) (nb := 1) h18 rfl (nc := ((R_m 0 18).toNatClampNeg + 1)) rfl ?_
    refine r_put C hb8 (k := 0) rfl rfl (by unfold fp2; omega) fw_X7_107 fp_7_18 (Or.inr rfl) dX7_note_75 (fun H10 hb12 hq11 => ?_)
    have hb13 := blk_kept hb9 (n := 1) rfl (fun q h1 h2 => hq11 q (by omega))
    have hb14 := blk_kept hn7 (n := 1) rfl (fun q h1 h2 => hq11 q (by omega))
    refine r_vret C dX7_note_78 ?_
    have er : res = ((pt R_m 0 18 (nI ((R_m 0 18).toNatClampNeg + 1))), u3) := by rw [hres, d_X7_note]; try exact (if_neg c1).trans ((lt_eq hu3).trans (rfl))
    rw [er]
    exact ⟨rfl, hb12, hb14⟩
  · skip
    have f15 : ((R_m 0 18).toNatClampNeg = 8) := nf_eq (by omega) (by omega) h18 rfl c1
    refine r_iconst C dX7_note_9 (0 : Int32) (by decide) ?_
    refine r_istore_n C dX7_note_10 (ls' := [.val (.ref o_m), .val (.int (0 : Int32))]) rfl trivial rfl ?_
    have d_X7_note_L11_w : ∀ (n16 : Nat) (R : Nat → Nat → Int32) (k : Nat) (H23 : Heap), True → (k ≤ 448) → (448 - k < n16) → blk D ksM0 o_m R_m H23 → blk D (ksI 64) (o_m + 6) R_nw H23 → blk D (ksI 512) (o_m + 9) R H23 → ∀ s18 : (Nat → Nat → Int32), s18 = d_X7_note_L11  n16 R k → (∀ (H' : Heap) (z24 : Slot) (_ : slot1 z24), True → blk D ksM0 o_m R_m H' → blk D (ksI 64) (o_m + 6) R_nw H' → blk D (ksI 512) (o_m + 9) s18 H' → WG x (fp2 o_m 1 (o_m + 9) 1) (Fin x (fun v H => v = none ∧ blk D ksM0 o_m res.1 H ∧ blk D (ksI 512) (o_m + 9) res.2 H) (fp2 o_m 1 (o_m + 9) 1) 0 0) H' 0 0 39 [.val (.ref o_m), z24] []) → WG x (fp2 o_m 1 (o_m + 9) 1) (Fin x (fun v H => v = none ∧ blk D ksM0 o_m res.1 H ∧ blk D (ksI 512) (o_m + 9) res.2 H) (fp2 o_m 1 (o_m + 9) 1) 0 0) H23 0 0 11 [.val (.ref o_m), .val (.int (nI k))] [] := by
      intro n16
      induction n16 with
      | zero => intro R k H23  _ hk hm25; exact absurd hm25 (Nat.not_lt_zero _)
      | succ n16 ih17 =>
        intro R k H23  _ hk hm25 hb20 hb21 hb22 s18 hs18  kx19
        refine r_iload_n C dX7_note_11 rfl ?_
        refine r_sipush C dX7_note_12 (448 : Int32) (by decide) ?_
        refine r_ic_ge C dX7_note_15 (fun c26 => ?_) (fun c26 => ?_)
        · skip
          have f27 : (448 ≤ k) := nf_leI (by omega) (by omega) rfl rfl c26
          have e28 : s18 = R := by rw [hs18, d_X7_note_L11]; try exact (if_pos c26).trans (rfl)
          rw [e28] at kx19
          exact kx19 _ (.val (.int (nI k))) rfl trivial  hb20 hb21 hb22
        · skip
          have f29 : ¬ (448 ≤ k) := nf_leIn (by omega) (by omega) rfl rfl c26
          refine r_aload_n C dX7_note_18 rfl ?_
          refine r_get C hb20 (k := 0) rfl rfl celO_7 fw_X7_34 rfl dX7_note_19 ?_
          refine r_iload_n C dX7_note_22 rfl ?_
          refine r_aload_n C dX7_note_23 rfl ?_
          refine r_get C hb20 (k := 0) rfl rfl celO_7 fw_X7_34 rfl dX7_note_24 ?_
          refine r_iload_n C dX7_note_27 rfl ?_
          refine r_bipush C dX7_note_28 (64 : Int32) (by decide) ?_
          refine r_iaddN C dX7_note_30 (na := k) (nb := 64) rfl rfl (nc := (k + 64)) rfl ?_
          refine r_iald C hb22 (k := 0) rfl rfl (vp_in_n rfl (by omega) (by omega)) (j := (k + 64)) (cl_n rfl (by omega)) dX7_note_31 ?_
          refine r_iast C hb22 (k := 0) rfl rfl (by unfold fp2; omega) (vp_in_n rfl (by omega) (by omega)) (j := k) (cl_n rfl (by omega)) dX7_note_32 (fun H30 hb32 hq31 => ?_)
          have hb33 := blk_kept hb20 (n := 1) rfl (fun q h1 h2 => hq31 q (by omega))
          have hb34 := blk_kept hb21 (n := 1) rfl (fun q h1 h2 => hq31 q (by omega))
          refine r_iinc C dX7_note_33 (nI (k + 1)) rfl (nI_inc k rfl) (ls' := [.val (.ref o_m), .val (.int (nI (k + 1)))]) rfl ?_
          refine r_goto C dX7_note_36 ?_
          have e35 : s18 = d_X7_note_L11  n16 (pt R 0 k (R 0 (k + 64))) (k + 1) := by rw [hs18, d_X7_note_L11]; try exact (if_neg c26).trans (rfl)
          exact ih17 (pt R 0 k (R 0 (k + 64))) (k + 1) _  trivial (by omega) (by omega) hb33 hb34 hb32 s18 e35  kx19
    obtain ⟨s36, hs36⟩ : ∃ r, r = d_X7_note_L11 449 R_bk 0 := ⟨_, rfl⟩
    refine d_X7_note_L11_w 449 R_bk 0 _  trivial (by omega) (by omega) hb_m hb_nw hb_bk s36 hs36  (fun H40 z24 hz24 e41  hb37 hb38 hb39 => ?_)
    refine r_aload_n C dX7_note_39 rfl ?_
    refine r_dup C dX7_note_40 rfl ?_
    refine r_get C hb37 (k := 0) rfl rfl celO_7 fw_X7_107 (z := .int (R_m 0 18)) rfl dX7_note_41 ?_
    refine r_iconst C dX7_note_44 (1 : Int32) (by decide) ?_
    refine r_isubN C dX7_note_45 (na := (R_m 0 18).toNatClampNeg) (nb := 1) h18 rfl (by omega) (nc := ((R_m 0 18).toNatClampNeg - 1)) rfl ?_
    refine r_put C hb37 (k := 0) rfl rfl (by unfold fp2; omega) fw_X7_107 fp_7_18 (Or.inr rfl) dX7_note_46 (fun H42 hb44 hq43 => ?_)
    have hb45 := blk_kept hb38 (n := 1) rfl (fun q h1 h2 => hq43 q (by omega))
    have hb46 := blk_kept hb39 (n := 1) rfl (fun q h1 h2 => hq43 q (by omega))
    refine r_aload_n C dX7_note_49 rfl ?_
    refine r_get C hb44 (k := 0) rfl rfl celO_7 fw_X7_25 rfl dX7_note_50 ?_
    refine r_iconst C dX7_note_53 (0 : Int32) (by decide) ?_
    refine r_aload_n C dX7_note_54 rfl ?_
    refine r_get C hb44 (k := 0) rfl rfl celO_7 fw_X7_34 rfl dX7_note_55 ?_
    refine r_bipush C dX7_note_58 (64 : Int32) (by decide) ?_
    refine r_aload_n C dX7_note_60 rfl ?_
    refine r_get C hb44 (k := 0) rfl rfl celO_7 fw_X7_107 (z := .int (nI ((R_m 0 18).toNatClampNeg - 1))) rfl dX7_note_61 ?_
    refine r_imulN C dX7_note_64 (na := 64) (nb := ((R_m 0 18).toNatClampNeg - 1)) rfl rfl (nc := (64 * ((R_m 0 18).toNatClampNeg - 1))) rfl ?_
    obtain ⟨u47, hu47⟩ : ∃ r, r = d_X7_copy R_nw s36 64 512 (0 : Int32) (nI (64 * ((R_m 0 18).toNatClampNeg - 1))) := ⟨_, rfl⟩
    refine r_callS0 C cw_X7_63 (fun l => c_X7_copy l D (o_m + 6) (o_m + 9) R_nw s36 64 512 (0 : Int32) (nI (64 * ((R_m 0 18).toNatClampNeg - 1))) (by omega) (by omega) (by decide) (by have q0 := cl_n (x := (0 : Int32)) (n := 0) rfl (by omega); omega) (nnat (a := (64 * ((R_m 0 18).toNatClampNeg - 1))) rfl (by omega)) (by have q0 := cl_n (x := (nI (64 * ((R_m 0 18).toNatClampNeg - 1)))) (n := (64 * ((R_m 0 18).toNatClampNeg - 1))) rfl (by omega); omega) (by omega) u47 hu47) (rest := []) ⟨hb45, hb46⟩ (fun q h => by unfold fp1 at h; unfold fp2; omega) rfl rfl rfl (Nat.le_of_ble_eq_true rfl) ⟨Nat.le_of_ble_eq_true rfl, Nat.le_of_ble_eq_true rfl, Nat.le_refl 0, Nat.le_refl 0⟩ dX7_note_65 (fun v H48 hp49 hq50 => ?_)
    obtain ⟨rfl, hn51⟩ := hp49
    have hb52 := blk_kept hb44 (n := 1) rfl (fun q h1 h2 => hq50 q (by unfold fp1; omega))
    have hb53 := blk_kept hb45 (n := 1) rfl (fun q h1 h2 => hq50 q (by unfold fp1; omega))
    dsimp only [psh]
    refine r_aload_n C dX7_note_68 rfl ?_
    refine r_dup C dX7_note_69 rfl ?_
    refine r_get C hb52 (k := 0) rfl rfl celO_7 fw_X7_107 (z := .int (nI ((R_m 0 18).toNatClampNeg - 1))) rfl dX7_note_70 ?_
    refine r_iconst C dX7_note_73 (1 : Int32) (by decide) ?_
    refine r_iaddN C dX7_note_74 (na := ((R_m 0 18).toNatClampNeg - 1)) (nb := 1) rfl rfl (nc := (((R_m 0 18).toNatClampNeg - 1) + 1)) rfl ?_
    refine r_put C hb52 (k := 0) rfl rfl (by unfold fp2; omega) fw_X7_107 fp_7_18 (Or.inr rfl) dX7_note_75 (fun H54 hb56 hq55 => ?_)
    have hb57 := blk_kept hb53 (n := 1) rfl (fun q h1 h2 => hq55 q (by omega))
    have hb58 := blk_kept hn51 (n := 1) rfl (fun q h1 h2 => hq55 q (by omega))
    refine r_vret C dX7_note_78 ?_
    have er : res = ((pt (pt R_m 0 18 (nI ((R_m 0 18).toNatClampNeg - 1))) 0 18 (nI (((R_m 0 18).toNatClampNeg - 1) + 1))), u47) := by rw [hres, d_X7_note]; try exact (if_pos c1).trans ((lt_eq hs36).trans ((lt_eq hu47).trans (rfl)))
    rw [er]
    exact ⟨rfl, hb56, hb58⟩

def d_X7_tryOn_L12 (R_m : Nat → Nat → Int32) (R_q : Nat → Nat → Int32) (n : Int32) : Nat → (Nat → Nat → Int32) → Nat → (Nat → Nat → Int32)
  | 0, R, _ => R
  | n9 + 1, R, k =>
    if n ≤ (nI k) then
      R
    else
      lt (d_X7_spring R_m R_q R) fun u24 =>
      d_X7_tryOn_L12 R_m R_q n n9 u24 (k + 1)
def d_X7_tryOn (R_m : Nat → Nat → Int32) (R_q : Nat → Nat → Int32) (R_tr : Nat → Nat → Int32) (R_f : Nat → Nat → Int32) (n : Int32) : (Nat → Nat → Int32) :=
  lt (d_X7_copy R_f R_tr 64 64 (0 : Int32) (0 : Int32)) fun u1 =>
  lt (d_X7_tryOn_L12 R_m R_q n (n.toNatClampNeg + 1) u1 0) fun s33 =>
  s33
set_option maxHeartbeats 4000000 in
set_option maxRecDepth 100000 in
theorem c_X7_tryOn (l : Launch) (D : DD) (o_m o_f : Nat) (R_m : Nat → Nat → Int32) (R_q : Nat → Nat → Int32) (R_tr : Nat → Nat → Int32) (R_f : Nat → Nat → Int32) (n : Int32) (h10 : R_m 0 10 = nI (R_m 0 10).toNatClampNeg) (b10 : (R_m 0 10).toNatClampNeg ≤ 6) (h11 : R_m 0 11 = nI (R_m 0 11).toNatClampNeg) (b11 : (R_m 0 11).toNatClampNeg ≤ 3) (hn : n = nI n.toNatClampNeg) (hln : n.toNatClampNeg ≤ 30) (hd : o_f ≠ o_m + 8) (res : (Nat → Nat → Int32)) (hres : res = d_X7_tryOn R_m R_q R_tr R_f n) : Mt l D yX7_tryOn cX7_tryOn 4 none 3 75 0 0 [.ref o_m, .ref o_f, .int n] (fun H => blk D ksM0 o_m R_m H ∧ blk D (ksI 6) (o_m + 5) R_q H ∧ blk D (ksI 64) (o_m + 8) R_tr H ∧ blk D (ksI 64) o_f R_f H) (fun v H => v = none ∧ blk D (ksI 64) (o_m + 8) res H) (fp1 (o_m + 8) 1) := by
  refine mt_of (own := RX7) (ls := [.val (.ref o_m), .val (.ref o_f), .val (.int n), .unset]) rfl (by decide +kernel) rfl ?_
  intro x H C hP
  obtain ⟨hb_m, hb_q, hb_tr, hb_f⟩ := hP
  refine r_aload_n C dX7_tryOn_0 rfl ?_
  refine r_iconst C dX7_tryOn_1 (0 : Int32) (by decide) ?_
  refine r_aload_n C dX7_tryOn_2 rfl ?_
  refine r_get C hb_m (k := 0) rfl rfl celO_7 fw_X7_31 rfl dX7_tryOn_3 ?_
  refine r_iconst C dX7_tryOn_6 (0 : Int32) (by decide) ?_
  obtain ⟨u1, hu1⟩ : ∃ r, r = d_X7_copy R_f R_tr 64 64 (0 : Int32) (0 : Int32) := ⟨_, rfl⟩
  refine r_callS0 C cw_X7_63 (fun l => c_X7_copy l D o_f (o_m + 8) R_f R_tr 64 64 (0 : Int32) (0 : Int32) (by omega) (by omega) (by decide) (by have q0 := cl_n (x := (0 : Int32)) (n := 0) rfl (by omega); omega) (by decide) (by have q0 := cl_n (x := (0 : Int32)) (n := 0) rfl (by omega); omega) (by omega) u1 hu1) (rest := []) ⟨hb_f, hb_tr⟩ (fun q h => by unfold fp1 at h; unfold fp1; omega) rfl rfl rfl (Nat.le_of_ble_eq_true rfl) ⟨Nat.le_of_ble_eq_true rfl, Nat.le_of_ble_eq_true rfl, Nat.le_refl 0, Nat.le_refl 0⟩ dX7_tryOn_7 (fun v H2 hp3 hq4 => ?_)
  obtain ⟨rfl, hn5⟩ := hp3
  have hb6 := blk_kept hb_m (n := 1) rfl (fun q h1 h2 => hq4 q (by unfold fp1; omega))
  have hb7 := blk_kept hb_q (n := 1) rfl (fun q h1 h2 => hq4 q (by unfold fp1; omega))
  have hb8 := blk_kept hb_f (n := 1) rfl (fun q h1 h2 => hq4 q (by unfold fp1; omega))
  dsimp only [psh]
  refine r_iconst C dX7_tryOn_10 (0 : Int32) (by decide) ?_
  refine r_istore_n C dX7_tryOn_11 (ls' := [.val (.ref o_m), .val (.ref o_f), .val (.int n), .val (.int (0 : Int32))]) rfl trivial rfl ?_
  have d_X7_tryOn_L12_w : ∀ (n9 : Nat) (R : Nat → Nat → Int32) (k : Nat) (H17 : Heap), True → (k ≤ n.toNatClampNeg) → (n.toNatClampNeg - k < n9) → blk D ksM0 o_m R_m H17 → blk D (ksI 6) (o_m + 5) R_q H17 → blk D (ksI 64) (o_m + 8) R H17 → blk D (ksI 64) o_f R_f H17 → ∀ s11 : (Nat → Nat → Int32), s11 = d_X7_tryOn_L12 R_m R_q n n9 R k → (∀ (H' : Heap) (z18 : Slot) (_ : slot1 z18), True → blk D ksM0 o_m R_m H' → blk D (ksI 6) (o_m + 5) R_q H' → blk D (ksI 64) (o_m + 8) s11 H' → blk D (ksI 64) o_f R_f H' → WG x (fp1 (o_m + 8) 1) (Fin x (fun v H => v = none ∧ blk D (ksI 64) (o_m + 8) res H) (fp1 (o_m + 8) 1) 0 0) H' 0 0 31 [.val (.ref o_m), .val (.ref o_f), .val (.int n), z18] []) → WG x (fp1 (o_m + 8) 1) (Fin x (fun v H => v = none ∧ blk D (ksI 64) (o_m + 8) res H) (fp1 (o_m + 8) 1) 0 0) H17 0 0 12 [.val (.ref o_m), .val (.ref o_f), .val (.int n), .val (.int (nI k))] [] := by
    intro n9
    induction n9 with
    | zero => intro R k H17  _ hk hm19; exact absurd hm19 (Nat.not_lt_zero _)
    | succ n9 ih10 =>
      intro R k H17  _ hk hm19 hb13 hb14 hb15 hb16 s11 hs11  kx12
      refine r_iload_n C dX7_tryOn_12 rfl ?_
      refine r_iload_n C dX7_tryOn_13 rfl ?_
      refine r_ic_ge C dX7_tryOn_14 (fun c20 => ?_) (fun c20 => ?_)
      · skip
        have f21 : (n.toNatClampNeg ≤ k) := nf_leI (by omega) (by omega) hn rfl c20
        have e22 : s11 = R := by rw [hs11, d_X7_tryOn_L12]; try exact (if_pos c20).trans (rfl)
        rw [e22] at kx12
        exact kx12 _ (.val (.int (nI k))) rfl trivial  hb13 hb14 hb15 hb16
      · skip
        have f23 : ¬ (n.toNatClampNeg ≤ k) := nf_leIn (by omega) (by omega) hn rfl c20
        refine r_aload_n C dX7_tryOn_17 rfl ?_
        refine r_aload_n C dX7_tryOn_18 rfl ?_
        refine r_get C hb13 (k := 0) rfl rfl celO_7 fw_X7_31 rfl dX7_tryOn_19 ?_
        obtain ⟨u24, hu24⟩ : ∃ r, r = d_X7_spring R_m R_q R := ⟨_, rfl⟩
        refine r_callV0 C cw_X7_134 (fun l => c_X7_spring l D o_m (o_m + 8) R_m R_q R h10 b10 h11 b11 (by omega) (by omega) u24 hu24) (rest := []) hb13 (k := 0) rfl rfl celO_7 ⟨hb13, hb14, hb15⟩ (fun q h => by unfold fp1 at h; unfold fp1; omega) rfl rfl rfl (Nat.le_of_ble_eq_true rfl) ⟨Nat.le_of_ble_eq_true rfl, Nat.le_of_ble_eq_true rfl, Nat.le_refl 0, Nat.le_refl 0⟩ dX7_tryOn_22 (fun v H25 hp26 hq27 => ?_)
        obtain ⟨rfl, hn28⟩ := hp26
        have hb29 := blk_kept hb13 (n := 1) rfl (fun q h1 h2 => hq27 q (by unfold fp1; omega))
        have hb30 := blk_kept hb14 (n := 1) rfl (fun q h1 h2 => hq27 q (by unfold fp1; omega))
        have hb31 := blk_kept hb16 (n := 1) rfl (fun q h1 h2 => hq27 q (by unfold fp1; omega))
        dsimp only [psh]
        refine r_iinc C dX7_tryOn_25 (nI (k + 1)) rfl (nI_inc k rfl) (ls' := [.val (.ref o_m), .val (.ref o_f), .val (.int n), .val (.int (nI (k + 1)))]) rfl ?_
        refine r_goto C dX7_tryOn_28 ?_
        have e32 : s11 = d_X7_tryOn_L12 R_m R_q n n9 u24 (k + 1) := by rw [hs11, d_X7_tryOn_L12]; try exact (if_neg c20).trans ((lt_eq hu24).trans (rfl))
        exact ih10 u24 (k + 1) _  trivial (by omega) (by omega) hb29 hb30 hn28 hb31 s11 e32  kx12
  obtain ⟨s33, hs33⟩ : ∃ r, r = d_X7_tryOn_L12 R_m R_q n (n.toNatClampNeg + 1) u1 0 := ⟨_, rfl⟩
  refine d_X7_tryOn_L12_w (n.toNatClampNeg + 1) u1 0 _  trivial (by omega) (by omega) hb6 hb7 hn5 hb8 s33 hs33  (fun H38 z18 hz18 e39  hb34 hb35 hb36 hb37 => ?_)
  refine r_vret C dX7_tryOn_31 ?_
  have er : res = s33 := by rw [hres, d_X7_tryOn]; try exact (lt_eq hu1).trans ((lt_eq hs33).trans (rfl))
  rw [er]
  exact ⟨rfl, hb36⟩

def d_X7_burntOf_L4 (R_m : Nat → Nat → Int32) (R_s : Nat → Nat → Int32) : Nat → Int32 → Nat → Int32
  | 0, n, _ => n
  | n1 + 1, n, t =>
    if (R_m 0 10) ≤ (nI t) then
      n
    else
      d_X7_burntOf_L4 R_m R_s n1 (n + (R_s 0 (25 + t))) (t + 1)
def d_X7_burntOf (R_m : Nat → Nat → Int32) (R_s : Nat → Nat → Int32) : Int32 :=
  lt (d_X7_burntOf_L4 R_m R_s 7 (0 : Int32) 0) fun s15 =>
  s15
set_option maxHeartbeats 4000000 in
set_option maxRecDepth 100000 in
theorem c_X7_burntOf (l : Launch) (D : DD) (o_m o_s : Nat) (R_m : Nat → Nat → Int32) (R_s : Nat → Nat → Int32) (h10 : R_m 0 10 = nI (R_m 0 10).toNatClampNeg) (b10 : (R_m 0 10).toNatClampNeg ≤ 6) (res : Int32) (hres : res = d_X7_burntOf R_m R_s) : Mt l D yX7_burntOf cX7_burntOf 4 (some .int) 0 0 0 0 [.ref o_m, .ref o_s] (fun H => blk D ksM0 o_m R_m H ∧ blk D (ksI 64) o_s R_s H) (fun v H => v = some (.int res)) fp0 := by
  refine mt_of (own := RX7) (ls := [.val (.ref o_m), .val (.ref o_s), .unset, .unset]) rfl (by decide +kernel) rfl ?_
  intro x H C hP
  obtain ⟨hb_m, hb_s⟩ := hP
  refine r_iconst C dX7_burntOf_0 (0 : Int32) (by decide) ?_
  refine r_istore_n C dX7_burntOf_1 (ls' := [.val (.ref o_m), .val (.ref o_s), .val (.int (0 : Int32)), .unset]) rfl trivial rfl ?_
  refine r_iconst C dX7_burntOf_2 (0 : Int32) (by decide) ?_
  refine r_istore_n C dX7_burntOf_3 (ls' := [.val (.ref o_m), .val (.ref o_s), .val (.int (0 : Int32)), .val (.int (0 : Int32))]) rfl trivial rfl ?_
  have d_X7_burntOf_L4_w : ∀ (n1 : Nat) (n : Int32) (t : Nat) (H7 : Heap), True → (t ≤ (R_m 0 10).toNatClampNeg) → (6 - t < n1) → blk D ksM0 o_m R_m H7 → blk D (ksI 64) o_s R_s H7 → ∀ s3 : Int32, s3 = d_X7_burntOf_L4 R_m R_s n1 n t → (∀ (H' : Heap) (z8 : Slot) (_ : slot1 z8), True → blk D ksM0 o_m R_m H' → blk D (ksI 64) o_s R_s H' → WG x fp0 (Fin x (fun v H => v = some (.int res)) fp0 0 0) H' 0 0 27 [.val (.ref o_m), .val (.ref o_s), .val (.int s3), z8] []) → WG x fp0 (Fin x (fun v H => v = some (.int res)) fp0 0 0) H7 0 0 4 [.val (.ref o_m), .val (.ref o_s), .val (.int n), .val (.int (nI t))] [] := by
    intro n1
    induction n1 with
    | zero => intro n t H7  _ ht hm9; exact absurd hm9 (Nat.not_lt_zero _)
    | succ n1 ih2 =>
      intro n t H7  _ ht hm9 hb5 hb6 s3 hs3  kx4
      refine r_iload_n C dX7_burntOf_4 rfl ?_
      refine r_aload_n C dX7_burntOf_5 rfl ?_
      refine r_get C hb5 (k := 0) rfl rfl celO_7 fw_X7_49 (z := .int (R_m 0 10)) rfl dX7_burntOf_6 ?_
      refine r_ic_ge C dX7_burntOf_9 (fun c10 => ?_) (fun c10 => ?_)
      · skip
        have f11 : ((R_m 0 10).toNatClampNeg ≤ t) := nf_leI (by omega) (by omega) h10 rfl c10
        have e12 : s3 = n := by rw [hs3, d_X7_burntOf_L4]; try exact (if_pos c10).trans (rfl)
        rw [e12] at kx4
        exact kx4 _ (.val (.int (nI t))) rfl trivial  hb5 hb6
      · skip
        have f13 : ¬ ((R_m 0 10).toNatClampNeg ≤ t) := nf_leIn (by omega) (by omega) h10 rfl c10
        refine r_iload_n C dX7_burntOf_12 rfl ?_
        refine r_aload_n C dX7_burntOf_13 rfl ?_
        refine r_bipush C dX7_burntOf_14 (25 : Int32) (by decide) ?_
        refine r_iload_n C dX7_burntOf_16 rfl ?_
        refine r_iaddN C dX7_burntOf_17 (na := 25) (nb := t) rfl rfl (nc := (25 + t)) rfl ?_
        refine r_iald C hb6 (k := 0) rfl rfl (vp_in_n rfl (by omega) (by omega)) (j := (25 + t)) (cl_n rfl (by omega)) dX7_burntOf_18 ?_
        refine r_iadd C dX7_burntOf_19 ?_
        refine r_istore_n C dX7_burntOf_20 (ls' := [.val (.ref o_m), .val (.ref o_s), .val (.int (n + (R_s 0 (25 + t)))), .val (.int (nI t))]) rfl rfl rfl ?_
        refine r_iinc C dX7_burntOf_21 (nI (t + 1)) rfl (nI_inc t rfl) (ls' := [.val (.ref o_m), .val (.ref o_s), .val (.int (n + (R_s 0 (25 + t)))), .val (.int (nI (t + 1)))]) rfl ?_
        refine r_goto C dX7_burntOf_24 ?_
        have e14 : s3 = d_X7_burntOf_L4 R_m R_s n1 (n + (R_s 0 (25 + t))) (t + 1) := by rw [hs3, d_X7_burntOf_L4]; try exact (if_neg c10).trans (rfl)
        exact ih2 (n + (R_s 0 (25 + t))) (t + 1) _  trivial (by omega) (by omega) hb5 hb6 s3 e14  kx4
  obtain ⟨s15, hs15⟩ : ∃ r, r = d_X7_burntOf_L4 R_m R_s 7 (0 : Int32) 0 := ⟨_, rfl⟩
  refine d_X7_burntOf_L4_w 7 (0 : Int32) 0 _  trivial (by omega) (by omega) hb_m hb_s s15 hs15  (fun H18 z8 hz8 e19  hb16 hb17 => ?_)
  refine r_iload_n C dX7_burntOf_27 rfl ?_
  refine r_iret C dX7_burntOf_28 ?_
  have er : res = s15 := by rw [hres, d_X7_burntOf]; try exact (lt_eq hs15).trans (rfl)
  rw [er]

def d_X7_silverOf_L4 (R_m : Nat → Nat → Int32) (R_s : Nat → Nat → Int32) : Nat → Int32 → Nat → Int32
  | 0, sum, _ => sum
  | n1 + 1, sum, t =>
    if (R_m 0 10) ≤ (nI t) then
      sum
    else
      d_X7_silverOf_L4 R_m R_s n1 (sum + (R_s 0 (1 + t))) (t + 1)
def d_X7_silverOf (R_m : Nat → Nat → Int32) (R_s : Nat → Nat → Int32) : Int32 :=
  lt (d_X7_silverOf_L4 R_m R_s 7 (0 : Int32) 0) fun s15 =>
  s15
set_option maxHeartbeats 4000000 in
set_option maxRecDepth 100000 in
theorem c_X7_silverOf (l : Launch) (D : DD) (o_m o_s : Nat) (R_m : Nat → Nat → Int32) (R_s : Nat → Nat → Int32) (h10 : R_m 0 10 = nI (R_m 0 10).toNatClampNeg) (b10 : (R_m 0 10).toNatClampNeg ≤ 6) (res : Int32) (hres : res = d_X7_silverOf R_m R_s) : Mt l D yX7_silverOf cX7_silverOf 4 (some .int) 0 0 0 0 [.ref o_m, .ref o_s] (fun H => blk D ksM0 o_m R_m H ∧ blk D (ksI 64) o_s R_s H) (fun v H => v = some (.int res)) fp0 := by
  refine mt_of (own := RX7) (ls := [.val (.ref o_m), .val (.ref o_s), .unset, .unset]) rfl (by decide +kernel) rfl ?_
  intro x H C hP
  obtain ⟨hb_m, hb_s⟩ := hP
  refine r_iconst C dX7_silverOf_0 (0 : Int32) (by decide) ?_
  refine r_istore_n C dX7_silverOf_1 (ls' := [.val (.ref o_m), .val (.ref o_s), .val (.int (0 : Int32)), .unset]) rfl trivial rfl ?_
  refine r_iconst C dX7_silverOf_2 (0 : Int32) (by decide) ?_
  refine r_istore_n C dX7_silverOf_3 (ls' := [.val (.ref o_m), .val (.ref o_s), .val (.int (0 : Int32)), .val (.int (0 : Int32))]) rfl trivial rfl ?_
  have d_X7_silverOf_L4_w : ∀ (n1 : Nat) (sum : Int32) (t : Nat) (H7 : Heap), True → (t ≤ (R_m 0 10).toNatClampNeg) → (6 - t < n1) → blk D ksM0 o_m R_m H7 → blk D (ksI 64) o_s R_s H7 → ∀ s3 : Int32, s3 = d_X7_silverOf_L4 R_m R_s n1 sum t → (∀ (H' : Heap) (z8 : Slot) (_ : slot1 z8), True → blk D ksM0 o_m R_m H' → blk D (ksI 64) o_s R_s H' → WG x fp0 (Fin x (fun v H => v = some (.int res)) fp0 0 0) H' 0 0 26 [.val (.ref o_m), .val (.ref o_s), .val (.int s3), z8] []) → WG x fp0 (Fin x (fun v H => v = some (.int res)) fp0 0 0) H7 0 0 4 [.val (.ref o_m), .val (.ref o_s), .val (.int sum), .val (.int (nI t))] [] := by
    intro n1
    induction n1 with
    | zero => intro sum t H7  _ ht hm9; exact absurd hm9 (Nat.not_lt_zero _)
    | succ n1 ih2 =>
      intro sum t H7  _ ht hm9 hb5 hb6 s3 hs3  kx4
      refine r_iload_n C dX7_silverOf_4 rfl ?_
      refine r_aload_n C dX7_silverOf_5 rfl ?_
      refine r_get C hb5 (k := 0) rfl rfl celO_7 fw_X7_49 (z := .int (R_m 0 10)) rfl dX7_silverOf_6 ?_
      refine r_ic_ge C dX7_silverOf_9 (fun c10 => ?_) (fun c10 => ?_)
      · skip
        have f11 : ((R_m 0 10).toNatClampNeg ≤ t) := nf_leI (by omega) (by omega) h10 rfl c10
        have e12 : s3 = sum := by rw [hs3, d_X7_silverOf_L4]; try exact (if_pos c10).trans (rfl)
        rw [e12] at kx4
        exact kx4 _ (.val (.int (nI t))) rfl trivial  hb5 hb6
      · skip
        have f13 : ¬ ((R_m 0 10).toNatClampNeg ≤ t) := nf_leIn (by omega) (by omega) h10 rfl c10
        refine r_iload_n C dX7_silverOf_12 rfl ?_
        refine r_aload_n C dX7_silverOf_13 rfl ?_
        refine r_iconst C dX7_silverOf_14 (1 : Int32) (by decide) ?_
        refine r_iload_n C dX7_silverOf_15 rfl ?_
        refine r_iaddN C dX7_silverOf_16 (na := 1) (nb := t) rfl rfl (nc := (1 + t)) rfl ?_
        refine r_iald C hb6 (k := 0) rfl rfl (vp_in_n rfl (by omega) (by omega)) (j := (1 + t)) (cl_n rfl (by omega)) dX7_silverOf_17 ?_
        refine r_iadd C dX7_silverOf_18 ?_
        refine r_istore_n C dX7_silverOf_19 (ls' := [.val (.ref o_m), .val (.ref o_s), .val (.int (sum + (R_s 0 (1 + t)))), .val (.int (nI t))]) rfl rfl rfl ?_
        refine r_iinc C dX7_silverOf_20 (nI (t + 1)) rfl (nI_inc t rfl) (ls' := [.val (.ref o_m), .val (.ref o_s), .val (.int (sum + (R_s 0 (1 + t)))), .val (.int (nI (t + 1)))]) rfl ?_
        refine r_goto C dX7_silverOf_23 ?_
        have e14 : s3 = d_X7_silverOf_L4 R_m R_s n1 (sum + (R_s 0 (1 + t))) (t + 1) := by rw [hs3, d_X7_silverOf_L4]; try exact (if_neg c10).trans (rfl)
        exact ih2 (sum + (R_s 0 (1 + t))) (t + 1) _  trivial (by omega) (by omega) hb5 hb6 s3 e14  kx4
  obtain ⟨s15, hs15⟩ : ∃ r, r = d_X7_silverOf_L4 R_m R_s 7 (0 : Int32) 0 := ⟨_, rfl⟩
  refine d_X7_silverOf_L4_w 7 (0 : Int32) 0 _  trivial (by omega) (by omega) hb_m hb_s s15 hs15  (fun H18 z8 hz8 e19  hb16 hb17 => ?_)
  refine r_iload_n C dX7_silverOf_26 rfl ?_
  refine r_iret C dX7_silverOf_27 ?_
  have er : res = s15 := by rw [hres, d_X7_silverOf]; try exact (lt_eq hs15).trans (rfl)
  rw [er]

def d_X7_silverBy (R_m : Nat → Nat → Int32) (R_q : Nat → Nat → Int32) (R_nw : Nat → Nat → Int32) (R_tr : Nat → Nat → Int32) (t : Int32) (u : Int32) (a : Int32) (b : Int32) (of_ : Int32) : Int32 × (Nat → Nat → Int32) :=
  lt (d_X7_copy R_nw R_tr 64 64 (0 : Int32) (0 : Int32)) fun u1 =>
  lt (d_X7_spring R_m R_q (pt (pt u1 0 (19 + t.toNatClampNeg) a) 0 (19 + u.toNatClampNeg) b)) fun u21 =>
  ((u21 0 (1 + of_.toNatClampNeg)), u21)
set_option maxHeartbeats 4000000 in
set_option maxRecDepth 100000 in
theorem c_X7_silverBy (l : Launch) (D : DD) (o_m : Nat) (R_m : Nat → Nat → Int32) (R_q : Nat → Nat → Int32) (R_nw : Nat → Nat → Int32) (R_tr : Nat → Nat → Int32) (t : Int32) (u : Int32) (a : Int32) (b : Int32) (of_ : Int32) (h10 : R_m 0 10 = nI (R_m 0 10).toNatClampNeg) (b10 : (R_m 0 10).toNatClampNeg ≤ 6) (h11 : R_m 0 11 = nI (R_m 0 11).toNatClampNeg) (b11 : (R_m 0 11).toNatClampNeg ≤ 3) (ht : t = nI t.toNatClampNeg) (hlt : t.toNatClampNeg < 6) (hu : u = nI u.toNatClampNeg) (hlu : u.toNatClampNeg < 6) (hof_ : of_ = nI of_.toNatClampNeg) (hlof_ : of_.toNatClampNeg < 6) (res : Int32 × (Nat → Nat → Int32)) (hres : res = d_X7_silverBy R_m R_q R_nw R_tr t u a b of_) : Mt l D yX7_silverBy cX7_silverBy 6 (some .int) 3 75 0 0 [.ref o_m, .int t, .int u, .int a, .int b, .int of_] (fun H => blk D ksM0 o_m R_m H ∧ blk D (ksI 6) (o_m + 5) R_q H ∧ blk D (ksI 64) (o_m + 6) R_nw H ∧ blk D (ksI 64) (o_m + 8) R_tr H) (fun v H => v = some (.int res.1) ∧ blk D (ksI 64) (o_m + 8) res.2 H) (fp1 (o_m + 8) 1) := by
  refine mt_of (own := RX7) (ls := [.val (.ref o_m), .val (.int t), .val (.int u), .val (.int a), .val (.int b), .val (.int of_)]) rfl (by decide +kernel) rfl ?_
  intro x H C hP
  obtain ⟨hb_m, hb_q, hb_nw, hb_tr⟩ := hP
  refine r_aload_n C dX7_silverBy_0 rfl ?_
  refine r_get C hb_m (k := 0) rfl rfl celO_7 fw_X7_25 rfl dX7_silverBy_1 ?_
  refine r_iconst C dX7_silverBy_4 (0 : Int32) (by decide) ?_
  refine r_aload_n C dX7_silverBy_5 rfl ?_
  refine r_get C hb_m (k := 0) rfl rfl celO_7 fw_X7_31 rfl dX7_silverBy_6 ?_
  refine r_iconst C dX7_silverBy_9 (0 : Int32) (by decide) ?_
  obtain ⟨u1, hu1⟩ : ∃ r, r = d_X7_copy R_nw R_tr 64 64 (0 : Int32) (0 : Int32) := ⟨_, rfl⟩
  refine r_callS0 C cw_X7_63 (fun l => c_X7_copy l D (o_m + 6) (o_m + 8) R_nw R_tr 64 64 (0 : Int32) (0 : Int32) (by omega) (by omega) (by decide) (by have q0 := cl_n (x := (0 : Int32)) (n := 0) rfl (by omega); omega) (by decide) (by have q0 := cl_n (x := (0 : Int32)) (n := 0) rfl (by omega); omega) (by omega) u1 hu1) (rest := []) ⟨hb_nw, hb_tr⟩ (fun q h => by unfold fp1 at h; unfold fp1; omega) rfl rfl rfl (Nat.le_of_ble_eq_true rfl) ⟨Nat.le_of_ble_eq_true rfl, Nat.le_of_ble_eq_true rfl, Nat.le_refl 0, Nat.le_refl 0⟩ dX7_silverBy_10 (fun v H2 hp3 hq4 => ?_)
  obtain ⟨rfl, hn5⟩ := hp3
  have hb6 := blk_kept hb_m (n := 1) rfl (fun q h1 h2 => hq4 q (by unfold fp1; omega))
  have hb7 := blk_kept hb_q (n := 1) rfl (fun q h1 h2 => hq4 q (by unfold fp1; omega))
  have hb8 := blk_kept hb_nw (n := 1) rfl (fun q h1 h2 => hq4 q (by unfold fp1; omega))
  dsimp only [psh]
  refine r_aload_n C dX7_silverBy_13 rfl ?_
  refine r_get C hb6 (k := 0) rfl rfl celO_7 fw_X7_31 rfl dX7_silverBy_14 ?_
  refine r_bipush C dX7_silverBy_17 (19 : Int32) (by decide) ?_
  refine r_iload_n C dX7_silverBy_19 rfl ?_
  refine r_iaddN C dX7_silverBy_20 (na := 19) (nb := t.toNatClampNeg) rfl ht (nc := (19 + t.toNatClampNeg)) rfl ?_
  refine r_iload_n C dX7_silverBy_21 rfl ?_
  refine r_iast C hn5 (k := 0) rfl rfl (by unfold fp1; omega) (vp_in_n rfl (by omega) (by omega)) (j := (19 + t.toNatClampNeg)) (cl_n rfl (by omega)) dX7_silverBy_22 (fun H9 hb11 hq10 => ?_)
  have hb12 := blk_kept hb6 (n := 1) rfl (fun q h1 h2 => hq10 q (by omega))
  have hb13 := blk_kept hb7 (n := 1) rfl (fun q h1 h2 => hq10 q (by omega))
  have hb14 := blk_kept hb8 (n := 1) rfl (fun q h1 h2 => hq10 q (by omega))
  refine r_aload_n C dX7_silverBy_23 rfl ?_
  refine r_get C hb12 (k := 0) rfl rfl celO_7 fw_X7_31 rfl dX7_silverBy_24 ?_
  refine r_bipush C dX7_silverBy_27 (19 : Int32) (by decide) ?_
  refine r_iload_n C dX7_silverBy_29 rfl ?_
  refine r_iaddN C dX7_silverBy_30 (na := 19) (nb := u.toNatClampNeg) rfl hu (nc := (19 + u.toNatClampNeg)) rfl ?_
  refine r_iload C dX7_silverBy_31 rfl ?_
  refine r_iast C hb11 (k := 0) rfl rfl (by unfold fp1; omega) (vp_in_n rfl (by omega) (by omega)) (j := (19 + u.toNatClampNeg)) (cl_n rfl (by omega)) dX7_silverBy_33 (fun H15 hb17 hq16 => ?_)
  have hb18 := blk_kept hb12 (n := 1) rfl (fun q h1 h2 => hq16 q (by omega))
  have hb19 := blk_kept hb13 (n := 1) rfl (fun q h1 h2 => hq16 q (by omega))
  have hb20 := blk_kept hb14 (n := 1) rfl (fun q h1 h2 => hq16 q (by omega))
  refine r_aload_n C dX7_silverBy_34 rfl ?_
  refine r_aload_n C dX7_silverBy_35 rfl ?_
  refine r_get C hb18 (k := 0) rfl rfl celO_7 fw_X7_31 rfl dX7_silverBy_36 ?_
  obtain ⟨u21, hu21⟩ : ∃ r, r = d_X7_spring R_m R_q (pt (pt u1 0 (19 + t.toNatClampNeg) a) 0 (19 + u.toNatClampNeg) b) := ⟨_, rfl⟩
  refine r_callV0 C cw_X7_134 (fun l => c_X7_spring l D o_m (o_m + 8) R_m R_q (pt (pt u1 0 (19 + t.toNatClampNeg) a) 0 (19 + u.toNatClampNeg) b) h10 b10 h11 b11 (by omega) (by omega) u21 hu21) (rest := []) hb18 (k := 0) rfl rfl celO_7 ⟨hb18, hb19, hb17⟩ (fun q h => by unfold fp1 at h; unfold fp1; omega) rfl rfl rfl (Nat.le_of_ble_eq_true rfl) ⟨Nat.le_of_ble_eq_true rfl, Nat.le_of_ble_eq_true rfl, Nat.le_refl 0, Nat.le_refl 0⟩ dX7_silverBy_39 (fun v H22 hp23 hq24 => ?_)
  obtain ⟨rfl, hn25⟩ := hp23
  have hb26 := blk_kept hb18 (n := 1) rfl (fun q h1 h2 => hq24 q (by unfold fp1; omega))
  have hb27 := blk_kept hb19 (n := 1) rfl (fun q h1 h2 => hq24 q (by unfold fp1; omega))
  have hb28 := blk_kept hb20 (n := 1) rfl (fun q h1 h2 => hq24 q (by unfold fp1; omega))
  dsimp only [psh]
  refine r_aload_n C dX7_silverBy_42 rfl ?_
  refine r_get C hb26 (k := 0) rfl rfl celO_7 fw_X7_31 rfl dX7_silverBy_43 ?_
  refine r_iconst C dX7_silverBy_46 (1 : Int32) (by decide) ?_
  refine r_iload C dX7_silverBy_47 rfl ?_
  refine r_iaddN C dX7_silverBy_49 (na := 1) (nb := of_.toNatClampNeg) rfl hof_ (nc := (1 + of_.toNatClampNeg)) rfl ?_
  refine r_iald C hn25 (k := 0) rfl rfl (vp_in_n rfl (by omega) (by omega)) (j := (1 + of_.toNatClampNeg)) (cl_n rfl (by omega)) dX7_silverBy_50 ?_
  refine r_iret C dX7_silverBy_51 ?_
  have er : res = ((u21 0 (1 + of_.toNatClampNeg)), u21) := by rw [hres, d_X7_silverBy]; try exact (lt_eq hu1).trans ((lt_eq hu21).trans (rfl))
  rw [er]
  exact ⟨rfl, hn25⟩
