/-! the constructors of the class's parts -/
def Z0 : Nat → Nat → Int32 := fun _ _ => 0
def glue (R : Nat → Nat → Int32) (n : Nat) (R' : Nat → Nat → Int32) : Nat → Nat → Int32 := fun k => if k < n then R k else R' (k - n)
theorem blk_nil {D : DD} {o : Nat} {R : Nat → Nat → Int32} {H : Heap} : blk D [] o R H := fun k K h => by cases h
theorem blk_cons {D : DD} {K : Nat × Nat} {ks : List (Nat × Nat)} {o : Nat} {R : Nat → Nat → Int32} {H : Heap} (h : cel D K o (R 0) H) (h2 : blk D ks (o + 1) (fun k => R (k + 1)) H) : blk D (K :: ks) o R H := by
  intro k K' hk
  cases k with
  | zero => cases hk; exact h
  | succ k =>
    have := h2 k K' hk
    rw [show o + 1 + k = o + (k + 1) by omega] at this
    exact this
theorem blk_app {D : DD} {ks1 ks2 : List (Nat × Nat)} {o : Nat} {R R' : Nat → Nat → Int32} {H : Heap} {n : Nat} (h1 : blk D ks1 o R H) (h2 : blk D ks2 (o + n) R' H) (hn : ks1.length = n) : blk D (ks1 ++ ks2) o (glue R n R') H := by
  subst hn
  intro k K hk
  simp only [glue]
  split
  · rename_i hl
    rw [List.getElem?_append_left hl] at hk
    exact h1 k K hk
  · rename_i hl
    rw [List.getElem?_append_right (by omega)] at hk
    have := h2 _ K hk
    rw [show o + ks1.length + (k - ks1.length) = o + k by omega] at this
    exact this
theorem blk_to {D : DD} {ks : List (Nat × Nat)} {o : Nat} {R R' : Nat → Nat → Int32} {H : Heap} (h : blk D ks o R H) (e : ∀ k, k < ks.length → R k = R' k) : blk D ks o R' H := by
  intro k K hk
  rw [← e k (List.getElem?_eq_some_iff.mp hk).1]
  exact h k K hk
theorem blk_ks {D : DD} {ks ks' : List (Nat × Nat)} {o : Nat} {R : Nat → Nat → Int32} {H : Heap} (h : blk D ks o R H) (e : ks = ks') : blk D ks' o R H := e ▸ h
theorem glue0 (n : Nat) : glue Z0 n Z0 = Z0 := by funext k; simp only [glue, Z0]; split <;> rfl
theorem blk_1 {D : DD} {K : Nat × Nat} {o : Nat} {R : Nat → Nat → Int32} {H : Heap} (h : cel D K o (R 0) H) : blk D [K] o R H := blk_cons h blk_nil
theorem raw_cel {D : DD} {t a : Nat} {fs : List Value} {v : Nat → Int32} {H : Heap} (h : raw D t a fs H) (ht : celO t) (hf : fs = vals t a v) (hb : bools t v) : cel D (t, 0) a v H := by
  subst hf
  rw [ht]
  exact ⟨h, hb⟩
set_option maxRecDepth 100000 in
theorem c_X5_init (l : Launch) (D : DD) (a : Nat) : Mt l D yX5_init cX5_init 1 none 1 21 0 0 [.ref a] (fun _ => True) (fun v _ => v = none) fp0 := by
  refine mtI_of (own := RX5) (ls := [.val (.ref a)]) rfl (by decide +kernel) rfl ?_
  intro x H C hi hP
  refine r_aload_n C dX5_init_0 rfl ?_
  refine r_objInit C oi_X5_3 rfl ⟨Nat.le_of_ble_eq_true rfl, Nat.le_of_ble_eq_true rfl⟩ dX5_init_1 ?_
  exact r_vret C dX5_init_4 rfl
set_option maxHeartbeats 4000000 in
set_option maxRecDepth 100000 in
theorem c_X0_init (l : Launch) (D : DD) (a : Nat) : Mt l D yX0_init cX0_init 1 none 1 21 1 6 [.ref a] (fun H => raw D 0 a [.int 0, .int 0, .int 0, .int 0, .int 0, .null] H ∧ H.size = a + 1) (fun v H => v = none ∧ blk D ksCrew a Z0 H) (fp1 a 2) := by
  refine mtI_of (own := RX0) (ls := [.val (.ref a)]) rfl (by decide +kernel) rfl ?_
  intro x H C hi hP
  obtain ⟨hr, hz⟩ := hP
  refine r_aload_n C dX0_init_0 rfl ?_
  refine r_objInit C oi_X0_3 rfl ⟨Nat.le_of_ble_eq_true rfl, Nat.le_of_ble_eq_true rfl⟩ dX0_init_1 ?_
  refine r_aload_n C dX0_init_4 rfl ?_
  refine r_bipush C dX0_init_5 (6 : Int32) (by decide) ?_
  refine r_newI C ac_int (N := 6) (by decide) (by decide) (by decide) ⟨Nat.le_refl _, Nat.le_refl _⟩ dX0_init_7 hz (fun H1 hc hz1 hq1 => ?_)
  have hr1 := raw_kept hr (hq1 a (by omega))
  refine r_putQ C hi hr1 (by unfold fp1; omega) fq_X0_9 (by decide) dX0_init_9 rfl (fun H2 hr2 hz2 hq2 => ?_)
  have hc2 := cel_kept hc (hq2 _ (by omega))
  exact r_vret C dX0_init_12 ⟨rfl, blk_cons (raw_cel hr2 celO_0 rfl ⟨Or.inl rfl, Or.inl rfl⟩) (blk_1 hc2)⟩
set_option maxHeartbeats 4000000 in
set_option maxRecDepth 100000 in
theorem c_X2_init (l : Launch) (D : DD) (a : Nat) : Mt l D yX2_init cX2_init 1 none 1 21 1 4 [.ref a] (fun H => raw D 2 a [.null] H ∧ H.size = a + 1) (fun v H => v = none ∧ blk D ksReader a Z0 H) (fp1 a 2) := by
  refine mtI_of (own := RX2) (ls := [.val (.ref a)]) rfl (by decide +kernel) rfl ?_
  intro x H C hi hP
  obtain ⟨hr, hz⟩ := hP
  refine r_aload_n C dX2_init_0 rfl ?_
  refine r_objInit C oi_X2_3 rfl ⟨Nat.le_of_ble_eq_true rfl, Nat.le_of_ble_eq_true rfl⟩ dX2_init_1 ?_
  refine r_aload_n C dX2_init_4 rfl ?_
  refine r_iconst C dX2_init_5 (4 : Int32) (by decide) ?_
  refine r_newI C ac_int (N := 4) (by decide) (by decide) (by decide) ⟨Nat.le_refl _, Nat.le_refl _⟩ dX2_init_6 hz (fun H1 hc hz1 hq1 => ?_)
  have hr1 := raw_kept hr (hq1 a (by omega))
  refine r_putQ C hi hr1 (by unfold fp1; omega) fq_X2_11 (by decide) dX2_init_8 rfl (fun H2 hr2 hz2 hq2 => ?_)
  have hc2 := cel_kept hc (hq2 _ (by omega))
  exact r_vret C dX2_init_11 ⟨rfl, blk_cons (raw_cel hr2 celO_2 rfl trivial) (blk_1 hc2)⟩

set_option maxHeartbeats 4000000 in
set_option maxRecDepth 100000 in
theorem c_X1_init (l : Launch) (D : DD) (a : Nat) : Mt l D yX1_init cX1_init 1 none 1 21 3 18 [.ref a] (fun H => raw D 1 a [.null, .null, .null, .int 0] H ∧ H.size = a + 1) (fun v H => v = none ∧ blk D ksFinds a Z0 H) (fp1 a 4) := by
  refine mtI_of (own := RX1) (ls := [.val (.ref a)]) rfl (by decide +kernel) rfl ?_
  intro x H C hi hP
  obtain ⟨hr, hz⟩ := hP
  refine r_aload_n C dX1_init_0 rfl ?_
  refine r_objInit C oi_X1_3 rfl ⟨Nat.le_of_ble_eq_true rfl, Nat.le_of_ble_eq_true rfl⟩ dX1_init_1 ?_
  refine r_aload_n C dX1_init_4 rfl ?_
  refine r_bipush C dX1_init_5 (6 : Int32) (by decide) ?_
  refine r_newI C ac_int (N := 6) (by decide) (by decide) (by decide) ⟨Nat.le_of_ble_eq_true rfl, Nat.le_of_ble_eq_true rfl⟩ dX1_init_7 hz (fun H1 hc hz1 hq1 => ?_)
  have hr1 := raw_kept hr (hq1 a (by omega))
  refine r_putQ C hi hr1 (by unfold fp1; omega) fq_X1_9 (by decide) dX1_init_9 rfl (fun H2 hr2 hz2 hq2 => ?_)
  have hc2 := cel_kept hc (hq2 _ (by omega))
  refine r_aload_n C dX1_init_12 rfl ?_
  refine r_bipush C dX1_init_13 (6 : Int32) (by decide) ?_
  refine r_newI C ac_int (N := 6) (by decide) (by decide) (by decide) ⟨Nat.le_of_ble_eq_true rfl, Nat.le_of_ble_eq_true rfl⟩ dX1_init_15 (hz2.trans hz1) (fun H3 hd hz3 hq3 => ?_)
  have hr3 := raw_kept hr2 (hq3 a (by omega))
  have hc3 := cel_kept hc2 (hq3 _ (by omega))
  refine r_putQ C hi hr3 (by unfold fp1; omega) fq_X1_15 (Nat.le_of_ble_eq_true rfl) dX1_init_17 rfl (fun H4 hr4 hz4 hq4 => ?_)
  have hc4 := cel_kept hc3 (hq4 _ (by omega))
  have hd4 := cel_kept hd (hq4 _ (by omega))
  refine r_aload_n C dX1_init_20 rfl ?_
  refine r_bipush C dX1_init_21 (6 : Int32) (by decide) ?_
  refine r_newI C ac_int (N := 6) (by decide) (by decide) (by decide) ⟨Nat.le_of_ble_eq_true rfl, Nat.le_of_ble_eq_true rfl⟩ dX1_init_23 (hz4.trans hz3) (fun H5 he hz5 hq5 => ?_)
  have hr5 := raw_kept hr4 (hq5 a (by omega))
  have hc5 := cel_kept hc4 (hq5 _ (by omega))
  have hd5 := cel_kept hd4 (hq5 _ (by omega))
  refine r_putQ C hi hr5 (by unfold fp1; omega) fq_X1_18 (Nat.le_of_ble_eq_true rfl) dX1_init_25 rfl (fun H6 hr6 hz6 hq6 => ?_)
  have hc6 := cel_kept hc5 (hq6 _ (by omega))
  have hd6 := cel_kept hd5 (hq6 _ (by omega))
  have he6 := cel_kept he (hq6 _ (by omega))
  exact r_vret C dX1_init_28 ⟨rfl, blk_cons (raw_cel hr6 celO_1 rfl trivial) (blk_cons hc6 (blk_cons hd6 (blk_1 he6)))⟩

def rvT (o i : Nat) : Nat → Option Nat := fun j => if j < i then some (o + 3 + j) else none
def rvC (o i : Nat) : Nat → Option Nat := fun j => if j < i then some (o + 9 + 2 * j) else none
def crews : Nat → List (Nat × Nat)
  | 0 => []
  | n + 1 => crews n ++ ksCrew
theorem crews_len (n : Nat) : (crews n).length = 2 * n := by
  induction n with
  | zero => rfl
  | succ n ih => simp only [crews, List.length_append, ih]; simp [ksCrew]; omega
def twns : Nat → List (Nat × Nat)
  | 0 => []
  | n + 1 => twns n ++ ksTown
theorem twns_len (n : Nat) : (twns n).length = n := by
  induction n with
  | zero => rfl
  | succ n ih => simp only [twns, List.length_append, ih]; simp [ksTown]
set_option maxHeartbeats 4000000 in
set_option maxRecDepth 100000 in
theorem c_X3_init (l : Launch) (D : DD) (o : Nat) : Mt l D yX3_init cX3_init 2 none 2 41 14 93 [.ref o] (fun H => raw D 3 o [.null, .null, .int 0, .int 0] H ∧ H.size = o + 1) (fun v H => v = none ∧ blk D ksRiver o Z0 H) (fp1 o 15) := by
  refine mtI_of (own := RX3) (ls := [.val (.ref o), .unset]) rfl (by decide +kernel) rfl ?_
  intro x H C hi hP
  obtain ⟨hr, hz⟩ := hP
  refine r_aload_n C dX3_init_0 rfl ?_
  refine r_objInit C oi_X3_3 rfl ⟨Nat.le_of_ble_eq_true rfl, Nat.le_of_ble_eq_true rfl⟩ dX3_init_1 ?_
  refine r_aload_n C dX3_init_4 rfl ?_
  refine r_bipush C dX3_init_5 (6 : Int32) (by decide) ?_
  refine r_newQ C (k := 2) (N := 6) clk_X3_9 (Or.inl ⟨rfl, rfl⟩) (by decide) (by decide) (by decide) ⟨Nat.le_of_ble_eq_true rfl, Nat.le_of_ble_eq_true rfl⟩ dX3_init_7 hz (fun H1 ht hz1 hq1 => ?_)
  have hr1 := raw_kept hr (hq1 o (by omega))
  refine r_putQ C hi hr1 (by unfold fp1; omega) fq_X3_11 (by decide) dX3_init_10 rfl (fun H2 hr2 hz2 hq2 => ?_)
  have ht2 := rawq_kept ht (hq2 _ (by omega))
  refine r_aload_n C dX3_init_13 rfl ?_
  refine r_iconst C dX3_init_14 (3 : Int32) (by decide) ?_
  refine r_newQ C (k := 3) (N := 3) clk_X3_17 (Or.inr (Or.inl ⟨rfl, rfl⟩)) (by decide) (by decide) (by decide) ⟨Nat.le_of_ble_eq_true rfl, Nat.le_of_ble_eq_true rfl⟩ dX3_init_15 (hz2.trans hz1) (fun H3 hc hz3 hq3 => ?_)
  have hr3 := raw_kept hr2 (hq3 o (by omega))
  have ht3 := rawq_kept ht2 (hq3 _ (by omega))
  refine r_putQ C hi hr3 (by unfold fp1; omega) fq_X3_19 (Nat.le_of_ble_eq_true rfl) dX3_init_18 rfl (fun H4 hr4 hz4 hq4 => ?_)
  have ht4 := rawq_kept ht3 (hq4 _ (by omega))
  have hc4 := rawq_kept hc (hq4 _ (by omega))
  refine r_iconst C dX3_init_21 (0 : Int32) (by decide) ?_
  refine r_istore_n C dX3_init_22 (ls' := [.val (.ref o), .val (.int (0 : Int32))]) rfl trivial rfl ?_
  have L1 : ∀ (n i : Nat) (H : Heap), i ≤ 6 → 6 - i < n → raw D 3 o [.ref (o + 1), .ref (o + 2), .int 0, .int 0] H → rawq D 2 (o + 1) 6 (rvT o i) H → rawq D 3 (o + 2) 3 (fun _ => none) H → blk D (twns i) (o + 3) Z0 H → H.size = o + 3 + i → (∀ H' : Heap, raw D 3 o [.ref (o + 1), .ref (o + 2), .int 0, .int 0] H' → rawq D 2 (o + 1) 6 (rvT o 6) H' → rawq D 3 (o + 2) 3 (fun _ => none) H' → blk D (twns 6) (o + 3) Z0 H' → H'.size = o + 3 + 6 → WG x (fp1 o 15) (Fin x (fun v H => v = none ∧ blk D ksRiver o Z0 H) (fp1 o 15) 14 93) H' (2 + 6) (9 + 8 * 6) 51 [.val (.ref o), .val (.int (nI 6))] []) → WG x (fp1 o 15) (Fin x (fun v H => v = none ∧ blk D ksRiver o Z0 H) (fp1 o 15) 14 93) H (2 + i) (9 + 8 * i) 23 [.val (.ref o), .val (.int (nI i))] [] := by
    intro n
    induction n with
    | zero => intro i H _ h; exact absurd h (Nat.not_lt_zero _)
    | succ n ih =>
      intro i H hi6 hm hr ht hc hb hz kx
      refine r_iload_n C dX3_init_23 rfl ?_
      refine r_aload_n C dX3_init_24 rfl ?_
      refine r_getQ C hr fw_X3_11 rfl dX3_init_25 ?_
      refine r_alenQ C ht (Or.inl rfl) dX3_init_28 ?_
      refine r_ic_ge C dX3_init_29 (fun c => ?_) (fun c => ?_)
      · have f : 6 ≤ i := nf_leI (by omega) (by omega) rfl rfl c
        have e : i = 6 := by omega
        subst e
        exact kx H hr ht hc hb hz
      · have f : ¬ 6 ≤ i := nf_leIn (by omega) (by omega) rfl rfl c
        refine r_aload_n C dX3_init_32 rfl ?_
        refine r_getQ C hr fw_X3_11 rfl dX3_init_33 ?_
        refine r_iload_n C dX3_init_36 rfl ?_
        refine r_newO C nw_X3_9 ⟨by show 2 + i + 1 ≤ 14; omega, by show 9 + 8 * i + 8 ≤ 93; omega⟩ dX3_init_37 hz (fun H1 hn hz1 hq1 => ?_)
        have hr1 := raw_kept hr (hq1 o (by omega))
        have ht1 := rawq_kept ht (hq1 _ (by omega))
        have hc1 := rawq_kept hc (hq1 _ (by omega))
        have hb1 := blk_kept hb (twns_len i) (fun q h1 h2 => hq1 q (by omega))
        refine r_dup C dX3_init_40 rfl ?_
        refine r_callI C ci_X3_23 (fun l => c_X5_init l D (o + 3 + i)) (rest := [.ref (o + 3 + i), .int (nI i), .ref (o + 1)]) trivial (fun q h => h.elim) rfl rfl rfl (Nat.le_of_ble_eq_true rfl) ⟨Nat.le_of_ble_eq_true rfl, Nat.le_of_ble_eq_true rfl, by show 2 + i + 1 + 0 ≤ 14; omega, by show 9 + 8 * i + 8 + 0 ≤ 93; omega⟩ dX3_init_41 (fun v H2 hp hz2 hq2 => ?_)
        subst hp
        have hq2 := frame0 hz2 hq2
        have hn2 := raw_kept hn (hq2 _ (fun h => h))
        have hr2 := raw_kept hr1 (hq2 _ (fun h => h))
        have ht2 := rawq_kept ht1 (hq2 _ (fun h => h))
        have hc2 := rawq_kept hc1 (hq2 _ (fun h => h))
        have hb2 := blk_kept hb1 (twns_len i) (fun q h1 h2 => hq2 q (fun h => h))
        dsimp only [psh]
        refine r_aastQ C (i := i) ht2 hn2 (Or.inl ⟨rfl, rfl⟩) (by unfold fp1; omega) rfl (by omega) (by omega) dX3_init_44 (fun H3 ht3 hz3 hq3 => ?_)
        have hn3 := raw_kept hn2 (hq3 _ (by omega))
        have hr3 := raw_kept hr2 (hq3 _ (by omega))
        have hc3 := rawq_kept hc2 (hq3 _ (by omega))
        have hb3 := blk_kept hb2 (twns_len i) (fun q h1 h2 => hq3 q (by omega))
        refine r_iinc C dX3_init_45 (nI (i + 1)) rfl (nI_inc i rfl) (ls' := [.val (.ref o), .val (.int (nI (i + 1)))]) rfl ?_
        refine r_goto C dX3_init_48 ?_
        have hb4 : blk D (twns (i + 1)) (o + 3) Z0 H3 := by
          have := blk_app hb3 (blk_1 (R := Z0) (raw_cel hn3 celO_5 rfl ⟨Or.inl rfl, Or.inl rfl⟩)) (twns_len i)
          rw [glue0] at this
          exact this
        have ht4 := rawq_to (g := rvT o (i + 1)) ht3 (fun j hj => by
          by_cases e : j = i
          · subst e; simp [va_up, rvT]
          · simp only [va_up, if_neg e, rvT]
            by_cases e2 : j < i
            · rw [if_pos e2, if_pos (by omega)]
            · rw [if_neg e2, if_neg (by omega)])
        exact ih (i + 1) H3 (by omega) (by omega) hr3 ht4 hc3 hb4 (by omega) kx
  refine L1 7 0 H4 (by omega) (by omega) hr4 (rawq_to ht4 (fun j hj => by simp [rvT])) hc4 blk_nil (by omega) (fun H5 hr5 ht5 hc5 hb5 hz5 => ?_)
  refine r_iconst C dX3_init_51 (0 : Int32) (by decide) ?_
  refine r_istore_n C dX3_init_52 (ls' := [.val (.ref o), .val (.int (0 : Int32))]) rfl rfl rfl ?_
  have L2 : ∀ (n i : Nat) (H : Heap), i ≤ 3 → 3 - i < n → raw D 3 o [.ref (o + 1), .ref (o + 2), .int 0, .int 0] H → rawq D 2 (o + 1) 6 (rvT o 6) H → rawq D 3 (o + 2) 3 (rvC o i) H → blk D (twns 6) (o + 3) Z0 H → blk D (crews i) (o + 9) Z0 H → H.size = o + 9 + 2 * i → (∀ H' : Heap, raw D 3 o [.ref (o + 1), .ref (o + 2), .int 0, .int 0] H' → rawq D 2 (o + 1) 6 (rvT o 6) H' → rawq D 3 (o + 2) 3 (rvC o 3) H' → blk D (twns 6) (o + 3) Z0 H' → blk D (crews 3) (o + 9) Z0 H' → H'.size = o + 15 → WG x (fp1 o 15) (Fin x (fun v H => v = none ∧ blk D ksRiver o Z0 H) (fp1 o 15) 14 93) H' (8 + 2 * 3) (57 + 12 * 3) 81 [.val (.ref o), .val (.int (nI 3))] []) → WG x (fp1 o 15) (Fin x (fun v H => v = none ∧ blk D ksRiver o Z0 H) (fp1 o 15) 14 93) H (8 + 2 * i) (57 + 12 * i) 53 [.val (.ref o), .val (.int (nI i))] [] := by
    intro n
    induction n with
    | zero => intro i H _ h; exact absurd h (Nat.not_lt_zero _)
    | succ n ih =>
      intro i H hi6 hm hr ht hc hb hw hz kx
      refine r_iload_n C dX3_init_53 rfl ?_
      refine r_aload_n C dX3_init_54 rfl ?_
      refine r_getQ C hr fw_X3_19 rfl dX3_init_55 ?_
      refine r_alenQ C hc (Or.inr (Or.inl rfl)) dX3_init_58 ?_
      refine r_ic_ge C dX3_init_59 (fun c => ?_) (fun c => ?_)
      · have f : 3 ≤ i := nf_leI (by omega) (by omega) rfl rfl c
        have e : i = 3 := by omega
        subst e
        exact kx H hr ht hc hb hw hz
      · have f : ¬ 3 ≤ i := nf_leIn (by omega) (by omega) rfl rfl c
        refine r_aload_n C dX3_init_62 rfl ?_
        refine r_getQ C hr fw_X3_19 rfl dX3_init_63 ?_
        refine r_iload_n C dX3_init_66 rfl ?_
        refine r_newO C nw_X3_17 ⟨by show 8 + 2 * i + 1 ≤ 14; omega, by show 57 + 12 * i + 6 ≤ 93; omega⟩ dX3_init_67 hz (fun H1 hn hz1 hq1 => ?_)
        have hr1 := raw_kept hr (hq1 o (by omega))
        have ht1 := rawq_kept ht (hq1 _ (by omega))
        have hc1 := rawq_kept hc (hq1 _ (by omega))
        have hb1 := blk_kept hb (twns_len 6) (fun q h1 h2 => hq1 q (by omega))
        have hw1 := blk_kept hw (crews_len i) (fun q h1 h2 => hq1 q (by omega))
        refine r_dup C dX3_init_70 rfl ?_
        refine r_callI C ci_X3_24 (fun l => c_X0_init l D (o + 9 + 2 * i)) (rest := [.ref (o + 9 + 2 * i), .int (nI i), .ref (o + 2)]) ⟨hn, hz1⟩ (fun q h => by unfold fp1 at h ⊢; omega) rfl rfl rfl (Nat.le_of_ble_eq_true rfl) ⟨Nat.le_of_ble_eq_true rfl, Nat.le_of_ble_eq_true rfl, by show 8 + 2 * i + 1 + 1 ≤ 14; omega, by show 57 + 12 * i + 6 + 6 ≤ 93; omega⟩ dX3_init_71 (fun v H2 hp hz2 hq2 => ?_)
        obtain ⟨rfl, hn2⟩ := hp
        have hr2 := raw_kept hr1 (hq2 _ (by omega) (by unfold fp1; omega))
        have ht2 := rawq_kept ht1 (hq2 _ (by omega) (by unfold fp1; omega))
        have hc2 := rawq_kept hc1 (hq2 _ (by omega) (by unfold fp1; omega))
        have hb2 := blk_kept hb1 (twns_len 6) (fun q h1 h2 => hq2 q (by omega) (by unfold fp1; omega))
        have hw2 := blk_kept hw1 (crews_len i) (fun q h1 h2 => hq2 q (by omega) (by unfold fp1; omega))
        dsimp only [psh]
        have hn0 := hn2 0 (0, 0) rfl
        rw [celO_0] at hn0
        refine r_aastQ C (i := i) hc2 hn0.1 (Or.inr (Or.inl ⟨rfl, rfl⟩)) (by unfold fp1; omega) rfl (by omega) (by omega) dX3_init_74 (fun H3 hc3 hz3 hq3 => ?_)
        have hn3 := blk_kept hn2 (n := 2) rfl (fun q h1 h2 => hq3 q (by omega))
        have hr3 := raw_kept hr2 (hq3 _ (by omega))
        have ht3 := rawq_kept ht2 (hq3 _ (by omega))
        have hb3 := blk_kept hb2 (twns_len 6) (fun q h1 h2 => hq3 q (by omega))
        have hw3 := blk_kept hw2 (crews_len i) (fun q h1 h2 => hq3 q (by omega))
        refine r_iinc C dX3_init_75 (nI (i + 1)) rfl (nI_inc i rfl) (ls' := [.val (.ref o), .val (.int (nI (i + 1)))]) rfl ?_
        refine r_goto C dX3_init_78 ?_
        have hw4 : blk D (crews (i + 1)) (o + 9) Z0 H3 := by
          have := blk_app hw3 hn3 (crews_len i)
          rw [glue0] at this
          exact this
        have hc4 := rawq_to (g := rvC o (i + 1)) hc3 (fun j hj => by
          by_cases e : j = i
          · subst e; simp [va_up, rvC]
          · simp only [va_up, if_neg e, rvC]
            by_cases e2 : j < i
            · rw [if_pos e2, if_pos (by omega)]
            · rw [if_neg e2, if_neg (by omega)])
        exact ih (i + 1) H3 (by omega) (by omega) hr3 ht3 hc4 hb3 hw4 (by omega) kx
  refine L2 4 0 H5 (by omega) (by omega) hr5 ht5 (rawq_to hc5 (fun j hj => by simp [rvC])) hb5 blk_nil (by omega) (fun H6 hr6 ht6 hc6 hb6 hw6 hz6 => ?_)
  have ht7 := rawq_to (g := fun t => some (o + 1 + 2 + t)) ht6 (fun j hj => by simp only [rvT, if_pos hj])
  have hc7 := rawq_to (g := fun c => some (o + 2 + 7 + 2 * c)) hc6 (fun j hj => by simp only [rvC, if_pos hj])
  refine r_vret C dX3_init_81 ⟨rfl, ?_⟩
  refine blk_cons (raw_cel hr6 celO_3 rfl trivial) (blk_cons (cel_10.mpr ht7) (blk_cons (cel_11.mpr hc7) ?_))
  have h := blk_app hb6 hw6 (twns_len 6)
  rw [glue0] at h
  exact h

def rvS (a i : Nat) : Nat → Option Nat := fun j => if j < i then some (a + 2 + 15 * j) else none
def ZS : Nat → Nat → Int32 := fun k j => if k = 1 then nI j else 0
theorem rivs_app (n : Nat) : rivs n ++ ksRiver = rivs (n + 1) := by
  induction n with
  | zero => rfl
  | succ n ih => show ksRiver ++ rivs n ++ ksRiver = ksRiver ++ rivs (n + 1); rw [List.append_assoc, ih]
set_option maxHeartbeats 4000000 in
set_option maxRecDepth 100000 in
theorem c_X4_init (l : Launch) (D : DD) (a n : Nat) (hn : n = 8 ∨ n = 2) (r : Int32) (hr0 : r = nI n) : Mt l D yX4_init cX4_init 3 none 3 62 (1 + 15 * n) (n + 97 * n) [.ref a, .int r] (fun H => raw D 4 a [.null, .int 0] H ∧ H.size = a + 1) (fun v H => v = none ∧ blk D (ksShelf n) a ZS H) (fp1 a (2 + 15 * n)) := by
  subst hr0
  have hmax : imax 1 (nI n) = nI n := by rcases hn with rfl | rfl <;> decide
  have hn8 : n ≤ 8 := by omega
  have hn0 : 0 < n := by omega
  refine mtI_of (own := RX4) (ls := [.val (.ref a), .val (.int (nI n)), .unset]) rfl (by decide +kernel) rfl ?_
  intro x H C hi hP
  obtain ⟨hr, hz⟩ := hP
  refine r_aload_n C dX4_init_0 rfl ?_
  refine r_objInit C oi_X4_1 rfl ⟨Nat.le_of_ble_eq_true rfl, Nat.le_of_ble_eq_true rfl⟩ dX4_init_1 ?_
  refine r_aload_n C dX4_init_4 rfl ?_
  refine r_iconst C dX4_init_5 (1 : Int32) (by decide) ?_
  refine r_iload_n C dX4_init_6 rfl ?_
  refine r_mmax C mw_X4_7 rfl ⟨Nat.le_of_ble_eq_true rfl, Nat.le_of_ble_eq_true rfl, Nat.zero_le _, Nat.zero_le _⟩ dX4_init_7 ?_
  rw [hmax]
  refine r_newQ C (k := 4) (N := n) clk_X4_13 (Or.inr (Or.inr ⟨rfl, rfl⟩)) (nI_pos (by omega)) (nI_clamp (by omega)) (by omega) ⟨by show 0 + 1 ≤ 1 + 15 * n; omega, by show 0 + n ≤ n + 97 * n; omega⟩ dX4_init_10 hz (fun H1 ht hz1 hq1 => ?_)
  have hr1 := raw_kept hr (hq1 a (by omega))
  refine r_putQ C hi hr1 (by unfold fp1; omega) fq_X4_15 (by decide) dX4_init_13 rfl (fun H2 hr2 hz2 hq2 => ?_)
  have ht2 := rawq_kept ht (hq2 _ (by omega))
  refine r_iconst C dX4_init_16 (0 : Int32) (by decide) ?_
  refine r_istore_n C dX4_init_17 (ls' := [.val (.ref a), .val (.int (nI n)), .val (.int (0 : Int32))]) rfl trivial rfl ?_
  have L1 : ∀ (f i : Nat) (H : Heap), i ≤ n → n - i < f → raw D 4 a [.ref (a + 1), .int 0] H → rawq D 4 (a + 1) n (rvS a i) H → blk D (rivs i) (a + 2) Z0 H → H.size = a + 2 + 15 * i → (∀ H' : Heap, raw D 4 a [.ref (a + 1), .int 0] H' → rawq D 4 (a + 1) n (rvS a n) H' → blk D (rivs n) (a + 2) Z0 H' → WG x (fp1 a (2 + 15 * n)) (Fin x (fun v H => v = none ∧ blk D (ksShelf n) a ZS H) (fp1 a (2 + 15 * n)) (1 + 15 * n) (n + 97 * n)) H' (1 + 15 * n) (n + 97 * n) 46 [.val (.ref a), .val (.int (nI n)), .val (.int (nI n))] []) → WG x (fp1 a (2 + 15 * n)) (Fin x (fun v H => v = none ∧ blk D (ksShelf n) a ZS H) (fp1 a (2 + 15 * n)) (1 + 15 * n) (n + 97 * n)) H (1 + 15 * i) (n + 97 * i) 18 [.val (.ref a), .val (.int (nI n)), .val (.int (nI i))] [] := by
    intro f
    induction f with
    | zero => intro i H _ h; exact absurd h (Nat.not_lt_zero _)
    | succ f ih =>
      intro i H hin hm hr ht hb hz kx
      refine r_iload_n C dX4_init_18 rfl ?_
      refine r_aload_n C dX4_init_19 rfl ?_
      refine r_getQ C hr fw_X4_15 rfl dX4_init_20 ?_
      refine r_alenQ C ht (Or.inr (Or.inr rfl)) dX4_init_23 ?_
      refine r_ic_ge C dX4_init_24 (fun c => ?_) (fun c => ?_)
      · have f : n ≤ i := nf_leI (by omega) (by omega) rfl rfl c
        have e : i = n := by omega
        subst e
        exact kx H hr ht hb
      · have f : ¬ n ≤ i := nf_leIn (by omega) (by omega) rfl rfl c
        refine r_aload_n C dX4_init_27 rfl ?_
        refine r_getQ C hr fw_X4_15 rfl dX4_init_28 ?_
        refine r_iload_n C dX4_init_31 rfl ?_
        refine r_newO C nw_X4_13 ⟨by show 1 + 15 * i + 1 ≤ 1 + 15 * n; omega, by show n + 97 * i + 4 ≤ n + 97 * n; omega⟩ dX4_init_32 hz (fun H1 hn1 hz1 hq1 => ?_)
        have hr1 := raw_kept hr (hq1 a (by omega))
        have ht1 := rawq_kept ht (hq1 _ (by omega))
        have hb1 := blk_kept hb (rivs_len i) (fun q h1 h2 => hq1 q (by omega))
        refine r_dup C dX4_init_35 rfl ?_
        refine r_callI C ci_X4_21 (fun l => c_X3_init l D (a + 2 + 15 * i)) (rest := [.ref (a + 2 + 15 * i), .int (nI i), .ref (a + 1)]) ⟨hn1, hz1⟩ (fun q h => by unfold fp1 at h ⊢; omega) rfl rfl rfl (Nat.le_of_ble_eq_true rfl) ⟨Nat.le_of_ble_eq_true rfl, Nat.le_of_ble_eq_true rfl, by show 1 + 15 * i + 1 + 14 ≤ 1 + 15 * n; omega, by show n + 97 * i + 4 + 93 ≤ n + 97 * n; omega⟩ dX4_init_36 (fun v H2 hp hz2 hq2 => ?_)
        obtain ⟨rfl, hn2⟩ := hp
        have hr2 := raw_kept hr1 (hq2 _ (by omega) (by unfold fp1; omega))
        have ht2 := rawq_kept ht1 (hq2 _ (by omega) (by unfold fp1; omega))
        have hb2 := blk_kept hb1 (rivs_len i) (fun q h1 h2 => hq2 q (by omega) (by unfold fp1; omega))
        dsimp only [psh]
        have hn0 := hn2 0 (3, 0) rfl
        rw [celO_3] at hn0
        refine r_aastQ C (i := i) ht2 hn0.1 (Or.inr (Or.inr ⟨rfl, rfl⟩)) (by unfold fp1; omega) rfl (by omega) (by omega) dX4_init_39 (fun H3 ht3 hz3 hq3 => ?_)
        have hn3 := blk_kept hn2 (n := 15) rfl (fun q h1 h2 => hq3 q (by omega))
        have hr3 := raw_kept hr2 (hq3 _ (by omega))
        have hb3 := blk_kept hb2 (rivs_len i) (fun q h1 h2 => hq3 q (by omega))
        refine r_iinc C dX4_init_40 (nI (i + 1)) rfl (nI_inc i rfl) (ls' := [.val (.ref a), .val (.int (nI n)), .val (.int (nI (i + 1)))]) rfl ?_
        refine r_goto C dX4_init_43 ?_
        have hb4 : blk D (rivs (i + 1)) (a + 2) Z0 H3 := by
          have := blk_app hb3 hn3 (rivs_len i)
          rw [glue0, rivs_app] at this
          exact this
        have ht4 := rawq_to (g := rvS a (i + 1)) ht3 (fun j hj => by
          by_cases e : j = i
          · subst e; simp [va_up, rvS]
          · simp only [va_up, if_neg e, rvS]
            by_cases e2 : j < i
            · rw [if_pos e2, if_pos (by omega)]
            · rw [if_neg e2, if_neg (by omega)])
        have e1 : 1 + 15 * i + 1 + 14 = 1 + 15 * (i + 1) := by omega
        have e2 : n + 97 * i + 4 + 93 = n + 97 * (i + 1) := by omega
        rw [e1, e2]
        exact ih (i + 1) H3 (by omega) (by omega) hr3 ht4 hb4 (by omega) kx
  rw [show 0 + n = n + 97 * 0 by omega]
  refine L1 (n + 1) 0 H2 (by omega) (by omega) hr2 (rawq_to ht2 (fun j hj => by simp [rvS])) blk_nil (by omega) (fun H5 hr5 ht5 hb5 => ?_)
  have ht7 := rawq_to (g := fun j => some (a + 1 + 1 + 15 * (ZS 1 j).toNatClampNeg)) ht5 (fun j hj => by simp only [rvS, if_pos hj, ZS, if_true]; rw [nI_clamp (by omega)])
  refine r_vret C dX4_init_46 ⟨rfl, ?_⟩
  refine blk_cons (raw_cel hr5 celO_4 rfl trivial) (blk_cons (cel_12.mpr ht7) (blk_to hb5 (fun k hk => ?_)))
  funext j
  simp [Z0, ZS]
