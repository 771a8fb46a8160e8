/-! toCharArray, the first river, the class's constructor -/
set_option maxRecDepth 100000 in
theorem c_J1_toChars (B : Nat) (aK aV : Nat → Nat) (l : Launch) (D : DD) (h : Nat) (hB : B ≤ h) : MtX B aK aV l D yJ1_toChars_9d188 cJ1_toChars_9d188 2 (some (.array .char)) 1 25 1 71 [.ref (aV 0)] (fun H => H.size = h) (fun v H => v = some (.ref h) ∧ blk D (ksCh 71) h TX H) (fp1 h 1) := by
  refine mtX_of (own := RJ1) (ls := [.val (.ref (aV 0)), .unset]) rfl (by decide +kernel) rfl ?_
  intro x H C hi X hP
  have hA : ∀ q, fp1 h 1 q → B ≤ q := fun q hq => by unfold fp1 at hq; omega
  refine r_aload_n C dJ1_toChars_9d188_0 rfl ?_
  refine r_tlen C X hA dJ1_toChars_9d188_1 ?_
  refine r_newC C ac_char (N := 71) (by decide) (by decide) (by decide) ⟨Nat.le_refl _, Nat.le_refl _⟩ dJ1_toChars_9d188_2 hP (fun H1 hc hz1 hq1 => ?_)
  refine r_astore_n C dJ1_toChars_9d188_4 (ls' := [.val (.ref (aV 0)), .val (.ref h)]) rfl trivial rfl ?_
  refine r_aload_n C dJ1_toChars_9d188_5 rfl ?_
  refine r_iconst C dJ1_toChars_9d188_6 (0 : Int32) (by decide) ?_
  refine r_aload_n C dJ1_toChars_9d188_7 rfl ?_
  refine r_iconst C dJ1_toChars_9d188_8 (0 : Int32) (by decide) ?_
  refine r_aload_n C dJ1_toChars_9d188_9 rfl ?_
  refine r_tlen C X hA dJ1_toChars_9d188_10 ?_
  refine r_callSX C X hA cw_J1_13 (fun l => c_J1_inflate B aK aV l D h hB) (rest := []) (blk_1 hc) (fun q hq => hq) rfl rfl rfl (Nat.le_of_ble_eq_true rfl) ⟨Nat.le_of_ble_eq_true rfl, Nat.le_of_ble_eq_true rfl, Nat.le_refl _, Nat.le_refl _⟩ dJ1_toChars_9d188_11 (fun v H2 hv hz2 hq2 => ?_)
  obtain ⟨rfl, hb⟩ := hv
  dsimp only [psh]
  refine r_aload_n C dJ1_toChars_9d188_14 rfl ?_
  exact r_aret C (Or.inr ⟨_, rfl⟩) dJ1_toChars_9d188_15 ⟨rfl, hb⟩
set_option maxRecDepth 100000 in
theorem c_J0_toCharArray (B : Nat) (aK aV : Nat → Nat) (l : Launch) (D : DD) (h : Nat) (hB : B ≤ h) : MtX B aK aV l D yJ0_toCharArray_70df3 cJ0_toCharArray_70df3 1 (some (.array .char)) 2 46 1 71 [.ref (aK 0)] (fun H => H.size = h) (fun v H => v = some (.ref h) ∧ blk D (ksCh 71) h TX H) (fp1 h 1) := by
  refine mtX_of (own := RJ0) (ls := [.val (.ref (aK 0))]) rfl (by decide +kernel) rfl ?_
  intro x H C hi X hP
  have hA : ∀ q, fp1 h 1 q → B ≤ q := fun q hq => by unfold fp1 at hq; omega
  refine r_aload_n C dJ0_toCharArray_70df3_0 rfl ?_
  refine r_callJX C X hA cw_J0_492 rfl (fun l => c_J0_isLatin1 B aK aV l D) (rest := []) trivial (fun q h => h.elim) rfl rfl rfl (Nat.le_of_ble_eq_true rfl) ⟨Nat.le_of_ble_eq_true rfl, Nat.le_of_ble_eq_true rfl, Nat.le_of_ble_eq_true rfl, Nat.le_of_ble_eq_true rfl⟩ dJ0_toCharArray_70df3_1 (fun v H1 hv hz1 hq1 => ?_)
  subst hv
  dsimp only [psh]
  refine r_if_eq C dJ0_toCharArray_70df3_4 (fun h => by exact absurd h (by decide)) (fun _ => ?_)
  refine r_aload_n C dJ0_toCharArray_70df3_7 rfl ?_
  refine r_getVl C X hA dJ0_toCharArray_70df3_8 ?_
  refine r_callSX C X hA cw_J0_299 (fun l => c_J1_toChars B aK aV l D h hB) (rest := []) (by rw [hz1]; exact hP) (fun q hq => hq) rfl rfl rfl (Nat.le_of_ble_eq_true rfl) ⟨Nat.le_of_ble_eq_true rfl, Nat.le_of_ble_eq_true rfl, Nat.le_of_ble_eq_true rfl, Nat.le_of_ble_eq_true rfl⟩ dJ0_toCharArray_70df3_11 (fun v H2 hv hz2 hq2 => ?_)
  obtain ⟨rfl, hb⟩ := hv
  dsimp only [psh]
  refine r_goto C dJ0_toCharArray_70df3_14 ?_
  exact r_aret C (Or.inr ⟨_, rfl⟩) dJ0_toCharArray_70df3_24 ⟨rfl, hb⟩
/-- what the reader makes of the constant -/
def FR : Int32 × (Nat → Nat → Int32) × (Nat → Nat → Int32) := d_X2_read Z0 TX Z0 71 71
def RF : Nat → Nat → Int32 := glue FR.2.2 15 (glue FR.2.1 2 TX)
def ksFirst : List (Nat × Nat) := ksRiver ++ (ksReader ++ ksCh 71)
set_option maxHeartbeats 4000000 in
set_option maxRecDepth 100000 in
theorem c_X6_firstRiver (B : Nat) (aK aV : Nat → Nat) (l : Launch) (D : DD) (h : Nat) (hB : B ≤ h) : MtX B aK aV l D yX6_firstRiver cX6_firstRiver 1 (some (.object RX3)) 4 102 18 173 [] (fun H => H.size = h) (fun v H => v = some (.ref h) ∧ blk D ksFirst h RF H) (fp1 h 18) := by
  refine mtX_of (own := RX6) (ls := [.unset]) rfl (by decide +kernel) rfl ?_
  intro x H C hi X hP
  have hA : ∀ q, fp1 h 18 q → B ≤ q := fun q hq => by unfold fp1 at hq; omega
  refine r_newO C nw_X6_31 ⟨Nat.le_of_ble_eq_true rfl, Nat.le_of_ble_eq_true rfl⟩ dX6_firstRiver_0 hP (fun H1 hr1 hz1 hq1 => ?_)
  refine r_dup C dX6_firstRiver_3 rfl ?_
  refine r_callI C ci_X6_33 (fun l => c_X3_init l D h) (rest := [.ref h]) ⟨hr1, hz1⟩ (fun q hq => by unfold fp1 at hq ⊢; omega) rfl rfl rfl (Nat.le_of_ble_eq_true rfl) ⟨Nat.le_of_ble_eq_true rfl, Nat.le_of_ble_eq_true rfl, Nat.le_of_ble_eq_true rfl, Nat.le_of_ble_eq_true rfl⟩ dX6_firstRiver_4 (fun v H2 hv hz2 hq2 => ?_)
  obtain ⟨rfl, hr2⟩ := hv
  have hz2' : H2.size = h + 15 := by rw [hz2, hz1]
  dsimp only [psh]
  refine r_astore_n C dX6_firstRiver_7 (ls' := [.val (.ref h)]) rfl trivial rfl ?_
  refine r_newO C nw_X6_13 ⟨Nat.le_of_ble_eq_true rfl, Nat.le_of_ble_eq_true rfl⟩ dX6_firstRiver_8 hz2' (fun H3 hd3 hz3 hq3 => ?_)
  have hr3 := blk_kept hr2 (n := 15) rfl (fun q h1 h2 => hq3 q (by omega))
  refine r_dup C dX6_firstRiver_11 rfl ?_
  refine r_callI C ci_X6_15 (fun l => c_X2_init l D (h + 15)) (rest := [.ref (h + 15)]) ⟨hd3, hz3⟩ (fun q hq => by unfold fp1 at hq ⊢; omega) rfl rfl rfl (Nat.le_of_ble_eq_true rfl) ⟨Nat.le_of_ble_eq_true rfl, Nat.le_of_ble_eq_true rfl, Nat.le_of_ble_eq_true rfl, Nat.le_of_ble_eq_true rfl⟩ dX6_firstRiver_12 (fun v H4 hv hz4 hq4 => ?_)
  obtain ⟨rfl, hd4⟩ := hv
  have hr4 := blk_kept hr3 (n := 15) rfl (fun q h1 h2 => hq4 q (by omega) (by unfold fp1; omega))
  have hz4' : H4.size = h + 17 := by rw [hz4, hz3]
  dsimp only [psh]
  refine r_ldcS C X dX6_firstRiver_15 ?_
  refine r_callJX C X hA cw_X6_65 rfl (fun l => c_J0_toCharArray B aK aV l D (h + 17) (by omega)) (rest := [.ref (h + 15)]) hz4' (fun q hq => by unfold fp1 at hq ⊢; omega) rfl rfl rfl (Nat.le_of_ble_eq_true rfl) ⟨Nat.le_of_ble_eq_true rfl, Nat.le_of_ble_eq_true rfl, Nat.le_of_ble_eq_true rfl, Nat.le_of_ble_eq_true rfl⟩ dX6_firstRiver_17 (fun v H5 hv hz5 hq5 => ?_)
  obtain ⟨rfl, hx5⟩ := hv
  have hr5 := blk_kept hr4 (n := 15) rfl (fun q h1 h2 => hq5 q (by omega) (by unfold fp1; omega))
  have hd5 := blk_kept hd4 (n := 2) rfl (fun q h1 h2 => hq5 q (by omega) (by unfold fp1; omega))
  have hz5' : H5.size = h + 18 := by rw [hz5, hz4']
  dsimp only [psh]
  refine r_ldcS C X dX6_firstRiver_20 ?_
  refine r_callJX C X hA cw_X6_71 rfl (fun l => c_J0_length B aK aV l D) (rest := [.ref (h + 17), .ref (h + 15)]) trivial (fun q hq => hq.elim) rfl rfl rfl (Nat.le_of_ble_eq_true rfl) ⟨Nat.le_of_ble_eq_true rfl, Nat.le_of_ble_eq_true rfl, Nat.le_of_ble_eq_true rfl, Nat.le_of_ble_eq_true rfl⟩ dX6_firstRiver_22 (fun v H6 hv hz6 hq6 => ?_)
  subst hv
  have hk6 := frame0 hz6 hq6
  have hr6 := blk_kept hr5 (n := 15) rfl (fun q h1 h2 => hk6 q (fun h => h))
  have hd6 := blk_kept hd5 (n := 2) rfl (fun q h1 h2 => hk6 q (fun h => h))
  have hx6 := blk_kept hx5 (n := 1) rfl (fun q h1 h2 => hk6 q (fun h => h))
  dsimp only [psh]
  refine r_aload_n C dX6_firstRiver_25 rfl ?_
  refine r_callV0 C cw_X6_75 (fun l => c_X2_read l D (h + 15) (h + 17) h Z0 TX Z0 71 71 (by omega) (by decide) (by decide) (by omega) (by omega) (by omega) FR rfl) (rest := []) hd6 (k := 0) rfl rfl celO_2 ⟨hd6, hx6, hr6⟩ (fun q hq => by unfold fp2 at hq; unfold fp1; omega) rfl rfl rfl (Nat.le_of_ble_eq_true rfl) ⟨Nat.le_of_ble_eq_true rfl, Nat.le_of_ble_eq_true rfl, Nat.le_of_ble_eq_true rfl, Nat.le_of_ble_eq_true rfl⟩ dX6_firstRiver_26 (fun v H7 hv hq7 => ?_)
  obtain ⟨rfl, hd7, hr7⟩ := hv
  have hx7 := blk_kept hx6 (n := 1) rfl (fun q h1 h2 => hq7 q (by unfold fp2; omega))
  dsimp only [psh]
  refine r_pop C dX6_firstRiver_29 rfl ?_
  refine r_aload_n C dX6_firstRiver_30 rfl ?_
  exact r_aret C (Or.inl ⟨_, rfl⟩) dX6_firstRiver_31 ⟨rfl, blk_app hr7 (blk_app hd7 hx7 (n := 2) rfl) (n := 15) rfl⟩
