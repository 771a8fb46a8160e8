theorem X6_wouldBeFound_L43_fr (u18 : Int32) (q : Nat) (hq : ¬ (40 ≤ q ∧ q < 55)) : ∀ (n : Nat) (R : Nat → Nat → Int32) (s : Nat), (∀ v, d_X6_wouldBeFound_L43 u18 n R s = .inl v → v.2 q = R q) ∧ (∀ w, d_X6_wouldBeFound_L43 u18 n R s = .inr w → w q = R q) := by
  intro n
  induction n with
  | zero =>
    intro R s
    exact ⟨fun v h => (by rw [d_X6_wouldBeFound_L43] at h; cases h), fun w h => by rw [d_X6_wouldBeFound_L43] at h; rw [← Sum.inr.inj h]⟩
  | succ n ih =>
    intro R s
    by_cases c : u18 < nI s
    · have e : d_X6_wouldBeFound_L43 u18 (n + 1) R s = .inr R := by rw [d_X6_wouldBeFound_L43]; exact if_pos c
      exact ⟨fun v h => (by rw [e] at h; cases h), fun w h => by rw [e] at h; rw [← Sum.inr.inj h]⟩
    · obtain ⟨u39, hu39⟩ : ∃ r, r = d_X3_goBy (shf R 40) (1 : Int32) := ⟨_, rfl⟩
      obtain ⟨u45, hu45⟩ : ∃ r, r = d_X1_agree (shf (spl R 40 15 u39) 209) (shf (spl R 40 15 u39) 40) (nI s) := ⟨_, rfl⟩
      by_cases c2 : u45 = 0
      · have e : d_X6_wouldBeFound_L43 u18 (n + 1) R s = .inl ((0 : Int32), (spl R 40 15 u39)) := by rw [d_X6_wouldBeFound_L43]; exact (if_neg c).trans ((lt_eq hu39).trans ((lt_eq hu45).trans (if_pos c2)))
        exact ⟨fun v h => by rw [e] at h; rw [← Sum.inl.inj h]; exact spl_out (by omega), fun w h => by rw [e] at h; cases h⟩
      · have e : d_X6_wouldBeFound_L43 u18 (n + 1) R s = d_X6_wouldBeFound_L43 u18 n (spl R 40 15 u39) (s + 1) := by rw [d_X6_wouldBeFound_L43]; exact (if_neg c).trans ((lt_eq hu39).trans ((lt_eq hu45).trans (if_neg c2)))
        have i2 := ih (spl R 40 15 u39) (s + 1)
        have e3 : spl R 40 15 u39 q = R q := spl_out (by omega)
        exact ⟨fun v h => by rw [e] at h; rw [i2.1 v h, e3], fun w h => by rw [e] at h; rw [i2.2 w h, e3]⟩
theorem X6_wouldBeFound_fr {R : Nat → Nat → Int32} {t s : Int32} {u : Int32 × (Nat → Nat → Int32)} (hu : u = d_X6_wouldBeFound R t s) {q : Nat} (hq : ¬ (40 ≤ q ∧ q < 55)) : u.2 q = R q := by
  obtain ⟨u1, hu1⟩ : ∃ r, r = d_X3_copy (shf R 40) (shf R 4) := ⟨_, rfl⟩
  have e1 : spl R 40 15 u1 q = R q := spl_out (by omega)
  cases ho : d_X3_townAt (shf (spl R 40 15 u1) 40) t with
  | none =>
    have e : u = ((0 : Int32), (spl R 40 15 u1)) := by rw [hu, d_X6_wouldBeFound]; exact (lt_eq hu1).trans (oc_none ho)
    rw [e]; exact e1
  | some k =>
    have hk := X3_townAt_lt ho
    have e2 : pt (spl R 40 15 u1) (43 + k) 3 s q = R q := by rw [pt_k (by omega), e1]
    obtain ⟨u18, hu18⟩ : ∃ r, r = d_X1_lastSpring (shf (pt (spl R 40 15 u1) (43 + k) 3 s) 209) := ⟨_, rfl⟩
    have F := X6_wouldBeFound_L43_fr u18 q hq 22 (pt (spl R 40 15 u1) (43 + k) 3 s) 1
    cases hw : d_X6_wouldBeFound_L43 u18 22 (pt (spl R 40 15 u1) (43 + k) 3 s) 1 with
    | inl v =>
      have e : u = v := by rw [hu, d_X6_wouldBeFound]; exact (lt_eq hu1).trans ((oc_some ho).trans ((lt_eq hu18).trans (by rw [hw]; rfl)))
      rw [e, F.1 v hw, e2]
    | inr w =>
      have e : u = ((1 : Int32), w) := by rw [hu, d_X6_wouldBeFound]; exact (lt_eq hu1).trans ((oc_some ho).trans ((lt_eq hu18).trans (by rw [hw]; rfl)))
      rw [e]; exact (F.2 w hw).trans e2
def d_X6_together (R_b : Nat → Nat → Int32) (t : Int32) (part : Int32) : Int32 :=
  oc (d_X3_townAt (shf R_b 22) t) (
    (-1 : Int32)) fun k6 =>
  if part < 0 then
    (-1 : Int32)
  else
    if part ≤ (1 : Int32) then
      lt (d_X3_silverOfAll (shf R_b 22)) fun u11 =>
      if (R_b (25 + k6) 1) = 0 then
        if 0 < u11 then
          lt (d_X3_askedOfAll (shf R_b 22)) fun u18 =>
          lt (d_X6_commonDivisor (u18 * (R_b (25 + k6) 3)) u11) fun u23 =>
          if 0 < u23 then
            if part = 0 then
              ((u18 * (R_b (25 + k6) 3)) / u23)
            else
              (u11 / u23)
          else
            (-4 : Int32)
        else
          (-4 : Int32)
      else
        (-4 : Int32)
    else
      (-1 : Int32)
set_option maxHeartbeats 4000000 in
set_option maxRecDepth 100000 in
theorem c_X6_together (l : Launch) (D : DD) (o_b : Nat) (R_b : Nat → Nat → Int32) (t : Int32) (part : Int32)  (res : Int32) (hres : res = d_X6_together R_b t part) : Mt l D yX6_together cX6_together 7 (some .int) 3 67 0 0 [.ref o_b, .int t, .int part] (fun H => blk D ksMain o_b R_b H) (fun v H => v = some (.int res)) fp0 := by
  refine mt_of (own := RX6) (ls := [.val (.ref o_b), .val (.int t), .val (.int part), .unset, .unset, .unset, .unset]) rfl (by decide +kernel) rfl ?_
  intro x H C hP
  have hb_b := hP
  refine r_aload_n C dX6_together_0 rfl ?_
  refine r_get C hb_b (k := 0) rfl rfl celO_6 fw_X6_28 rfl dX6_together_1 ?_
  refine r_iload_n C dX6_together_4 rfl ?_
  obtain ⟨u1, hu1⟩ : ∃ r, r = d_X3_townAt (shf R_b 22) t := ⟨_, rfl⟩
  refine r_callV0 C cw_X6_96 (fun l => c_X3_townAt l D (o_b + 22) (shf R_b 22) t u1 hu1) (rest := []) hb_b (k := 22) rfl rfl celO_3 (blk_sub hb_b 22 15 rfl rfl) (fun q h => h.elim) rfl rfl rfl (Nat.le_of_ble_eq_true rfl) ⟨Nat.le_of_ble_eq_true rfl, Nat.le_of_ble_eq_true rfl, Nat.le_refl 0, Nat.le_refl 0⟩ dX6_together_5 (fun v H2 hp3 hq4 => ?_)
  subst hp3
  have hb5 := blk_kept hb_b (n := 215) rfl (fun q h1 h2 => hq4 q (fun h => h))
  obtain ho7 | ⟨k6, ho7⟩ := opt_or u1
  · have hu1' : d_X3_townAt (shf R_b 22) t = none := by rw [← hu1, ho7]
    rw [ho7]; dsimp only [psh, optT, optC]
    refine r_astore_nN C dX6_together_8 (ls' := [.val (.ref o_b), .val (.int t), .val (.int part), .val (.null), .unset, .unset, .unset]) rfl trivial rfl ?_
    refine r_aload_nN C dX6_together_9 rfl ?_
    refine r_ifnullN C dX6_together_10 ?_
    refine r_iconst C dX6_together_22 (-1 : Int32) (by decide) ?_
    refine r_iret C dX6_together_23 ?_
    have er : res = (-1 : Int32) := by rw [hres, d_X6_together]; try exact (oc_none hu1').trans (rfl)
    rw [er]
  · have hu1' : d_X3_townAt (shf R_b 22) t = some k6 := by rw [← hu1, ho7]
    rw [ho7]; dsimp only [psh, optT, optC]
    have fk8 := X3_townAt_lt hu1'
    refine r_astore_n C dX6_together_8 (ls' := [.val (.ref o_b), .val (.int t), .val (.int part), .val (.ref ((o_b + 22) + 3 + k6)), .unset, .unset, .unset]) rfl trivial rfl ?_
    refine r_aload_n C dX6_together_9 rfl ?_
    refine r_ifnull C dX6_together_10 ?_
    refine r_iload_n C dX6_together_13 rfl ?_
    refine r_if_lt C dX6_together_14 (fun c9 => ?_) (fun c9 => ?_)
    · skip
      refine r_iconst C dX6_together_22 (-1 : Int32) (by decide) ?_
      refine r_iret C dX6_together_23 ?_
      have er : res = (-1 : Int32) := by rw [hres, d_X6_together]; try exact (oc_some hu1').trans ((if_pos c9).trans (rfl))
      rw [er]
    · skip
      refine r_iload_n C dX6_together_17 rfl ?_
      refine r_iconst C dX6_together_18 (1 : Int32) (by decide) ?_
      refine r_ic_le C dX6_together_19 (fun c10 => ?_) (fun c10 => ?_)
      · skip
        refine r_aload_n C dX6_together_24 rfl ?_
        refine r_get C hb5 (k := 0) rfl rfl celO_6 fw_X6_28 rfl dX6_together_25 ?_
        obtain ⟨u11, hu11⟩ : ∃ r, r = d_X3_silverOfAll (shf R_b 22) := ⟨_, rfl⟩
        refine r_callV0 C cw_X6_197 (fun l => c_X3_silverOfAll l D (o_b + 22) (shf R_b 22) u11 hu11) (rest := []) hb5 (k := 22) rfl rfl celO_3 (blk_sub hb5 22 15 rfl rfl) (fun q h => h.elim) rfl rfl rfl (Nat.le_of_ble_eq_true rfl) ⟨Nat.le_of_ble_eq_true rfl, Nat.le_of_ble_eq_true rfl, Nat.le_refl 0, Nat.le_refl 0⟩ dX6_together_28 (fun v H12 hp13 hq14 => ?_)
        subst hp13
        have hb15 := blk_kept hb5 (n := 215) rfl (fun q h1 h2 => hq14 q (fun h => h))
        dsimp only [psh]
        refine r_istore C dX6_together_31 (ls' := [.val (.ref o_b), .val (.int t), .val (.int part), .val (.ref ((o_b + 22) + 3 + k6)), .val (.int u11), .unset, .unset]) rfl trivial rfl ?_
        refine r_aload_n C dX6_together_33 rfl ?_
        refine r_get C hb15 (k := (25 + k6)) (kMain_25_1 _ fk8) (by omega) celO_5 fw_X6_117 (z := .int (R_b (25 + k6) 1)) rfl dX6_together_34 ?_
        refine r_if_ne C dX6_together_37 (fun c16 => ?_) (fun c16 => ?_)
        · skip
          refine r_bipush C dX6_together_45 (-4 : Int32) (by decide) ?_
          refine r_iret C dX6_together_47 ?_
          have er : res = (-4 : Int32) := by rw [hres, d_X6_together]; try exact (oc_some hu1').trans ((if_neg c9).trans ((if_pos c10).trans ((lt_eq hu11).trans ((if_neg c16).trans (rfl)))))
          rw [er]
        · skip
          refine r_iload C dX6_together_40 rfl ?_
          refine r_if_gt C dX6_together_42 (fun c17 => ?_) (fun c17 => ?_)
          · skip
            refine r_aload_n C dX6_together_48 rfl ?_
            refine r_get C hb15 (k := 0) rfl rfl celO_6 fw_X6_28 rfl dX6_together_49 ?_
            obtain ⟨u18, hu18⟩ : ∃ r, r = d_X3_askedOfAll (shf R_b 22) := ⟨_, rfl⟩
            refine r_callV0 C cw_X6_200 (fun l => c_X3_askedOfAll l D (o_b + 22) (shf R_b 22) u18 hu18) (rest := []) hb15 (k := 22) rfl rfl celO_3 (blk_sub hb15 22 15 rfl rfl) (fun q h => h.elim) rfl rfl rfl (Nat.le_of_ble_eq_true rfl) ⟨Nat.le_of_ble_eq_true rfl, Nat.le_of_ble_eq_true rfl, Nat.le_refl 0, Nat.le_refl 0⟩ dX6_together_52 (fun v H19 hp20 hq21 => ?_)
            subst hp20
            have hb22 := blk_kept hb15 (n := 215) rfl (fun q h1 h2 => hq21 q (fun h => h))
            dsimp only [psh]
            refine r_aload_n C dX6_together_55 rfl ?_
            refine r_get C hb22 (k := (25 + k6)) (kMain_25_1 _ fk8) (by omega) celO_5 fw_X6_105 (z := .int (R_b (25 + k6) 3)) rfl dX6_together_56 ?_
            refine r_imul C dX6_together_59 ?_
            refine r_istore C dX6_together_60 (ls' := [.val (.ref o_b), .val (.int t), .val (.int part), .val (.ref ((o_b + 22) + 3 + k6)), .val (.int u11), .val (.int (u18 * (R_b (25 + k6) 3))), .unset]) rfl trivial rfl ?_
            refine r_iload C dX6_together_62 rfl ?_
            refine r_iload C dX6_together_64 rfl ?_
            obtain ⟨u23, hu23⟩ : ∃ r, r = d_X6_commonDivisor (u18 * (R_b (25 + k6) 3)) u11 := ⟨_, rfl⟩
            refine r_callS0 C cw_X6_203 (fun l => c_X6_commonDivisor l D (u18 * (R_b (25 + k6) 3)) u11 u23 hu23) (rest := []) trivial (fun q h => h.elim) rfl rfl rfl (Nat.le_of_ble_eq_true rfl) ⟨Nat.le_of_ble_eq_true rfl, Nat.le_of_ble_eq_true rfl, Nat.le_refl 0, Nat.le_refl 0⟩ dX6_together_66 (fun v H24 hp25 hq26 => ?_)
            subst hp25
            have hb27 := blk_kept hb22 (n := 215) rfl (fun q h1 h2 => hq26 q (fun h => h))
            dsimp only [psh]
            refine r_istore C dX6_together_69 (ls' := [.val (.ref o_b), .val (.int t), .val (.int part), .val (.ref ((o_b + 22) + 3 + k6)), .val (.int u11), .val (.int (u18 * (R_b (25 + k6) 3))), .val (.int u23)]) rfl trivial rfl ?_
            refine r_iload C dX6_together_71 rfl ?_
            refine r_if_gt C dX6_together_73 (fun c28 => ?_) (fun c28 => ?_)
            · skip
              refine r_iload_n C dX6_together_79 rfl ?_
              refine r_if_ne C dX6_together_80 (fun c29 => ?_) (fun c29 => ?_)
              · skip
                refine r_iload C dX6_together_91 rfl ?_
                refine r_iload C dX6_together_93 rfl ?_
                refine r_idiv C dX6_together_95 (nz_pos c28) ?_
                refine r_iret C dX6_together_96 ?_
                have er : res = (u11 / u23) := by rw [hres, d_X6_together]; try exact (oc_some hu1').trans ((if_neg c9).trans ((if_pos c10).trans ((lt_eq hu11).trans ((if_pos c16).trans ((if_pos c17).trans ((lt_eq hu18).trans ((lt_eq hu23).trans ((if_pos c28).trans ((if_neg c29).trans (rfl))))))))))
                rw [er]
              · skip
                refine r_iload C dX6_together_83 rfl ?_
                refine r_iload C dX6_together_85 rfl ?_
                refine r_idiv C dX6_together_87 (nz_pos c28) ?_
                refine r_goto C dX6_together_88 ?_
                refine r_iret C dX6_together_96 ?_
                have er : res = ((u18 * (R_b (25 + k6) 3)) / u23) := by rw [hres, d_X6_together]; try exact (oc_some hu1').trans ((if_neg c9).trans ((if_pos c10).trans ((lt_eq hu11).trans ((if_pos c16).trans ((if_pos c17).trans ((lt_eq hu18).trans ((lt_eq hu23).trans ((if_pos c28).trans ((if_pos c29).trans (rfl))))))))))
                rw [er]
            · skip
              refine r_bipush C dX6_together_76 (-4 : Int32) (by decide) ?_
              refine r_iret C dX6_together_78 ?_
              have er : res = (-4 : Int32) := by rw [hres, d_X6_together]; try exact (oc_some hu1').trans ((if_neg c9).trans ((if_pos c10).trans ((lt_eq hu11).trans ((if_pos c16).trans ((if_pos c17).trans ((lt_eq hu18).trans ((lt_eq hu23).trans ((if_neg c28).trans (rfl)))))))))
              rw [er]
          · skip
            refine r_bipush C dX6_together_45 (-4 : Int32) (by decide) ?_
            refine r_iret C dX6_together_47 ?_
            have er : res = (-4 : Int32) := by rw [hres, d_X6_together]; try exact (oc_some hu1').trans ((if_neg c9).trans ((if_pos c10).trans ((lt_eq hu11).trans ((if_pos c16).trans ((if_neg c17).trans (rfl))))))
            rw [er]
      · skip
        refine r_iconst C dX6_together_22 (-1 : Int32) (by decide) ?_
        refine r_iret C dX6_together_23 ?_
        have er : res = (-1 : Int32) := by rw [hres, d_X6_together]; try exact (oc_some hu1').trans ((if_neg c9).trans ((if_neg c10).trans (rfl)))
        rw [er]

def d_X6_found (R_b : Nat → Nat → Int32) (t : Int32) (spring : Int32) (silver : Int32) : Int32 × (Nat → Nat → Int32) :=
  oc (d_X3_townAt (shf R_b 22) t) (
    ((-1 : Int32), R_b)) fun k6 =>
  if spring < (1 : Int32) then
    ((-1 : Int32), R_b)
  else
    if spring ≤ (20 : Int32) then
      if silver < 0 then
        ((-1 : Int32), R_b)
      else
        if silver ≤ (999 : Int32) then
          lt (d_X1_add (shf R_b 209) t spring silver) fun u13 =>
          if u13.1 = 0 then
            ((-3 : Int32), (spl R_b 209 4 u13.2))
          else
            ((u13.2 0 3), (spl R_b 209 4 u13.2))
        else
          ((-1 : Int32), R_b)
    else
      ((-1 : Int32), R_b)
set_option maxHeartbeats 4000000 in
set_option maxRecDepth 100000 in
theorem c_X6_found (l : Launch) (D : DD) (o_b : Nat) (R_b : Nat → Nat → Int32) (t : Int32) (spring : Int32) (silver : Int32)  (res : Int32 × (Nat → Nat → Int32)) (hres : res = d_X6_found R_b t spring silver) : Mt l D yX6_found cX6_found 4 (some .int) 1 23 0 0 [.ref o_b, .int t, .int spring, .int silver] (fun H => blk D ksMain o_b R_b H) (fun v H => v = some (.int res.1) ∧ blk D ksMain o_b res.2 H) (fp1 o_b 215) := by
  refine mt_of (own := RX6) (ls := [.val (.ref o_b), .val (.int t), .val (.int spring), .val (.int silver)]) rfl (by decide +kernel) rfl ?_
  intro x H C hP
  have hb_b := hP
  refine r_aload_n C dX6_found_0 rfl ?_
  refine r_get C hb_b (k := 0) rfl rfl celO_6 fw_X6_28 rfl dX6_found_1 ?_
  refine r_iload_n C dX6_found_4 rfl ?_
  obtain ⟨u1, hu1⟩ : ∃ r, r = d_X3_townAt (shf R_b 22) t := ⟨_, rfl⟩
  refine r_callV0 C cw_X6_96 (fun l => c_X3_townAt l D (o_b + 22) (shf R_b 22) t u1 hu1) (rest := []) hb_b (k := 22) rfl rfl celO_3 (blk_sub hb_b 22 15 rfl rfl) (fun q h => h.elim) rfl rfl rfl (Nat.le_of_ble_eq_true rfl) ⟨Nat.le_of_ble_eq_true rfl, Nat.le_of_ble_eq_true rfl, Nat.le_refl 0, Nat.le_refl 0⟩ dX6_found_5 (fun v H2 hp3 hq4 => ?_)
  subst hp3
  have hb5 := blk_kept hb_b (n := 215) rfl (fun q h1 h2 => hq4 q (fun h => h))
  obtain ho7 | ⟨k6, ho7⟩ := opt_or u1
  · have hu1' : d_X3_townAt (shf R_b 22) t = none := by rw [← hu1, ho7]
    rw [ho7]; dsimp only [psh, optT, optC]
    refine r_ifnullN C dX6_found_8 ?_
    refine r_iconst C dX6_found_22 (-1 : Int32) (by decide) ?_
    refine r_iret C dX6_found_23 ?_
    have er : res = ((-1 : Int32), R_b) := by rw [hres, d_X6_found]; try exact (oc_none hu1').trans (rfl)
    rw [er]
    exact ⟨rfl, hb5⟩
  · have hu1' : d_X3_townAt (shf R_b 22) t = some k6 := by rw [← hu1, ho7]
    rw [ho7]; dsimp only [psh, optT, optC]
    have fk8 := X3_townAt_lt hu1'
    refine r_ifnull C dX6_found_8 ?_
    refine r_iload_n C dX6_found_11 rfl ?_
    refine r_iconst C dX6_found_12 (1 : Int32) (by decide) ?_
    refine r_ic_lt C dX6_found_13 (fun c9 => ?_) (fun c9 => ?_)
    · skip
      refine r_iconst C dX6_found_22 (-1 : Int32) (by decide) ?_
      refine r_iret C dX6_found_23 ?_
      have er : res = ((-1 : Int32), R_b) := by rw [hres, d_X6_found]; try exact (oc_some hu1').trans ((if_pos c9).trans (rfl))
      rw [er]
      exact ⟨rfl, hb5⟩
    · skip
      refine r_iload_n C dX6_found_16 rfl ?_
      refine r_bipush C dX6_found_17 (20 : Int32) (by decide) ?_
      refine r_ic_le C dX6_found_19 (fun c10 => ?_) (fun c10 => ?_)
      · skip
        refine r_iload_n C dX6_found_24 rfl ?_
        refine r_if_lt C dX6_found_25 (fun c11 => ?_) (fun c11 => ?_)
        · skip
          refine r_iconst C dX6_found_35 (-1 : Int32) (by decide) ?_
          refine r_iret C dX6_found_36 ?_
          have er : res = ((-1 : Int32), R_b) := by rw [hres, d_X6_found]; try exact (oc_some hu1').trans ((if_neg c9).trans ((if_pos c10).trans ((if_pos c11).trans (rfl))))
          rw [er]
          exact ⟨rfl, hb5⟩
        · skip
          refine r_iload_n C dX6_found_28 rfl ?_
          refine r_sipush C dX6_found_29 (999 : Int32) (by decide) ?_
          refine r_ic_le C dX6_found_32 (fun c12 => ?_) (fun c12 => ?_)
          · skip
            refine r_aload_n C dX6_found_37 rfl ?_
            refine r_get C hb5 (k := 0) rfl rfl celO_6 fw_X6_52 rfl dX6_found_38 ?_
            refine r_iload_n C dX6_found_41 rfl ?_
            refine r_iload_n C dX6_found_42 rfl ?_
            refine r_iload_n C dX6_found_43 rfl ?_
            obtain ⟨u13, hu13⟩ : ∃ r, r = d_X1_add (shf R_b 209) t spring silver := ⟨_, rfl⟩
            refine r_callV0 C cw_X6_206 (fun l => c_X1_add l D (o_b + 209) (shf R_b 209) t spring silver u13 hu13) (rest := []) hb5 (k := 209) rfl rfl celO_1 (blk_sub hb5 209 4 rfl rfl) (fun q h => by unfold fp1 at h; unfold fp1; omega) rfl rfl rfl (Nat.le_of_ble_eq_true rfl) ⟨Nat.le_of_ble_eq_true rfl, Nat.le_of_ble_eq_true rfl, Nat.le_refl 0, Nat.le_refl 0⟩ dX6_found_44 (fun v H14 hp15 hq16 => ?_)
            obtain ⟨rfl, hl17, hn18⟩ := hp15
            have hb19 := blk_spl hb5 209 4 rfl rfl hn18 (fun q h => hq16 q (by unfold fp1; omega))
            dsimp only [psh]
            refine r_if_ne C dX6_found_47 (fun c20 => ?_) (fun c20 => ?_)
            · skip
              refine r_aload_n C dX6_found_53 rfl ?_
              refine r_get C hb19 (k := 0) rfl rfl celO_6 fw_X6_52 rfl dX6_found_54 ?_
              refine r_get C hb19 (k := 209) rfl rfl celO_1 fw_X6_92 (z := .int (u13.2 0 3)) rfl dX6_found_57 ?_
              refine r_iret C dX6_found_60 ?_
              have er : res = ((u13.2 0 3), (spl R_b 209 4 u13.2)) := by rw [hres, d_X6_found]; try exact (oc_some hu1').trans ((if_neg c9).trans ((if_pos c10).trans ((if_neg c11).trans ((if_pos c12).trans ((lt_eq hu13).trans ((if_neg c20).trans (rfl)))))))
              rw [er]
              exact ⟨rfl, hb19⟩
            · skip
              refine r_bipush C dX6_found_50 (-3 : Int32) (by decide) ?_
              refine r_iret C dX6_found_52 ?_
              have er : res = ((-3 : Int32), (spl R_b 209 4 u13.2)) := by rw [hres, d_X6_found]; try exact (oc_some hu1').trans ((if_neg c9).trans ((if_pos c10).trans ((if_neg c11).trans ((if_pos c12).trans ((lt_eq hu13).trans ((if_pos c20).trans (rfl)))))))
              rw [er]
              exact ⟨rfl, hb19⟩
          · skip
            refine r_iconst C dX6_found_35 (-1 : Int32) (by decide) ?_
            refine r_iret C dX6_found_36 ?_
            have er : res = ((-1 : Int32), R_b) := by rw [hres, d_X6_found]; try exact (oc_some hu1').trans ((if_neg c9).trans ((if_pos c10).trans ((if_neg c11).trans ((if_neg c12).trans (rfl)))))
            rw [er]
            exact ⟨rfl, hb5⟩
      · skip
        refine r_iconst C dX6_found_22 (-1 : Int32) (by decide) ?_
        refine r_iret C dX6_found_23 ?_
        have er : res = ((-1 : Int32), R_b) := by rw [hres, d_X6_found]; try exact (oc_some hu1').trans ((if_neg c9).trans ((if_neg c10).trans (rfl)))
        rw [er]
        exact ⟨rfl, hb5⟩

def d_X6_forget (R_b : Nat → Nat → Int32) : Int32 × (Nat → Nat → Int32) :=
  ((R_b 209 3), (pt R_b 209 3 (0 : Int32)))
set_option maxHeartbeats 4000000 in
set_option maxRecDepth 100000 in
theorem c_X6_forget (l : Launch) (D : DD) (o_b : Nat) (R_b : Nat → Nat → Int32)  (res : Int32 × (Nat → Nat → Int32)) (hres : res = d_X6_forget R_b) : Mt l D yX6_forget cX6_forget 2 (some .int) 0 0 0 0 [.ref o_b] (fun H => blk D ksMain o_b R_b H) (fun v H => v = some (.int res.1) ∧ blk D ksMain o_b res.2 H) (fp1 o_b 215) := by
  refine mt_of (own := RX6) (ls := [.val (.ref o_b), .unset]) rfl (by decide +kernel) rfl ?_
  intro x H C hP
  have hb_b := hP
  refine r_aload_n C dX6_forget_0 rfl ?_
  refine r_get C hb_b (k := 0) rfl rfl celO_6 fw_X6_52 rfl dX6_forget_1 ?_
  refine r_get C hb_b (k := 209) rfl rfl celO_1 fw_X6_92 (z := .int (R_b 209 3)) rfl dX6_forget_4 ?_
  refine r_istore_n C dX6_forget_7 (ls' := [.val (.ref o_b), .val (.int (R_b 209 3))]) rfl trivial rfl ?_
  refine r_aload_n C dX6_forget_8 rfl ?_
  refine r_get C hb_b (k := 0) rfl rfl celO_6 fw_X6_52 rfl dX6_forget_9 ?_
  refine r_iconst C dX6_forget_12 (0 : Int32) (by decide) ?_
  refine r_put C hb_b (k := 209) rfl rfl (by unfold fp1; omega) fw_X6_92 fp_1_3 (Or.inr rfl) dX6_forget_13 (fun H1 hb3 hq2 => ?_)
  refine r_iload_n C dX6_forget_16 rfl ?_
  refine r_iret C dX6_forget_17 ?_
  have er : res = ((R_b 209 3), (pt R_b 209 3 (0 : Int32))) := by rw [hres, d_X6_forget]; try exact rfl
  rw [er]
  exact ⟨rfl, hb3⟩

def d_X6_springs_L47 (z : Int32) (n : Int32) : Nat → (Nat → Nat → Int32) → Nat → (Nat → Nat → Int32)
  | 0, R, _ => R
  | n15 + 1, R, k =>
    if n ≤ (nI k) then
      R
    else
      lt (d_X3_joinDrawn (shf R 40) z (nI k)) fun u27 =>
      lt (d_X3_goBy (shf (spl R 40 15 u27) 40) (1 : Int32)) fun u33 =>
      d_X6_springs_L47 z n n15 (spl (spl R 40 15 u27) 40 15 u33) (k + 1)
def d_X6_springs (R_b : Nat → Nat → Int32) (z : Int32) (n : Int32) (what : Int32) : Int32 × (Nat → Nat → Int32) :=
  if z < 0 then
    ((-1 : Int32), R_b)
  else
    if (9999 : Int32) < z then
      ((-1 : Int32), R_b)
    else
      if n < (1 : Int32) then
        ((-1 : Int32), R_b)
      else
        if (30 : Int32) < n then
          ((-1 : Int32), R_b)
        else
          if what < 0 then
            ((-1 : Int32), R_b)
          else
            if what ≤ (1 : Int32) then
              lt (d_X3_copy (shf R_b 40) (shf R_b 22)) fun u9 =>
              lt (d_X6_springs_L47 z n (n.toNatClampNeg + 1) (spl R_b 40 15 u9) 0) fun s40 =>
              if what = 0 then
                lt (d_X3_townsBurnt (shf s40 40)) fun u50 =>
                (u50, s40)
              else
                lt (d_X3_silverOfAll (shf s40 40)) fun u45 =>
                (u45, s40)
            else
              ((-1 : Int32), R_b)
set_option maxHeartbeats 4000000 in
set_option maxRecDepth 100000 in
theorem c_X6_springs (l : Launch) (D : DD) (o_b : Nat) (R_b : Nat → Nat → Int32) (z : Int32) (n : Int32) (what : Int32)  (res : Int32 × (Nat → Nat → Int32)) (hres : res = d_X6_springs R_b z n what) : Mt l D yX6_springs cX6_springs 5 (some .int) 5 114 0 0 [.ref o_b, .int z, .int n, .int what] (fun H => blk D ksMain o_b R_b H) (fun v H => v = some (.int res.1) ∧ blk D ksMain o_b res.2 H) (fp1 o_b 215) := by
  refine mt_of (own := RX6) (ls := [.val (.ref o_b), .val (.int z), .val (.int n), .val (.int what), .unset]) rfl (by decide +kernel) rfl ?_
  intro x H C hP
  have hb_b := hP
  refine r_iload_n C dX6_springs_0 rfl ?_
  refine r_if_lt C dX6_springs_1 (fun c1 => ?_) (fun c1 => ?_)
  · skip
    refine r_iconst C dX6_springs_31 (-1 : Int32) (by decide) ?_
    refine r_iret C dX6_springs_32 ?_
    have er : res = ((-1 : Int32), R_b) := by rw [hres, d_X6_springs]; try exact (if_pos c1).trans (rfl)
    rw [er]
    exact ⟨rfl, hb_b⟩
  · skip
    refine r_iload_n C dX6_springs_4 rfl ?_
    refine r_sipush C dX6_springs_5 (9999 : Int32) (by decide) ?_
    refine r_ic_gt C dX6_springs_8 (fun c2 => ?_) (fun c2 => ?_)
    · skip
      refine r_iconst C dX6_springs_31 (-1 : Int32) (by decide) ?_
      refine r_iret C dX6_springs_32 ?_
      have er : res = ((-1 : Int32), R_b) := by rw [hres, d_X6_springs]; try exact (if_neg c1).trans ((if_pos c2).trans (rfl))
      rw [er]
      exact ⟨rfl, hb_b⟩
    · skip
      refine r_iload_n C dX6_springs_11 rfl ?_
      refine r_iconst C dX6_springs_12 (1 : Int32) (by decide) ?_
      refine r_ic_lt C dX6_springs_13 (fun c3 => ?_) (fun c3 => ?_)
      · skip
        refine r_iconst C dX6_springs_31 (-1 : Int32) (by decide) ?_
        refine r_iret C dX6_springs_32 ?_
        have er : res = ((-1 : Int32), R_b) := by rw [hres, d_X6_springs]; try exact (if_neg c1).trans ((if_neg c2).trans ((if_pos c3).trans (rfl)))
        rw [er]
        exact ⟨rfl, hb_b⟩
      · skip
        refine r_iload_n C dX6_springs_16 rfl ?_
        refine r_bipush C dX6_springs_17 (30 : Int32) (by decide) ?_
        refine r_ic_gt C dX6_springs_19 (fun c4 => ?_) (fun c4 => ?_)
        · skip
          refine r_iconst C dX6_springs_31 (-1 : Int32) (by decide) ?_
          refine r_iret C dX6_springs_32 ?_
          have er : res = ((-1 : Int32), R_b) := by rw [hres, d_X6_springs]; try exact (if_neg c1).trans ((if_neg c2).trans ((if_neg c3).trans ((if_pos c4).trans (rfl))))
          rw [er]
          exact ⟨rfl, hb_b⟩
        · skip
          refine r_iload_n C dX6_springs_22 rfl ?_
          refine r_if_lt C dX6_springs_23 (fun c5 => ?_) (fun c5 => ?_)
          · skip
            refine r_iconst C dX6_springs_31 (-1 : Int32) (by decide) ?_
            refine r_iret C dX6_springs_32 ?_
            have er : res = ((-1 : Int32), R_b) := by rw [hres, d_X6_springs]; try exact (if_neg c1).trans ((if_neg c2).trans ((if_neg c3).trans ((if_neg c4).trans ((if_pos c5).trans (rfl)))))
            rw [er]
            exact ⟨rfl, hb_b⟩
          · skip
            refine r_iload_n C dX6_springs_26 rfl ?_
            refine r_iconst C dX6_springs_27 (1 : Int32) (by decide) ?_
            refine r_ic_le C dX6_springs_28 (fun c6 => ?_) (fun c6 => ?_)
            · skip
              have hn7 : n = nI n.toNatClampNeg := nn_of (x_lo3 c3 (by decide))
              have hn8 := (x_le (M := 30) c4 (by decide))
              refine r_aload_n C dX6_springs_33 rfl ?_
              refine r_get C hb_b (k := 0) rfl rfl celO_6 fw_X6_34 rfl dX6_springs_34 ?_
              refine r_aload_n C dX6_springs_37 rfl ?_
              refine r_get C hb_b (k := 0) rfl rfl celO_6 fw_X6_28 rfl dX6_springs_38 ?_
              obtain ⟨u9, hu9⟩ : ∃ r, r = d_X3_copy (shf R_b 40) (shf R_b 22) := ⟨_, rfl⟩
              refine r_callV0 C cw_X6_88 (fun l => c_X3_copy l D (o_b + 40) (o_b + 22) (shf R_b 40) (shf R_b 22) (by omega) u9 hu9) (rest := []) hb_b (k := 40) rfl rfl celO_3 ⟨(blk_sub hb_b 40 15 rfl rfl), (blk_sub hb_b 22 15 rfl rfl)⟩ (fun q h => by unfold fp1 at h; unfold fp1; omega) rfl rfl rfl (Nat.le_of_ble_eq_true rfl) ⟨Nat.le_of_ble_eq_true rfl, Nat.le_of_ble_eq_true rfl, Nat.le_refl 0, Nat.le_refl 0⟩ dX6_springs_41 (fun v H10 hp11 hq12 => ?_)
              obtain ⟨rfl, hn13⟩ := hp11
              have hb14 := blk_spl hb_b 40 15 rfl rfl hn13 (fun q h => hq12 q (by unfold fp1; omega))
              dsimp only [psh]
              refine r_iconst C dX6_springs_44 (0 : Int32) (by decide) ?_
              refine r_istore C dX6_springs_45 (ls' := [.val (.ref o_b), .val (.int z), .val (.int n), .val (.int what), .val (.int (0 : Int32))]) rfl trivial rfl ?_
              have d_X6_springs_L47_w : ∀ (n15 : Nat) (R : Nat → Nat → Int32) (k : Nat) (H20 : Heap), True → (k ≤ n.toNatClampNeg) → (n.toNatClampNeg - k < n15) → blk D ksMain o_b R H20 → ∀ s17 : (Nat → Nat → Int32), s17 = d_X6_springs_L47 z n n15 R k → (∀ (H' : Heap) (z21 : Slot) (_ : slot1 z21), True → blk D ksMain o_b s17 H' → WG x (fp1 o_b 215) (Fin x (fun v H => v = some (.int res.1) ∧ blk D ksMain o_b res.2 H) (fp1 o_b 215) 0 0) H' 0 0 77 [.val (.ref o_b), .val (.int z), .val (.int n), .val (.int what), z21] []) → WG x (fp1 o_b 215) (Fin x (fun v H => v = some (.int res.1) ∧ blk D ksMain o_b res.2 H) (fp1 o_b 215) 0 0) H20 0 0 47 [.val (.ref o_b), .val (.int z), .val (.int n), .val (.int what), .val (.int (nI k))] [] := by
                intro n15
                induction n15 with
                | zero => intro R k H20  _ hk hm22; exact absurd hm22 (Nat.not_lt_zero _)
                | succ n15 ih16 =>
                  intro R k H20  _ hk hm22 hb19 s17 hs17  kx18
                  refine r_iload C dX6_springs_47 rfl ?_
                  refine r_iload_n C dX6_springs_49 rfl ?_
                  refine r_ic_ge C dX6_springs_50 (fun c23 => ?_) (fun c23 => ?_)
                  · skip
                    have f24 : (n.toNatClampNeg ≤ k) := nf_leI (by omega) (by omega) hn7 rfl c23
                    have e25 : s17 = R := by rw [hs17, d_X6_springs_L47]; try exact (if_pos c23).trans (rfl)
                    rw [e25] at kx18
                    exact kx18 _ (.val (.int (nI k))) rfl trivial  hb19
                  · skip
                    have f26 : ¬ (n.toNatClampNeg ≤ k) := nf_leIn (by omega) (by omega) hn7 rfl c23
                    refine r_aload_n C dX6_springs_53 rfl ?_
                    refine r_get C hb19 (k := 0) rfl rfl celO_6 fw_X6_34 rfl dX6_springs_54 ?_
                    refine r_iload_n C dX6_springs_57 rfl ?_
                    refine r_iload C dX6_springs_58 rfl ?_
                    obtain ⟨u27, hu27⟩ : ∃ r, r = d_X3_joinDrawn (shf R 40) z (nI k) := ⟨_, rfl⟩
                    refine r_callV0 C cw_X6_216 (fun l => c_X3_joinDrawn l D (o_b + 40) (shf R 40) z (nI k) u27 hu27) (rest := []) hb19 (k := 40) rfl rfl celO_3 (blk_sub hb19 40 15 rfl rfl) (fun q h => by unfold fp1 at h; unfold fp1; omega) rfl rfl rfl (Nat.le_of_ble_eq_true rfl) ⟨Nat.le_of_ble_eq_true rfl, Nat.le_of_ble_eq_true rfl, Nat.le_refl 0, Nat.le_refl 0⟩ dX6_springs_60 (fun v H28 hp29 hq30 => ?_)
                    obtain ⟨rfl, hn31⟩ := hp29
                    have hb32 := blk_spl hb19 40 15 rfl rfl hn31 (fun q h => hq30 q (by unfold fp1; omega))
                    dsimp only [psh]
                    refine r_aload_n C dX6_springs_63 rfl ?_
                    refine r_get C hb32 (k := 0) rfl rfl celO_6 fw_X6_34 rfl dX6_springs_64 ?_
                    refine r_iconst C dX6_springs_67 (1 : Int32) (by decide) ?_
                    obtain ⟨u33, hu33⟩ : ∃ r, r = d_X3_goBy (shf (spl R 40 15 u27) 40) (1 : Int32) := ⟨_, rfl⟩
                    refine r_callV0 C cw_X6_150 (fun l => c_X3_goBy l D (o_b + 40) (shf (spl R 40 15 u27) 40) (1 : Int32) (by decide) (by decide) u33 hu33) (rest := []) hb32 (k := 40) rfl rfl celO_3 (blk_sub hb32 40 15 rfl rfl) (fun q h => by unfold fp1 at h; unfold fp1; omega) rfl rfl rfl (Nat.le_of_ble_eq_true rfl) ⟨Nat.le_of_ble_eq_true rfl, Nat.le_of_ble_eq_true rfl, Nat.le_refl 0, Nat.le_refl 0⟩ dX6_springs_68 (fun v H34 hp35 hq36 => ?_)
                    obtain ⟨rfl, hn37⟩ := hp35
                    have hb38 := blk_spl hb32 40 15 rfl rfl hn37 (fun q h => hq36 q (by unfold fp1; omega))
                    dsimp only [psh]
                    refine r_iinc C dX6_springs_71 (nI (k + 1)) rfl (nI_inc k rfl) (ls' := [.val (.ref o_b), .val (.int z), .val (.int n), .val (.int what), .val (.int (nI (k + 1)))]) rfl ?_
                    refine r_goto C dX6_springs_74 ?_
                    have e39 : s17 = d_X6_springs_L47 z n n15 (spl (spl R 40 15 u27) 40 15 u33) (k + 1) := by rw [hs17, d_X6_springs_L47]; try exact (if_neg c23).trans ((lt_eq hu27).trans ((lt_eq hu33).trans (rfl)))
                    exact ih16 (spl (spl R 40 15 u27) 40 15 u33) (k + 1) _  trivial (by omega) (by omega) hb38 s17 e39  kx18
              obtain ⟨s40, hs40⟩ : ∃ r, r = d_X6_springs_L47 z n (n.toNatClampNeg + 1) (spl R_b 40 15 u9) 0 := ⟨_, rfl⟩
              refine d_X6_springs_L47_w (n.toNatClampNeg + 1) (spl R_b 40 15 u9) 0 _  trivial (by omega) (by omega) hb14 s40 hs40  (fun H42 z21 hz21 e43  hb41 => ?_)
              refine r_iload_n C dX6_springs_77 rfl ?_
              refine r_if_ne C dX6_springs_78 (fun c44 => ?_) (fun c44 => ?_)
              · skip
                refine r_aload_n C dX6_springs_91 rfl ?_
                refine r_get C hb41 (k := 0) rfl rfl celO_6 fw_X6_34 rfl dX6_springs_92 ?_
                obtain ⟨u45, hu45⟩ : ∃ r, r = d_X3_silverOfAll (shf s40 40) := ⟨_, rfl⟩
                refine r_callV0 C cw_X6_197 (fun l => c_X3_silverOfAll l D (o_b + 40) (shf s40 40) u45 hu45) (rest := []) hb41 (k := 40) rfl rfl celO_3 (blk_sub hb41 40 15 rfl rfl) (fun q h => h.elim) rfl rfl rfl (Nat.le_of_ble_eq_true rfl) ⟨Nat.le_of_ble_eq_true rfl, Nat.le_of_ble_eq_true rfl, Nat.le_refl 0, Nat.le_refl 0⟩ dX6_springs_95 (fun v H46 hp47 hq48 => ?_)
                subst hp47
                have hb49 := blk_kept hb41 (n := 215) rfl (fun q h1 h2 => hq48 q (fun h => h))
                dsimp only [psh]
                refine r_iret C dX6_springs_98 ?_
                have er : res = (u45, s40) := by rw [hres, d_X6_springs]; try exact (if_neg c1).trans ((if_neg c2).trans ((if_neg c3).trans ((if_neg c4).trans ((if_neg c5).trans ((if_pos c6).trans ((lt_eq hu9).trans ((lt_eq hs40).trans ((if_neg c44).trans ((lt_eq hu45).trans (rfl))))))))))
                rw [er]
                exact ⟨rfl, hb49⟩
              · skip
                refine r_aload_n C dX6_springs_81 rfl ?_
                refine r_get C hb41 (k := 0) rfl rfl celO_6 fw_X6_34 rfl dX6_springs_82 ?_
                obtain ⟨u50, hu50⟩ : ∃ r, r = d_X3_townsBurnt (shf s40 40) := ⟨_, rfl⟩
                refine r_callV0 C cw_X6_220 (fun l => c_X3_townsBurnt l D (o_b + 40) (shf s40 40) u50 hu50) (rest := []) hb41 (k := 40) rfl rfl celO_3 (blk_sub hb41 40 15 rfl rfl) (fun q h => h.elim) rfl rfl rfl (Nat.le_of_ble_eq_true rfl) ⟨Nat.le_of_ble_eq_true rfl, Nat.le_of_ble_eq_true rfl, Nat.le_refl 0, Nat.le_refl 0⟩ dX6_springs_85 (fun v H51 hp52 hq53 => ?_)
                subst hp52
                have hb54 := blk_kept hb41 (n := 215) rfl (fun q h1 h2 => hq53 q (fun h => h))
                dsimp only [psh]
                refine r_goto C dX6_springs_88 ?_
                refine r_iret C dX6_springs_98 ?_
                have er : res = (u50, s40) := by rw [hres, d_X6_springs]; try exact (if_neg c1).trans ((if_neg c2).trans ((if_neg c3).trans ((if_neg c4).trans ((if_neg c5).trans ((if_pos c6).trans ((lt_eq hu9).trans ((lt_eq hs40).trans ((if_pos c44).trans ((lt_eq hu50).trans (rfl))))))))))
                rw [er]
                exact ⟨rfl, hb54⟩
            · skip
              refine r_iconst C dX6_springs_31 (-1 : Int32) (by decide) ?_
              refine r_iret C dX6_springs_32 ?_
              have er : res = ((-1 : Int32), R_b) := by rw [hres, d_X6_springs]; try exact (if_neg c1).trans ((if_neg c2).trans ((if_neg c3).trans ((if_neg c4).trans ((if_neg c5).trans ((if_neg c6).trans (rfl))))))
              rw [er]
              exact ⟨rfl, hb_b⟩

def d_X6_keep (R_b : Nat → Nat → Int32) : Int32 × (Nat → Nat → Int32) :=
  if (R_b 177 1) < (2 : Int32) then
    lt (d_X4_put (shf R_b 177) (shf R_b 22) 2) fun u2 =>
    ((u2 0 1), (spl R_b 177 32 u2))
  else
    ((-3 : Int32), R_b)
set_option maxHeartbeats 4000000 in
set_option maxRecDepth 100000 in
theorem c_X6_keep (l : Launch) (D : DD) (o_b : Nat) (R_b : Nat → Nat → Int32) (hw2 : ∀ j, j < 2 → (R_b 178 j).toNatClampNeg < 2) (res : Int32 × (Nat → Nat → Int32)) (hres : res = d_X6_keep R_b) : Mt l D yX6_keep cX6_keep 1 (some .int) 4 86 0 0 [.ref o_b] (fun H => blk D ksMain o_b R_b H) (fun v H => v = some (.int res.1) ∧ blk D ksMain o_b res.2 H) (fp1 o_b 215) := by
  refine mt_of (own := RX6) (ls := [.val (.ref o_b)]) rfl (by decide +kernel) rfl ?_
  intro x H C hP
  have hb_b := hP
  refine r_aload_n C dX6_keep_0 rfl ?_
  refine r_get C hb_b (k := 0) rfl rfl celO_6 fw_X6_46 rfl dX6_keep_1 ?_
  refine r_get C hb_b (k := 177) rfl rfl celO_4 fw_X6_95 (z := .int (R_b 177 1)) rfl dX6_keep_4 ?_
  refine r_iconst C dX6_keep_7 (2 : Int32) (by decide) ?_
  refine r_ic_lt C dX6_keep_8 (fun c1 => ?_) (fun c1 => ?_)
  · skip
    refine r_aload_n C dX6_keep_14 rfl ?_
    refine r_get C hb_b (k := 0) rfl rfl celO_6 fw_X6_46 rfl dX6_keep_15 ?_
    refine r_aload_n C dX6_keep_18 rfl ?_
    refine r_get C hb_b (k := 0) rfl rfl celO_6 fw_X6_28 rfl dX6_keep_19 ?_
    obtain ⟨u2, hu2⟩ : ∃ r, r = d_X4_put (shf R_b 177) (shf R_b 22) 2 := ⟨_, rfl⟩
    refine r_callV0 C cw_X6_147 (fun l => c_X4_put l D (o_b + 177) (o_b + 22) (shf R_b 177) (shf R_b 22) 2 (by omega) (by omega) hw2 (by omega) u2 hu2) (rest := []) hb_b (k := 177) rfl rfl celO_4 ⟨(blk_sub hb_b 177 32 rfl rfl), (blk_sub hb_b 22 15 rfl rfl)⟩ (fun q h => by unfold fp1 at h; unfold fp1; omega) rfl rfl rfl (Nat.le_of_ble_eq_true rfl) ⟨Nat.le_of_ble_eq_true rfl, Nat.le_of_ble_eq_true rfl, Nat.le_refl 0, Nat.le_refl 0⟩ dX6_keep_22 (fun v H3 hp4 hq5 => ?_)
    obtain ⟨rfl, hn6⟩ := hp4
    have hb7 := blk_spl hb_b 177 32 rfl rfl hn6 (fun q h => hq5 q (by unfold fp1; omega))
    dsimp only [psh]
    refine r_aload_n C dX6_keep_25 rfl ?_
    refine r_get C hb7 (k := 0) rfl rfl celO_6 fw_X6_46 rfl dX6_keep_26 ?_
    refine r_get C hb7 (k := 177) rfl rfl celO_4 fw_X6_95 (z := .int (u2 0 1)) rfl dX6_keep_29 ?_
    refine r_iret C dX6_keep_32 ?_
    have er : res = ((u2 0 1), (spl R_b 177 32 u2)) := by rw [hres, d_X6_keep]; try exact (if_pos c1).trans ((lt_eq hu2).trans (rfl))
    rw [er]
    exact ⟨rfl, hb7⟩
  · skip
    refine r_bipush C dX6_keep_11 (-3 : Int32) (by decide) ?_
    refine r_iret C dX6_keep_13 ?_
    have er : res = ((-3 : Int32), R_b) := by rw [hres, d_X6_keep]; try exact (if_neg c1).trans (rfl)
    rw [er]
    exact ⟨rfl, hb_b⟩

def d_X6_back (R_b : Nat → Nat → Int32) : Int32 × (Nat → Nat → Int32) :=
  if (R_b 177 1) = 0 then
    ((-2 : Int32), R_b)
  else
    lt (d_X4_takeInto (shf R_b 177) (shf R_b 22) 2) fun u2 =>
    ((u2.1 0 1), (pt (spl (spl R_b 177 32 u2.1) 22 15 u2.2) 55 1 (0 : Int32)))
set_option maxHeartbeats 4000000 in
set_option maxRecDepth 100000 in
theorem c_X6_back (l : Launch) (D : DD) (o_b : Nat) (R_b : Nat → Nat → Int32) (hw2 : ∀ j, j < 2 → (R_b 178 j).toNatClampNeg < 2) (hkm : R_b 177 1 = nI (R_b 177 1).toNatClampNeg) (hkm2 : (R_b 177 1).toNatClampNeg ≤ 2) (res : Int32 × (Nat → Nat → Int32)) (hres : res = d_X6_back R_b) : Mt l D yX6_back cX6_back 1 (some .int) 4 86 0 0 [.ref o_b] (fun H => blk D ksMain o_b R_b H) (fun v H => v = some (.int res.1) ∧ blk D ksMain o_b res.2 H) (fp1 o_b 215) := by
  refine mt_of (own := RX6) (ls := [.val (.ref o_b)]) rfl (by decide +kernel) rfl ?_
  intro x H C hP
  have hb_b := hP
  refine r_aload_n C dX6_back_0 rfl ?_
  refine r_get C hb_b (k := 0) rfl rfl celO_6 fw_X6_46 rfl dX6_back_1 ?_
  refine r_get C hb_b (k := 177) rfl rfl celO_4 fw_X6_95 (z := .int (R_b 177 1)) rfl dX6_back_4 ?_
  refine r_if_ne C dX6_back_7 (fun c1 => ?_) (fun c1 => ?_)
  · skip
    refine r_aload_n C dX6_back_13 rfl ?_
    refine r_get C hb_b (k := 0) rfl rfl celO_6 fw_X6_46 rfl dX6_back_14 ?_
    refine r_aload_n C dX6_back_17 rfl ?_
    refine r_get C hb_b (k := 0) rfl rfl celO_6 fw_X6_28 rfl dX6_back_18 ?_
    obtain ⟨u2, hu2⟩ : ∃ r, r = d_X4_takeInto (shf R_b 177) (shf R_b 22) 2 := ⟨_, rfl⟩
    refine r_callV0 C cw_X6_168 (fun l => c_X4_takeInto l D (o_b + 177) (o_b + 22) (shf R_b 177) (shf R_b 22) 2 (by omega) hw2 hkm hkm2 (by omega) u2 hu2) (rest := []) hb_b (k := 177) rfl rfl celO_4 ⟨(blk_sub hb_b 177 32 rfl rfl), (blk_sub hb_b 22 15 rfl rfl)⟩ (fun q h => by unfold fp2 at h; unfold fp1; omega) rfl rfl rfl (Nat.le_of_ble_eq_true rfl) ⟨Nat.le_of_ble_eq_true rfl, Nat.le_of_ble_eq_true rfl, Nat.le_refl 0, Nat.le_refl 0⟩ dX6_back_21 (fun v H3 hp4 hq5 => ?_)
    obtain ⟨rfl, hn6, hn7⟩ := hp4
    have hb8 := blk_spl2 hb_b 177 32 rfl rfl hn6 22 15 rfl rfl hn7 (fun q h => hq5 q (by unfold fp2; omega))
    dsimp only [psh]
    refine r_aload_n C dX6_back_24 rfl ?_
    refine r_get C hb8 (k := 0) rfl rfl celO_6 fw_X6_42 rfl dX6_back_25 ?_
    refine r_iconst C dX6_back_28 (0 : Int32) (by decide) ?_
    refine r_put C hb8 (k := 55) rfl rfl (by unfold fp1; omega) fw_X6_95 fp_4_1 (Or.inr rfl) dX6_back_29 (fun H9 hb11 hq10 => ?_)
    refine r_aload_n C dX6_back_32 rfl ?_
    refine r_get C hb11 (k := 0) rfl rfl celO_6 fw_X6_46 rfl dX6_back_33 ?_
    refine r_get C hb11 (k := 177) rfl rfl celO_4 fw_X6_95 (z := .int (u2.1 0 1)) rfl dX6_back_36 ?_
    refine r_iret C dX6_back_39 ?_
    have er : res = ((u2.1 0 1), (pt (spl (spl R_b 177 32 u2.1) 22 15 u2.2) 55 1 (0 : Int32))) := by rw [hres, d_X6_back]; try exact (if_neg c1).trans ((lt_eq hu2).trans (rfl))
    rw [er]
    exact ⟨rfl, hb11⟩
  · skip
    refine r_bipush C dX6_back_10 (-2 : Int32) (by decide) ?_
    refine r_iret C dX6_back_12 ?_
    have er : res = ((-2 : Int32), R_b) := by rw [hres, d_X6_back]; try exact (if_pos c1).trans (rfl)
    rw [er]
    exact ⟨rfl, hb_b⟩

def d_X6_count (R_b : Nat → Nat → Int32) (what : Int32) : Int32 :=
  if what = (0 : Int32) then
    lt (d_X3_townsThere (shf R_b 22)) fun u2 =>
    u2
  else
    if what = (1 : Int32) then
      lt (d_X3_crewsThere (shf R_b 22)) fun u10 =>
      u10
    else
      if what = (2 : Int32) then
        (R_b 22 3)
      else
        if what = (3 : Int32) then
          lt (d_X3_townsBurnt (shf R_b 22)) fun u19 =>
          u19
        else
          if what = (4 : Int32) then
            lt (d_X3_crewsGone (shf R_b 22)) fun u25 =>
            u25
          else
            if what = (5 : Int32) then
              lt (d_X3_silverOfAll (shf R_b 22)) fun u31 =>
              u31
            else
              if what = (6 : Int32) then
                (R_b 209 3)
              else
                if what = (7 : Int32) then
                  (R_b 55 1)
                else
                  if what = (8 : Int32) then
                    (R_b 177 1)
                  else
                    if what = (9 : Int32) then
                      (R_b 0 1)
                    else
                      (-1 : Int32)
set_option maxHeartbeats 4000000 in
set_option maxRecDepth 100000 in
theorem c_X6_count (l : Launch) (D : DD) (o_b : Nat) (R_b : Nat → Nat → Int32) (what : Int32)  (res : Int32) (hres : res = d_X6_count R_b what) : Mt l D yX6_count cX6_count 2 (some .int) 2 42 0 0 [.ref o_b, .int what] (fun H => blk D ksMain o_b R_b H) (fun v H => v = some (.int res)) fp0 := by
  refine mt_of (own := RX6) (ls := [.val (.ref o_b), .val (.int what)]) rfl (by decide +kernel) rfl ?_
  intro x H C hP
  have hb_b := hP
  refine r_iload_n C dX6_count_0 rfl ?_
  by_cases c1 : what = (0 : Int32)
  · skip
    refine r_tswI C dX6_count_1 c1 (by decide) (by decide) (off := 55) (by decide) (tgt := 56) rfl ?_
    refine r_aload_n C dX6_count_56 rfl ?_
    refine r_get C hb_b (k := 0) rfl rfl celO_6 fw_X6_28 rfl dX6_count_57 ?_
    obtain ⟨u2, hu2⟩ : ∃ r, r = d_X3_townsThere (shf R_b 22) := ⟨_, rfl⟩
    refine r_callV0 C cw_X6_82 (fun l => c_X3_townsThere l D (o_b + 22) (shf R_b 22) u2 hu2) (rest := []) hb_b (k := 22) rfl rfl celO_3 (blk_sub hb_b 22 15 rfl rfl) (fun q h => h.elim) rfl rfl rfl (Nat.le_of_ble_eq_true rfl) ⟨Nat.le_of_ble_eq_true rfl, Nat.le_of_ble_eq_true rfl, Nat.le_refl 0, Nat.le_refl 0⟩ dX6_count_60 (fun v H3 hp4 hq5 => ?_)
    subst hp4
    obtain ⟨hn6, hn7⟩ := X3_townsThere_nat hu2
    have hb8 := blk_kept hb_b (n := 215) rfl (fun q h1 h2 => hq5 q (fun h => h))
    dsimp only [psh]
    refine r_iret C dX6_count_63 ?_
    have er : res = u2 := by rw [hres, d_X6_count]; try exact (if_pos c1).trans ((lt_eq hu2).trans (rfl))
    rw [er]
  · skip
    by_cases c9 : what = (1 : Int32)
    · skip
      refine r_tswI C dX6_count_1 c9 (by decide) (by decide) (off := 63) (by decide) (tgt := 64) rfl ?_
      refine r_aload_n C dX6_count_64 rfl ?_
      refine r_get C hb_b (k := 0) rfl rfl celO_6 fw_X6_28 rfl dX6_count_65 ?_
      obtain ⟨u10, hu10⟩ : ∃ r, r = d_X3_crewsThere (shf R_b 22) := ⟨_, rfl⟩
      refine r_callV0 C cw_X6_85 (fun l => c_X3_crewsThere l D (o_b + 22) (shf R_b 22) u10 hu10) (rest := []) hb_b (k := 22) rfl rfl celO_3 (blk_sub hb_b 22 15 rfl rfl) (fun q h => h.elim) rfl rfl rfl (Nat.le_of_ble_eq_true rfl) ⟨Nat.le_of_ble_eq_true rfl, Nat.le_of_ble_eq_true rfl, Nat.le_refl 0, Nat.le_refl 0⟩ dX6_count_68 (fun v H11 hp12 hq13 => ?_)
      subst hp12
      obtain ⟨hn14, hn15⟩ := X3_crewsThere_nat hu10
      have hb16 := blk_kept hb_b (n := 215) rfl (fun q h1 h2 => hq13 q (fun h => h))
      dsimp only [psh]
      refine r_iret C dX6_count_71 ?_
      have er : res = u10 := by rw [hres, d_X6_count]; try exact (if_neg c1).trans ((if_pos c9).trans ((lt_eq hu10).trans (rfl)))
      rw [er]
    · skip
      by_cases c17 : what = (2 : Int32)
      · skip
        refine r_tswI C dX6_count_1 c17 (by decide) (by decide) (off := 71) (by decide) (tgt := 72) rfl ?_
        refine r_aload_n C dX6_count_72 rfl ?_
        refine r_get C hb_b (k := 0) rfl rfl celO_6 fw_X6_28 rfl dX6_count_73 ?_
        refine r_get C hb_b (k := 22) rfl rfl celO_3 fw_X6_153 (z := .int (R_b 22 3)) rfl dX6_count_76 ?_
        refine r_iret C dX6_count_79 ?_
        have er : res = (R_b 22 3) := by rw [hres, d_X6_count]; try exact (if_neg c1).trans ((if_neg c9).trans ((if_pos c17).trans (rfl)))
        rw [er]
      · skip
        by_cases c18 : what = (3 : Int32)
        · skip
          refine r_tswI C dX6_count_1 c18 (by decide) (by decide) (off := 79) (by decide) (tgt := 80) rfl ?_
          refine r_aload_n C dX6_count_80 rfl ?_
          refine r_get C hb_b (k := 0) rfl rfl celO_6 fw_X6_28 rfl dX6_count_81 ?_
          obtain ⟨u19, hu19⟩ : ∃ r, r = d_X3_townsBurnt (shf R_b 22) := ⟨_, rfl⟩
          refine r_callV0 C cw_X6_220 (fun l => c_X3_townsBurnt l D (o_b + 22) (shf R_b 22) u19 hu19) (rest := []) hb_b (k := 22) rfl rfl celO_3 (blk_sub hb_b 22 15 rfl rfl) (fun q h => h.elim) rfl rfl rfl (Nat.le_of_ble_eq_true rfl) ⟨Nat.le_of_ble_eq_true rfl, Nat.le_of_ble_eq_true rfl, Nat.le_refl 0, Nat.le_refl 0⟩ dX6_count_84 (fun v H20 hp21 hq22 => ?_)
          subst hp21
          have hb23 := blk_kept hb_b (n := 215) rfl (fun q h1 h2 => hq22 q (fun h => h))
          dsimp only [psh]
          refine r_iret C dX6_count_87 ?_
          have er : res = u19 := by rw [hres, d_X6_count]; try exact (if_neg c1).trans ((if_neg c9).trans ((if_neg c17).trans ((if_pos c18).trans ((lt_eq hu19).trans (rfl)))))
          rw [er]
        · skip
          by_cases c24 : what = (4 : Int32)
          · skip
            refine r_tswI C dX6_count_1 c24 (by decide) (by decide) (off := 87) (by decide) (tgt := 88) rfl ?_
            refine r_aload_n C dX6_count_88 rfl ?_
            refine r_get C hb_b (k := 0) rfl rfl celO_6 fw_X6_28 rfl dX6_count_89 ?_
            obtain ⟨u25, hu25⟩ : ∃ r, r = d_X3_crewsGone (shf R_b 22) := ⟨_, rfl⟩
            refine r_callV0 C cw_X6_223 (fun l => c_X3_crewsGone l D (o_b + 22) (shf R_b 22) u25 hu25) (rest := []) hb_b (k := 22) rfl rfl celO_3 (blk_sub hb_b 22 15 rfl rfl) (fun q h => h.elim) rfl rfl rfl (Nat.le_of_ble_eq_true rfl) ⟨Nat.le_of_ble_eq_true rfl, Nat.le_of_ble_eq_true rfl, Nat.le_refl 0, Nat.le_refl 0⟩ dX6_count_92 (fun v H26 hp27 hq28 => ?_)
            subst hp27
            have hb29 := blk_kept hb_b (n := 215) rfl (fun q h1 h2 => hq28 q (fun h => h))
            dsimp only [psh]
            refine r_iret C dX6_count_95 ?_
            have er : res = u25 := by rw [hres, d_X6_count]; try exact (if_neg c1).trans ((if_neg c9).trans ((if_neg c17).trans ((if_neg c18).trans ((if_pos c24).trans ((lt_eq hu25).trans (rfl))))))
            rw [er]
          · skip
            by_cases c30 : what = (5 : Int32)
            · skip
              refine r_tswI C dX6_count_1 c30 (by decide) (by decide) (off := 95) (by decide) (tgt := 96) rfl ?_
              refine r_aload_n C dX6_count_96 rfl ?_
              refine r_get C hb_b (k := 0) rfl rfl celO_6 fw_X6_28 rfl dX6_count_97 ?_
              obtain ⟨u31, hu31⟩ : ∃ r, r = d_X3_silverOfAll (shf R_b 22) := ⟨_, rfl⟩
              refine r_callV0 C cw_X6_197 (fun l => c_X3_silverOfAll l D (o_b + 22) (shf R_b 22) u31 hu31) (rest := []) hb_b (k := 22) rfl rfl celO_3 (blk_sub hb_b 22 15 rfl rfl) (fun q h => h.elim) rfl rfl rfl (Nat.le_of_ble_eq_true rfl) ⟨Nat.le_of_ble_eq_true rfl, Nat.le_of_ble_eq_true rfl, Nat.le_refl 0, Nat.le_refl 0⟩ dX6_count_100 (fun v H32 hp33 hq34 => ?_)
              subst hp33
              have hb35 := blk_kept hb_b (n := 215) rfl (fun q h1 h2 => hq34 q (fun h => h))
              dsimp only [psh]
              refine r_iret C dX6_count_103 ?_
              have er : res = u31 := by rw [hres, d_X6_count]; try exact (if_neg c1).trans ((if_neg c9).trans ((if_neg c17).trans ((if_neg c18).trans ((if_neg c24).trans ((if_pos c30).trans ((lt_eq hu31).trans (rfl)))))))
              rw [er]
            · skip
              by_cases c36 : what = (6 : Int32)
              · skip
                refine r_tswI C dX6_count_1 c36 (by decide) (by decide) (off := 103) (by decide) (tgt := 104) rfl ?_
                refine r_aload_n C dX6_count_104 rfl ?_
                refine r_get C hb_b (k := 0) rfl rfl celO_6 fw_X6_52 rfl dX6_count_105 ?_
                refine r_get C hb_b (k := 209) rfl rfl celO_1 fw_X6_92 (z := .int (R_b 209 3)) rfl dX6_count_108 ?_
                refine r_iret C dX6_count_111 ?_
                have er : res = (R_b 209 3) := by rw [hres, d_X6_count]; try exact (if_neg c1).trans ((if_neg c9).trans ((if_neg c17).trans ((if_neg c18).trans ((if_neg c24).trans ((if_neg c30).trans ((if_pos c36).trans (rfl)))))))
                rw [er]
              · skip
                by_cases c37 : what = (7 : Int32)
                · skip
                  refine r_tswI C dX6_count_1 c37 (by decide) (by decide) (off := 111) (by decide) (tgt := 112) rfl ?_
                  refine r_aload_n C dX6_count_112 rfl ?_
                  refine r_get C hb_b (k := 0) rfl rfl celO_6 fw_X6_42 rfl dX6_count_113 ?_
                  refine r_get C hb_b (k := 55) rfl rfl celO_4 fw_X6_95 (z := .int (R_b 55 1)) rfl dX6_count_116 ?_
                  refine r_iret C dX6_count_119 ?_
                  have er : res = (R_b 55 1) := by rw [hres, d_X6_count]; try exact (if_neg c1).trans ((if_neg c9).trans ((if_neg c17).trans ((if_neg c18).trans ((if_neg c24).trans ((if_neg c30).trans ((if_neg c36).trans ((if_pos c37).trans (rfl))))))))
                  rw [er]
                · skip
                  by_cases c38 : what = (8 : Int32)
                  · skip
                    refine r_tswI C dX6_count_1 c38 (by decide) (by decide) (off := 119) (by decide) (tgt := 120) rfl ?_
                    refine r_aload_n C dX6_count_120 rfl ?_
                    refine r_get C hb_b (k := 0) rfl rfl celO_6 fw_X6_46 rfl dX6_count_121 ?_
                    refine r_get C hb_b (k := 177) rfl rfl celO_4 fw_X6_95 (z := .int (R_b 177 1)) rfl dX6_count_124 ?_
                    refine r_iret C dX6_count_127 ?_
                    have er : res = (R_b 177 1) := by rw [hres, d_X6_count]; try exact (if_neg c1).trans ((if_neg c9).trans ((if_neg c17).trans ((if_neg c18).trans ((if_neg c24).trans ((if_neg c30).trans ((if_neg c36).trans ((if_neg c37).trans ((if_pos c38).trans (rfl)))))))))
                    rw [er]
                  · skip
                    by_cases c39 : what = (9 : Int32)
                    · skip
                      refine r_tswI C dX6_count_1 c39 (by decide) (by decide) (off := 127) (by decide) (tgt := 128) rfl ?_
                      refine r_aload_n C dX6_count_128 rfl ?_
                      refine r_get C hb_b (k := 0) rfl rfl celO_6 fw_X6_79 (z := .int (R_b 0 1)) rfl dX6_count_129 ?_
                      refine r_iret C dX6_count_132 ?_
                      have er : res = (R_b 0 1) := by rw [hres, d_X6_count]; try exact (if_neg c1).trans ((if_neg c9).trans ((if_neg c17).trans ((if_neg c18).trans ((if_neg c24).trans ((if_neg c30).trans ((if_neg c36).trans ((if_neg c37).trans ((if_neg c38).trans ((if_pos c39).trans (rfl))))))))))
                      rw [er]
                    · skip
                      refine r_tswO C dX6_count_1 (tsw_out 9 (by decide) (by intro k hk; match k, hk with | 0, _ => exact c1 | 1, _ => exact c9 | 2, _ => exact c17 | 3, _ => exact c18 | 4, _ => exact c24 | 5, _ => exact c30 | 6, _ => exact c36 | 7, _ => exact c37 | 8, _ => exact c38 | 9, _ => exact c39 | (n + 10), h => omega)) (tgt := 133) rfl ?_
                      refine r_iconst C dX6_count_133 (-1 : Int32) (by decide) ?_
                      refine r_iret C dX6_count_134 ?_
                      have er : res = (-1 : Int32) := by rw [hres, d_X6_count]; try exact (if_neg c1).trans ((if_neg c9).trans ((if_neg c17).trans ((if_neg c18).trans ((if_neg c24).trans ((if_neg c30).trans ((if_neg c36).trans ((if_neg c37).trans ((if_neg c38).trans ((if_neg c39).trans (rfl))))))))))
                      rw [er]

def d_X6_rests_L68 (t : Int32) (u : Int32) : Nat → (Nat → Nat → Int32) → Nat → (Nat → Nat → Int32)
  | 0, R, _ => R
  | n30 + 1, R, two =>
    if (16 : Int32) ≤ (nI two) then
      R
    else
      lt (d_X6_trySpringOf R t u (nI two)) fun u42 =>
      d_X6_rests_L68 t u n30 u42 (two + 1)
def d_X6_rests_L99 (s48 : (Nat → Nat → Int32)) : Nat → Int32 → Int32 → Nat → Int32 × Int32
  | 0, many, first, _ => (many, first)
  | n52 + 1, many, first, two =>
    if (16 : Int32) ≤ (nI two) then
      (many, first)
    else
      lt (d_X6_isRest s48 (nI two)) fun u64 =>
      if u64 = 0 then
        d_X6_rests_L99 s48 n52 many first (two + 1)
      else
        if first = (-4 : Int32) then
          d_X6_rests_L99 s48 n52 (many + Int32.ofInt 1) (nI two) (two + 1)
        else
          d_X6_rests_L99 s48 n52 (many + Int32.ofInt 1) first (two + 1)
def d_X6_rests (R_b : Nat → Nat → Int32) (t : Int32) (u : Int32) (what : Int32) : Int32 × (Nat → Nat → Int32) :=
  oc (d_X3_townAt (shf R_b 22) t) (
    oc (d_X3_townAt (shf R_b 22) u) (
      ((-1 : Int32), R_b)) fun k13 =>
    ((-1 : Int32), R_b)) fun k6 =>
  oc (d_X3_townAt (shf R_b 22) u) (
    ((-1 : Int32), R_b)) fun k22 =>
  if t = u then
    ((-1 : Int32), R_b)
  else
    if what < 0 then
      ((-1 : Int32), R_b)
    else
      if what ≤ (1 : Int32) then
        if (R_b (25 + k6) 1) = 0 then
          if (R_b (25 + k22) 1) = 0 then
            lt (d_X6_rests_L68 t u 17 R_b 0) fun s48 =>
            lt (d_X6_rests_L99 s48 17 (0 : Int32) (-4 : Int32) 0) fun s75 =>
            if what = 0 then
              (s75.1, s48)
            else
              (s75.2, s48)
          else
            ((-2 : Int32), R_b)
        else
          ((-2 : Int32), R_b)
      else
        ((-1 : Int32), R_b)
set_option maxHeartbeats 4000000 in
set_option maxRecDepth 100000 in
theorem c_X6_rests (l : Launch) (D : DD) (o_b : Nat) (R_b : Nat → Nat → Int32) (t : Int32) (u : Int32) (what : Int32)  (res : Int32 × (Nat → Nat → Int32)) (hres : res = d_X6_rests R_b t u what) : Mt l D yX6_rests cX6_rests 9 (some .int) 6 139 0 0 [.ref o_b, .int t, .int u, .int what] (fun H => blk D ksMain o_b R_b H) (fun v H => v = some (.int res.1) ∧ blk D ksMain o_b res.2 H) (fp1 o_b 215) := by
  refine mt_of (own := RX6) (ls := [.val (.ref o_b), .val (.int t), .val (.int u), .val (.int what), .unset, .unset, .unset, .unset, .unset]) rfl (by decide +kernel) rfl ?_
  intro x H C hP
  have hb_b := hP
  refine r_aload_n C dX6_rests_0 rfl ?_
  refine r_get C hb_b (k := 0) rfl rfl celO_6 fw_X6_28 rfl dX6_rests_1 ?_
  refine r_iload_n C dX6_rests_4 rfl ?_
  obtain ⟨u1, hu1⟩ : ∃ r, r = d_X3_townAt (shf R_b 22) t := ⟨_, rfl⟩
  refine r_callV0 C cw_X6_96 (fun l => c_X3_townAt l D (o_b + 22) (shf R_b 22) t u1 hu1) (rest := []) hb_b (k := 22) rfl rfl celO_3 (blk_sub hb_b 22 15 rfl rfl) (fun q h => h.elim) rfl rfl rfl (Nat.le_of_ble_eq_true rfl) ⟨Nat.le_of_ble_eq_true rfl, Nat.le_of_ble_eq_true rfl, Nat.le_refl 0, Nat.le_refl 0⟩ dX6_rests_5 (fun v H2 hp3 hq4 => ?_)
  subst hp3
  have hb5 := blk_kept hb_b (n := 215) rfl (fun q h1 h2 => hq4 q (fun h => h))
  obtain ho7 | ⟨k6, ho7⟩ := opt_or u1
  · have hu1' : d_X3_townAt (shf R_b 22) t = none := by rw [← hu1, ho7]
    rw [ho7]; dsimp only [psh, optT, optC]
    refine r_astoreN C dX6_rests_8 (ls' := [.val (.ref o_b), .val (.int t), .val (.int u), .val (.int what), .val (.null), .unset, .unset, .unset, .unset]) rfl trivial rfl ?_
    refine r_aload_n C dX6_rests_10 rfl ?_
    refine r_get C hb5 (k := 0) rfl rfl celO_6 fw_X6_28 rfl dX6_rests_11 ?_
    refine r_iload_n C dX6_rests_14 rfl ?_
    obtain ⟨u8, hu8⟩ : ∃ r, r = d_X3_townAt (shf R_b 22) u := ⟨_, rfl⟩
    refine r_callV0 C cw_X6_96 (fun l => c_X3_townAt l D (o_b + 22) (shf R_b 22) u u8 hu8) (rest := []) hb5 (k := 22) rfl rfl celO_3 (blk_sub hb5 22 15 rfl rfl) (fun q h => h.elim) rfl rfl rfl (Nat.le_of_ble_eq_true rfl) ⟨Nat.le_of_ble_eq_true rfl, Nat.le_of_ble_eq_true rfl, Nat.le_refl 0, Nat.le_refl 0⟩ dX6_rests_15 (fun v H9 hp10 hq11 => ?_)
    subst hp10
    have hb12 := blk_kept hb5 (n := 215) rfl (fun q h1 h2 => hq11 q (fun h => h))
    obtain ho14 | ⟨k13, ho14⟩ := opt_or u8
    · have hu8' : d_X3_townAt (shf R_b 22) u = none := by rw [← hu8, ho14]
      rw [ho14]; dsimp only [psh, optT, optC]
      refine r_astoreN C dX6_rests_18 (ls' := [.val (.ref o_b), .val (.int t), .val (.int u), .val (.int what), .val (.null), .val (.null), .unset, .unset, .unset]) rfl trivial rfl ?_
      refine r_aloadN C dX6_rests_20 rfl ?_
      refine r_ifnullN C dX6_rests_22 ?_
      refine r_iconst C dX6_rests_44 (-1 : Int32) (by decide) ?_
      refine r_iret C dX6_rests_45 ?_
      have er : res = ((-1 : Int32), R_b) := by rw [hres, d_X6_rests]; try exact (oc_none hu1').trans ((oc_none hu8').trans (rfl))
      rw [er]
      exact ⟨rfl, hb12⟩
    · have hu8' : d_X3_townAt (shf R_b 22) u = some k13 := by rw [← hu8, ho14]
      rw [ho14]; dsimp only [psh, optT, optC]
      have fk15 := X3_townAt_lt hu8'
      refine r_astore C dX6_rests_18 (ls' := [.val (.ref o_b), .val (.int t), .val (.int u), .val (.int what), .val (.null), .val (.ref ((o_b + 22) + 3 + k13)), .unset, .unset, .unset]) rfl trivial rfl ?_
      refine r_aloadN C dX6_rests_20 rfl ?_
      refine r_ifnullN C dX6_rests_22 ?_
      refine r_iconst C dX6_rests_44 (-1 : Int32) (by decide) ?_
      refine r_iret C dX6_rests_45 ?_
      have er : res = ((-1 : Int32), R_b) := by rw [hres, d_X6_rests]; try exact (oc_none hu1').trans ((oc_some hu8').trans (rfl))
      rw [er]
      exact ⟨rfl, hb12⟩
  · have hu1' : d_X3_townAt (shf R_b 22) t = some k6 := by rw [← hu1, ho7]
    rw [ho7]; dsimp only [psh, optT, optC]
    have fk16 := X3_townAt_lt hu1'
    refine r_astore C dX6_rests_8 (ls' := [.val (.ref o_b), .val (.int t), .val (.int u), .val (.int what), .val (.ref ((o_b + 22) + 3 + k6)), .unset, .unset, .unset, .unset]) rfl trivial rfl ?_
    refine r_aload_n C dX6_rests_10 rfl ?_
    refine r_get C hb5 (k := 0) rfl rfl celO_6 fw_X6_28 rfl dX6_rests_11 ?_
    refine r_iload_n C dX6_rests_14 rfl ?_
    obtain ⟨u17, hu17⟩ : ∃ r, r = d_X3_townAt (shf R_b 22) u := ⟨_, rfl⟩
    refine r_callV0 C cw_X6_96 (fun l => c_X3_townAt l D (o_b + 22) (shf R_b 22) u u17 hu17) (rest := []) hb5 (k := 22) rfl rfl celO_3 (blk_sub hb5 22 15 rfl rfl) (fun q h => h.elim) rfl rfl rfl (Nat.le_of_ble_eq_true rfl) ⟨Nat.le_of_ble_eq_true rfl, Nat.le_of_ble_eq_true rfl, Nat.le_refl 0, Nat.le_refl 0⟩ dX6_rests_15 (fun v H18 hp19 hq20 => ?_)
    subst hp19
    have hb21 := blk_kept hb5 (n := 215) rfl (fun q h1 h2 => hq20 q (fun h => h))
    obtain ho23 | ⟨k22, ho23⟩ := opt_or u17
    · have hu17' : d_X3_townAt (shf R_b 22) u = none := by rw [← hu17, ho23]
      rw [ho23]; dsimp only [psh, optT, optC]
      refine r_astoreN C dX6_rests_18 (ls' := [.val (.ref o_b), .val (.int t), .val (.int u), .val (.int what), .val (.ref ((o_b + 22) + 3 + k6)), .val (.null), .unset, .unset, .unset]) rfl trivial rfl ?_
      refine r_aload C dX6_rests_20 rfl ?_
      refine r_ifnull C dX6_rests_22 ?_
      refine r_aloadN C dX6_rests_25 rfl ?_
      refine r_ifnullN C dX6_rests_27 ?_
      refine r_iconst C dX6_rests_44 (-1 : Int32) (by decide) ?_
      refine r_iret C dX6_rests_45 ?_
      have er : res = ((-1 : Int32), R_b) := by rw [hres, d_X6_rests]; try exact (oc_some hu1').trans ((oc_none hu17').trans (rfl))
      rw [er]
      exact ⟨rfl, hb21⟩
    · have hu17' : d_X3_townAt (shf R_b 22) u = some k22 := by rw [← hu17, ho23]
      rw [ho23]; dsimp only [psh, optT, optC]
      have fk24 := X3_townAt_lt hu17'
      refine r_astore C dX6_rests_18 (ls' := [.val (.ref o_b), .val (.int t), .val (.int u), .val (.int what), .val (.ref ((o_b + 22) + 3 + k6)), .val (.ref ((o_b + 22) + 3 + k22)), .unset, .unset, .unset]) rfl trivial rfl ?_
      refine r_aload C dX6_rests_20 rfl ?_
      refine r_ifnull C dX6_rests_22 ?_
      refine r_aload C dX6_rests_25 rfl ?_
      refine r_ifnull C dX6_rests_27 ?_
      refine r_iload_n C dX6_rests_30 rfl ?_
      refine r_iload_n C dX6_rests_31 rfl ?_
      refine r_ic_eq C dX6_rests_32 (fun c25 => ?_) (fun c25 => ?_)
      · skip
        refine r_iconst C dX6_rests_44 (-1 : Int32) (by decide) ?_
        refine r_iret C dX6_rests_45 ?_
        have er : res = ((-1 : Int32), R_b) := by rw [hres, d_X6_rests]; try exact (oc_some hu1').trans ((oc_some hu17').trans ((if_pos c25).trans (rfl)))
        rw [er]
        exact ⟨rfl, hb21⟩
      · skip
        refine r_iload_n C dX6_rests_35 rfl ?_
        refine r_if_lt C dX6_rests_36 (fun c26 => ?_) (fun c26 => ?_)
        · skip
          refine r_iconst C dX6_rests_44 (-1 : Int32) (by decide) ?_
          refine r_iret C dX6_rests_45 ?_
          have er : res = ((-1 : Int32), R_b) := by rw [hres, d_X6_rests]; try exact (oc_some hu1').trans ((oc_some hu17').trans ((if_neg c25).trans ((if_pos c26).trans (rfl))))
          rw [er]
          exact ⟨rfl, hb21⟩
        · skip
          refine r_iload_n C dX6_rests_39 rfl ?_
          refine r_iconst C dX6_rests_40 (1 : Int32) (by decide) ?_
          refine r_ic_le C dX6_rests_41 (fun c27 => ?_) (fun c27 => ?_)
          · skip
            refine r_aload C dX6_rests_46 rfl ?_
            refine r_get C hb21 (k := (25 + k6)) (kMain_25_1 _ fk16) (by omega) celO_5 fw_X6_117 (z := .int (R_b (25 + k6) 1)) rfl dX6_rests_48 ?_
            refine r_if_ne C dX6_rests_51 (fun c28 => ?_) (fun c28 => ?_)
            · skip
              refine r_bipush C dX6_rests_62 (-2 : Int32) (by decide) ?_
              refine r_iret C dX6_rests_64 ?_
              have er : res = ((-2 : Int32), R_b) := by rw [hres, d_X6_rests]; try exact (oc_some hu1').trans ((oc_some hu17').trans ((if_neg c25).trans ((if_neg c26).trans ((if_pos c27).trans ((if_neg c28).trans (rfl))))))
              rw [er]
              exact ⟨rfl, hb21⟩
            · skip
              refine r_aload C dX6_rests_54 rfl ?_
              refine r_get C hb21 (k := (25 + k22)) (kMain_25_1 _ fk24) (by omega) celO_5 fw_X6_117 (z := .int (R_b (25 + k22) 1)) rfl dX6_rests_56 ?_
              refine r_if_eq C dX6_rests_59 (fun c29 => ?_) (fun c29 => ?_)
              · skip
                refine r_iconst C dX6_rests_65 (0 : Int32) (by decide) ?_
                refine r_istore C dX6_rests_66 (ls' := [.val (.ref o_b), .val (.int t), .val (.int u), .val (.int what), .val (.ref ((o_b + 22) + 3 + k6)), .val (.ref ((o_b + 22) + 3 + k22)), .val (.int (0 : Int32)), .unset, .unset]) rfl trivial rfl ?_
                have d_X6_rests_L68_w : ∀ (n30 : Nat) (R : Nat → Nat → Int32) (two : Nat) (H35 : Heap), True → (two ≤ 16) → (16 - two < n30) → blk D ksMain o_b R H35 → ∀ s32 : (Nat → Nat → Int32), s32 = d_X6_rests_L68 t u n30 R two → (∀ (H' : Heap) (z36 : Slot) (_ : slot1 z36), True → blk D ksMain o_b s32 H' → WG x (fp1 o_b 215) (Fin x (fun v H => v = some (.int res.1) ∧ blk D ksMain o_b res.2 H) (fp1 o_b 215) 0 0) H' 0 0 89 [.val (.ref o_b), .val (.int t), .val (.int u), .val (.int what), .val (.ref ((o_b + 22) + 3 + k6)), .val (.ref ((o_b + 22) + 3 + k22)), z36, .unset, .unset] []) → WG x (fp1 o_b 215) (Fin x (fun v H => v = some (.int res.1) ∧ blk D ksMain o_b res.2 H) (fp1 o_b 215) 0 0) H35 0 0 68 [.val (.ref o_b), .val (.int t), .val (.int u), .val (.int what), .val (.ref ((o_b + 22) + 3 + k6)), .val (.ref ((o_b + 22) + 3 + k22)), .val (.int (nI two)), .unset, .unset] [] := by
                  intro n30
                  induction n30 with
                  | zero => intro R two H35  _ h2 hm37; exact absurd hm37 (Nat.not_lt_zero _)
                  | succ n30 ih31 =>
                    intro R two H35  _ h2 hm37 hb34 s32 hs32  kx33
                    refine r_iload C dX6_rests_68 rfl ?_
                    refine r_bipush C dX6_rests_70 (16 : Int32) (by decide) ?_
                    refine r_ic_ge C dX6_rests_72 (fun c38 => ?_) (fun c38 => ?_)
                    · skip
                      have f39 : (16 ≤ two) := nf_leI (by omega) (by omega) rfl rfl c38
                      have e40 : s32 = R := by rw [hs32, d_X6_rests_L68]; try exact (if_pos c38).trans (rfl)
                      rw [e40] at kx33
                      exact kx33 _ (.val (.int (nI two))) rfl trivial  hb34
                    · skip
                      have f41 : ¬ (16 ≤ two) := nf_leIn (by omega) (by omega) rfl rfl c38
                      refine r_aload_n C dX6_rests_75 rfl ?_
                      refine r_iload_n C dX6_rests_76 rfl ?_
                      refine r_iload_n C dX6_rests_77 rfl ?_
                      refine r_iload C dX6_rests_78 rfl ?_
                      obtain ⟨u42, hu42⟩ : ∃ r, r = d_X6_trySpringOf R t u (nI two) := ⟨_, rfl⟩
                      refine r_callV0 C cw_X6_186 (fun l => c_X6_trySpringOf l D o_b R t u (nI two) u42 hu42) (rest := []) hb34 (k := 0) rfl rfl celO_6 hb34 (fun q h => by unfold fp1 at h; unfold fp1; omega) rfl rfl rfl (Nat.le_of_ble_eq_true rfl) ⟨Nat.le_of_ble_eq_true rfl, Nat.le_of_ble_eq_true rfl, Nat.le_refl 0, Nat.le_refl 0⟩ dX6_rests_80 (fun v H43 hp44 hq45 => ?_)
                      obtain ⟨rfl, hn46⟩ := hp44
                      dsimp only [psh]
                      refine r_iinc C dX6_rests_83 (nI (two + 1)) rfl (nI_inc two rfl) (ls' := [.val (.ref o_b), .val (.int t), .val (.int u), .val (.int what), .val (.ref ((o_b + 22) + 3 + k6)), .val (.ref ((o_b + 22) + 3 + k22)), .val (.int (nI (two + 1))), .unset, .unset]) rfl ?_
                      refine r_goto C dX6_rests_86 ?_
                      have e47 : s32 = d_X6_rests_L68 t u n30 u42 (two + 1) := by rw [hs32, d_X6_rests_L68]; try exact (if_neg c38).trans ((lt_eq hu42).trans (rfl))
                      exact ih31 u42 (two + 1) _  trivial (by omega) (by omega) hn46 s32 e47  kx33
                obtain ⟨s48, hs48⟩ : ∃ r, r = d_X6_rests_L68 t u 17 R_b 0 := ⟨_, rfl⟩
                refine d_X6_rests_L68_w 17 R_b 0 _  trivial (by omega) (by omega) hb21 s48 hs48  (fun H50 z36 hz36 e51  hb49 => ?_)
                refine r_iconst C dX6_rests_89 (0 : Int32) (by decide) ?_
                refine r_istore C dX6_rests_90 (ls' := [.val (.ref o_b), .val (.int t), .val (.int u), .val (.int what), .val (.ref ((o_b + 22) + 3 + k6)), .val (.ref ((o_b + 22) + 3 + k22)), .val (.int (0 : Int32)), .unset, .unset]) rfl hz36 rfl ?_
                refine r_bipush C dX6_rests_92 (-4 : Int32) (by decide) ?_
                refine r_istore C dX6_rests_94 (ls' := [.val (.ref o_b), .val (.int t), .val (.int u), .val (.int what), .val (.ref ((o_b + 22) + 3 + k6)), .val (.ref ((o_b + 22) + 3 + k22)), .val (.int (0 : Int32)), .val (.int (-4 : Int32)), .unset]) rfl trivial rfl ?_
                refine r_iconst C dX6_rests_96 (0 : Int32) (by decide) ?_
                refine r_istore C dX6_rests_97 (ls' := [.val (.ref o_b), .val (.int t), .val (.int u), .val (.int what), .val (.ref ((o_b + 22) + 3 + k6)), .val (.ref ((o_b + 22) + 3 + k22)), .val (.int (0 : Int32)), .val (.int (-4 : Int32)), .val (.int (0 : Int32))]) rfl trivial rfl ?_
                have d_X6_rests_L99_w : ∀ (n52 : Nat) (many : Int32) (first : Int32) (two : Nat) (H57 : Heap), True → (two ≤ 16) → (16 - two < n52) → blk D ksMain o_b s48 H57 → ∀ s54 : Int32 × Int32, s54 = d_X6_rests_L99 s48 n52 many first two → (∀ (H' : Heap) (z58 : Slot) (_ : slot1 z58), True → blk D ksMain o_b s48 H' → WG x (fp1 o_b 215) (Fin x (fun v H => v = some (.int res.1) ∧ blk D ksMain o_b res.2 H) (fp1 o_b 215) 0 0) H' 0 0 140 [.val (.ref o_b), .val (.int t), .val (.int u), .val (.int what), .val (.ref ((o_b + 22) + 3 + k6)), .val (.ref ((o_b + 22) + 3 + k22)), .val (.int s54.1), .val (.int s54.2), z58] []) → WG x (fp1 o_b 215) (Fin x (fun v H => v = some (.int res.1) ∧ blk D ksMain o_b res.2 H) (fp1 o_b 215) 0 0) H57 0 0 99 [.val (.ref o_b), .val (.int t), .val (.int u), .val (.int what), .val (.ref ((o_b + 22) + 3 + k6)), .val (.ref ((o_b + 22) + 3 + k22)), .val (.int many), .val (.int first), .val (.int (nI two))] [] := by
                  intro n52
                  induction n52 with
                  | zero => intro many first two H57  _ h2 hm59; exact absurd hm59 (Nat.not_lt_zero _)
                  | succ n52 ih53 =>
                    intro many first two H57  _ h2 hm59 hb56 s54 hs54  kx55
                    refine r_iload C dX6_rests_99 rfl ?_
                    refine r_bipush C dX6_rests_101 (16 : Int32) (by decide) ?_
                    refine r_ic_ge C dX6_rests_103 (fun c60 => ?_) (fun c60 => ?_)
                    · skip
                      have f61 : (16 ≤ two) := nf_leI (by omega) (by omega) rfl rfl c60
                      have e62 : s54 = (many, first) := by rw [hs54, d_X6_rests_L99]; try exact (if_pos c60).trans (rfl)
                      rw [e62] at kx55
                      exact kx55 _ (.val (.int (nI two))) rfl trivial  hb56
                    · skip
                      have f63 : ¬ (16 ≤ two) := nf_leIn (by omega) (by omega) rfl rfl c60
                      refine r_aload_n C dX6_rests_106 rfl ?_
                      refine r_iload C dX6_rests_107 rfl ?_
                      obtain ⟨u64, hu64⟩ : ∃ r, r = d_X6_isRest s48 (nI two) := ⟨_, rfl⟩
                      refine r_callV0 C cw_X6_190 (fun l => c_X6_isRest l D o_b s48 (nI two) u64 hu64) (rest := []) hb56 (k := 0) rfl rfl celO_6 hb56 (fun q h => h.elim) rfl rfl rfl (Nat.le_of_ble_eq_true rfl) ⟨Nat.le_of_ble_eq_true rfl, Nat.le_of_ble_eq_true rfl, Nat.le_refl 0, Nat.le_refl 0⟩ dX6_rests_109 (fun v H65 hp66 hq67 => ?_)
                      obtain ⟨rfl, hl68⟩ := hp66
                      have hb69 := blk_kept hb56 (n := 215) rfl (fun q h1 h2 => hq67 q (fun h => h))
                      dsimp only [psh]
                      refine r_if_eq C dX6_rests_112 (fun c70 => ?_) (fun c70 => ?_)
                      · skip
                        refine r_iinc C dX6_rests_134 (nI (two + 1)) rfl (nI_inc two rfl) (ls' := [.val (.ref o_b), .val (.int t), .val (.int u), .val (.int what), .val (.ref ((o_b + 22) + 3 + k6)), .val (.ref ((o_b + 22) + 3 + k22)), .val (.int many), .val (.int first), .val (.int (nI (two + 1)))]) rfl ?_
                        refine r_goto C dX6_rests_137 ?_
                        have e71 : s54 = d_X6_rests_L99 s48 n52 many first (two + 1) := by rw [hs54, d_X6_rests_L99]; try exact (if_neg c60).trans ((lt_eq hu64).trans ((if_pos c70).trans (rfl)))
                        exact ih53 many first (two + 1) _  trivial (by omega) (by omega) hb69 s54 e71  kx55
                      · skip
                        refine r_iinc C dX6_rests_115 (many + Int32.ofInt 1) rfl rfl (ls' := [.val (.ref o_b), .val (.int t), .val (.int u), .val (.int what), .val (.ref ((o_b + 22) + 3 + k6)), .val (.ref ((o_b + 22) + 3 + k22)), .val (.int (many + Int32.ofInt 1)), .val (.int first), .val (.int (nI two))]) rfl ?_
                        refine r_iload C dX6_rests_118 rfl ?_
                        refine r_bipush C dX6_rests_120 (-4 : Int32) (by decide) ?_
                        refine r_ic_ne C dX6_rests_122 (fun c72 => ?_) (fun c72 => ?_)
                        · skip
                          refine r_iload C dX6_rests_130 rfl ?_
                          refine r_istore C dX6_rests_132 (ls' := [.val (.ref o_b), .val (.int t), .val (.int u), .val (.int what), .val (.ref ((o_b + 22) + 3 + k6)), .val (.ref ((o_b + 22) + 3 + k22)), .val (.int (many + Int32.ofInt 1)), .val (.int first), .val (.int (nI two))]) rfl rfl rfl ?_
                          refine r_iinc C dX6_rests_134 (nI (two + 1)) rfl (nI_inc two rfl) (ls' := [.val (.ref o_b), .val (.int t), .val (.int u), .val (.int what), .val (.ref ((o_b + 22) + 3 + k6)), .val (.ref ((o_b + 22) + 3 + k22)), .val (.int (many + Int32.ofInt 1)), .val (.int first), .val (.int (nI (two + 1)))]) rfl ?_
                          refine r_goto C dX6_rests_137 ?_
                          have e73 : s54 = d_X6_rests_L99 s48 n52 (many + Int32.ofInt 1) first (two + 1) := by rw [hs54, d_X6_rests_L99]; try exact (if_neg c60).trans ((lt_eq hu64).trans ((if_neg c70).trans ((if_neg c72).trans (rfl))))
                          exact ih53 (many + Int32.ofInt 1) first (two + 1) _  trivial (by omega) (by omega) hb69 s54 e73  kx55
                        · skip
                          refine r_iload C dX6_rests_125 rfl ?_
                          refine r_goto C dX6_rests_127 ?_
                          refine r_istore C dX6_rests_132 (ls' := [.val (.ref o_b), .val (.int t), .val (.int u), .val (.int what), .val (.ref ((o_b + 22) + 3 + k6)), .val (.ref ((o_b + 22) + 3 + k22)), .val (.int (many + Int32.ofInt 1)), .val (.int (nI two)), .val (.int (nI two))]) rfl rfl rfl ?_
                          refine r_iinc C dX6_rests_134 (nI (two + 1)) rfl (nI_inc two rfl) (ls' := [.val (.ref o_b), .val (.int t), .val (.int u), .val (.int what), .val (.ref ((o_b + 22) + 3 + k6)), .val (.ref ((o_b + 22) + 3 + k22)), .val (.int (many + Int32.ofInt 1)), .val (.int (nI two)), .val (.int (nI (two + 1)))]) rfl ?_
                          refine r_goto C dX6_rests_137 ?_
                          have e74 : s54 = d_X6_rests_L99 s48 n52 (many + Int32.ofInt 1) (nI two) (two + 1) := by rw [hs54, d_X6_rests_L99]; try exact (if_neg c60).trans ((lt_eq hu64).trans ((if_neg c70).trans ((if_pos c72).trans (rfl))))
                          exact ih53 (many + Int32.ofInt 1) (nI two) (two + 1) _  trivial (by omega) (by omega) hb69 s54 e74  kx55
                obtain ⟨s75, hs75⟩ : ∃ r, r = d_X6_rests_L99 s48 17 (0 : Int32) (-4 : Int32) 0 := ⟨_, rfl⟩
                refine d_X6_rests_L99_w 17 (0 : Int32) (-4 : Int32) 0 _  trivial (by omega) (by omega) hb49 s75 hs75  (fun H77 z58 hz58 e78  hb76 => ?_)
                refine r_iload_n C dX6_rests_140 rfl ?_
                refine r_if_ne C dX6_rests_141 (fun c79 => ?_) (fun c79 => ?_)
                · skip
                  refine r_iload C dX6_rests_149 rfl ?_
                  refine r_iret C dX6_rests_151 ?_
                  have er : res = (s75.2, s48) := by rw [hres, d_X6_rests]; try exact (oc_some hu1').trans ((oc_some hu17').trans ((if_neg c25).trans ((if_neg c26).trans ((if_pos c27).trans ((if_pos c28).trans ((if_pos c29).trans ((lt_eq hs48).trans ((lt_eq hs75).trans ((if_neg c79).trans (rfl))))))))))
                  rw [er]
                  exact ⟨rfl, hb76⟩
                · skip
                  refine r_iload C dX6_rests_144 rfl ?_
                  refine r_goto C dX6_rests_146 ?_
                  refine r_iret C dX6_rests_151 ?_
                  have er : res = (s75.1, s48) := by rw [hres, d_X6_rests]; try exact (oc_some hu1').trans ((oc_some hu17').trans ((if_neg c25).trans ((if_neg c26).trans ((if_pos c27).trans ((if_pos c28).trans ((if_pos c29).trans ((lt_eq hs48).trans ((lt_eq hs75).trans ((if_pos c79).trans (rfl))))))))))
                  rw [er]
                  exact ⟨rfl, hb76⟩
              · skip
                refine r_bipush C dX6_rests_62 (-2 : Int32) (by decide) ?_
                refine r_iret C dX6_rests_64 ?_
                have er : res = ((-2 : Int32), R_b) := by rw [hres, d_X6_rests]; try exact (oc_some hu1').trans ((oc_some hu17').trans ((if_neg c25).trans ((if_neg c26).trans ((if_pos c27).trans ((if_pos c28).trans ((if_neg c29).trans (rfl)))))))
                rw [er]
                exact ⟨rfl, hb21⟩
          · skip
            refine r_iconst C dX6_rests_44 (-1 : Int32) (by decide) ?_
            refine r_iret C dX6_rests_45 ?_
            have er : res = ((-1 : Int32), R_b) := by rw [hres, d_X6_rests]; try exact (oc_some hu1').trans ((oc_some hu17').trans ((if_neg c25).trans ((if_neg c26).trans ((if_neg c27).trans (rfl)))))
            rw [er]
            exact ⟨rfl, hb21⟩

def d_X6_walled_L39 (t : Int32) (n : Int32) : Nat → (Nat → Nat → Int32) → Nat → (Int32 × (Nat → Nat → Int32)) ⊕ ((Nat → Nat → Int32))
  | 0, R, _ => .inr R
  | n12 + 1, R, walls =>
    if (20 : Int32) < (nI walls) then
      .inr R
    else
      lt (d_X6_standsWith R t (nI walls) n) fun u28 =>
      if u28.1 = 0 then
        d_X6_walled_L39 t n n12 u28.2 (walls + 1)
      else
        .inl ((nI walls), u28.2)
def d_X6_walled (R_b : Nat → Nat → Int32) (t : Int32) (n : Int32) : Int32 × (Nat → Nat → Int32) :=
  oc (d_X3_townAt (shf R_b 22) t) (
    ((-1 : Int32), R_b)) fun k6 =>
  if n < (1 : Int32) then
    ((-1 : Int32), R_b)
  else
    if n ≤ (20 : Int32) then
      if (R_b (25 + k6) 1) = 0 then
        sc (d_X6_walled_L39 t n 22 R_b 0) (fun r => r) fun w37 =>
        ((-4 : Int32), w37)
      else
        ((-2 : Int32), R_b)
    else
      ((-1 : Int32), R_b)
set_option maxHeartbeats 4000000 in
set_option maxRecDepth 100000 in
theorem c_X6_walled (l : Launch) (D : DD) (o_b : Nat) (R_b : Nat → Nat → Int32) (t : Int32) (n : Int32)  (res : Int32 × (Nat → Nat → Int32)) (hres : res = d_X6_walled R_b t n) : Mt l D yX6_walled cX6_walled 5 (some .int) 6 138 0 0 [.ref o_b, .int t, .int n] (fun H => blk D ksMain o_b R_b H) (fun v H => v = some (.int res.1) ∧ blk D ksMain o_b res.2 H) (fp1 o_b 215) := by
  refine mt_of (own := RX6) (ls := [.val (.ref o_b), .val (.int t), .val (.int n), .unset, .unset]) rfl (by decide +kernel) rfl ?_
  intro x H C hP
  have hb_b := hP
  refine r_aload_n C dX6_walled_0 rfl ?_
  refine r_get C hb_b (k := 0) rfl rfl celO_6 fw_X6_28 rfl dX6_walled_1 ?_
  refine r_iload_n C dX6_walled_4 rfl ?_
  obtain ⟨u1, hu1⟩ : ∃ r, r = d_X3_townAt (shf R_b 22) t := ⟨_, rfl⟩
  refine r_callV0 C cw_X6_96 (fun l => c_X3_townAt l D (o_b + 22) (shf R_b 22) t u1 hu1) (rest := []) hb_b (k := 22) rfl rfl celO_3 (blk_sub hb_b 22 15 rfl rfl) (fun q h => h.elim) rfl rfl rfl (Nat.le_of_ble_eq_true rfl) ⟨Nat.le_of_ble_eq_true rfl, Nat.le_of_ble_eq_true rfl, Nat.le_refl 0, Nat.le_refl 0⟩ dX6_walled_5 (fun v H2 hp3 hq4 => ?_)
  subst hp3
  have hb5 := blk_kept hb_b (n := 215) rfl (fun q h1 h2 => hq4 q (fun h => h))
  obtain ho7 | ⟨k6, ho7⟩ := opt_or u1
  · have hu1' : d_X3_townAt (shf R_b 22) t = none := by rw [← hu1, ho7]
    rw [ho7]; dsimp only [psh, optT, optC]
    refine r_astore_nN C dX6_walled_8 (ls' := [.val (.ref o_b), .val (.int t), .val (.int n), .val (.null), .unset]) rfl trivial rfl ?_
    refine r_aload_nN C dX6_walled_9 rfl ?_
    refine r_ifnullN C dX6_walled_10 ?_
    refine r_iconst C dX6_walled_24 (-1 : Int32) (by decide) ?_
    refine r_iret C dX6_walled_25 ?_
    have er : res = ((-1 : Int32), R_b) := by rw [hres, d_X6_walled]; try exact (oc_none hu1').trans (rfl)
    rw [er]
    exact ⟨rfl, hb5⟩
  · have hu1' : d_X3_townAt (shf R_b 22) t = some k6 := by rw [← hu1, ho7]
    rw [ho7]; dsimp only [psh, optT, optC]
    have fk8 := X3_townAt_lt hu1'
    refine r_astore_n C dX6_walled_8 (ls' := [.val (.ref o_b), .val (.int t), .val (.int n), .val (.ref ((o_b + 22) + 3 + k6)), .unset]) rfl trivial rfl ?_
    refine r_aload_n C dX6_walled_9 rfl ?_
    refine r_ifnull C dX6_walled_10 ?_
    refine r_iload_n C dX6_walled_13 rfl ?_
    refine r_iconst C dX6_walled_14 (1 : Int32) (by decide) ?_
    refine r_ic_lt C dX6_walled_15 (fun c9 => ?_) (fun c9 => ?_)
    · skip
      refine r_iconst C dX6_walled_24 (-1 : Int32) (by decide) ?_
      refine r_iret C dX6_walled_25 ?_
      have er : res = ((-1 : Int32), R_b) := by rw [hres, d_X6_walled]; try exact (oc_some hu1').trans ((if_pos c9).trans (rfl))
      rw [er]
      exact ⟨rfl, hb5⟩
    · skip
      refine r_iload_n C dX6_walled_18 rfl ?_
      refine r_bipush C dX6_walled_19 (20 : Int32) (by decide) ?_
      refine r_ic_le C dX6_walled_21 (fun c10 => ?_) (fun c10 => ?_)
      · skip
        refine r_aload_n C dX6_walled_26 rfl ?_
        refine r_get C hb5 (k := (25 + k6)) (kMain_25_1 _ fk8) (by omega) celO_5 fw_X6_117 (z := .int (R_b (25 + k6) 1)) rfl dX6_walled_27 ?_
        refine r_if_eq C dX6_walled_30 (fun c11 => ?_) (fun c11 => ?_)
        · skip
          refine r_iconst C dX6_walled_36 (0 : Int32) (by decide) ?_
          refine r_istore C dX6_walled_37 (ls' := [.val (.ref o_b), .val (.int t), .val (.int n), .val (.ref ((o_b + 22) + 3 + k6)), .val (.int (0 : Int32))]) rfl trivial rfl ?_
          have d_X6_walled_L39_w : ∀ (n12 : Nat) (R : Nat → Nat → Int32) (walls : Nat) (H17 : Heap), True → (walls ≤ 21) → (21 - walls < n12) → blk D ksMain o_b R H17 → ∀ s14 : (Int32 × (Nat → Nat → Int32)) ⊕ ((Nat → Nat → Int32)), s14 = d_X6_walled_L39 t n n12 R walls → (∀ r, s14 = .inl r → res = r) → (∀ (w18 : (Nat → Nat → Int32)) (H' : Heap) (z19 : Slot) (_ : slot1 z19), s14 = .inr w18 → blk D ksMain o_b w18 H' → WG x (fp1 o_b 215) (Fin x (fun v H => v = some (.int res.1) ∧ blk D ksMain o_b res.2 H) (fp1 o_b 215) 0 0) H' 0 0 66 [.val (.ref o_b), .val (.int t), .val (.int n), .val (.ref ((o_b + 22) + 3 + k6)), z19] []) → WG x (fp1 o_b 215) (Fin x (fun v H => v = some (.int res.1) ∧ blk D ksMain o_b res.2 H) (fp1 o_b 215) 0 0) H17 0 0 39 [.val (.ref o_b), .val (.int t), .val (.int n), .val (.ref ((o_b + 22) + 3 + k6)), .val (.int (nI walls))] [] := by
            intro n12
            induction n12 with
            | zero => intro R walls H17  _ hw hm20; exact absurd hm20 (Nat.not_lt_zero _)
            | succ n12 ih13 =>
              intro R walls H17  _ hw hm20 hb16 s14 hs14 hr21 kx15
              refine r_iload C dX6_walled_39 rfl ?_
              refine r_bipush C dX6_walled_41 (20 : Int32) (by decide) ?_
              refine r_ic_gt C dX6_walled_43 (fun c22 => ?_) (fun c22 => ?_)
              · skip
                have f23 : (20 < walls) := nf_ltI (by omega) (by omega) rfl rfl c22
                have e24 : s14 = .inr R := by rw [hs14, d_X6_walled_L39]; try exact (if_pos c22).trans (rfl)
                exact kx15 R _ (.val (.int (nI walls))) rfl e24  hb16
              · skip
                have f25 : ¬ (20 < walls) := nf_ltIn (by omega) (by omega) rfl rfl c22
                refine r_aload_n C dX6_walled_46 rfl ?_
                refine r_iload_n C dX6_walled_47 rfl ?_
                refine r_iload C dX6_walled_48 rfl ?_
                refine r_iload_n C dX6_walled_50 rfl ?_
                have hn26 : n = nI n.toNatClampNeg := nn_of (x_lo3 c9 (by decide))
                have hn27 := (x_le2 (M := 20) c10 (by decide))
                obtain ⟨u28, hu28⟩ : ∃ r, r = d_X6_standsWith R t (nI walls) n := ⟨_, rfl⟩
                refine r_callV0 C cw_X6_193 (fun l => c_X6_standsWith l D o_b R t (nI walls) n hn26 (by omega) u28 hu28) (rest := []) hb16 (k := 0) rfl rfl celO_6 hb16 (fun q h => by unfold fp1 at h; unfold fp1; omega) rfl rfl rfl (Nat.le_of_ble_eq_true rfl) ⟨Nat.le_of_ble_eq_true rfl, Nat.le_of_ble_eq_true rfl, Nat.le_refl 0, Nat.le_refl 0⟩ dX6_walled_51 (fun v H29 hp30 hq31 => ?_)
                obtain ⟨rfl, hl32, hn33⟩ := hp30
                dsimp only [psh]
                refine r_if_eq C dX6_walled_54 (fun c34 => ?_) (fun c34 => ?_)
                · skip
                  refine r_iinc C dX6_walled_60 (nI (walls + 1)) rfl (nI_inc walls rfl) (ls' := [.val (.ref o_b), .val (.int t), .val (.int n), .val (.ref ((o_b + 22) + 3 + k6)), .val (.int (nI (walls + 1)))]) rfl ?_
                  refine r_goto C dX6_walled_63 ?_
                  have e35 : s14 = d_X6_walled_L39 t n n12 u28.2 (walls + 1) := by rw [hs14, d_X6_walled_L39]; try exact (if_neg c22).trans ((lt_eq hu28).trans ((if_pos c34).trans (rfl)))
                  exact ih13 u28.2 (walls + 1) _  trivial (by omega) (by omega) hn33 s14 e35 hr21 kx15
                · skip
                  refine r_iload C dX6_walled_57 rfl ?_
                  refine r_iret C dX6_walled_59 ?_
                  have er : res = ((nI walls), u28.2) := hr21 _ (by rw [hs14, d_X6_walled_L39]; try exact (if_neg c22).trans ((lt_eq hu28).trans ((if_neg c34).trans (rfl))))
                  rw [er]
                  exact ⟨rfl, hn33⟩
          obtain ⟨s36, hs36⟩ : ∃ r, r = d_X6_walled_L39 t n 22 R_b 0 := ⟨_, rfl⟩
          refine d_X6_walled_L39_w 22 R_b 0 _  trivial (by omega) (by omega) hb5 s36 hs36 (fun r e => by rw [hres, d_X6_walled]; exact (oc_some hu1').trans ((if_neg c9).trans ((if_pos c10).trans ((if_pos c11).trans (sc_inl (hs36.symm.trans e)))))) (fun w37 H39 z19 hz19 e40  hb38 => ?_)
          have hx41 : d_X6_walled_L39 t n 22 R_b 0 = .inr w37 := hs36.symm.trans e40
          refine r_bipush C dX6_walled_66 (-4 : Int32) (by decide) ?_
          refine r_iret C dX6_walled_68 ?_
          have er : res = ((-4 : Int32), w37) := by rw [hres, d_X6_walled]; try exact (oc_some hu1').trans ((if_neg c9).trans ((if_pos c10).trans ((if_pos c11).trans ((sc_inr hx41).trans (rfl)))))
          rw [er]
          exact ⟨rfl, hb38⟩
        · skip
          refine r_bipush C dX6_walled_33 (-2 : Int32) (by decide) ?_
          refine r_iret C dX6_walled_35 ?_
          have er : res = ((-2 : Int32), R_b) := by rw [hres, d_X6_walled]; try exact (oc_some hu1').trans ((if_neg c9).trans ((if_pos c10).trans ((if_neg c11).trans (rfl))))
          rw [er]
          exact ⟨rfl, hb5⟩
      · skip
        refine r_iconst C dX6_walled_24 (-1 : Int32) (by decide) ?_
        refine r_iret C dX6_walled_25 ?_
        have er : res = ((-1 : Int32), R_b) := by rw [hres, d_X6_walled]; try exact (oc_some hu1').trans ((if_neg c9).trans ((if_neg c10).trans (rfl)))
        rw [er]
        exact ⟨rfl, hb5⟩

def d_X6_hoard_L31 (t : Int32) : Nat → (Nat → Nat → Int32) → Int32 → Int32 → Nat → (Nat → Nat → Int32) × Int32 × Int32
  | 0, R, many, lowest, _ => (R, many, lowest)
  | n11 + 1, R, many, lowest, silver =>
    if (99 : Int32) < (nI silver) then
      (R, many, lowest)
    else
      lt (d_X6_wouldBeFound R t (nI silver)) fun u23 =>
      if u23.1 = 0 then
        d_X6_hoard_L31 t n11 u23.2 many lowest (silver + 1)
      else
        if lowest = (-4 : Int32) then
          d_X6_hoard_L31 t n11 u23.2 (many + Int32.ofInt 1) (nI silver) (silver + 1)
        else
          d_X6_hoard_L31 t n11 u23.2 (many + Int32.ofInt 1) lowest (silver + 1)
def d_X6_hoard (R_b : Nat → Nat → Int32) (t : Int32) (what : Int32) : Int32 × (Nat → Nat → Int32) :=
  oc (d_X3_townAt (shf R_b 4) t) (
    ((-1 : Int32), R_b)) fun k6 =>
  if what < 0 then
    ((-1 : Int32), R_b)
  else
    if what ≤ (1 : Int32) then
      lt (d_X6_hoard_L31 t 101 R_b (0 : Int32) (-4 : Int32) 0) fun s34 =>
      if what = 0 then
        (s34.2.1, s34.1)
      else
        (s34.2.2, s34.1)
    else
      ((-1 : Int32), R_b)
set_option maxHeartbeats 4000000 in
set_option maxRecDepth 100000 in
theorem c_X6_hoard (l : Launch) (D : DD) (o_b : Nat) (R_b : Nat → Nat → Int32) (t : Int32) (what : Int32) (hfs : ∀ i, i < 6 → R_b 211 i = nI (R_b 211 i).toNatClampNeg ∧ (R_b 211 i).toNatClampNeg ≤ 20) (res : Int32 × (Nat → Nat → Int32)) (hres : res = d_X6_hoard R_b t what) : Mt l D yX6_hoard cX6_hoard 6 (some .int) 6 139 0 0 [.ref o_b, .int t, .int what] (fun H => blk D ksMain o_b R_b H) (fun v H => v = some (.int res.1) ∧ blk D ksMain o_b res.2 H) (fp1 o_b 215) := by
  refine mt_of (own := RX6) (ls := [.val (.ref o_b), .val (.int t), .val (.int what), .unset, .unset, .unset]) rfl (by decide +kernel) rfl ?_
  intro x H C hP
  have hb_b := hP
  refine r_aload_n C dX6_hoard_0 rfl ?_
  refine r_get C hb_b (k := 0) rfl rfl celO_6 fw_X6_24 rfl dX6_hoard_1 ?_
  refine r_iload_n C dX6_hoard_4 rfl ?_
  obtain ⟨u1, hu1⟩ : ∃ r, r = d_X3_townAt (shf R_b 4) t := ⟨_, rfl⟩
  refine r_callV0 C cw_X6_96 (fun l => c_X3_townAt l D (o_b + 4) (shf R_b 4) t u1 hu1) (rest := []) hb_b (k := 4) rfl rfl celO_3 (blk_sub hb_b 4 15 rfl rfl) (fun q h => h.elim) rfl rfl rfl (Nat.le_of_ble_eq_true rfl) ⟨Nat.le_of_ble_eq_true rfl, Nat.le_of_ble_eq_true rfl, Nat.le_refl 0, Nat.le_refl 0⟩ dX6_hoard_5 (fun v H2 hp3 hq4 => ?_)
  subst hp3
  have hb5 := blk_kept hb_b (n := 215) rfl (fun q h1 h2 => hq4 q (fun h => h))
  obtain ho7 | ⟨k6, ho7⟩ := opt_or u1
  · have hu1' : d_X3_townAt (shf R_b 4) t = none := by rw [← hu1, ho7]
    rw [ho7]; dsimp only [psh, optT, optC]
    refine r_ifnullN C dX6_hoard_8 ?_
    refine r_iconst C dX6_hoard_20 (-1 : Int32) (by decide) ?_
    refine r_iret C dX6_hoard_21 ?_
    have er : res = ((-1 : Int32), R_b) := by rw [hres, d_X6_hoard]; try exact (oc_none hu1').trans (rfl)
    rw [er]
    exact ⟨rfl, hb5⟩
  · have hu1' : d_X3_townAt (shf R_b 4) t = some k6 := by rw [← hu1, ho7]
    rw [ho7]; dsimp only [psh, optT, optC]
    have fk8 := X3_townAt_lt hu1'
    refine r_ifnull C dX6_hoard_8 ?_
    refine r_iload_n C dX6_hoard_11 rfl ?_
    refine r_if_lt C dX6_hoard_12 (fun c9 => ?_) (fun c9 => ?_)
    · skip
      refine r_iconst C dX6_hoard_20 (-1 : Int32) (by decide) ?_
      refine r_iret C dX6_hoard_21 ?_
      have er : res = ((-1 : Int32), R_b) := by rw [hres, d_X6_hoard]; try exact (oc_some hu1').trans ((if_pos c9).trans (rfl))
      rw [er]
      exact ⟨rfl, hb5⟩
    · skip
      refine r_iload_n C dX6_hoard_15 rfl ?_
      refine r_iconst C dX6_hoard_16 (1 : Int32) (by decide) ?_
      refine r_ic_le C dX6_hoard_17 (fun c10 => ?_) (fun c10 => ?_)
      · skip
        refine r_iconst C dX6_hoard_22 (0 : Int32) (by decide) ?_
        refine r_istore_n C dX6_hoard_23 (ls' := [.val (.ref o_b), .val (.int t), .val (.int what), .val (.int (0 : Int32)), .unset, .unset]) rfl trivial rfl ?_
        refine r_bipush C dX6_hoard_24 (-4 : Int32) (by decide) ?_
        refine r_istore C dX6_hoard_26 (ls' := [.val (.ref o_b), .val (.int t), .val (.int what), .val (.int (0 : Int32)), .val (.int (-4 : Int32)), .unset]) rfl trivial rfl ?_
        refine r_iconst C dX6_hoard_28 (0 : Int32) (by decide) ?_
        refine r_istore C dX6_hoard_29 (ls' := [.val (.ref o_b), .val (.int t), .val (.int what), .val (.int (0 : Int32)), .val (.int (-4 : Int32)), .val (.int (0 : Int32))]) rfl trivial rfl ?_
        have d_X6_hoard_L31_w : ∀ (n11 : Nat) (R : Nat → Nat → Int32) (many : Int32) (lowest : Int32) (silver : Nat) (H16 : Heap), True → (silver ≤ 100) → (∀ i, i < 6 → R 211 i = nI (R 211 i).toNatClampNeg ∧ (R 211 i).toNatClampNeg ≤ 20) → (100 - silver < n11) → blk D ksMain o_b R H16 → ∀ s13 : (Nat → Nat → Int32) × Int32 × Int32, s13 = d_X6_hoard_L31 t n11 R many lowest silver → (∀ (H' : Heap) (z17 : Slot) (_ : slot1 z17), True → blk D ksMain o_b s13.1 H' → WG x (fp1 o_b 215) (Fin x (fun v H => v = some (.int res.1) ∧ blk D ksMain o_b res.2 H) (fp1 o_b 215) 0 0) H' 0 0 73 [.val (.ref o_b), .val (.int t), .val (.int what), .val (.int s13.2.1), .val (.int s13.2.2), z17] []) → WG x (fp1 o_b 215) (Fin x (fun v H => v = some (.int res.1) ∧ blk D ksMain o_b res.2 H) (fp1 o_b 215) 0 0) H16 0 0 31 [.val (.ref o_b), .val (.int t), .val (.int what), .val (.int many), .val (.int lowest), .val (.int (nI silver))] [] := by
          intro n11
          induction n11 with
          | zero => intro R many lowest silver H16  _ hs hfs2 hm18; exact absurd hm18 (Nat.not_lt_zero _)
          | succ n11 ih12 =>
            intro R many lowest silver H16  _ hs hfs2 hm18 hb15 s13 hs13  kx14
            refine r_iload C dX6_hoard_31 rfl ?_
            refine r_bipush C dX6_hoard_33 (99 : Int32) (by decide) ?_
            refine r_ic_gt C dX6_hoard_35 (fun c19 => ?_) (fun c19 => ?_)
            · skip
              have f20 : (99 < silver) := nf_ltI (by omega) (by omega) rfl rfl c19
              have e21 : s13 = (R, many, lowest) := by rw [hs13, d_X6_hoard_L31]; try exact (if_pos c19).trans (rfl)
              rw [e21] at kx14
              exact kx14 _ (.val (.int (nI silver))) rfl trivial  hb15
            · skip
              have f22 : ¬ (99 < silver) := nf_ltIn (by omega) (by omega) rfl rfl c19
              refine r_aload_n C dX6_hoard_38 rfl ?_
              refine r_iload_n C dX6_hoard_39 rfl ?_
              refine r_iload C dX6_hoard_40 rfl ?_
              obtain ⟨u23, hu23⟩ : ∃ r, r = d_X6_wouldBeFound R t (nI silver) := ⟨_, rfl⟩
              refine r_callV0 C cw_X6_209 (fun l => c_X6_wouldBeFound l D o_b R t (nI silver) hfs2 u23 hu23) (rest := []) hb15 (k := 0) rfl rfl celO_6 hb15 (fun q h => by unfold fp1 at h; unfold fp1; omega) rfl rfl rfl (Nat.le_of_ble_eq_true rfl) ⟨Nat.le_of_ble_eq_true rfl, Nat.le_of_ble_eq_true rfl, Nat.le_refl 0, Nat.le_refl 0⟩ dX6_hoard_42 (fun v H24 hp25 hq26 => ?_)
              obtain ⟨rfl, hl27, hn28⟩ := hp25
              dsimp only [psh]
              refine r_if_eq C dX6_hoard_45 (fun c29 => ?_) (fun c29 => ?_)
              · skip
                refine r_iinc C dX6_hoard_67 (nI (silver + 1)) rfl (nI_inc silver rfl) (ls' := [.val (.ref o_b), .val (.int t), .val (.int what), .val (.int many), .val (.int lowest), .val (.int (nI (silver + 1)))]) rfl ?_
                refine r_goto C dX6_hoard_70 ?_
                have e30 : s13 = d_X6_hoard_L31 t n11 u23.2 many lowest (silver + 1) := by rw [hs13, d_X6_hoard_L31]; try exact (if_neg c19).trans ((lt_eq hu23).trans ((if_pos c29).trans (rfl)))
                exact ih12 u23.2 many lowest (silver + 1) _  trivial (by omega) (fun i hi => by rw [X6_wouldBeFound_fr hu23 (by omega)]; exact hfs2 i hi) (by omega) hn28 s13 e30  kx14
              · skip
                refine r_iinc C dX6_hoard_48 (many + Int32.ofInt 1) rfl rfl (ls' := [.val (.ref o_b), .val (.int t), .val (.int what), .val (.int (many + Int32.ofInt 1)), .val (.int lowest), .val (.int (nI silver))]) rfl ?_
                refine r_iload C dX6_hoard_51 rfl ?_
                refine r_bipush C dX6_hoard_53 (-4 : Int32) (by decide) ?_
                refine r_ic_ne C dX6_hoard_55 (fun c31 => ?_) (fun c31 => ?_)
                · skip
                  refine r_iload C dX6_hoard_63 rfl ?_
                  refine r_istore C dX6_hoard_65 (ls' := [.val (.ref o_b), .val (.int t), .val (.int what), .val (.int (many + Int32.ofInt 1)), .val (.int lowest), .val (.int (nI silver))]) rfl rfl rfl ?_
                  refine r_iinc C dX6_hoard_67 (nI (silver + 1)) rfl (nI_inc silver rfl) (ls' := [.val (.ref o_b), .val (.int t), .val (.int what), .val (.int (many + Int32.ofInt 1)), .val (.int lowest), .val (.int (nI (silver + 1)))]) rfl ?_
                  refine r_goto C dX6_hoard_70 ?_
                  have e32 : s13 = d_X6_hoard_L31 t n11 u23.2 (many + Int32.ofInt 1) lowest (silver + 1) := by rw [hs13, d_X6_hoard_L31]; try exact (if_neg c19).trans ((lt_eq hu23).trans ((if_neg c29).trans ((if_neg c31).trans (rfl))))
                  exact ih12 u23.2 (many + Int32.ofInt 1) lowest (silver + 1) _  trivial (by omega) (fun i hi => by rw [X6_wouldBeFound_fr hu23 (by omega)]; exact hfs2 i hi) (by omega) hn28 s13 e32  kx14
                · skip
                  refine r_iload C dX6_hoard_58 rfl ?_
                  refine r_goto C dX6_hoard_60 ?_
                  refine r_istore C dX6_hoard_65 (ls' := [.val (.ref o_b), .val (.int t), .val (.int what), .val (.int (many + Int32.ofInt 1)), .val (.int (nI silver)), .val (.int (nI silver))]) rfl rfl rfl ?_
                  refine r_iinc C dX6_hoard_67 (nI (silver + 1)) rfl (nI_inc silver rfl) (ls' := [.val (.ref o_b), .val (.int t), .val (.int what), .val (.int (many + Int32.ofInt 1)), .val (.int (nI silver)), .val (.int (nI (silver + 1)))]) rfl ?_
                  refine r_goto C dX6_hoard_70 ?_
                  have e33 : s13 = d_X6_hoard_L31 t n11 u23.2 (many + Int32.ofInt 1) (nI silver) (silver + 1) := by rw [hs13, d_X6_hoard_L31]; try exact (if_neg c19).trans ((lt_eq hu23).trans ((if_neg c29).trans ((if_pos c31).trans (rfl))))
                  exact ih12 u23.2 (many + Int32.ofInt 1) (nI silver) (silver + 1) _  trivial (by omega) (fun i hi => by rw [X6_wouldBeFound_fr hu23 (by omega)]; exact hfs2 i hi) (by omega) hn28 s13 e33  kx14
        obtain ⟨s34, hs34⟩ : ∃ r, r = d_X6_hoard_L31 t 101 R_b (0 : Int32) (-4 : Int32) 0 := ⟨_, rfl⟩
        refine d_X6_hoard_L31_w 101 R_b (0 : Int32) (-4 : Int32) 0 _  trivial (by omega) hfs (by omega) hb5 s34 hs34  (fun H36 z17 hz17 e37  hb35 => ?_)
        refine r_iload_n C dX6_hoard_73 rfl ?_
        refine r_if_ne C dX6_hoard_74 (fun c38 => ?_) (fun c38 => ?_)
        · skip
          refine r_iload C dX6_hoard_81 rfl ?_
          refine r_iret C dX6_hoard_83 ?_
          have er : res = (s34.2.2, s34.1) := by rw [hres, d_X6_hoard]; try exact (oc_some hu1').trans ((if_neg c9).trans ((if_pos c10).trans ((lt_eq hs34).trans ((if_neg c38).trans (rfl)))))
          rw [er]
          exact ⟨rfl, hb35⟩
        · skip
          refine r_iload_n C dX6_hoard_77 rfl ?_
          refine r_goto C dX6_hoard_78 ?_
          refine r_iret C dX6_hoard_83 ?_
          have er : res = (s34.2.1, s34.1) := by rw [hres, d_X6_hoard]; try exact (oc_some hu1').trans ((if_neg c9).trans ((if_pos c10).trans ((lt_eq hs34).trans ((if_pos c38).trans (rfl)))))
          rw [er]
          exact ⟨rfl, hb35⟩
      · skip
        refine r_iconst C dX6_hoard_20 (-1 : Int32) (by decide) ?_
        refine r_iret C dX6_hoard_21 ?_
        have er : res = ((-1 : Int32), R_b) := by rw [hres, d_X6_hoard]; try exact (oc_some hu1').trans ((if_neg c9).trans ((if_neg c10).trans (rfl)))
        rw [er]
        exact ⟨rfl, hb5⟩

def d_X6_whose_L41 (t : Int32) (spring : Int32) (n : Int32) : Nat → (Nat → Nat → Int32) → Int32 → Nat → (Nat → Nat → Int32) × Int32
  | 0, R, bits, _ => (R, bits)
  | n13 + 1, R, bits, c =>
    if (3 : Int32) ≤ (nI c) then
      (R, bits)
    else
      oc (d_X3_crewAt (shf R 4) (nI c)) (
        d_X6_whose_L41 t spring n n13 R bits (c + 1)) fun k30 =>
      lt (d_X6_paidToOnly R (nI c) t spring) fun u36 =>
      if u36.1 = n then
        d_X6_whose_L41 t spring n n13 u36.2 (bits ||| ((1 : Int32) <<< ((nI c) &&& 31))) (c + 1)
      else
        d_X6_whose_L41 t spring n n13 u36.2 bits (c + 1)
def d_X6_whose (R_b : Nat → Nat → Int32) (t : Int32) (spring : Int32) (n : Int32) : Int32 × (Nat → Nat → Int32) :=
  oc (d_X3_townAt (shf R_b 4) t) (
    ((-1 : Int32), R_b)) fun k6 =>
  if spring < (1 : Int32) then
    ((-1 : Int32), R_b)
  else
    if (20 : Int32) < spring then
      ((-1 : Int32), R_b)
    else
      if n < 0 then
        ((-1 : Int32), R_b)
      else
        if n ≤ (9999 : Int32) then
          lt (d_X6_whose_L41 t spring n 4 R_b (0 : Int32) 0) fun s44 =>
          (s44.2, s44.1)
        else
          ((-1 : Int32), R_b)
set_option maxHeartbeats 4000000 in
set_option maxRecDepth 100000 in
theorem c_X6_whose (l : Launch) (D : DD) (o_b : Nat) (R_b : Nat → Nat → Int32) (t : Int32) (spring : Int32) (n : Int32)  (res : Int32 × (Nat → Nat → Int32)) (hres : res = d_X6_whose R_b t spring n) : Mt l D yX6_whose cX6_whose 6 (some .int) 6 138 0 0 [.ref o_b, .int t, .int spring, .int n] (fun H => blk D ksMain o_b R_b H) (fun v H => v = some (.int res.1) ∧ blk D ksMain o_b res.2 H) (fp1 o_b 215) := by
  refine mt_of (own := RX6) (ls := [.val (.ref o_b), .val (.int t), .val (.int spring), .val (.int n), .unset, .unset]) rfl (by decide +kernel) rfl ?_
  intro x H C hP
  have hb_b := hP
  refine r_aload_n C dX6_whose_0 rfl ?_
  refine r_get C hb_b (k := 0) rfl rfl celO_6 fw_X6_24 rfl dX6_whose_1 ?_
  refine r_iload_n C dX6_whose_4 rfl ?_
  obtain ⟨u1, hu1⟩ : ∃ r, r = d_X3_townAt (shf R_b 4) t := ⟨_, rfl⟩
  refine r_callV0 C cw_X6_96 (fun l => c_X3_townAt l D (o_b + 4) (shf R_b 4) t u1 hu1) (rest := []) hb_b (k := 4) rfl rfl celO_3 (blk_sub hb_b 4 15 rfl rfl) (fun q h => h.elim) rfl rfl rfl (Nat.le_of_ble_eq_true rfl) ⟨Nat.le_of_ble_eq_true rfl, Nat.le_of_ble_eq_true rfl, Nat.le_refl 0, Nat.le_refl 0⟩ dX6_whose_5 (fun v H2 hp3 hq4 => ?_)
  subst hp3
  have hb5 := blk_kept hb_b (n := 215) rfl (fun q h1 h2 => hq4 q (fun h => h))
  obtain ho7 | ⟨k6, ho7⟩ := opt_or u1
  · have hu1' : d_X3_townAt (shf R_b 4) t = none := by rw [← hu1, ho7]
    rw [ho7]; dsimp only [psh, optT, optC]
    refine r_ifnullN C dX6_whose_8 ?_
    refine r_iconst C dX6_whose_33 (-1 : Int32) (by decide) ?_
    refine r_iret C dX6_whose_34 ?_
    have er : res = ((-1 : Int32), R_b) := by rw [hres, d_X6_whose]; try exact (oc_none hu1').trans (rfl)
    rw [er]
    exact ⟨rfl, hb5⟩
  · have hu1' : d_X3_townAt (shf R_b 4) t = some k6 := by rw [← hu1, ho7]
    rw [ho7]; dsimp only [psh, optT, optC]
    have fk8 := X3_townAt_lt hu1'
    refine r_ifnull C dX6_whose_8 ?_
    refine r_iload_n C dX6_whose_11 rfl ?_
    refine r_iconst C dX6_whose_12 (1 : Int32) (by decide) ?_
    refine r_ic_lt C dX6_whose_13 (fun c9 => ?_) (fun c9 => ?_)
    · skip
      refine r_iconst C dX6_whose_33 (-1 : Int32) (by decide) ?_
      refine r_iret C dX6_whose_34 ?_
      have er : res = ((-1 : Int32), R_b) := by rw [hres, d_X6_whose]; try exact (oc_some hu1').trans ((if_pos c9).trans (rfl))
      rw [er]
      exact ⟨rfl, hb5⟩
    · skip
      refine r_iload_n C dX6_whose_16 rfl ?_
      refine r_bipush C dX6_whose_17 (20 : Int32) (by decide) ?_
      refine r_ic_gt C dX6_whose_19 (fun c10 => ?_) (fun c10 => ?_)
      · skip
        refine r_iconst C dX6_whose_33 (-1 : Int32) (by decide) ?_
        refine r_iret C dX6_whose_34 ?_
        have er : res = ((-1 : Int32), R_b) := by rw [hres, d_X6_whose]; try exact (oc_some hu1').trans ((if_neg c9).trans ((if_pos c10).trans (rfl)))
        rw [er]
        exact ⟨rfl, hb5⟩
      · skip
        refine r_iload_n C dX6_whose_22 rfl ?_
        refine r_if_lt C dX6_whose_23 (fun c11 => ?_) (fun c11 => ?_)
        · skip
          refine r_iconst C dX6_whose_33 (-1 : Int32) (by decide) ?_
          refine r_iret C dX6_whose_34 ?_
          have er : res = ((-1 : Int32), R_b) := by rw [hres, d_X6_whose]; try exact (oc_some hu1').trans ((if_neg c9).trans ((if_neg c10).trans ((if_pos c11).trans (rfl))))
          rw [er]
          exact ⟨rfl, hb5⟩
        · skip
          refine r_iload_n C dX6_whose_26 rfl ?_
          refine r_sipush C dX6_whose_27 (9999 : Int32) (by decide) ?_
          refine r_ic_le C dX6_whose_30 (fun c12 => ?_) (fun c12 => ?_)
          · skip
            refine r_iconst C dX6_whose_35 (0 : Int32) (by decide) ?_
            refine r_istore C dX6_whose_36 (ls' := [.val (.ref o_b), .val (.int t), .val (.int spring), .val (.int n), .val (.int (0 : Int32)), .unset]) rfl trivial rfl ?_
            refine r_iconst C dX6_whose_38 (0 : Int32) (by decide) ?_
            refine r_istore C dX6_whose_39 (ls' := [.val (.ref o_b), .val (.int t), .val (.int spring), .val (.int n), .val (.int (0 : Int32)), .val (.int (0 : Int32))]) rfl trivial rfl ?_
            have d_X6_whose_L41_w : ∀ (n13 : Nat) (R : Nat → Nat → Int32) (bits : Int32) (c : Nat) (H18 : Heap), True → (c ≤ 3) → (3 - c < n13) → blk D ksMain o_b R H18 → ∀ s15 : (Nat → Nat → Int32) × Int32, s15 = d_X6_whose_L41 t spring n n13 R bits c → (∀ (H' : Heap) (z19 : Slot) (_ : slot1 z19), True → blk D ksMain o_b s15.1 H' → WG x (fp1 o_b 215) (Fin x (fun v H => v = some (.int res.1) ∧ blk D ksMain o_b res.2 H) (fp1 o_b 215) 0 0) H' 0 0 86 [.val (.ref o_b), .val (.int t), .val (.int spring), .val (.int n), .val (.int s15.2), z19] []) → WG x (fp1 o_b 215) (Fin x (fun v H => v = some (.int res.1) ∧ blk D ksMain o_b res.2 H) (fp1 o_b 215) 0 0) H18 0 0 41 [.val (.ref o_b), .val (.int t), .val (.int spring), .val (.int n), .val (.int bits), .val (.int (nI c))] [] := by
              intro n13
              induction n13 with
              | zero => intro R bits c H18  _ hc hm20; exact absurd hm20 (Nat.not_lt_zero _)
              | succ n13 ih14 =>
                intro R bits c H18  _ hc hm20 hb17 s15 hs15  kx16
                refine r_iload C dX6_whose_41 rfl ?_
                refine r_iconst C dX6_whose_43 (3 : Int32) (by decide) ?_
                refine r_ic_ge C dX6_whose_44 (fun c21 => ?_) (fun c21 => ?_)
                · skip
                  have f22 : (3 ≤ c) := nf_leI (by omega) (by omega) rfl rfl c21
                  have e23 : s15 = (R, bits) := by rw [hs15, d_X6_whose_L41]; try exact (if_pos c21).trans (rfl)
                  rw [e23] at kx16
                  exact kx16 _ (.val (.int (nI c))) rfl trivial  hb17
                · skip
                  have f24 : ¬ (3 ≤ c) := nf_leIn (by omega) (by omega) rfl rfl c21
                  refine r_aload_n C dX6_whose_47 rfl ?_
                  refine r_get C hb17 (k := 0) rfl rfl celO_6 fw_X6_24 rfl dX6_whose_48 ?_
                  refine r_iload C dX6_whose_51 rfl ?_
                  obtain ⟨u25, hu25⟩ : ∃ r, r = d_X3_crewAt (shf R 4) (nI c) := ⟨_, rfl⟩
                  refine r_callV0 C cw_X6_124 (fun l => c_X3_crewAt l D (o_b + 4) (shf R 4) (nI c) u25 hu25) (rest := []) hb17 (k := 4) rfl rfl celO_3 (blk_sub hb17 4 15 rfl rfl) (fun q h => h.elim) rfl rfl rfl (Nat.le_of_ble_eq_true rfl) ⟨Nat.le_of_ble_eq_true rfl, Nat.le_of_ble_eq_true rfl, Nat.le_refl 0, Nat.le_refl 0⟩ dX6_whose_53 (fun v H26 hp27 hq28 => ?_)
                  subst hp27
                  have hb29 := blk_kept hb17 (n := 215) rfl (fun q h1 h2 => hq28 q (fun h => h))
                  obtain ho31 | ⟨k30, ho31⟩ := opt_or u25
                  · have hu25' : d_X3_crewAt (shf R 4) (nI c) = none := by rw [← hu25, ho31]
                    rw [ho31]; dsimp only [psh, optT, optC]
                    refine r_ifnullN C dX6_whose_56 ?_
                    refine r_iinc C dX6_whose_80 (nI (c + 1)) rfl (nI_inc c rfl) (ls' := [.val (.ref o_b), .val (.int t), .val (.int spring), .val (.int n), .val (.int bits), .val (.int (nI (c + 1)))]) rfl ?_
                    refine r_goto C dX6_whose_83 ?_
                    have e32 : s15 = d_X6_whose_L41 t spring n n13 R bits (c + 1) := by rw [hs15, d_X6_whose_L41]; try exact (if_neg c21).trans ((oc_none hu25').trans (rfl))
                    exact ih14 R bits (c + 1) _  trivial (by omega) (by omega) hb29 s15 e32  kx16
                  · have hu25' : d_X3_crewAt (shf R 4) (nI c) = some k30 := by rw [← hu25, ho31]
                    rw [ho31]; dsimp only [psh, optT, optC]
                    have fk33 := X3_crewAt_lt hu25'
                    refine r_ifnull C dX6_whose_56 ?_
                    refine r_aload_n C dX6_whose_59 rfl ?_
                    refine r_iload C dX6_whose_60 rfl ?_
                    refine r_iload_n C dX6_whose_62 rfl ?_
                    refine r_iload_n C dX6_whose_63 rfl ?_
                    have hn34 : spring = nI spring.toNatClampNeg := nn_of (x_lo3 c9 (by decide))
                    have hn35 := (x_le (M := 20) c10 (by decide))
                    obtain ⟨u36, hu36⟩ : ∃ r, r = d_X6_paidToOnly R (nI c) t spring := ⟨_, rfl⟩
                    refine r_callV0 C cw_X6_213 (fun l => c_X6_paidToOnly l D o_b R (nI c) t spring hn34 (by omega) u36 hu36) (rest := []) hb29 (k := 0) rfl rfl celO_6 hb29 (fun q h => by unfold fp1 at h; unfold fp1; omega) rfl rfl rfl (Nat.le_of_ble_eq_true rfl) ⟨Nat.le_of_ble_eq_true rfl, Nat.le_of_ble_eq_true rfl, Nat.le_refl 0, Nat.le_refl 0⟩ dX6_whose_64 (fun v H37 hp38 hq39 => ?_)
                    obtain ⟨rfl, hn40⟩ := hp38
                    dsimp only [psh]
                    refine r_iload_n C dX6_whose_67 rfl ?_
                    refine r_ic_ne C dX6_whose_68 (fun c41 => ?_) (fun c41 => ?_)
                    · skip
                      refine r_iinc C dX6_whose_80 (nI (c + 1)) rfl (nI_inc c rfl) (ls' := [.val (.ref o_b), .val (.int t), .val (.int spring), .val (.int n), .val (.int bits), .val (.int (nI (c + 1)))]) rfl ?_
                      refine r_goto C dX6_whose_83 ?_
                      have e42 : s15 = d_X6_whose_L41 t spring n n13 u36.2 bits (c + 1) := by rw [hs15, d_X6_whose_L41]; try exact (if_neg c21).trans ((oc_some hu25').trans ((lt_eq hu36).trans ((if_neg c41).trans (rfl))))
                      exact ih14 u36.2 bits (c + 1) _  trivial (by omega) (by omega) hn40 s15 e42  kx16
                    · skip
                      refine r_iload C dX6_whose_71 rfl ?_
                      refine r_iconst C dX6_whose_73 (1 : Int32) (by decide) ?_
                      refine r_iload C dX6_whose_74 rfl ?_
                      refine r_ishl C dX6_whose_76 ?_
                      refine r_ior C dX6_whose_77 ?_
                      refine r_istore C dX6_whose_78 (ls' := [.val (.ref o_b), .val (.int t), .val (.int spring), .val (.int n), .val (.int (bits ||| ((1 : Int32) <<< ((nI c) &&& 31)))), .val (.int (nI c))]) rfl rfl rfl ?_
                      refine r_iinc C dX6_whose_80 (nI (c + 1)) rfl (nI_inc c rfl) (ls' := [.val (.ref o_b), .val (.int t), .val (.int spring), .val (.int n), .val (.int (bits ||| ((1 : Int32) <<< ((nI c) &&& 31)))), .val (.int (nI (c + 1)))]) rfl ?_
                      refine r_goto C dX6_whose_83 ?_
                      have e43 : s15 = d_X6_whose_L41 t spring n n13 u36.2 (bits ||| ((1 : Int32) <<< ((nI c) &&& 31))) (c + 1) := by rw [hs15, d_X6_whose_L41]; try exact (if_neg c21).trans ((oc_some hu25').trans ((lt_eq hu36).trans ((if_pos c41).trans (rfl))))
                      exact ih14 u36.2 (bits ||| ((1 : Int32) <<< ((nI c) &&& 31))) (c + 1) _  trivial (by omega) (by omega) hn40 s15 e43  kx16
            obtain ⟨s44, hs44⟩ : ∃ r, r = d_X6_whose_L41 t spring n 4 R_b (0 : Int32) 0 := ⟨_, rfl⟩
            refine d_X6_whose_L41_w 4 R_b (0 : Int32) 0 _  trivial (by omega) (by omega) hb5 s44 hs44  (fun H46 z19 hz19 e47  hb45 => ?_)
            refine r_iload C dX6_whose_86 rfl ?_
            refine r_iret C dX6_whose_88 ?_
            have er : res = (s44.2, s44.1) := by rw [hres, d_X6_whose]; try exact (oc_some hu1').trans ((if_neg c9).trans ((if_neg c10).trans ((if_neg c11).trans ((if_pos c12).trans ((lt_eq hs44).trans (rfl))))))
            rw [er]
            exact ⟨rfl, hb45⟩
          · skip
            refine r_iconst C dX6_whose_33 (-1 : Int32) (by decide) ?_
            refine r_iret C dX6_whose_34 ?_
            have er : res = ((-1 : Int32), R_b) := by rw [hres, d_X6_whose]; try exact (oc_some hu1').trans ((if_neg c9).trans ((if_neg c10).trans ((if_neg c11).trans ((if_neg c12).trans (rfl)))))
            rw [er]
            exact ⟨rfl, hb5⟩

def d_X6_best_L67 (t : Int32) (n : Int32) : Nat → (Nat → Nat → Int32) → Int32 → Int32 → Int32 → Nat → (Nat → Nat → Int32) × Int32 × Int32 × Int32
  | 0, R, most, bestRow, safe, _ => (R, most, bestRow, safe)
  | n18 + 1, R, most, bestRow, safe, row =>
    if ((1 : Int32) <<< (((2 : Int32) * n) &&& 31)) ≤ (nI row) then
      (R, most, bestRow, safe)
    else
      lt (d_X6_silverByRow R t n (nI row)) fun u32 =>
      if u32.1 ≤ most then
        lt (d_X3_standsAt (shf u32.2 40) t) fun u38 =>
        if u38 = 0 then
          d_X6_best_L67 t n n18 u32.2 most bestRow safe (row + 1)
        else
          d_X6_best_L67 t n n18 u32.2 most bestRow (safe + Int32.ofInt 1) (row + 1)
      else
        lt (d_X3_standsAt (shf u32.2 40) t) fun u47 =>
        if u47 = 0 then
          d_X6_best_L67 t n n18 u32.2 u32.1 (nI row) safe (row + 1)
        else
          d_X6_best_L67 t n n18 u32.2 u32.1 (nI row) (safe + Int32.ofInt 1) (row + 1)
def d_X6_best (R_b : Nat → Nat → Int32) (t : Int32) (n : Int32) (k : Int32) : Int32 × (Nat → Nat → Int32) :=
  oc (d_X3_townAt (shf R_b 22) t) (
    ((-1 : Int32), R_b)) fun k6 =>
  if n < (1 : Int32) then
    ((-1 : Int32), R_b)
  else
    if (4 : Int32) < n then
      ((-1 : Int32), R_b)
    else
      if k < (-1 : Int32) then
        ((-1 : Int32), R_b)
      else
        if k ≤ n then
          if (R_b (25 + k6) 1) = 0 then
            lt (d_X6_best_L67 t n 257 R_b (-1 : Int32) (0 : Int32) (0 : Int32) 0) fun s56 =>
            if k = (-1 : Int32) then
              (s56.2.2.2, s56.1)
            else
              if k = 0 then
                (s56.2.1, s56.1)
              else
                lt (d_X6_wayInRow s56.2.2.1 n k) fun u62 =>
                (u62, s56.1)
          else
            ((-2 : Int32), R_b)
        else
          ((-1 : Int32), R_b)
set_option maxHeartbeats 4000000 in
set_option maxRecDepth 100000 in
theorem c_X6_best (l : Launch) (D : DD) (o_b : Nat) (R_b : Nat → Nat → Int32) (t : Int32) (n : Int32) (k : Int32)  (res : Int32 × (Nat → Nat → Int32)) (hres : res = d_X6_best R_b t n k) : Mt l D yX6_best cX6_best 11 (some .int) 6 139 0 0 [.ref o_b, .int t, .int n, .int k] (fun H => blk D ksMain o_b R_b H) (fun v H => v = some (.int res.1) ∧ blk D ksMain o_b res.2 H) (fp1 o_b 215) := by
  refine mt_of (own := RX6) (ls := [.val (.ref o_b), .val (.int t), .val (.int n), .val (.int k), .unset, .unset, .unset, .unset, .unset, .unset, .unset]) rfl (by decide +kernel) rfl ?_
  intro x H C hP
  have hb_b := hP
  refine r_aload_n C dX6_best_0 rfl ?_
  refine r_get C hb_b (k := 0) rfl rfl celO_6 fw_X6_28 rfl dX6_best_1 ?_
  refine r_iload_n C dX6_best_4 rfl ?_
  obtain ⟨u1, hu1⟩ : ∃ r, r = d_X3_townAt (shf R_b 22) t := ⟨_, rfl⟩
  refine r_callV0 C cw_X6_96 (fun l => c_X3_townAt l D (o_b + 22) (shf R_b 22) t u1 hu1) (rest := []) hb_b (k := 22) rfl rfl celO_3 (blk_sub hb_b 22 15 rfl rfl) (fun q h => h.elim) rfl rfl rfl (Nat.le_of_ble_eq_true rfl) ⟨Nat.le_of_ble_eq_true rfl, Nat.le_of_ble_eq_true rfl, Nat.le_refl 0, Nat.le_refl 0⟩ dX6_best_5 (fun v H2 hp3 hq4 => ?_)
  subst hp3
  have hb5 := blk_kept hb_b (n := 215) rfl (fun q h1 h2 => hq4 q (fun h => h))
  obtain ho7 | ⟨k6, ho7⟩ := opt_or u1
  · have hu1' : d_X3_townAt (shf R_b 22) t = none := by rw [← hu1, ho7]
    rw [ho7]; dsimp only [psh, optT, optC]
    refine r_astoreN C dX6_best_8 (ls' := [.val (.ref o_b), .val (.int t), .val (.int n), .val (.int k), .val (.null), .unset, .unset, .unset, .unset, .unset, .unset]) rfl trivial rfl ?_
    refine r_aloadN C dX6_best_10 rfl ?_
    refine r_ifnullN C dX6_best_12 ?_
    refine r_iconst C dX6_best_35 (-1 : Int32) (by decide) ?_
    refine r_iret C dX6_best_36 ?_
    have er : res = ((-1 : Int32), R_b) := by rw [hres, d_X6_best]; try exact (oc_none hu1').trans (rfl)
    rw [er]
    exact ⟨rfl, hb5⟩
  · have hu1' : d_X3_townAt (shf R_b 22) t = some k6 := by rw [← hu1, ho7]
    rw [ho7]; dsimp only [psh, optT, optC]
    have fk8 := X3_townAt_lt hu1'
    refine r_astore C dX6_best_8 (ls' := [.val (.ref o_b), .val (.int t), .val (.int n), .val (.int k), .val (.ref ((o_b + 22) + 3 + k6)), .unset, .unset, .unset, .unset, .unset, .unset]) rfl trivial rfl ?_
    refine r_aload C dX6_best_10 rfl ?_
    refine r_ifnull C dX6_best_12 ?_
    refine r_iload_n C dX6_best_15 rfl ?_
    refine r_iconst C dX6_best_16 (1 : Int32) (by decide) ?_
    refine r_ic_lt C dX6_best_17 (fun c9 => ?_) (fun c9 => ?_)
    · skip
      refine r_iconst C dX6_best_35 (-1 : Int32) (by decide) ?_
      refine r_iret C dX6_best_36 ?_
      have er : res = ((-1 : Int32), R_b) := by rw [hres, d_X6_best]; try exact (oc_some hu1').trans ((if_pos c9).trans (rfl))
      rw [er]
      exact ⟨rfl, hb5⟩
    · skip
      refine r_iload_n C dX6_best_20 rfl ?_
      refine r_iconst C dX6_best_21 (4 : Int32) (by decide) ?_
      refine r_ic_gt C dX6_best_22 (fun c10 => ?_) (fun c10 => ?_)
      · skip
        refine r_iconst C dX6_best_35 (-1 : Int32) (by decide) ?_
        refine r_iret C dX6_best_36 ?_
        have er : res = ((-1 : Int32), R_b) := by rw [hres, d_X6_best]; try exact (oc_some hu1').trans ((if_neg c9).trans ((if_pos c10).trans (rfl)))
        rw [er]
        exact ⟨rfl, hb5⟩
      · skip
        refine r_iload_n C dX6_best_25 rfl ?_
        refine r_iconst C dX6_best_26 (-1 : Int32) (by decide) ?_
        refine r_ic_lt C dX6_best_27 (fun c11 => ?_) (fun c11 => ?_)
        · skip
          refine r_iconst C dX6_best_35 (-1 : Int32) (by decide) ?_
          refine r_iret C dX6_best_36 ?_
          have er : res = ((-1 : Int32), R_b) := by rw [hres, d_X6_best]; try exact (oc_some hu1').trans ((if_neg c9).trans ((if_neg c10).trans ((if_pos c11).trans (rfl))))
          rw [er]
          exact ⟨rfl, hb5⟩
        · skip
          refine r_iload_n C dX6_best_30 rfl ?_
          refine r_iload_n C dX6_best_31 rfl ?_
          refine r_ic_le C dX6_best_32 (fun c12 => ?_) (fun c12 => ?_)
          · skip
            refine r_aload C dX6_best_37 rfl ?_
            refine r_get C hb5 (k := (25 + k6)) (kMain_25_1 _ fk8) (by omega) celO_5 fw_X6_117 (z := .int (R_b (25 + k6) 1)) rfl dX6_best_39 ?_
            refine r_if_eq C dX6_best_42 (fun c13 => ?_) (fun c13 => ?_)
            · skip
              refine r_iconst C dX6_best_48 (-1 : Int32) (by decide) ?_
              refine r_istore C dX6_best_49 (ls' := [.val (.ref o_b), .val (.int t), .val (.int n), .val (.int k), .val (.ref ((o_b + 22) + 3 + k6)), .val (.int (-1 : Int32)), .unset, .unset, .unset, .unset, .unset]) rfl trivial rfl ?_
              refine r_iconst C dX6_best_51 (0 : Int32) (by decide) ?_
              refine r_istore C dX6_best_52 (ls' := [.val (.ref o_b), .val (.int t), .val (.int n), .val (.int k), .val (.ref ((o_b + 22) + 3 + k6)), .val (.int (-1 : Int32)), .val (.int (0 : Int32)), .unset, .unset, .unset, .unset]) rfl trivial rfl ?_
              refine r_iconst C dX6_best_54 (0 : Int32) (by decide) ?_
              refine r_istore C dX6_best_55 (ls' := [.val (.ref o_b), .val (.int t), .val (.int n), .val (.int k), .val (.ref ((o_b + 22) + 3 + k6)), .val (.int (-1 : Int32)), .val (.int (0 : Int32)), .val (.int (0 : Int32)), .unset, .unset, .unset]) rfl trivial rfl ?_
              refine r_iconst C dX6_best_57 (1 : Int32) (by decide) ?_
              refine r_iconst C dX6_best_58 (2 : Int32) (by decide) ?_
              refine r_iload_n C dX6_best_59 rfl ?_
              refine r_imul C dX6_best_60 ?_
              refine r_ishl C dX6_best_61 ?_
              refine r_istore C dX6_best_62 (ls' := [.val (.ref o_b), .val (.int t), .val (.int n), .val (.int k), .val (.ref ((o_b + 22) + 3 + k6)), .val (.int (-1 : Int32)), .val (.int (0 : Int32)), .val (.int (0 : Int32)), .val (.int ((1 : Int32) <<< (((2 : Int32) * n) &&& 31))), .unset, .unset]) rfl trivial rfl ?_
              have hn14 : n = nI n.toNatClampNeg := nn_of (x_lo3 c9 (by decide))
              have hn15 := (x_le (M := 4) c10 (by decide))
              obtain ⟨hr16, hr17⟩ := rows_nat hn14 (by omega)
              refine r_iconst C dX6_best_64 (0 : Int32) (by decide) ?_
              refine r_istore C dX6_best_65 (ls' := [.val (.ref o_b), .val (.int t), .val (.int n), .val (.int k), .val (.ref ((o_b + 22) + 3 + k6)), .val (.int (-1 : Int32)), .val (.int (0 : Int32)), .val (.int (0 : Int32)), .val (.int ((1 : Int32) <<< (((2 : Int32) * n) &&& 31))), .val (.int (0 : Int32)), .unset]) rfl trivial rfl ?_
              have d_X6_best_L67_w : ∀ (n18 : Nat) (R : Nat → Nat → Int32) (most : Int32) (bestRow : Int32) (safe : Int32) (row : Nat) (H24 : Heap) (z22 : Slot) (_ : slot1 z22), True → (row ≤ 256) → (256 - row < n18) → blk D ksMain o_b R H24 → ∀ s20 : (Nat → Nat → Int32) × Int32 × Int32 × Int32, s20 = d_X6_best_L67 t n n18 R most bestRow safe row → (∀ (H' : Heap) (z25 : Slot) (_ : slot1 z25) (z26 : Slot) (_ : slot1 z26), True → blk D ksMain o_b s20.1 H' → WG x (fp1 o_b 215) (Fin x (fun v H => v = some (.int res.1) ∧ blk D ksMain o_b res.2 H) (fp1 o_b 215) 0 0) H' 0 0 119 [.val (.ref o_b), .val (.int t), .val (.int n), .val (.int k), .val (.ref ((o_b + 22) + 3 + k6)), .val (.int s20.2.1), .val (.int s20.2.2.1), .val (.int s20.2.2.2), .val (.int ((1 : Int32) <<< (((2 : Int32) * n) &&& 31))), z25, z26] []) → WG x (fp1 o_b 215) (Fin x (fun v H => v = some (.int res.1) ∧ blk D ksMain o_b res.2 H) (fp1 o_b 215) 0 0) H24 0 0 67 [.val (.ref o_b), .val (.int t), .val (.int n), .val (.int k), .val (.ref ((o_b + 22) + 3 + k6)), .val (.int most), .val (.int bestRow), .val (.int safe), .val (.int ((1 : Int32) <<< (((2 : Int32) * n) &&& 31))), .val (.int (nI row)), z22] [] := by
                intro n18
                induction n18 with
                | zero => intro R most bestRow safe row H24 z22 hz22 _ hr hm27; exact absurd hm27 (Nat.not_lt_zero _)
                | succ n18 ih19 =>
                  intro R most bestRow safe row H24 z22 hz22 _ hr hm27 hb23 s20 hs20  kx21
                  refine r_iload C dX6_best_67 rfl ?_
                  refine r_iload C dX6_best_69 rfl ?_
                  refine r_ic_ge C dX6_best_71 (fun c28 => ?_) (fun c28 => ?_)
                  · skip
                    have f29 : (((1 : Int32) <<< (((2 : Int32) * n) &&& 31)).toNatClampNeg ≤ row) := nf_leI (by omega) (by omega) hr16 rfl c28
                    have e30 : s20 = (R, most, bestRow, safe) := by rw [hs20, d_X6_best_L67]; try exact (if_pos c28).trans (rfl)
                    rw [e30] at kx21
                    exact kx21 _ (.val (.int (nI row))) rfl z22 hz22 trivial  hb23
                  · skip
                    have f31 : ¬ (((1 : Int32) <<< (((2 : Int32) * n) &&& 31)).toNatClampNeg ≤ row) := nf_leIn (by omega) (by omega) hr16 rfl c28
                    refine r_aload_n C dX6_best_74 rfl ?_
                    refine r_iload_n C dX6_best_75 rfl ?_
                    refine r_iload_n C dX6_best_76 rfl ?_
                    refine r_iload C dX6_best_77 rfl ?_
                    obtain ⟨u32, hu32⟩ : ∃ r, r = d_X6_silverByRow R t n (nI row) := ⟨_, rfl⟩
                    refine r_callV0 C cw_X6_175 (fun l => c_X6_silverByRow l D o_b R t n (nI row) hn14 (by omega) u32 hu32) (rest := []) hb23 (k := 0) rfl rfl celO_6 hb23 (fun q h => by unfold fp1 at h; unfold fp1; omega) rfl rfl rfl (Nat.le_of_ble_eq_true rfl) ⟨Nat.le_of_ble_eq_true rfl, Nat.le_of_ble_eq_true rfl, Nat.le_refl 0, Nat.le_refl 0⟩ dX6_best_79 (fun v H33 hp34 hq35 => ?_)
                    obtain ⟨rfl, hn36⟩ := hp34
                    dsimp only [psh]
                    refine r_istore C dX6_best_82 (ls' := [.val (.ref o_b), .val (.int t), .val (.int n), .val (.int k), .val (.ref ((o_b + 22) + 3 + k6)), .val (.int most), .val (.int bestRow), .val (.int safe), .val (.int ((1 : Int32) <<< (((2 : Int32) * n) &&& 31))), .val (.int (nI row)), .val (.int u32.1)]) rfl hz22 rfl ?_
                    refine r_iload C dX6_best_84 rfl ?_
                    refine r_iload C dX6_best_86 rfl ?_
                    refine r_ic_le C dX6_best_88 (fun c37 => ?_) (fun c37 => ?_)
                    · skip
                      refine r_aload_n C dX6_best_99 rfl ?_
                      refine r_get C hn36 (k := 0) rfl rfl celO_6 fw_X6_34 rfl dX6_best_100 ?_
                      refine r_iload_n C dX6_best_103 rfl ?_
                      obtain ⟨u38, hu38⟩ : ∃ r, r = d_X3_standsAt (shf u32.2 40) t := ⟨_, rfl⟩
                      refine r_callV0 C cw_X6_179 (fun l => c_X3_standsAt l D (o_b + 40) (shf u32.2 40) t u38 hu38) (rest := []) hn36 (k := 40) rfl rfl celO_3 (blk_sub hn36 40 15 rfl rfl) (fun q h => h.elim) rfl rfl rfl (Nat.le_of_ble_eq_true rfl) ⟨Nat.le_of_ble_eq_true rfl, Nat.le_of_ble_eq_true rfl, Nat.le_refl 0, Nat.le_refl 0⟩ dX6_best_104 (fun v H39 hp40 hq41 => ?_)
                      obtain ⟨rfl, hl42⟩ := hp40
                      have hb43 := blk_kept hn36 (n := 215) rfl (fun q h1 h2 => hq41 q (fun h => h))
                      dsimp only [psh]
                      refine r_if_eq C dX6_best_107 (fun c44 => ?_) (fun c44 => ?_)
                      · skip
                        refine r_iinc C dX6_best_113 (nI (row + 1)) rfl (nI_inc row rfl) (ls' := [.val (.ref o_b), .val (.int t), .val (.int n), .val (.int k), .val (.ref ((o_b + 22) + 3 + k6)), .val (.int most), .val (.int bestRow), .val (.int safe), .val (.int ((1 : Int32) <<< (((2 : Int32) * n) &&& 31))), .val (.int (nI (row + 1))), .val (.int u32.1)]) rfl ?_
                        refine r_goto C dX6_best_116 ?_
                        have e45 : s20 = d_X6_best_L67 t n n18 u32.2 most bestRow safe (row + 1) := by rw [hs20, d_X6_best_L67]; try exact (if_neg c28).trans ((lt_eq hu32).trans ((if_pos c37).trans ((lt_eq hu38).trans ((if_pos c44).trans (rfl)))))
                        exact ih19 u32.2 most bestRow safe (row + 1) _ (.val (.int u32.1)) rfl trivial (by omega) (by omega) hb43 s20 e45  kx21
                      · skip
                        refine r_iinc C dX6_best_110 (safe + Int32.ofInt 1) rfl rfl (ls' := [.val (.ref o_b), .val (.int t), .val (.int n), .val (.int k), .val (.ref ((o_b + 22) + 3 + k6)), .val (.int most), .val (.int bestRow), .val (.int (safe + Int32.ofInt 1)), .val (.int ((1 : Int32) <<< (((2 : Int32) * n) &&& 31))), .val (.int (nI row)), .val (.int u32.1)]) rfl ?_
                        refine r_iinc C dX6_best_113 (nI (row + 1)) rfl (nI_inc row rfl) (ls' := [.val (.ref o_b), .val (.int t), .val (.int n), .val (.int k), .val (.ref ((o_b + 22) + 3 + k6)), .val (.int most), .val (.int bestRow), .val (.int (safe + Int32.ofInt 1)), .val (.int ((1 : Int32) <<< (((2 : Int32) * n) &&& 31))), .val (.int (nI (row + 1))), .val (.int u32.1)]) rfl ?_
                        refine r_goto C dX6_best_116 ?_
                        have e46 : s20 = d_X6_best_L67 t n n18 u32.2 most bestRow (safe + Int32.ofInt 1) (row + 1) := by rw [hs20, d_X6_best_L67]; try exact (if_neg c28).trans ((lt_eq hu32).trans ((if_pos c37).trans ((lt_eq hu38).trans ((if_neg c44).trans (rfl)))))
                        exact ih19 u32.2 most bestRow (safe + Int32.ofInt 1) (row + 1) _ (.val (.int u32.1)) rfl trivial (by omega) (by omega) hb43 s20 e46  kx21
                    · skip
                      refine r_iload C dX6_best_91 rfl ?_
                      refine r_istore C dX6_best_93 (ls' := [.val (.ref o_b), .val (.int t), .val (.int n), .val (.int k), .val (.ref ((o_b + 22) + 3 + k6)), .val (.int u32.1), .val (.int bestRow), .val (.int safe), .val (.int ((1 : Int32) <<< (((2 : Int32) * n) &&& 31))), .val (.int (nI row)), .val (.int u32.1)]) rfl rfl rfl ?_
                      refine r_iload C dX6_best_95 rfl ?_
                      refine r_istore C dX6_best_97 (ls' := [.val (.ref o_b), .val (.int t), .val (.int n), .val (.int k), .val (.ref ((o_b + 22) + 3 + k6)), .val (.int u32.1), .val (.int (nI row)), .val (.int safe), .val (.int ((1 : Int32) <<< (((2 : Int32) * n) &&& 31))), .val (.int (nI row)), .val (.int u32.1)]) rfl rfl rfl ?_
                      refine r_aload_n C dX6_best_99 rfl ?_
                      refine r_get C hn36 (k := 0) rfl rfl celO_6 fw_X6_34 rfl dX6_best_100 ?_
                      refine r_iload_n C dX6_best_103 rfl ?_
                      obtain ⟨u47, hu47⟩ : ∃ r, r = d_X3_standsAt (shf u32.2 40) t := ⟨_, rfl⟩
                      refine r_callV0 C cw_X6_179 (fun l => c_X3_standsAt l D (o_b + 40) (shf u32.2 40) t u47 hu47) (rest := []) hn36 (k := 40) rfl rfl celO_3 (blk_sub hn36 40 15 rfl rfl) (fun q h => h.elim) rfl rfl rfl (Nat.le_of_ble_eq_true rfl) ⟨Nat.le_of_ble_eq_true rfl, Nat.le_of_ble_eq_true rfl, Nat.le_refl 0, Nat.le_refl 0⟩ dX6_best_104 (fun v H48 hp49 hq50 => ?_)
                      obtain ⟨rfl, hl51⟩ := hp49
                      have hb52 := blk_kept hn36 (n := 215) rfl (fun q h1 h2 => hq50 q (fun h => h))
                      dsimp only [psh]
                      refine r_if_eq C dX6_best_107 (fun c53 => ?_) (fun c53 => ?_)
                      · skip
                        refine r_iinc C dX6_best_113 (nI (row + 1)) rfl (nI_inc row rfl) (ls' := [.val (.ref o_b), .val (.int t), .val (.int n), .val (.int k), .val (.ref ((o_b + 22) + 3 + k6)), .val (.int u32.1), .val (.int (nI row)), .val (.int safe), .val (.int ((1 : Int32) <<< (((2 : Int32) * n) &&& 31))), .val (.int (nI (row + 1))), .val (.int u32.1)]) rfl ?_
                        refine r_goto C dX6_best_116 ?_
                        have e54 : s20 = d_X6_best_L67 t n n18 u32.2 u32.1 (nI row) safe (row + 1) := by rw [hs20, d_X6_best_L67]; try exact (if_neg c28).trans ((lt_eq hu32).trans ((if_neg c37).trans ((lt_eq hu47).trans ((if_pos c53).trans (rfl)))))
                        exact ih19 u32.2 u32.1 (nI row) safe (row + 1) _ (.val (.int u32.1)) rfl trivial (by omega) (by omega) hb52 s20 e54  kx21
                      · skip
                        refine r_iinc C dX6_best_110 (safe + Int32.ofInt 1) rfl rfl (ls' := [.val (.ref o_b), .val (.int t), .val (.int n), .val (.int k), .val (.ref ((o_b + 22) + 3 + k6)), .val (.int u32.1), .val (.int (nI row)), .val (.int (safe + Int32.ofInt 1)), .val (.int ((1 : Int32) <<< (((2 : Int32) * n) &&& 31))), .val (.int (nI row)), .val (.int u32.1)]) rfl ?_
                        refine r_iinc C dX6_best_113 (nI (row + 1)) rfl (nI_inc row rfl) (ls' := [.val (.ref o_b), .val (.int t), .val (.int n), .val (.int k), .val (.ref ((o_b + 22) + 3 + k6)), .val (.int u32.1), .val (.int (nI row)), .val (.int (safe + Int32.ofInt 1)), .val (.int ((1 : Int32) <<< (((2 : Int32) * n) &&& 31))), .val (.int (nI (row + 1))), .val (.int u32.1)]) rfl ?_
                        refine r_goto C dX6_best_116 ?_
                        have e55 : s20 = d_X6_best_L67 t n n18 u32.2 u32.1 (nI row) (safe + Int32.ofInt 1) (row + 1) := by rw [hs20, d_X6_best_L67]; try exact (if_neg c28).trans ((lt_eq hu32).trans ((if_neg c37).trans ((lt_eq hu47).trans ((if_neg c53).trans (rfl)))))
                        exact ih19 u32.2 u32.1 (nI row) (safe + Int32.ofInt 1) (row + 1) _ (.val (.int u32.1)) rfl trivial (by omega) (by omega) hb52 s20 e55  kx21
              obtain ⟨s56, hs56⟩ : ∃ r, r = d_X6_best_L67 t n 257 R_b (-1 : Int32) (0 : Int32) (0 : Int32) 0 := ⟨_, rfl⟩
              refine d_X6_best_L67_w 257 R_b (-1 : Int32) (0 : Int32) (0 : Int32) 0 _ .unset trivial trivial (by omega) (by omega) hb5 s56 hs56  (fun H58 z25 hz25 z26 hz26 e59  hb57 => ?_)
              refine r_iload_n C dX6_best_119 rfl ?_
              refine r_iconst C dX6_best_120 (-1 : Int32) (by decide) ?_
              refine r_ic_ne C dX6_best_121 (fun c60 => ?_) (fun c60 => ?_)
              · skip
                refine r_iload_n C dX6_best_127 rfl ?_
                refine r_if_ne C dX6_best_128 (fun c61 => ?_) (fun c61 => ?_)
                · skip
                  refine r_iload C dX6_best_136 rfl ?_
                  refine r_iload_n C dX6_best_138 rfl ?_
                  refine r_iload_n C dX6_best_139 rfl ?_
                  obtain ⟨u62, hu62⟩ : ∃ r, r = d_X6_wayInRow s56.2.2.1 n k := ⟨_, rfl⟩
                  refine r_callS0 C cw_X6_183 (fun l => c_X6_wayInRow l D s56.2.2.1 n k u62 hu62) (rest := []) trivial (fun q h => h.elim) rfl rfl rfl (Nat.le_of_ble_eq_true rfl) ⟨Nat.le_of_ble_eq_true rfl, Nat.le_of_ble_eq_true rfl, Nat.le_refl 0, Nat.le_refl 0⟩ dX6_best_140 (fun v H63 hp64 hq65 => ?_)
                  subst hp64
                  have hb66 := blk_kept hb57 (n := 215) rfl (fun q h1 h2 => hq65 q (fun h => h))
                  dsimp only [psh]
                  refine r_iret C dX6_best_143 ?_
                  have er : res = (u62, s56.1) := by rw [hres, d_X6_best]; try exact (oc_some hu1').trans ((if_neg c9).trans ((if_neg c10).trans ((if_neg c11).trans ((if_pos c12).trans ((if_pos c13).trans ((lt_eq hs56).trans ((if_neg c60).trans ((if_neg c61).trans ((lt_eq hu62).trans (rfl))))))))))
                  rw [er]
                  exact ⟨rfl, hb66⟩
                · skip
                  refine r_iload C dX6_best_131 rfl ?_
                  refine r_goto C dX6_best_133 ?_
                  refine r_iret C dX6_best_143 ?_
                  have er : res = (s56.2.1, s56.1) := by rw [hres, d_X6_best]; try exact (oc_some hu1').trans ((if_neg c9).trans ((if_neg c10).trans ((if_neg c11).trans ((if_pos c12).trans ((if_pos c13).trans ((lt_eq hs56).trans ((if_neg c60).trans ((if_pos c61).trans (rfl)))))))))
                  rw [er]
                  exact ⟨rfl, hb57⟩
              · skip
                refine r_iload C dX6_best_124 rfl ?_
                refine r_iret C dX6_best_126 ?_
                have er : res = (s56.2.2.2, s56.1) := by rw [hres, d_X6_best]; try exact (oc_some hu1').trans ((if_neg c9).trans ((if_neg c10).trans ((if_neg c11).trans ((if_pos c12).trans ((if_pos c13).trans ((lt_eq hs56).trans ((if_pos c60).trans (rfl))))))))
                rw [er]
                exact ⟨rfl, hb57⟩
            · skip
              refine r_bipush C dX6_best_45 (-2 : Int32) (by decide) ?_
              refine r_iret C dX6_best_47 ?_
              have er : res = ((-2 : Int32), R_b) := by rw [hres, d_X6_best]; try exact (oc_some hu1').trans ((if_neg c9).trans ((if_neg c10).trans ((if_neg c11).trans ((if_pos c12).trans ((if_neg c13).trans (rfl))))))
              rw [er]
              exact ⟨rfl, hb5⟩
          · skip
            refine r_iconst C dX6_best_35 (-1 : Int32) (by decide) ?_
            refine r_iret C dX6_best_36 ?_
            have er : res = ((-1 : Int32), R_b) := by rw [hres, d_X6_best]; try exact (oc_some hu1').trans ((if_neg c9).trans ((if_neg c10).trans ((if_neg c11).trans ((if_neg c12).trans (rfl)))))
            rw [er]
            exact ⟨rfl, hb5⟩
