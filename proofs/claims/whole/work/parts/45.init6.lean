/-! the constructor of PaidToGoAway -/
def G6 : Nat → Nat → Int32 := (glue (glue (glue (glue (glue (glue (glue (glue (glue Z0 1 Z0) 3 RF) 21 RF) 39 Z0) 54 ZS) 176 ZS) 208 Z0) 212 Z0) 213 Z0)
def R6 : Nat → Nat → Int32 := fun k => match k with | 0 => fun _ => 0 | k + 1 => G6 k
set_option maxHeartbeats 8000000 in
set_option maxRecDepth 100000 in
theorem c_X6_init (B : Nat) (aK aV : Nat → Nat) (l : Launch) (D : DD) (b : Nat) (hB : B ≤ b) : MtX B aK aV l D yX6_init cX6_init 1 none 5 122 214 1686 [.ref b] (fun H => raw D 6 b [.null, .int 0, .null, .null, .null, .null, .null, .null, .null, .null, .null] H ∧ H.size = b + 1) (fun v H => v = none ∧ blk D ksMain b R6 H) (fp1 b 215) := by
  refine mtX_of (own := RX6) (ls := [.val (.ref b)]) rfl (by decide +kernel) rfl ?_
  intro x H C hi X hP
  obtain ⟨hr, hz⟩ := hP
  have hA : ∀ q, fp1 b 215 q → B ≤ q := fun q hq => by unfold fp1 at hq; omega
  refine r_aload_n C dX6_init_0 rfl ?_
  refine r_objInit C oi_X6_1 rfl ⟨Nat.le_of_ble_eq_true rfl, Nat.le_of_ble_eq_true rfl⟩ dX6_init_1 ?_
  refine r_aload_n C dX6_init_4 rfl ?_
  refine r_sipush C dX6_init_5 (200 : Int32) (by decide) ?_
  refine r_newC C ac_char (N := 200) (by decide) (by decide) (by decide) ⟨Nat.le_of_ble_eq_true rfl, Nat.le_of_ble_eq_true rfl⟩ dX6_init_8 hz (fun H1 hc2 hz3 hq4 => ?_)
  have hr5 := raw_kept hr (hq4 b (by omega))
  refine r_putQ C hi hr5 (by unfold fp1; omega) fq_X6_9 (Nat.le_of_ble_eq_true rfl) dX6_init_10 (fs' := [.ref (b + 1), .int 0, .null, .null, .null, .null, .null, .null, .null, .null, .null]) rfl (fun H6 hr7 hz8 hq9 => ?_)
  have hc10 := cel_kept hc2 (hq9 _ (by omega))
  have hn11 : blk D [(9, 200)] (b + 1) Z0 _ := blk_1 hc10
  have hz12 : H6.size = b + 2 := by rw [hz8, hz3]
  refine r_aload_n C dX6_init_13 rfl ?_
  refine r_newO C nw_X6_13 ⟨Nat.le_of_ble_eq_true rfl, Nat.le_of_ble_eq_true rfl⟩ dX6_init_14 hz12 (fun H13 ho14 hz15 hq16 => ?_)
  have hr17 := raw_kept hr7 (hq16 b (by omega))
  have hb18 := blk_kept hn11 (n := 1) rfl (fun q h1 h2 => hq16 q (by omega))
  refine r_dup C dX6_init_17 rfl ?_
  refine r_callI C ci_X6_15 (fun l => c_X2_init l D (b + 2)) (rest := [.ref (b + 2), .ref b]) ⟨ho14, hz15⟩ (fun q hq => by unfold fp1 at hq ⊢; omega) rfl rfl rfl (Nat.le_of_ble_eq_true rfl) ⟨Nat.le_of_ble_eq_true rfl, Nat.le_of_ble_eq_true rfl, Nat.le_of_ble_eq_true rfl, Nat.le_of_ble_eq_true rfl⟩ dX6_init_18 (fun v H19 hv22 hz20 hq21 => ?_)
  obtain ⟨rfl, hn23⟩ := hv22
  have hr24 := raw_kept hr17 (hq21 b (by omega) (by unfold fp1; omega))
  have hb25 := blk_kept hb18 (n := 1) rfl (fun q h1 h2 => hq21 q (by omega) (by unfold fp1; omega))
  have hz26 : H19.size = b + 4 := by rw [hz20, hz15]
  dsimp only [psh]
  refine r_putQ C hi hr24 (by unfold fp1; omega) fq_X6_16 (Nat.le_of_ble_eq_true rfl) dX6_init_21 (fs' := [.ref (b + 1), .int 0, .ref (b + 2), .null, .null, .null, .null, .null, .null, .null, .null]) rfl (fun H27 hr28 hz29 hq30 => ?_)
  have hn31 := blk_kept hn23 (n := 2) rfl (fun q h1 h2 => hq30 q (by omega))
  have hb32 := blk_kept hb25 (n := 1) rfl (fun q h1 h2 => hq30 q (by omega))
  have hz33 : H27.size = b + 4 := by rw [hz29, hz26]
  have hb34 := blk_app hb32 hn31 (n := 1) rfl
  refine r_aload_n C dX6_init_24 rfl ?_
  refine r_callSX C X hA cw_X6_20 (fun l => c_X6_firstRiver B aK aV l D (b + 4) (by omega)) (rest := [.ref b]) hz33 (fun q hq => by unfold fp1 at hq ⊢; omega) rfl rfl rfl (Nat.le_of_ble_eq_true rfl) ⟨Nat.le_of_ble_eq_true rfl, Nat.le_of_ble_eq_true rfl, Nat.le_of_ble_eq_true rfl, Nat.le_of_ble_eq_true rfl⟩ dX6_init_25 (fun v H35 hv38 hz36 hq37 => ?_)
  obtain ⟨rfl, hn39⟩ := hv38
  have hr40 := raw_kept hr28 (hq37 b (by omega) (by unfold fp1; omega))
  have hb41 := blk_kept hb34 (n := 3) rfl (fun q h1 h2 => hq37 q (by omega) (by unfold fp1; omega))
  have hz42 : H35.size = b + 22 := by rw [hz36, hz33]
  dsimp only [psh]
  refine r_putQ C hi hr40 (by unfold fp1; omega) fq_X6_24 (Nat.le_of_ble_eq_true rfl) dX6_init_28 (fs' := [.ref (b + 1), .int 0, .ref (b + 2), .ref (b + 4), .null, .null, .null, .null, .null, .null, .null]) rfl (fun H43 hr44 hz45 hq46 => ?_)
  have hn47 := blk_kept hn39 (n := 18) rfl (fun q h1 h2 => hq46 q (by omega))
  have hb48 := blk_kept hb41 (n := 3) rfl (fun q h1 h2 => hq46 q (by omega))
  have hz49 : H43.size = b + 22 := by rw [hz45, hz42]
  have hb50 := blk_app hb48 hn47 (n := 3) rfl
  refine r_aload_n C dX6_init_31 rfl ?_
  refine r_callSX C X hA cw_X6_20 (fun l => c_X6_firstRiver B aK aV l D (b + 22) (by omega)) (rest := [.ref b]) hz49 (fun q hq => by unfold fp1 at hq ⊢; omega) rfl rfl rfl (Nat.le_of_ble_eq_true rfl) ⟨Nat.le_of_ble_eq_true rfl, Nat.le_of_ble_eq_true rfl, Nat.le_of_ble_eq_true rfl, Nat.le_of_ble_eq_true rfl⟩ dX6_init_32 (fun v H51 hv54 hz52 hq53 => ?_)
  obtain ⟨rfl, hn55⟩ := hv54
  have hr56 := raw_kept hr44 (hq53 b (by omega) (by unfold fp1; omega))
  have hb57 := blk_kept hb50 (n := 21) rfl (fun q h1 h2 => hq53 q (by omega) (by unfold fp1; omega))
  have hz58 : H51.size = b + 40 := by rw [hz52, hz49]
  dsimp only [psh]
  refine r_putQ C hi hr56 (by unfold fp1; omega) fq_X6_28 (Nat.le_of_ble_eq_true rfl) dX6_init_35 (fs' := [.ref (b + 1), .int 0, .ref (b + 2), .ref (b + 4), .ref (b + 22), .null, .null, .null, .null, .null, .null]) rfl (fun H59 hr60 hz61 hq62 => ?_)
  have hn63 := blk_kept hn55 (n := 18) rfl (fun q h1 h2 => hq62 q (by omega))
  have hb64 := blk_kept hb57 (n := 21) rfl (fun q h1 h2 => hq62 q (by omega))
  have hz65 : H59.size = b + 40 := by rw [hz61, hz58]
  have hb66 := blk_app hb64 hn63 (n := 21) rfl
  refine r_aload_n C dX6_init_38 rfl ?_
  refine r_newO C nw_X6_31 ⟨Nat.le_of_ble_eq_true rfl, Nat.le_of_ble_eq_true rfl⟩ dX6_init_39 hz65 (fun H67 ho68 hz69 hq70 => ?_)
  have hr71 := raw_kept hr60 (hq70 b (by omega))
  have hb72 := blk_kept hb66 (n := 39) rfl (fun q h1 h2 => hq70 q (by omega))
  refine r_dup C dX6_init_42 rfl ?_
  refine r_callI C ci_X6_33 (fun l => c_X3_init l D (b + 40)) (rest := [.ref (b + 40), .ref b]) ⟨ho68, hz69⟩ (fun q hq => by unfold fp1 at hq ⊢; omega) rfl rfl rfl (Nat.le_of_ble_eq_true rfl) ⟨Nat.le_of_ble_eq_true rfl, Nat.le_of_ble_eq_true rfl, Nat.le_of_ble_eq_true rfl, Nat.le_of_ble_eq_true rfl⟩ dX6_init_43 (fun v H73 hv76 hz74 hq75 => ?_)
  obtain ⟨rfl, hn77⟩ := hv76
  have hr78 := raw_kept hr71 (hq75 b (by omega) (by unfold fp1; omega))
  have hb79 := blk_kept hb72 (n := 39) rfl (fun q h1 h2 => hq75 q (by omega) (by unfold fp1; omega))
  have hz80 : H73.size = b + 55 := by rw [hz74, hz69]
  dsimp only [psh]
  refine r_putQ C hi hr78 (by unfold fp1; omega) fq_X6_34 (Nat.le_of_ble_eq_true rfl) dX6_init_46 (fs' := [.ref (b + 1), .int 0, .ref (b + 2), .ref (b + 4), .ref (b + 22), .ref (b + 40), .null, .null, .null, .null, .null]) rfl (fun H81 hr82 hz83 hq84 => ?_)
  have hn85 := blk_kept hn77 (n := 15) rfl (fun q h1 h2 => hq84 q (by omega))
  have hb86 := blk_kept hb79 (n := 39) rfl (fun q h1 h2 => hq84 q (by omega))
  have hz87 : H81.size = b + 55 := by rw [hz83, hz80]
  have hb88 := blk_app hb86 hn85 (n := 39) rfl
  refine r_aload_n C dX6_init_49 rfl ?_
  refine r_newO C nw_X6_37 ⟨Nat.le_of_ble_eq_true rfl, Nat.le_of_ble_eq_true rfl⟩ dX6_init_50 hz87 (fun H89 ho90 hz91 hq92 => ?_)
  have hr93 := raw_kept hr82 (hq92 b (by omega))
  have hb94 := blk_kept hb88 (n := 54) rfl (fun q h1 h2 => hq92 q (by omega))
  refine r_dup C dX6_init_53 rfl ?_
  refine r_bipush C dX6_init_54 (8 : Int32) (by decide) ?_
  refine r_callI C ci_X6_39 (fun l => c_X4_init l D (b + 55) 8 (Or.inl rfl) (8 : Int32) (by decide)) (rest := [.ref (b + 55), .ref b]) ⟨ho90, hz91⟩ (fun q hq => by unfold fp1 at hq ⊢; omega) rfl rfl rfl (Nat.le_of_ble_eq_true rfl) ⟨Nat.le_of_ble_eq_true rfl, Nat.le_of_ble_eq_true rfl, Nat.le_of_ble_eq_true rfl, Nat.le_of_ble_eq_true rfl⟩ dX6_init_56 (fun v H95 hv98 hz96 hq97 => ?_)
  obtain ⟨rfl, hn99⟩ := hv98
  have hr100 := raw_kept hr93 (hq97 b (by omega) (by unfold fp1; omega))
  have hb101 := blk_kept hb94 (n := 54) rfl (fun q h1 h2 => hq97 q (by omega) (by unfold fp1; omega))
  have hz102 : H95.size = b + 177 := by rw [hz96, hz91]
  dsimp only [psh]
  refine r_putQ C hi hr100 (by unfold fp1; omega) fq_X6_42 (Nat.le_of_ble_eq_true rfl) dX6_init_59 (fs' := [.ref (b + 1), .int 0, .ref (b + 2), .ref (b + 4), .ref (b + 22), .ref (b + 40), .ref (b + 55), .null, .null, .null, .null]) rfl (fun H103 hr104 hz105 hq106 => ?_)
  have hn107 := blk_kept hn99 (n := 122) rfl (fun q h1 h2 => hq106 q (by omega))
  have hb108 := blk_kept hb101 (n := 54) rfl (fun q h1 h2 => hq106 q (by omega))
  have hz109 : H103.size = b + 177 := by rw [hz105, hz102]
  have hb110 := blk_app hb108 hn107 (n := 54) rfl
  refine r_aload_n C dX6_init_62 rfl ?_
  refine r_newO C nw_X6_37 ⟨Nat.le_of_ble_eq_true rfl, Nat.le_of_ble_eq_true rfl⟩ dX6_init_63 hz109 (fun H111 ho112 hz113 hq114 => ?_)
  have hr115 := raw_kept hr104 (hq114 b (by omega))
  have hb116 := blk_kept hb110 (n := 176) rfl (fun q h1 h2 => hq114 q (by omega))
  refine r_dup C dX6_init_66 rfl ?_
  refine r_iconst C dX6_init_67 (2 : Int32) (by decide) ?_
  refine r_callI C ci_X6_39 (fun l => c_X4_init l D (b + 177) 2 (Or.inr rfl) (2 : Int32) (by decide)) (rest := [.ref (b + 177), .ref b]) ⟨ho112, hz113⟩ (fun q hq => by unfold fp1 at hq ⊢; omega) rfl rfl rfl (Nat.le_of_ble_eq_true rfl) ⟨Nat.le_of_ble_eq_true rfl, Nat.le_of_ble_eq_true rfl, Nat.le_of_ble_eq_true rfl, Nat.le_of_ble_eq_true rfl⟩ dX6_init_68 (fun v H117 hv120 hz118 hq119 => ?_)
  obtain ⟨rfl, hn121⟩ := hv120
  have hr122 := raw_kept hr115 (hq119 b (by omega) (by unfold fp1; omega))
  have hb123 := blk_kept hb116 (n := 176) rfl (fun q h1 h2 => hq119 q (by omega) (by unfold fp1; omega))
  have hz124 : H117.size = b + 209 := by rw [hz118, hz113]
  dsimp only [psh]
  refine r_putQ C hi hr122 (by unfold fp1; omega) fq_X6_46 (Nat.le_of_ble_eq_true rfl) dX6_init_71 (fs' := [.ref (b + 1), .int 0, .ref (b + 2), .ref (b + 4), .ref (b + 22), .ref (b + 40), .ref (b + 55), .ref (b + 177), .null, .null, .null]) rfl (fun H125 hr126 hz127 hq128 => ?_)
  have hn129 := blk_kept hn121 (n := 32) rfl (fun q h1 h2 => hq128 q (by omega))
  have hb130 := blk_kept hb123 (n := 176) rfl (fun q h1 h2 => hq128 q (by omega))
  have hz131 : H125.size = b + 209 := by rw [hz127, hz124]
  have hb132 := blk_app hb130 hn129 (n := 176) rfl
  refine r_aload_n C dX6_init_74 rfl ?_
  refine r_newO C nw_X6_49 ⟨Nat.le_of_ble_eq_true rfl, Nat.le_of_ble_eq_true rfl⟩ dX6_init_75 hz131 (fun H133 ho134 hz135 hq136 => ?_)
  have hr137 := raw_kept hr126 (hq136 b (by omega))
  have hb138 := blk_kept hb132 (n := 208) rfl (fun q h1 h2 => hq136 q (by omega))
  refine r_dup C dX6_init_78 rfl ?_
  refine r_callI C ci_X6_51 (fun l => c_X1_init l D (b + 209)) (rest := [.ref (b + 209), .ref b]) ⟨ho134, hz135⟩ (fun q hq => by unfold fp1 at hq ⊢; omega) rfl rfl rfl (Nat.le_of_ble_eq_true rfl) ⟨Nat.le_of_ble_eq_true rfl, Nat.le_of_ble_eq_true rfl, Nat.le_of_ble_eq_true rfl, Nat.le_of_ble_eq_true rfl⟩ dX6_init_79 (fun v H139 hv142 hz140 hq141 => ?_)
  obtain ⟨rfl, hn143⟩ := hv142
  have hr144 := raw_kept hr137 (hq141 b (by omega) (by unfold fp1; omega))
  have hb145 := blk_kept hb138 (n := 208) rfl (fun q h1 h2 => hq141 q (by omega) (by unfold fp1; omega))
  have hz146 : H139.size = b + 213 := by rw [hz140, hz135]
  dsimp only [psh]
  refine r_putQ C hi hr144 (by unfold fp1; omega) fq_X6_52 (Nat.le_of_ble_eq_true rfl) dX6_init_82 (fs' := [.ref (b + 1), .int 0, .ref (b + 2), .ref (b + 4), .ref (b + 22), .ref (b + 40), .ref (b + 55), .ref (b + 177), .ref (b + 209), .null, .null]) rfl (fun H147 hr148 hz149 hq150 => ?_)
  have hn151 := blk_kept hn143 (n := 4) rfl (fun q h1 h2 => hq150 q (by omega))
  have hb152 := blk_kept hb145 (n := 208) rfl (fun q h1 h2 => hq150 q (by omega))
  have hz153 : H147.size = b + 213 := by rw [hz149, hz146]
  have hb154 := blk_app hb152 hn151 (n := 208) rfl
  refine r_aload_n C dX6_init_85 rfl ?_
  refine r_bipush C dX6_init_86 (16 : Int32) (by decide) ?_
  refine r_newI C ac_int (N := 16) (by decide) (by decide) (by decide) ⟨Nat.le_of_ble_eq_true rfl, Nat.le_of_ble_eq_true rfl⟩ dX6_init_88 hz153 (fun H155 hc156 hz157 hq158 => ?_)
  have hr159 := raw_kept hr148 (hq158 b (by omega))
  have hb160 := blk_kept hb154 (n := 212) rfl (fun q h1 h2 => hq158 q (by omega))
  refine r_putQ C hi hr159 (by unfold fp1; omega) fq_X6_56 (Nat.le_of_ble_eq_true rfl) dX6_init_90 (fs' := [.ref (b + 1), .int 0, .ref (b + 2), .ref (b + 4), .ref (b + 22), .ref (b + 40), .ref (b + 55), .ref (b + 177), .ref (b + 209), .ref (b + 213), .null]) rfl (fun H161 hr162 hz163 hq164 => ?_)
  have hc165 := cel_kept hc156 (hq164 _ (by omega))
  have hn166 : blk D [(8, 16)] (b + 213) Z0 _ := blk_1 hc165
  have hb167 := blk_kept hb160 (n := 212) rfl (fun q h1 h2 => hq164 q (by omega))
  have hz168 : H161.size = b + 214 := by rw [hz163, hz157]
  have hb169 := blk_app hb167 hn166 (n := 212) rfl
  refine r_aload_n C dX6_init_93 rfl ?_
  refine r_bipush C dX6_init_94 (16 : Int32) (by decide) ?_
  refine r_newI C ac_int (N := 16) (by decide) (by decide) (by decide) ⟨Nat.le_of_ble_eq_true rfl, Nat.le_of_ble_eq_true rfl⟩ dX6_init_96 hz168 (fun H170 hc171 hz172 hq173 => ?_)
  have hr174 := raw_kept hr162 (hq173 b (by omega))
  have hb175 := blk_kept hb169 (n := 213) rfl (fun q h1 h2 => hq173 q (by omega))
  refine r_putQ C hi hr174 (by unfold fp1; omega) fq_X6_60 (Nat.le_of_ble_eq_true rfl) dX6_init_98 (fs' := [.ref (b + 1), .int 0, .ref (b + 2), .ref (b + 4), .ref (b + 22), .ref (b + 40), .ref (b + 55), .ref (b + 177), .ref (b + 209), .ref (b + 213), .ref (b + 214)]) rfl (fun H176 hr177 hz178 hq179 => ?_)
  have hc180 := cel_kept hc171 (hq179 _ (by omega))
  have hn181 : blk D [(8, 16)] (b + 214) Z0 _ := blk_1 hc180
  have hb182 := blk_kept hb175 (n := 213) rfl (fun q h1 h2 => hq179 q (by omega))
  have hz183 : H176.size = b + 215 := by rw [hz178, hz172]
  have hb184 := blk_app hb182 hn181 (n := 213) rfl
  refine r_vret C dX6_init_101 ⟨rfl, blk_cons (raw_cel hr177 celO_6 rfl trivial) (blk_ks hb184 ?_)⟩
  decide +kernel
