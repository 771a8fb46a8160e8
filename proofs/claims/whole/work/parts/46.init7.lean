/-! the constructor of the reference -/
def M0 : Nat → Nat → Int32 := pt (pt (pt Z0 0 10 4) 0 11 2) 0 12 10
def lay1 (R : Nat → Nat → Int32) (t k s i w way : Int32) : Nat → Nat → Int32 := spl (spl R 3 1 (d_X7_layTown R (shf R 3) (shf R 4) t k s i w way).1) 4 1 (d_X7_layTown R (shf R 3) (shf R 4) t k s i w way).2
def M1 : Nat → Nat → Int32 := lay1 M0 0 0 60 8 2 0
def M2 : Nat → Nat → Int32 := lay1 M1 1 1 40 10 4 1
def M3 : Nat → Nat → Int32 := lay1 M2 2 2 30 5 0 2
def M4 : Nat → Nat → Int32 := lay1 M3 3 0 80 12 1 3
def M5 : Nat → Nat → Int32 := pt (pt (pt (pt M4 4 37 20) 4 38 12) 4 40 15) 4 41 25
def cp1 (R : Nat → Nat → Int32) (i : Nat) : Nat → Nat → Int32 := pt R 5 i (R 3 i)
def M6 : Nat → Nat → Int32 := cp1 (cp1 (cp1 (cp1 (cp1 (cp1 M5 0) 1) 2) 3) 4) 5
def M7 : Nat → Nat → Int32 := spl M6 7 1 (d_X7_copy (shf M6 4) (shf M6 7) 64 64 0 0)
def M8 : Nat → Nat → Int32 := spl M7 6 1 (d_X7_copy (shf M7 4) (shf M7 6) 64 64 0 0)
theorem blk.shf0 {D : DD} {ks : List (Nat × Nat)} {o : Nat} {R : Nat → Nat → Int32} {H : Heap} (h : blk D ks o (shf R 0) H) : blk D ks o R H := blk_to h (fun k _ => by unfold shf; rw [Nat.zero_add])
def Fin7 (x : CX) (D : DD) (b : Nat) : State → Prop := Fin x (fun v H => v = none ∧ blk D ksModel b M8 H) (fp1 b 14) 13 1138
def rm7 : Room := { frames := 1, cells := 13, slots := 1138, locals := 26 }
set_option maxHeartbeats 8000000 in
set_option maxRecDepth 100000 in
theorem c_X7_init2_6 {x : CX} {D : DD} {b : Nat} {H : Heap} (C : Cx x RX7 cX7_init 2 D none rm7) (hb : blk D ksModel b M6 H) : WG x (fp1 b 14) (Fin7 x D b) H 13 1138 209 [.val (.ref b), .val (.int 6)] [] := by
  refine r_iload_n C dX7_init_209 rfl ?_
  refine r_bipush C dX7_init_210 (6 : Int32) (by decide) ?_
  refine r_ic_ge C dX7_init_212 (fun _ => ?_) (fun h => by exact absurd (by decide) h)
  refine r_aload_n C dX7_init_233 rfl ?_
  refine r_get C hb (k := 0) rfl rfl celO_7 fw_X7_19 rfl dX7_init_234 ?_
  refine r_iconst C dX7_init_237 (0 : Int32) (by decide) ?_
  refine r_aload_n C dX7_init_238 rfl ?_
  refine r_get C hb (k := 0) rfl rfl celO_7 fw_X7_28 rfl dX7_init_239 ?_
  refine r_iconst C dX7_init_242 (0 : Int32) (by decide) ?_
  refine r_callS0 C cw_X7_63 (fun l => c_X7_copy l D (b + 4) (b + 7) (shf M6 4) (shf M6 7) 64 64 0 0 (by decide) (by decide) (by decide) (by decide) (by decide) (by decide) (by omega) _ rfl) (rest := []) ⟨blk_sub hb 4 1 rfl rfl, blk_sub hb 7 1 rfl rfl⟩ (fun q hq => by unfold fp1 at hq ⊢; omega) rfl rfl rfl (Nat.le_of_ble_eq_true rfl) ⟨Nat.le_of_ble_eq_true rfl, Nat.le_of_ble_eq_true rfl, Nat.le_of_ble_eq_true rfl, Nat.le_of_ble_eq_true rfl⟩ dX7_init_243 (fun v H256 hv257 hq258 => ?_)
  obtain ⟨rfl, hb259⟩ := hv257
  have hb260 : blk D ksModel b M7 _ := blk_spl hb 7 1 rfl rfl hb259 (fun q hh => hq258 q (by unfold fp1; omega))
  dsimp only [psh]
  refine r_aload_n C dX7_init_246 rfl ?_
  refine r_get C hb260 (k := 0) rfl rfl celO_7 fw_X7_19 rfl dX7_init_247 ?_
  refine r_iconst C dX7_init_250 (0 : Int32) (by decide) ?_
  refine r_aload_n C dX7_init_251 rfl ?_
  refine r_get C hb260 (k := 0) rfl rfl celO_7 fw_X7_25 rfl dX7_init_252 ?_
  refine r_iconst C dX7_init_255 (0 : Int32) (by decide) ?_
  refine r_callS0 C cw_X7_63 (fun l => c_X7_copy l D (b + 4) (b + 6) (shf M7 4) (shf M7 6) 64 64 0 0 (by decide) (by decide) (by decide) (by decide) (by decide) (by decide) (by omega) _ rfl) (rest := []) ⟨blk_sub hb260 4 1 rfl rfl, blk_sub hb260 6 1 rfl rfl⟩ (fun q hq => by unfold fp1 at hq ⊢; omega) rfl rfl rfl (Nat.le_of_ble_eq_true rfl) ⟨Nat.le_of_ble_eq_true rfl, Nat.le_of_ble_eq_true rfl, Nat.le_of_ble_eq_true rfl, Nat.le_of_ble_eq_true rfl⟩ dX7_init_256 (fun v H261 hv262 hq263 => ?_)
  obtain ⟨rfl, hb264⟩ := hv262
  have hb265 : blk D ksModel b M8 _ := blk_spl hb260 6 1 rfl rfl hb264 (fun q hh => hq263 q (by unfold fp1; omega))
  dsimp only [psh]
  exact r_vret C dX7_init_259 ⟨rfl, hb265⟩
set_option maxHeartbeats 8000000 in
set_option maxRecDepth 100000 in
theorem c_X7_init2_5 {x : CX} {D : DD} {b : Nat} {H : Heap} (C : Cx x RX7 cX7_init 2 D none rm7) (hb : blk D ksModel b M5 H) : WG x (fp1 b 14) (Fin7 x D b) H 13 1138 207 [.val (.ref b), .unset] [] := by
  refine r_iconst C dX7_init_207 (0 : Int32) (by decide) ?_
  refine r_istore_n C dX7_init_208 (ls' := [.val (.ref b), .val (.int 0)]) rfl trivial rfl ?_
  refine r_iload_n C dX7_init_209 rfl ?_
  refine r_bipush C dX7_init_210 (6 : Int32) (by decide) ?_
  refine r_ic_ge C dX7_init_212 (fun h => by exact absurd h (by decide)) (fun _ => ?_)
  refine r_aload_n C dX7_init_215 rfl ?_
  refine r_get C hb (k := 0) rfl rfl celO_7 fw_X7_22 rfl dX7_init_216 ?_
  refine r_iload_n C dX7_init_219 rfl ?_
  refine r_aload_n C dX7_init_220 rfl ?_
  refine r_get C hb (k := 0) rfl rfl celO_7 fw_X7_16 rfl dX7_init_221 ?_
  refine r_iload_n C dX7_init_224 rfl ?_
  refine r_iald C hb (k := 3) rfl rfl (by unfold vp_in; decide) (j := 0) (by decide) dX7_init_225 ?_
  refine r_iast C hb (k := 5) rfl rfl (by unfold fp1; omega) (by unfold vp_in; decide) (j := 0) (by decide) dX7_init_226 (fun H238 hb239 hq240 => ?_)
  refine r_iinc C dX7_init_227 (1 : Int32) rfl (by decide) (ls' := [.val (.ref b), .val (.int 1)]) rfl ?_
  refine r_goto C dX7_init_230 ?_
  refine r_iload_n C dX7_init_209 rfl ?_
  refine r_bipush C dX7_init_210 (6 : Int32) (by decide) ?_
  refine r_ic_ge C dX7_init_212 (fun h => by exact absurd h (by decide)) (fun _ => ?_)
  refine r_aload_n C dX7_init_215 rfl ?_
  refine r_get C hb239 (k := 0) rfl rfl celO_7 fw_X7_22 rfl dX7_init_216 ?_
  refine r_iload_n C dX7_init_219 rfl ?_
  refine r_aload_n C dX7_init_220 rfl ?_
  refine r_get C hb239 (k := 0) rfl rfl celO_7 fw_X7_16 rfl dX7_init_221 ?_
  refine r_iload_n C dX7_init_224 rfl ?_
  refine r_iald C hb239 (k := 3) rfl rfl (by unfold vp_in; decide) (j := 1) (by decide) dX7_init_225 ?_
  refine r_iast C hb239 (k := 5) rfl rfl (by unfold fp1; omega) (by unfold vp_in; decide) (j := 1) (by decide) dX7_init_226 (fun H241 hb242 hq243 => ?_)
  refine r_iinc C dX7_init_227 (2 : Int32) rfl (by decide) (ls' := [.val (.ref b), .val (.int 2)]) rfl ?_
  refine r_goto C dX7_init_230 ?_
  refine r_iload_n C dX7_init_209 rfl ?_
  refine r_bipush C dX7_init_210 (6 : Int32) (by decide) ?_
  refine r_ic_ge C dX7_init_212 (fun h => by exact absurd h (by decide)) (fun _ => ?_)
  refine r_aload_n C dX7_init_215 rfl ?_
  refine r_get C hb242 (k := 0) rfl rfl celO_7 fw_X7_22 rfl dX7_init_216 ?_
  refine r_iload_n C dX7_init_219 rfl ?_
  refine r_aload_n C dX7_init_220 rfl ?_
  refine r_get C hb242 (k := 0) rfl rfl celO_7 fw_X7_16 rfl dX7_init_221 ?_
  refine r_iload_n C dX7_init_224 rfl ?_
  refine r_iald C hb242 (k := 3) rfl rfl (by unfold vp_in; decide) (j := 2) (by decide) dX7_init_225 ?_
  refine r_iast C hb242 (k := 5) rfl rfl (by unfold fp1; omega) (by unfold vp_in; decide) (j := 2) (by decide) dX7_init_226 (fun H244 hb245 hq246 => ?_)
  refine r_iinc C dX7_init_227 (3 : Int32) rfl (by decide) (ls' := [.val (.ref b), .val (.int 3)]) rfl ?_
  refine r_goto C dX7_init_230 ?_
  refine r_iload_n C dX7_init_209 rfl ?_
  refine r_bipush C dX7_init_210 (6 : Int32) (by decide) ?_
  refine r_ic_ge C dX7_init_212 (fun h => by exact absurd h (by decide)) (fun _ => ?_)
  refine r_aload_n C dX7_init_215 rfl ?_
  refine r_get C hb245 (k := 0) rfl rfl celO_7 fw_X7_22 rfl dX7_init_216 ?_
  refine r_iload_n C dX7_init_219 rfl ?_
  refine r_aload_n C dX7_init_220 rfl ?_
  refine r_get C hb245 (k := 0) rfl rfl celO_7 fw_X7_16 rfl dX7_init_221 ?_
  refine r_iload_n C dX7_init_224 rfl ?_
  refine r_iald C hb245 (k := 3) rfl rfl (by unfold vp_in; decide) (j := 3) (by decide) dX7_init_225 ?_
  refine r_iast C hb245 (k := 5) rfl rfl (by unfold fp1; omega) (by unfold vp_in; decide) (j := 3) (by decide) dX7_init_226 (fun H247 hb248 hq249 => ?_)
  refine r_iinc C dX7_init_227 (4 : Int32) rfl (by decide) (ls' := [.val (.ref b), .val (.int 4)]) rfl ?_
  refine r_goto C dX7_init_230 ?_
  refine r_iload_n C dX7_init_209 rfl ?_
  refine r_bipush C dX7_init_210 (6 : Int32) (by decide) ?_
  refine r_ic_ge C dX7_init_212 (fun h => by exact absurd h (by decide)) (fun _ => ?_)
  refine r_aload_n C dX7_init_215 rfl ?_
  refine r_get C hb248 (k := 0) rfl rfl celO_7 fw_X7_22 rfl dX7_init_216 ?_
  refine r_iload_n C dX7_init_219 rfl ?_
  refine r_aload_n C dX7_init_220 rfl ?_
  refine r_get C hb248 (k := 0) rfl rfl celO_7 fw_X7_16 rfl dX7_init_221 ?_
  refine r_iload_n C dX7_init_224 rfl ?_
  refine r_iald C hb248 (k := 3) rfl rfl (by unfold vp_in; decide) (j := 4) (by decide) dX7_init_225 ?_
  refine r_iast C hb248 (k := 5) rfl rfl (by unfold fp1; omega) (by unfold vp_in; decide) (j := 4) (by decide) dX7_init_226 (fun H250 hb251 hq252 => ?_)
  refine r_iinc C dX7_init_227 (5 : Int32) rfl (by decide) (ls' := [.val (.ref b), .val (.int 5)]) rfl ?_
  refine r_goto C dX7_init_230 ?_
  refine r_iload_n C dX7_init_209 rfl ?_
  refine r_bipush C dX7_init_210 (6 : Int32) (by decide) ?_
  refine r_ic_ge C dX7_init_212 (fun h => by exact absurd h (by decide)) (fun _ => ?_)
  refine r_aload_n C dX7_init_215 rfl ?_
  refine r_get C hb251 (k := 0) rfl rfl celO_7 fw_X7_22 rfl dX7_init_216 ?_
  refine r_iload_n C dX7_init_219 rfl ?_
  refine r_aload_n C dX7_init_220 rfl ?_
  refine r_get C hb251 (k := 0) rfl rfl celO_7 fw_X7_16 rfl dX7_init_221 ?_
  refine r_iload_n C dX7_init_224 rfl ?_
  refine r_iald C hb251 (k := 3) rfl rfl (by unfold vp_in; decide) (j := 5) (by decide) dX7_init_225 ?_
  refine r_iast C hb251 (k := 5) rfl rfl (by unfold fp1; omega) (by unfold vp_in; decide) (j := 5) (by decide) dX7_init_226 (fun H253 hb254 hq255 => ?_)
  refine r_iinc C dX7_init_227 (6 : Int32) rfl (by decide) (ls' := [.val (.ref b), .val (.int 6)]) rfl ?_
  refine r_goto C dX7_init_230 ?_
  exact c_X7_init2_6 C hb254
set_option maxHeartbeats 8000000 in
set_option maxRecDepth 100000 in
theorem c_X7_init2_4 {x : CX} {D : DD} {b : Nat} {H : Heap} (C : Cx x RX7 cX7_init 2 D none rm7) (hb : blk D ksModel b M4 H) : WG x (fp1 b 14) (Fin7 x D b) H 13 1138 171 [.val (.ref b), .unset] [] := by
  refine r_aload_n C dX7_init_171 rfl ?_
  refine r_get C hb (k := 0) rfl rfl celO_7 fw_X7_19 rfl dX7_init_172 ?_
  refine r_bipush C dX7_init_175 (37 : Int32) (by decide) ?_
  refine r_bipush C dX7_init_177 (20 : Int32) (by decide) ?_
  refine r_iast C hb (k := 4) rfl rfl (by unfold fp1; omega) (by unfold vp_in; decide) (j := 37) (by decide) dX7_init_179 (fun H226 hb227 hq228 => ?_)
  refine r_aload_n C dX7_init_180 rfl ?_
  refine r_get C hb227 (k := 0) rfl rfl celO_7 fw_X7_19 rfl dX7_init_181 ?_
  refine r_bipush C dX7_init_184 (38 : Int32) (by decide) ?_
  refine r_bipush C dX7_init_186 (12 : Int32) (by decide) ?_
  refine r_iast C hb227 (k := 4) rfl rfl (by unfold fp1; omega) (by unfold vp_in; decide) (j := 38) (by decide) dX7_init_188 (fun H229 hb230 hq231 => ?_)
  refine r_aload_n C dX7_init_189 rfl ?_
  refine r_get C hb230 (k := 0) rfl rfl celO_7 fw_X7_19 rfl dX7_init_190 ?_
  refine r_bipush C dX7_init_193 (40 : Int32) (by decide) ?_
  refine r_bipush C dX7_init_195 (15 : Int32) (by decide) ?_
  refine r_iast C hb230 (k := 4) rfl rfl (by unfold fp1; omega) (by unfold vp_in; decide) (j := 40) (by decide) dX7_init_197 (fun H232 hb233 hq234 => ?_)
  refine r_aload_n C dX7_init_198 rfl ?_
  refine r_get C hb233 (k := 0) rfl rfl celO_7 fw_X7_19 rfl dX7_init_199 ?_
  refine r_bipush C dX7_init_202 (41 : Int32) (by decide) ?_
  refine r_bipush C dX7_init_204 (25 : Int32) (by decide) ?_
  refine r_iast C hb233 (k := 4) rfl rfl (by unfold fp1; omega) (by unfold vp_in; decide) (j := 41) (by decide) dX7_init_206 (fun H235 hb236 hq237 => ?_)
  exact c_X7_init2_5 C hb236
set_option maxHeartbeats 8000000 in
set_option maxRecDepth 100000 in
theorem c_X7_init2_3 {x : CX} {D : DD} {b : Nat} {H : Heap} (C : Cx x RX7 cX7_init 2 D none rm7) (hb : blk D ksModel b M3 H) : WG x (fp1 b 14) (Fin7 x D b) H 13 1138 159 [.val (.ref b), .unset] [] := by
  refine r_aload_n C dX7_init_159 rfl ?_
  refine r_iconst C dX7_init_160 (3 : Int32) (by decide) ?_
  refine r_iconst C dX7_init_161 (0 : Int32) (by decide) ?_
  refine r_bipush C dX7_init_162 (80 : Int32) (by decide) ?_
  refine r_bipush C dX7_init_164 (12 : Int32) (by decide) ?_
  refine r_iconst C dX7_init_166 (1 : Int32) (by decide) ?_
  refine r_iconst C dX7_init_167 (3 : Int32) (by decide) ?_
  refine r_callV0 C cw_X7_59 (fun l => c_X7_layTown l D b M3 (shf M3 3) (shf M3 4) 3 0 80 12 1 3 (by decide) (by decide) _ rfl) (rest := []) hb (k := 0) rfl rfl celO_7 ⟨(blk_sub hb 0 1 rfl rfl : blk D ksM0 b (shf M3 0) _).shf0, blk_sub hb 3 1 rfl rfl, blk_sub hb 4 1 rfl rfl⟩ (fun q hq => by unfold fp2 at hq; unfold fp1; omega) rfl rfl rfl (Nat.le_of_ble_eq_true rfl) ⟨Nat.le_of_ble_eq_true rfl, Nat.le_of_ble_eq_true rfl, Nat.le_of_ble_eq_true rfl, Nat.le_of_ble_eq_true rfl⟩ dX7_init_168 (fun v H220 hv221 hq222 => ?_)
  obtain ⟨rfl, hb223, hb224⟩ := hv221
  have hb225 : blk D ksModel b M4 _ := blk_spl2 hb 3 1 rfl rfl hb223 4 1 rfl rfl hb224 (fun q hh => hq222 q (by unfold fp2; omega))
  dsimp only [psh]
  exact c_X7_init2_4 C hb225
set_option maxHeartbeats 8000000 in
set_option maxRecDepth 100000 in
theorem c_X7_init2_2 {x : CX} {D : DD} {b : Nat} {H : Heap} (C : Cx x RX7 cX7_init 2 D none rm7) (hb : blk D ksModel b M2 H) : WG x (fp1 b 14) (Fin7 x D b) H 13 1138 148 [.val (.ref b), .unset] [] := by
  refine r_aload_n C dX7_init_148 rfl ?_
  refine r_iconst C dX7_init_149 (2 : Int32) (by decide) ?_
  refine r_iconst C dX7_init_150 (2 : Int32) (by decide) ?_
  refine r_bipush C dX7_init_151 (30 : Int32) (by decide) ?_
  refine r_iconst C dX7_init_153 (5 : Int32) (by decide) ?_
  refine r_iconst C dX7_init_154 (0 : Int32) (by decide) ?_
  refine r_iconst C dX7_init_155 (2 : Int32) (by decide) ?_
  refine r_callV0 C cw_X7_59 (fun l => c_X7_layTown l D b M2 (shf M2 3) (shf M2 4) 2 2 30 5 0 2 (by decide) (by decide) _ rfl) (rest := []) hb (k := 0) rfl rfl celO_7 ⟨(blk_sub hb 0 1 rfl rfl : blk D ksM0 b (shf M2 0) _).shf0, blk_sub hb 3 1 rfl rfl, blk_sub hb 4 1 rfl rfl⟩ (fun q hq => by unfold fp2 at hq; unfold fp1; omega) rfl rfl rfl (Nat.le_of_ble_eq_true rfl) ⟨Nat.le_of_ble_eq_true rfl, Nat.le_of_ble_eq_true rfl, Nat.le_of_ble_eq_true rfl, Nat.le_of_ble_eq_true rfl⟩ dX7_init_156 (fun v H214 hv215 hq216 => ?_)
  obtain ⟨rfl, hb217, hb218⟩ := hv215
  have hb219 : blk D ksModel b M3 _ := blk_spl2 hb 3 1 rfl rfl hb217 4 1 rfl rfl hb218 (fun q hh => hq216 q (by unfold fp2; omega))
  dsimp only [psh]
  exact c_X7_init2_3 C hb219
set_option maxHeartbeats 8000000 in
set_option maxRecDepth 100000 in
theorem c_X7_init2_1 {x : CX} {D : DD} {b : Nat} {H : Heap} (C : Cx x RX7 cX7_init 2 D none rm7) (hb : blk D ksModel b M1 H) : WG x (fp1 b 14) (Fin7 x D b) H 13 1138 136 [.val (.ref b), .unset] [] := by
  refine r_aload_n C dX7_init_136 rfl ?_
  refine r_iconst C dX7_init_137 (1 : Int32) (by decide) ?_
  refine r_iconst C dX7_init_138 (1 : Int32) (by decide) ?_
  refine r_bipush C dX7_init_139 (40 : Int32) (by decide) ?_
  refine r_bipush C dX7_init_141 (10 : Int32) (by decide) ?_
  refine r_iconst C dX7_init_143 (4 : Int32) (by decide) ?_
  refine r_iconst C dX7_init_144 (1 : Int32) (by decide) ?_
  refine r_callV0 C cw_X7_59 (fun l => c_X7_layTown l D b M1 (shf M1 3) (shf M1 4) 1 1 40 10 4 1 (by decide) (by decide) _ rfl) (rest := []) hb (k := 0) rfl rfl celO_7 ⟨(blk_sub hb 0 1 rfl rfl : blk D ksM0 b (shf M1 0) _).shf0, blk_sub hb 3 1 rfl rfl, blk_sub hb 4 1 rfl rfl⟩ (fun q hq => by unfold fp2 at hq; unfold fp1; omega) rfl rfl rfl (Nat.le_of_ble_eq_true rfl) ⟨Nat.le_of_ble_eq_true rfl, Nat.le_of_ble_eq_true rfl, Nat.le_of_ble_eq_true rfl, Nat.le_of_ble_eq_true rfl⟩ dX7_init_145 (fun v H208 hv209 hq210 => ?_)
  obtain ⟨rfl, hb211, hb212⟩ := hv209
  have hb213 : blk D ksModel b M2 _ := blk_spl2 hb 3 1 rfl rfl hb211 4 1 rfl rfl hb212 (fun q hh => hq210 q (by unfold fp2; omega))
  dsimp only [psh]
  exact c_X7_init2_2 C hb213
set_option maxHeartbeats 8000000 in
set_option maxRecDepth 100000 in
theorem c_X7_init2 {x : CX} {D : DD} {b : Nat} {H : Heap} (C : Cx x RX7 cX7_init 2 D none rm7) (hb : blk D ksModel b M0 H) : WG x (fp1 b 14) (Fin7 x D b) H 13 1138 124 [.val (.ref b), .unset] [] := by
  refine r_aload_n C dX7_init_124 rfl ?_
  refine r_iconst C dX7_init_125 (0 : Int32) (by decide) ?_
  refine r_iconst C dX7_init_126 (0 : Int32) (by decide) ?_
  refine r_bipush C dX7_init_127 (60 : Int32) (by decide) ?_
  refine r_bipush C dX7_init_129 (8 : Int32) (by decide) ?_
  refine r_iconst C dX7_init_131 (2 : Int32) (by decide) ?_
  refine r_iconst C dX7_init_132 (0 : Int32) (by decide) ?_
  refine r_callV0 C cw_X7_59 (fun l => c_X7_layTown l D b M0 (shf M0 3) (shf M0 4) 0 0 60 8 2 0 (by decide) (by decide) _ rfl) (rest := []) hb (k := 0) rfl rfl celO_7 ⟨(blk_sub hb 0 1 rfl rfl : blk D ksM0 b (shf M0 0) _).shf0, blk_sub hb 3 1 rfl rfl, blk_sub hb 4 1 rfl rfl⟩ (fun q hq => by unfold fp2 at hq; unfold fp1; omega) rfl rfl rfl (Nat.le_of_ble_eq_true rfl) ⟨Nat.le_of_ble_eq_true rfl, Nat.le_of_ble_eq_true rfl, Nat.le_of_ble_eq_true rfl, Nat.le_of_ble_eq_true rfl⟩ dX7_init_133 (fun v H202 hv203 hq204 => ?_)
  obtain ⟨rfl, hb205, hb206⟩ := hv203
  have hb207 : blk D ksModel b M1 _ := blk_spl2 hb 3 1 rfl rfl hb205 4 1 rfl rfl hb206 (fun q hh => hq204 q (by unfold fp2; omega))
  dsimp only [psh]
  exact c_X7_init2_1 C hb207
set_option maxHeartbeats 8000000 in
set_option maxRecDepth 100000 in
theorem c_X7_init (l : Launch) (D : DD) (b : Nat) : Mt l D yX7_init cX7_init 2 none 1 26 13 1138 [.ref b] (fun H => raw D 7 b [.int 0, .null, .int 0, .null, .int 0, .int 0, .int 0, .int 0, .null, .null, .int 0, .int 0, .int 0, .null, .null, .null, .null, .null, .int 0, .null, .int 0, .int 0, .null, .null, .null, .int 0] H ∧ H.size = b + 1) (fun v H => v = none ∧ blk D ksModel b M8 H) (fp1 b 14) := by
  refine mtI_of (own := RX7) (ls := [.val (.ref b), .unset]) rfl (by decide +kernel) rfl ?_
  intro x H C hi hP
  obtain ⟨hr, hz⟩ := hP
  refine r_aload_n C dX7_init_0 rfl ?_
  refine r_objInit C oi_X7_1 rfl ⟨Nat.le_of_ble_eq_true rfl, Nat.le_of_ble_eq_true rfl⟩ dX7_init_1 ?_
  refine r_aload_n C dX7_init_4 rfl ?_
  refine r_sipush C dX7_init_5 (200 : Int32) (by decide) ?_
  refine r_newI C ac_int (N := 200) (by decide) (by decide) (by decide) ⟨Nat.le_of_ble_eq_true rfl, Nat.le_of_ble_eq_true rfl⟩ dX7_init_8 hz (fun H1 hc2 hz3 hq4 => ?_)
  have hr5 := raw_kept hr (hq4 b (by omega))
  refine r_putQ C hi hr5 (by unfold fp1; omega) fq_X7_7 (Nat.le_of_ble_eq_true rfl) dX7_init_10 (fs' := [.int 0, .ref (b + 1), .int 0, .null, .int 0, .int 0, .int 0, .int 0, .null, .null, .int 0, .int 0, .int 0, .null, .null, .null, .null, .null, .int 0, .null, .int 0, .int 0, .null, .null, .null, .int 0]) rfl (fun H6 hr7 hz8 hq9 => ?_)
  have hc10 := cel_kept hc2 (hq9 _ (by omega))
  have hn11 : blk D [(8, 200)] (b + 1) Z0 _ := blk_1 hc10
  have hz12 : H6.size = b + 2 := by rw [hz8, hz3]
  refine r_aload_n C dX7_init_13 rfl ?_
  refine r_iconst C dX7_init_14 (4 : Int32) (by decide) ?_
  refine r_newI C ac_int (N := 4) (by decide) (by decide) (by decide) ⟨Nat.le_of_ble_eq_true rfl, Nat.le_of_ble_eq_true rfl⟩ dX7_init_15 hz12 (fun H13 hc14 hz15 hq16 => ?_)
  have hr17 := raw_kept hr7 (hq16 b (by omega))
  have hb18 := blk_kept hn11 (n := 1) rfl (fun q h1 h2 => hq16 q (by omega))
  refine r_putQ C hi hr17 (by unfold fp1; omega) fq_X7_13 (Nat.le_of_ble_eq_true rfl) dX7_init_17 (fs' := [.int 0, .ref (b + 1), .int 0, .ref (b + 2), .int 0, .int 0, .int 0, .int 0, .null, .null, .int 0, .int 0, .int 0, .null, .null, .null, .null, .null, .int 0, .null, .int 0, .int 0, .null, .null, .null, .int 0]) rfl (fun H19 hr20 hz21 hq22 => ?_)
  have hc23 := cel_kept hc14 (hq22 _ (by omega))
  have hn24 : blk D [(8, 4)] (b + 2) Z0 _ := blk_1 hc23
  have hb25 := blk_kept hb18 (n := 1) rfl (fun q h1 h2 => hq22 q (by omega))
  have hz26 : H19.size = b + 3 := by rw [hz21, hz15]
  have hb27 := blk_app hb25 hn24 (n := 1) rfl
  rw [glue0] at hb27
  refine r_aload_n C dX7_init_20 rfl ?_
  refine r_bipush C dX7_init_21 (6 : Int32) (by decide) ?_
  refine r_newI C ac_int (N := 6) (by decide) (by decide) (by decide) ⟨Nat.le_of_ble_eq_true rfl, Nat.le_of_ble_eq_true rfl⟩ dX7_init_23 hz26 (fun H28 hc29 hz30 hq31 => ?_)
  have hr32 := raw_kept hr20 (hq31 b (by omega))
  have hb33 := blk_kept hb27 (n := 2) rfl (fun q h1 h2 => hq31 q (by omega))
  refine r_putQ C hi hr32 (by unfold fp1; omega) fq_X7_16 (Nat.le_of_ble_eq_true rfl) dX7_init_25 (fs' := [.int 0, .ref (b + 1), .int 0, .ref (b + 2), .int 0, .int 0, .int 0, .int 0, .ref (b + 3), .null, .int 0, .int 0, .int 0, .null, .null, .null, .null, .null, .int 0, .null, .int 0, .int 0, .null, .null, .null, .int 0]) rfl (fun H34 hr35 hz36 hq37 => ?_)
  have hc38 := cel_kept hc29 (hq37 _ (by omega))
  have hn39 : blk D [(8, 6)] (b + 3) Z0 _ := blk_1 hc38
  have hb40 := blk_kept hb33 (n := 2) rfl (fun q h1 h2 => hq37 q (by omega))
  have hz41 : H34.size = b + 4 := by rw [hz36, hz30]
  have hb42 := blk_app hb40 hn39 (n := 2) rfl
  rw [glue0] at hb42
  refine r_aload_n C dX7_init_28 rfl ?_
  refine r_bipush C dX7_init_29 (64 : Int32) (by decide) ?_
  refine r_newI C ac_int (N := 64) (by decide) (by decide) (by decide) ⟨Nat.le_of_ble_eq_true rfl, Nat.le_of_ble_eq_true rfl⟩ dX7_init_31 hz41 (fun H43 hc44 hz45 hq46 => ?_)
  have hr47 := raw_kept hr35 (hq46 b (by omega))
  have hb48 := blk_kept hb42 (n := 3) rfl (fun q h1 h2 => hq46 q (by omega))
  refine r_putQ C hi hr47 (by unfold fp1; omega) fq_X7_19 (Nat.le_of_ble_eq_true rfl) dX7_init_33 (fs' := [.int 0, .ref (b + 1), .int 0, .ref (b + 2), .int 0, .int 0, .int 0, .int 0, .ref (b + 3), .ref (b + 4), .int 0, .int 0, .int 0, .null, .null, .null, .null, .null, .int 0, .null, .int 0, .int 0, .null, .null, .null, .int 0]) rfl (fun H49 hr50 hz51 hq52 => ?_)
  have hc53 := cel_kept hc44 (hq52 _ (by omega))
  have hn54 : blk D [(8, 64)] (b + 4) Z0 _ := blk_1 hc53
  have hb55 := blk_kept hb48 (n := 3) rfl (fun q h1 h2 => hq52 q (by omega))
  have hz56 : H49.size = b + 5 := by rw [hz51, hz45]
  have hb57 := blk_app hb55 hn54 (n := 3) rfl
  rw [glue0] at hb57
  refine r_aload_n C dX7_init_36 rfl ?_
  refine r_bipush C dX7_init_37 (6 : Int32) (by decide) ?_
  refine r_newI C ac_int (N := 6) (by decide) (by decide) (by decide) ⟨Nat.le_of_ble_eq_true rfl, Nat.le_of_ble_eq_true rfl⟩ dX7_init_39 hz56 (fun H58 hc59 hz60 hq61 => ?_)
  have hr62 := raw_kept hr50 (hq61 b (by omega))
  have hb63 := blk_kept hb57 (n := 4) rfl (fun q h1 h2 => hq61 q (by omega))
  refine r_putQ C hi hr62 (by unfold fp1; omega) fq_X7_22 (Nat.le_of_ble_eq_true rfl) dX7_init_41 (fs' := [.int 0, .ref (b + 1), .int 0, .ref (b + 2), .int 0, .int 0, .int 0, .int 0, .ref (b + 3), .ref (b + 4), .int 0, .int 0, .int 0, .ref (b + 5), .null, .null, .null, .null, .int 0, .null, .int 0, .int 0, .null, .null, .null, .int 0]) rfl (fun H64 hr65 hz66 hq67 => ?_)
  have hc68 := cel_kept hc59 (hq67 _ (by omega))
  have hn69 : blk D [(8, 6)] (b + 5) Z0 _ := blk_1 hc68
  have hb70 := blk_kept hb63 (n := 4) rfl (fun q h1 h2 => hq67 q (by omega))
  have hz71 : H64.size = b + 6 := by rw [hz66, hz60]
  have hb72 := blk_app hb70 hn69 (n := 4) rfl
  rw [glue0] at hb72
  refine r_aload_n C dX7_init_44 rfl ?_
  refine r_bipush C dX7_init_45 (64 : Int32) (by decide) ?_
  refine r_newI C ac_int (N := 64) (by decide) (by decide) (by decide) ⟨Nat.le_of_ble_eq_true rfl, Nat.le_of_ble_eq_true rfl⟩ dX7_init_47 hz71 (fun H73 hc74 hz75 hq76 => ?_)
  have hr77 := raw_kept hr65 (hq76 b (by omega))
  have hb78 := blk_kept hb72 (n := 5) rfl (fun q h1 h2 => hq76 q (by omega))
  refine r_putQ C hi hr77 (by unfold fp1; omega) fq_X7_25 (Nat.le_of_ble_eq_true rfl) dX7_init_49 (fs' := [.int 0, .ref (b + 1), .int 0, .ref (b + 2), .int 0, .int 0, .int 0, .int 0, .ref (b + 3), .ref (b + 4), .int 0, .int 0, .int 0, .ref (b + 5), .ref (b + 6), .null, .null, .null, .int 0, .null, .int 0, .int 0, .null, .null, .null, .int 0]) rfl (fun H79 hr80 hz81 hq82 => ?_)
  have hc83 := cel_kept hc74 (hq82 _ (by omega))
  have hn84 : blk D [(8, 64)] (b + 6) Z0 _ := blk_1 hc83
  have hb85 := blk_kept hb78 (n := 5) rfl (fun q h1 h2 => hq82 q (by omega))
  have hz86 : H79.size = b + 7 := by rw [hz81, hz75]
  have hb87 := blk_app hb85 hn84 (n := 5) rfl
  rw [glue0] at hb87
  refine r_aload_n C dX7_init_52 rfl ?_
  refine r_bipush C dX7_init_53 (64 : Int32) (by decide) ?_
  refine r_newI C ac_int (N := 64) (by decide) (by decide) (by decide) ⟨Nat.le_of_ble_eq_true rfl, Nat.le_of_ble_eq_true rfl⟩ dX7_init_55 hz86 (fun H88 hc89 hz90 hq91 => ?_)
  have hr92 := raw_kept hr80 (hq91 b (by omega))
  have hb93 := blk_kept hb87 (n := 6) rfl (fun q h1 h2 => hq91 q (by omega))
  refine r_putQ C hi hr92 (by unfold fp1; omega) fq_X7_28 (Nat.le_of_ble_eq_true rfl) dX7_init_57 (fs' := [.int 0, .ref (b + 1), .int 0, .ref (b + 2), .int 0, .int 0, .int 0, .int 0, .ref (b + 3), .ref (b + 4), .int 0, .int 0, .int 0, .ref (b + 5), .ref (b + 6), .ref (b + 7), .null, .null, .int 0, .null, .int 0, .int 0, .null, .null, .null, .int 0]) rfl (fun H94 hr95 hz96 hq97 => ?_)
  have hc98 := cel_kept hc89 (hq97 _ (by omega))
  have hn99 : blk D [(8, 64)] (b + 7) Z0 _ := blk_1 hc98
  have hb100 := blk_kept hb93 (n := 6) rfl (fun q h1 h2 => hq97 q (by omega))
  have hz101 : H94.size = b + 8 := by rw [hz96, hz90]
  have hb102 := blk_app hb100 hn99 (n := 6) rfl
  rw [glue0] at hb102
  refine r_aload_n C dX7_init_60 rfl ?_
  refine r_bipush C dX7_init_61 (64 : Int32) (by decide) ?_
  refine r_newI C ac_int (N := 64) (by decide) (by decide) (by decide) ⟨Nat.le_of_ble_eq_true rfl, Nat.le_of_ble_eq_true rfl⟩ dX7_init_63 hz101 (fun H103 hc104 hz105 hq106 => ?_)
  have hr107 := raw_kept hr95 (hq106 b (by omega))
  have hb108 := blk_kept hb102 (n := 7) rfl (fun q h1 h2 => hq106 q (by omega))
  refine r_putQ C hi hr107 (by unfold fp1; omega) fq_X7_31 (Nat.le_of_ble_eq_true rfl) dX7_init_65 (fs' := [.int 0, .ref (b + 1), .int 0, .ref (b + 2), .int 0, .int 0, .int 0, .int 0, .ref (b + 3), .ref (b + 4), .int 0, .int 0, .int 0, .ref (b + 5), .ref (b + 6), .ref (b + 7), .ref (b + 8), .null, .int 0, .null, .int 0, .int 0, .null, .null, .null, .int 0]) rfl (fun H109 hr110 hz111 hq112 => ?_)
  have hc113 := cel_kept hc104 (hq112 _ (by omega))
  have hn114 : blk D [(8, 64)] (b + 8) Z0 _ := blk_1 hc113
  have hb115 := blk_kept hb108 (n := 7) rfl (fun q h1 h2 => hq112 q (by omega))
  have hz116 : H109.size = b + 9 := by rw [hz111, hz105]
  have hb117 := blk_app hb115 hn114 (n := 7) rfl
  rw [glue0] at hb117
  refine r_aload_n C dX7_init_68 rfl ?_
  refine r_sipush C dX7_init_69 (512 : Int32) (by decide) ?_
  refine r_newI C ac_int (N := 512) (by decide) (by decide) (by decide) ⟨Nat.le_of_ble_eq_true rfl, Nat.le_of_ble_eq_true rfl⟩ dX7_init_72 hz116 (fun H118 hc119 hz120 hq121 => ?_)
  have hr122 := raw_kept hr110 (hq121 b (by omega))
  have hb123 := blk_kept hb117 (n := 8) rfl (fun q h1 h2 => hq121 q (by omega))
  refine r_putQ C hi hr122 (by unfold fp1; omega) fq_X7_34 (Nat.le_of_ble_eq_true rfl) dX7_init_74 (fs' := [.int 0, .ref (b + 1), .int 0, .ref (b + 2), .int 0, .int 0, .int 0, .int 0, .ref (b + 3), .ref (b + 4), .int 0, .int 0, .int 0, .ref (b + 5), .ref (b + 6), .ref (b + 7), .ref (b + 8), .ref (b + 9), .int 0, .null, .int 0, .int 0, .null, .null, .null, .int 0]) rfl (fun H124 hr125 hz126 hq127 => ?_)
  have hc128 := cel_kept hc119 (hq127 _ (by omega))
  have hn129 : blk D [(8, 512)] (b + 9) Z0 _ := blk_1 hc128
  have hb130 := blk_kept hb123 (n := 8) rfl (fun q h1 h2 => hq127 q (by omega))
  have hz131 : H124.size = b + 10 := by rw [hz126, hz120]
  have hb132 := blk_app hb130 hn129 (n := 8) rfl
  rw [glue0] at hb132
  refine r_aload_n C dX7_init_77 rfl ?_
  refine r_sipush C dX7_init_78 (128 : Int32) (by decide) ?_
  refine r_newI C ac_int (N := 128) (by decide) (by decide) (by decide) ⟨Nat.le_of_ble_eq_true rfl, Nat.le_of_ble_eq_true rfl⟩ dX7_init_81 hz131 (fun H133 hc134 hz135 hq136 => ?_)
  have hr137 := raw_kept hr125 (hq136 b (by omega))
  have hb138 := blk_kept hb132 (n := 9) rfl (fun q h1 h2 => hq136 q (by omega))
  refine r_putQ C hi hr137 (by unfold fp1; omega) fq_X7_37 (Nat.le_of_ble_eq_true rfl) dX7_init_83 (fs' := [.int 0, .ref (b + 1), .int 0, .ref (b + 2), .int 0, .int 0, .int 0, .int 0, .ref (b + 3), .ref (b + 4), .int 0, .int 0, .int 0, .ref (b + 5), .ref (b + 6), .ref (b + 7), .ref (b + 8), .ref (b + 9), .int 0, .ref (b + 10), .int 0, .int 0, .null, .null, .null, .int 0]) rfl (fun H139 hr140 hz141 hq142 => ?_)
  have hc143 := cel_kept hc134 (hq142 _ (by omega))
  have hn144 : blk D [(8, 128)] (b + 10) Z0 _ := blk_1 hc143
  have hb145 := blk_kept hb138 (n := 9) rfl (fun q h1 h2 => hq142 q (by omega))
  have hz146 : H139.size = b + 11 := by rw [hz141, hz135]
  have hb147 := blk_app hb145 hn144 (n := 9) rfl
  rw [glue0] at hb147
  refine r_aload_n C dX7_init_86 rfl ?_
  refine r_bipush C dX7_init_87 (18 : Int32) (by decide) ?_
  refine r_newI C ac_int (N := 18) (by decide) (by decide) (by decide) ⟨Nat.le_of_ble_eq_true rfl, Nat.le_of_ble_eq_true rfl⟩ dX7_init_89 hz146 (fun H148 hc149 hz150 hq151 => ?_)
  have hr152 := raw_kept hr140 (hq151 b (by omega))
  have hb153 := blk_kept hb147 (n := 10) rfl (fun q h1 h2 => hq151 q (by omega))
  refine r_putQ C hi hr152 (by unfold fp1; omega) fq_X7_40 (Nat.le_of_ble_eq_true rfl) dX7_init_91 (fs' := [.int 0, .ref (b + 1), .int 0, .ref (b + 2), .int 0, .int 0, .int 0, .int 0, .ref (b + 3), .ref (b + 4), .int 0, .int 0, .int 0, .ref (b + 5), .ref (b + 6), .ref (b + 7), .ref (b + 8), .ref (b + 9), .int 0, .ref (b + 10), .int 0, .int 0, .ref (b + 11), .null, .null, .int 0]) rfl (fun H154 hr155 hz156 hq157 => ?_)
  have hc158 := cel_kept hc149 (hq157 _ (by omega))
  have hn159 : blk D [(8, 18)] (b + 11) Z0 _ := blk_1 hc158
  have hb160 := blk_kept hb153 (n := 10) rfl (fun q h1 h2 => hq157 q (by omega))
  have hz161 : H154.size = b + 12 := by rw [hz156, hz150]
  have hb162 := blk_app hb160 hn159 (n := 10) rfl
  rw [glue0] at hb162
  refine r_aload_n C dX7_init_94 rfl ?_
  refine r_iconst C dX7_init_95 (4 : Int32) (by decide) ?_
  refine r_newI C ac_int (N := 4) (by decide) (by decide) (by decide) ⟨Nat.le_of_ble_eq_true rfl, Nat.le_of_ble_eq_true rfl⟩ dX7_init_96 hz161 (fun H163 hc164 hz165 hq166 => ?_)
  have hr167 := raw_kept hr155 (hq166 b (by omega))
  have hb168 := blk_kept hb162 (n := 11) rfl (fun q h1 h2 => hq166 q (by omega))
  refine r_putQ C hi hr167 (by unfold fp1; omega) fq_X7_43 (Nat.le_of_ble_eq_true rfl) dX7_init_98 (fs' := [.int 0, .ref (b + 1), .int 0, .ref (b + 2), .int 0, .int 0, .int 0, .int 0, .ref (b + 3), .ref (b + 4), .int 0, .int 0, .int 0, .ref (b + 5), .ref (b + 6), .ref (b + 7), .ref (b + 8), .ref (b + 9), .int 0, .ref (b + 10), .int 0, .int 0, .ref (b + 11), .ref (b + 12), .null, .int 0]) rfl (fun H169 hr170 hz171 hq172 => ?_)
  have hc173 := cel_kept hc164 (hq172 _ (by omega))
  have hn174 : blk D [(8, 4)] (b + 12) Z0 _ := blk_1 hc173
  have hb175 := blk_kept hb168 (n := 11) rfl (fun q h1 h2 => hq172 q (by omega))
  have hz176 : H169.size = b + 13 := by rw [hz171, hz165]
  have hb177 := blk_app hb175 hn174 (n := 11) rfl
  rw [glue0] at hb177
  refine r_aload_n C dX7_init_101 rfl ?_
  refine r_iconst C dX7_init_102 (4 : Int32) (by decide) ?_
  refine r_newI C ac_int (N := 4) (by decide) (by decide) (by decide) ⟨Nat.le_of_ble_eq_true rfl, Nat.le_of_ble_eq_true rfl⟩ dX7_init_103 hz176 (fun H178 hc179 hz180 hq181 => ?_)
  have hr182 := raw_kept hr170 (hq181 b (by omega))
  have hb183 := blk_kept hb177 (n := 12) rfl (fun q h1 h2 => hq181 q (by omega))
  refine r_putQ C hi hr182 (by unfold fp1; omega) fq_X7_46 (Nat.le_of_ble_eq_true rfl) dX7_init_105 (fs' := [.int 0, .ref (b + 1), .int 0, .ref (b + 2), .int 0, .int 0, .int 0, .int 0, .ref (b + 3), .ref (b + 4), .int 0, .int 0, .int 0, .ref (b + 5), .ref (b + 6), .ref (b + 7), .ref (b + 8), .ref (b + 9), .int 0, .ref (b + 10), .int 0, .int 0, .ref (b + 11), .ref (b + 12), .ref (b + 13), .int 0]) rfl (fun H184 hr185 hz186 hq187 => ?_)
  have hc188 := cel_kept hc179 (hq187 _ (by omega))
  have hn189 : blk D [(8, 4)] (b + 13) Z0 _ := blk_1 hc188
  have hb190 := blk_kept hb183 (n := 12) rfl (fun q h1 h2 => hq187 q (by omega))
  have hz191 : H184.size = b + 14 := by rw [hz186, hz180]
  have hb192 := blk_app hb190 hn189 (n := 12) rfl
  rw [glue0] at hb192
  have hB : blk D ksModel b Z0 _ := blk_cons (raw_cel hr185 celO_7 rfl trivial) (blk_ks hb192 (by decide +kernel))
  refine r_aload_n C dX7_init_108 rfl ?_
  refine r_iconst C dX7_init_109 (4 : Int32) (by decide) ?_
  refine r_put C hB (k := 0) rfl rfl (by unfold fp1; omega) fw_X7_49 fp_7_10 (Or.inr rfl) dX7_init_110 (fun H193 hb194 hq195 => ?_)
  refine r_aload_n C dX7_init_113 rfl ?_
  refine r_iconst C dX7_init_114 (2 : Int32) (by decide) ?_
  refine r_put C hb194 (k := 0) rfl rfl (by unfold fp1; omega) fw_X7_53 fp_7_11 (Or.inr rfl) dX7_init_115 (fun H196 hb197 hq198 => ?_)
  refine r_aload_n C dX7_init_118 rfl ?_
  refine r_bipush C dX7_init_119 (10 : Int32) (by decide) ?_
  refine r_put C hb197 (k := 0) rfl rfl (by unfold fp1; omega) fw_X7_56 fp_7_12 (Or.inr rfl) dX7_init_121 (fun H199 hb200 hq201 => ?_)
  exact c_X7_init2 C hb200
