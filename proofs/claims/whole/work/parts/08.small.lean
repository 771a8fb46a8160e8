/-! blocks, numbers, small rows -/
def ksTown : List (Nat × Nat) := [(5, 0)]
def ksCrew : List (Nat × Nat) := [(0, 0), (8, 6)]
def ksRiver : List (Nat × Nat) := [(3, 0), (10, 0), (11, 0), (5, 0), (5, 0), (5, 0), (5, 0), (5, 0), (5, 0), (0, 0), (8, 6), (0, 0), (8, 6), (0, 0), (8, 6)]
def ksFinds : List (Nat × Nat) := [(1, 0), (8, 6), (8, 6), (8, 6)]
def ksReader : List (Nat × Nat) := [(2, 0), (8, 4)]
def rivs : Nat → List (Nat × Nat)
  | 0 => []
  | n + 1 => ksRiver ++ rivs n
def ksShelf (n : Nat) : List (Nat × Nat) := (4, 0) :: (12, n) :: rivs n
def ksCh (m : Nat) : List (Nat × Nat) := [(9, m)]
def ksI16 : List (Nat × Nat) := [(8, 16)]
def ksMain : List (Nat × Nat) := (6, 0) :: (9, 200) :: (2, 0) :: (8, 4) :: (ksRiver ++ ((2, 0) :: (8, 4) :: (9, 71) :: (ksRiver ++ ((2, 0) :: (8, 4) :: (9, 71) :: (ksRiver ++ (ksShelf 8 ++ (ksShelf 2 ++ (ksFinds ++ [(8, 16), (8, 16)]))))))))
def ksModel : List (Nat × Nat) := [(7, 0), (8, 200), (8, 4), (8, 6), (8, 64), (8, 6), (8, 64), (8, 64), (8, 64), (8, 512), (8, 128), (8, 18), (8, 4), (8, 4)]
/-- the printed functions' joints: a name for a value, a cell that is there or not, a loop that left or came to its end -/
def lt {α β : Type} (e : α) (f : α → β) : β := f e
def oc {β : Type} (e : Option Nat) (f : β) (h : Nat → β) : β := match e with | none => f | some k => h k
def sc {α β γ : Type} (e : α ⊕ β) (f : α → γ) (h : β → γ) : γ := match e with | .inl r => f r | .inr w => h w
theorem lt_eq {α β : Type} {e y : α} {f : α → β} (h : y = e) : lt e f = f y := by subst h; rfl
theorem oc_none {β : Type} {e : Option Nat} {f : β} {h : Nat → β} (q : e = none) : oc e f h = f := by subst q; rfl
theorem oc_some {β : Type} {e : Option Nat} {f : β} {h : Nat → β} {k : Nat} (q : e = some k) : oc e f h = h k := by subst q; rfl
theorem sc_inl {α β γ : Type} {e : α ⊕ β} {f : α → γ} {h : β → γ} {r : α} (q : e = .inl r) : sc e f h = f r := by subst q; rfl
theorem sc_inr {α β γ : Type} {e : α ⊕ β} {f : α → γ} {h : β → γ} {w : β} (q : e = .inr w) : sc e f h = h w := by subst q; rfl
def fp0 (_ : Nat) : Prop := False
def fp1 (o n q : Nat) : Prop := o ≤ q ∧ q < o + n
def fp2 (o n o' n' q : Nat) : Prop := (o ≤ q ∧ q < o + n) ∨ (o' ≤ q ∧ q < o' + n')
def optT (b : Nat) (r : Option Nat) : Value := match r with | some k => .ref (b + k) | none => .null
def optC (b : Nat) (r : Option Nat) : Value := match r with | some k => .ref (b + 2 * k) | none => .null
theorem opt_or (u : Option Nat) : u = none ∨ ∃ k, u = some k := by cases u <;> simp
theorem nI_inc (n : Nat) {x : Int32} (h : x = nI n) : x + Int32.ofInt 1 = nI (n + 1) := by subst h; exact nI_1 n
theorem nf_eq {a b : Nat} {x y : Int32} (ha : a < 2 ^ 31) (hb : b < 2 ^ 31) (hx : x = nI a) (hy : y = nI b) (h : x = y) : a = b := by subst hx; subst hy; exact (nI_eq ha hb).mp h
theorem nf_eqn {a b : Nat} {x y : Int32} (ha : a < 2 ^ 31) (hb : b < 2 ^ 31) (hx : x = nI a) (hy : y = nI b) (h : ¬ x = y) : ¬ a = b := by subst hx; subst hy; exact fun r => h ((nI_eq ha hb).mpr r)
theorem nf_ltI {a b : Nat} {x y : Int32} (ha : a < 2 ^ 31) (hb : b < 2 ^ 31) (hx : x = nI a) (hy : y = nI b) (h : x < y) : a < b := by subst hx; subst hy; exact (nI_ltI ha hb).mp h
theorem nf_ltIn {a b : Nat} {x y : Int32} (ha : a < 2 ^ 31) (hb : b < 2 ^ 31) (hx : x = nI a) (hy : y = nI b) (h : ¬ x < y) : ¬ a < b := by subst hx; subst hy; exact fun r => h ((nI_ltI ha hb).mpr r)
theorem nf_leI {a b : Nat} {x y : Int32} (ha : a < 2 ^ 31) (hb : b < 2 ^ 31) (hx : x = nI a) (hy : y = nI b) (h : x ≤ y) : a ≤ b := by subst hx; subst hy; exact (nI_leI ha hb).mp h
theorem nf_leIn {a b : Nat} {x y : Int32} (ha : a < 2 ^ 31) (hb : b < 2 ^ 31) (hx : x = nI a) (hy : y = nI b) (h : ¬ x ≤ y) : ¬ a ≤ b := by subst hx; subst hy; exact fun r => h ((nI_leI ha hb).mpr r)
theorem vp_in_n {x : Int32} {n N : Nat} (hx : x = nI n) (h : n < N) (hN : N < 2 ^ 31) : vp_in x N := by subst hx; exact vp_in_nI h hN
theorem vp_in_c (n : Nat) {x : Int32} {N : Nat} (hx : x = nI n) (h : n < N ∧ N < 2 ^ 31) : vp_in x N := vp_in_n hx h.1 h.2
theorem cl_n {x : Int32} {n : Nat} (hx : x = nI n) (h : n < 2 ^ 31) : x.toNatClampNeg = n := by subst hx; exact nI_clamp h
theorem x_lo1 {x : Int32} (h : ¬ x < 0) : 0 ≤ x.toInt := by
  rw [Int32.lt_iff_toInt_lt] at h
  have : (0 : Int32).toInt = 0 := rfl
  omega
theorem x_lo2 {x : Int32} (h : 0 ≤ x) : 0 ≤ x.toInt := by
  rw [Int32.le_iff_toInt_le] at h
  have : (0 : Int32).toInt = 0 := rfl
  omega
theorem x_hi1 {x : Int32} {N : Nat} (h : ¬ nI N ≤ x) (hN : N < 2 ^ 31) : x.toInt < N := by
  rw [Int32.le_iff_toInt_le, nI_toInt hN] at h
  omega
theorem x_hi2 {x : Int32} {N : Nat} (h : x < nI N) (hN : N < 2 ^ 31) : x.toInt < N := by
  rw [Int32.lt_iff_toInt_lt, nI_toInt hN] at h
  omega
theorem vp_in_lh {x : Int32} {M N : Nat} (lo : 0 ≤ x.toInt) (hi : x.toInt < (M : Int)) (hM : M ≤ N) : vp_in x N := vp_in_iff.mpr ⟨lo, by omega⟩
theorem lt_of_in {x : Int32} {N : Nat} (h : vp_in x N) : x.toNatClampNeg < N := Nat.not_le.mp fun q => h (Or.inr q)
theorem nz_pos {x : Int32} (h : 0 < x) : ¬ x = 0 := by rintro rfl; exact absurd h (by decide)
theorem nz_nle {x : Int32} (h : ¬ x ≤ 0) : ¬ x = 0 := by rintro rfl; exact h (by decide)
theorem bl_ab {D : DD} {ks : List (Nat × Nat)} {o : Nat} {R : Nat → Nat → Int32} {H : Heap} {k : Nat} (hb : blk D ks o R H) (h : ks[k]? = some (0, 0) ∨ ks[k]? = some (5, 0)) : bl (R k 0) ∧ bl (R k 1) := by
  rcases h with h | h
  · have h1 := hb k _ h
    rw [celO_0] at h1
    exact h1.2
  · have h1 := hb k _ h
    rw [celO_5] at h1
    exact h1.2
theorem bl_a {D : DD} {ks : List (Nat × Nat)} {o : Nat} {R : Nat → Nat → Int32} {H : Heap} {k : Nat} (hb : blk D ks o R H) (h : ks[k]? = some (0, 0) ∨ ks[k]? = some (5, 0)) : bl (R k 0) := (bl_ab hb h).1
theorem bl_b {D : DD} {ks : List (Nat × Nat)} {o : Nat} {R : Nat → Nat → Int32} {H : Heap} {k : Nat} (hb : blk D ks o R H) (h : ks[k]? = some (0, 0) ∨ ks[k]? = some (5, 0)) : bl (R k 1) := (bl_ab hb h).2
theorem tsw_out {x : Int32} (m : Nat) (hm : m < 2 ^ 31) (h : ∀ k : Nat, k ≤ m → ¬ x = nI k) : x.toInt < 0 ∨ ((m : Nat) : Int) < x.toInt := by
  by_cases h0 : x.toInt < 0
  · exact Or.inl h0
  · refine Or.inr (Int.not_le.mp fun h1 => ?_)
    refine h x.toInt.toNat (by omega) (Int32.toInt_inj.mp ?_)
    rw [nI_toInt (by omega)]
    omega
theorem kRiver_3_1 : ∀ t, t < 6 → ksRiver[3 + t]? = some (5, 0) := by decide
theorem kRiver_9_2 : ∀ t, t < 3 → ksRiver[9 + 2 * t]? = some (0, 0) := by decide
theorem kRiver_10_2 : ∀ t, t < 3 → ksRiver[10 + 2 * t]? = some (8, 6) := by decide
theorem sRiver_3_1_1 : ∀ t, t < 6 → (ksRiver.drop (3 + t)).take 1 = ksTown := by decide
theorem sRiver_9_2_2 : ∀ t, t < 3 → (ksRiver.drop (9 + 2 * t)).take 2 = ksCrew := by decide
theorem kMain_7_1 : ∀ t, t < 6 → ksMain[7 + t]? = some (5, 0) := by decide
theorem kMain_13_2 : ∀ t, t < 3 → ksMain[13 + 2 * t]? = some (0, 0) := by decide
theorem kMain_14_2 : ∀ t, t < 3 → ksMain[14 + 2 * t]? = some (8, 6) := by decide
theorem sMain_7_1_1 : ∀ t, t < 6 → (ksMain.drop (7 + t)).take 1 = ksTown := by decide
theorem sMain_13_2_2 : ∀ t, t < 3 → (ksMain.drop (13 + 2 * t)).take 2 = ksCrew := by decide
theorem kMain_25_1 : ∀ t, t < 6 → ksMain[25 + t]? = some (5, 0) := by decide
theorem kMain_31_2 : ∀ t, t < 3 → ksMain[31 + 2 * t]? = some (0, 0) := by decide
theorem kMain_32_2 : ∀ t, t < 3 → ksMain[32 + 2 * t]? = some (8, 6) := by decide
theorem sMain_25_1_1 : ∀ t, t < 6 → (ksMain.drop (25 + t)).take 1 = ksTown := by decide
theorem sMain_31_2_2 : ∀ t, t < 3 → (ksMain.drop (31 + 2 * t)).take 2 = ksCrew := by decide
theorem kMain_43_1 : ∀ t, t < 6 → ksMain[43 + t]? = some (5, 0) := by decide
theorem kMain_49_2 : ∀ t, t < 3 → ksMain[49 + 2 * t]? = some (0, 0) := by decide
theorem kMain_50_2 : ∀ t, t < 3 → ksMain[50 + 2 * t]? = some (8, 6) := by decide
theorem sMain_43_1_1 : ∀ t, t < 6 → (ksMain.drop (43 + t)).take 1 = ksTown := by decide
theorem sMain_49_2_2 : ∀ t, t < 3 → (ksMain.drop (49 + 2 * t)).take 2 = ksCrew := by decide
theorem nnat {x : Int32} {a : Nat} (h : x = nI a) (ha : a < 2 ^ 31) : x = nI x.toNatClampNeg := by subst h; rw [nI_clamp ha]
theorem nn_of {x : Int32} (lo : 0 ≤ x.toInt) : x = nI x.toNatClampNeg := by
  have h2 := x.toInt_lt
  refine Int32.toInt_inj.mp ?_
  have h1 : x.toNatClampNeg = x.toInt.toNat := rfl
  rw [h1, nI_toInt (by omega)]
  omega
def lpair (a b : Slot) : Prop := (a = .unset ∧ b = .unset) ∨ ∃ v : Int64, a = .val (.long v) ∧ b = .second
theorem st_long {ls : List Slot} {k : Nat} {a b : Slot} {v : Int64} (h1 : ls[k]? = some a) (h2 : ls[k + 1]? = some b) (h : lpair a b) : storeLocals ls.toArray k (.long v) = some ((ls.set k (.val (.long v))).set (k + 1) .second).toArray := by
  have g1 : ls.toArray[k]? = some a := by rw [List.getElem?_toArray]; exact h1
  have l1 : k < ls.length := (List.getElem?_eq_some_iff.mp h1).1
  have l2 : k + 1 < ls.length := (List.getElem?_eq_some_iff.mp h2).1
  have e1 := (List.getElem?_eq_some_iff.mp h1).2
  have e2 := (List.getElem?_eq_some_iff.mp h2).2
  rcases h with ⟨rfl, rfl⟩ | ⟨w, rfl, rfl⟩
  · simp [storeLocals, storeSelf, setAt, g1, l1, l2, Value.category, h2, e1, e2]
  · simp [storeLocals, storeSelf, setAt, g1, l1, l2, Value.category, e1, e2]
    apply List.ext_getElem?
    intro i
    simp only [List.getElem?_set]
    split <;> split <;> simp_all <;> omega
theorem r_lstoreP {x : CX} {own : String} {cc : ByteArray} {nL : Nat} {D : DD} {ret : Option FieldType} {rm : Room} {A : Nat → Prop} {Q : State → Prop} {H : Heap} {cs sl pc n : Nat} {ls : List Slot} {rest : List Value} (C : Cx x own cc nL D ret rm) {k : Nat} (d : dec cc pc (.lstore k) 2 n) {v : Int64} {a b : Slot} (h1 : ls[k]? = some a) (h2 : ls[k + 1]? = some b) (h : lpair a b) {ls' : List Slot} (he : (ls.set k (.val (.long v))).set (k + 1) .second = ls') (kk : WG x A Q H cs sl n ls' rest) : WG x A Q H cs sl pc ls (.long v :: rest) := by
  subst he
  exact r_lstore C d (st_long h1 h2 h) kk
theorem rivs_len : ∀ n, (rivs n).length = 15 * n := by
  intro n
  induction n with
  | zero => rfl
  | succ n ih => simp only [rivs, List.length_append, ih]; simp [ksRiver]; omega
theorem lenShelf (n : Nat) : (ksShelf n).length = 2 + 15 * n := by simp only [ksShelf, List.length_cons, rivs_len]; omega
theorem rivs_at : ∀ n w, w < n → (rivs n).drop (15 * w) = ksRiver ++ rivs (n - w - 1) := by
  intro n
  induction n with
  | zero => intro w h; omega
  | succ n ih =>
    intro w h
    cases w with
    | zero => rfl
    | succ w =>
      have e : 15 * (w + 1) = ksRiver.length + 15 * w := by simp [ksRiver]; omega
      rw [e]
      simp only [rivs]
      rw [List.drop_append, show ksRiver.length + 15 * w - ksRiver.length = 15 * w by omega, List.drop_eq_nil_of_le (by omega), List.nil_append, ih w (by omega), show n + 1 - (w + 1) - 1 = n - w - 1 by omega]
theorem sShelf_2_15_15 {n : Nat} (w : Nat) (h : w < n) : ((ksShelf n).drop (2 + 15 * w)).take 15 = ksRiver := by
  rw [show 2 + 15 * w = (15 * w).succ.succ by omega]
  show ((rivs n).drop (15 * w)).take 15 = ksRiver
  rw [rivs_at n w h]
  rfl
theorem kShelf_2_15 {n : Nat} (w : Nat) (h : w < n) : (ksShelf n)[2 + 15 * w]? = some (3, 0) := by
  have h1 := sShelf_2_15_15 w h
  have h2 : (((ksShelf n).drop (2 + 15 * w)).take 15)[0]? = some (3, 0) := by rw [h1]; rfl
  rw [List.getElem?_take, if_pos (by omega), List.getElem?_drop] at h2
  exact h2
theorem pt_ok {n k : Nat} {w : Int32} {R : Nat → Nat → Int32} (h : ∀ j, j < n → (R 1 j).toNatClampNeg < n) (hw : w.toNatClampNeg < n) : ∀ j, j < n → (pt R 1 k w 1 j).toNatClampNeg < n := by
  intro j hj
  simp only [pt, va_up, if_true, upd]
  split
  · exact hw
  · exact h j hj
theorem imin_nn {x y : Int32} {a b : Nat} (hx : x = nI a) (hy : y = nI b) (ha : a < 2 ^ 31) (hb : b < 2 ^ 31) : imin x y = nI (min a b) := by
  subst hx; subst hy
  unfold imin
  split
  · rename_i h; have := (nI_ltI hb ha).mp h; rw [Nat.min_eq_right (by omega)]
  · rename_i h; have : ¬ b < a := fun r => h ((nI_ltI hb ha).mpr r); rw [Nat.min_eq_left (by omega)]
theorem r_isubN {x : CX} {own : String} {cc : ByteArray} {nL : Nat} {D : DD} {ret : Option FieldType} {rm : Room} {A : Nat → Prop} {Q : State → Prop} {H : Heap} {cs sl pc n : Nat} {ls : List Slot} {rest : List Value} (C : Cx x own cc nL D ret rm) {a b : Int32} (d : dec cc pc .isub 1 n) {na nb : Nat} (ha : a = nI na) (hb : b = nI nb) (hle : nb ≤ na) {nc : Nat} (hc : na - nb = nc) (kk : WG x A Q H cs sl n ls (.int (nI nc) :: rest)) : WG x A Q H cs sl pc ls (.int b :: .int a :: rest) := by
  subst ha; subst hb; subst hc
  refine r_isub C d ?_
  rw [pk_sub hle]
  exact kk
theorem x_lo3 {x c : Int32} (h : ¬ x < c) (hc : 0 ≤ c.toInt) : 0 ≤ x.toInt := by
  rw [Int32.lt_iff_toInt_lt] at h
  omega
theorem x_lo4 {x c : Int32} (h : c ≤ x) (hc : 0 ≤ c.toInt) : 0 ≤ x.toInt := by
  rw [Int32.le_iff_toInt_le] at h
  omega
theorem x_le {x : Int32} {M : Nat} (h : ¬ nI M < x) (hM : M < 2 ^ 31) : x.toNatClampNeg ≤ M := by
  rw [Int32.lt_iff_toInt_lt, nI_toInt hM] at h
  have h1 : x.toNatClampNeg = x.toInt.toNat := rfl
  omega
theorem x_le2 {x : Int32} {M : Nat} (h : x ≤ nI M) (hM : M < 2 ^ 31) : x.toNatClampNeg ≤ M := by
  rw [Int32.le_iff_toInt_le, nI_toInt hM] at h
  have h1 : x.toNatClampNeg = x.toInt.toNat := rfl
  omega
theorem rows_nat {n : Int32} (hn : n = nI n.toNatClampNeg) (h4 : n.toNatClampNeg ≤ 4) : ((1 : Int32) <<< (((2 : Int32) * n) &&& 31)) = nI ((1 : Int32) <<< (((2 : Int32) * n) &&& 31)).toNatClampNeg ∧ ((1 : Int32) <<< (((2 : Int32) * n) &&& 31)).toNatClampNeg ≤ 256 := by
  obtain ⟨k, hk⟩ : ∃ k, k = n.toNatClampNeg := ⟨_, rfl⟩
  rw [← hk] at hn h4
  subst hn
  clear hk
  have h : k = 0 ∨ k = 1 ∨ k = 2 ∨ k = 3 ∨ k = 4 := by omega
  rcases h with rfl | rfl | rfl | rfl | rfl <;> exact ⟨by decide, by decide⟩
theorem pt_k {R : Nat → Nat → Int32} {k j k' : Nat} {z : Int32} (h : k' ≠ k) : pt R k j z k' = R k' := by simp only [pt, va_up, if_neg h]
theorem pt_eq {R : Nat → Nat → Int32} {k j : Nat} {z : Int32} : pt R k j z k = upd (R k) j z := by simp only [pt, va_up, if_true]
theorem spl_out {R R' : Nat → Nat → Int32} {i n k : Nat} (h : ¬ (i ≤ k ∧ k < i + n)) : spl R i n R' k = R k := by simp only [spl, if_neg h]
theorem spl_in {R R' : Nat → Nat → Int32} {i n k : Nat} (h : i ≤ k ∧ k < i + n) : spl R i n R' k = R' (k - i) := by simp only [spl, if_pos h]
theorem nn_max {x y : Int32} {N : Nat} (hx : x = nI x.toNatClampNeg ∧ x.toNatClampNeg ≤ N) (hy : y = nI y.toNatClampNeg ∧ y.toNatClampNeg ≤ N) : imax x y = nI (imax x y).toNatClampNeg ∧ (imax x y).toNatClampNeg ≤ N := by
  unfold imax
  split
  · exact hy
  · exact hx
def ksI (n : Nat) : List (Nat × Nat) := [(8, n)]
def ksM0 : List (Nat × Nat) := [(7, 0)]
theorem r_topi {x : CX} {A : Nat → Prop} {Q : State → Prop} {H : Heap} {cs sl pc : Nat} {ls : List Slot} {rest : List Value} {e : Int32} (k : ∀ y : Int32, y = e → WG x A Q H cs sl pc ls (.int y :: rest)) : WG x A Q H cs sl pc ls (.int e :: rest) := k e rfl
theorem dec1 {x : Int32} (h : ¬ x < 0) : (x + Int32.ofInt (-1)).toInt = x.toInt - 1 := by
  have h1 := x_lo1 h
  have h2 := x.toInt_lt
  obtain ⟨n, hn, rfl⟩ : ∃ n : Nat, n < 2 ^ 31 ∧ x = nI n := ⟨x.toNatClampNeg, by have : x.toNatClampNeg = x.toInt.toNat := rfl; omega, nn_of h1⟩
  cases n with
  | zero => decide
  | succ n =>
    have e : nI (n + 1) + Int32.ofInt (-1) = nI n := pk_m1 n
    rw [e, nI_toInt hn, nI_toInt (by omega)]
    omega
theorem r_idivN {x : CX} {own : String} {cc : ByteArray} {nL : Nat} {D : DD} {ret : Option FieldType} {rm : Room} {A : Nat → Prop} {Q : State → Prop} {H : Heap} {cs sl pc n : Nat} {ls : List Slot} {rest : List Value} (C : Cx x own cc nL D ret rm) {a b : Int32} (d : dec cc pc .idiv 1 n) {na nb : Nat} (ha : a = nI na) (hb : b = nI nb) (h1 : na < 2 ^ 31) (h0 : 0 < nb) (h2 : nb < 2 ^ 31) {nc : Nat} (hc : na / nb = nc) (kk : WG x A Q H cs sl n ls (.int (nI nc) :: rest)) : WG x A Q H cs sl pc ls (.int b :: .int a :: rest) := by
  subst ha; subst hb; subst hc
  refine r_idiv C d (nI_ne0 h0 h2) ?_
  rw [pk_div h1 h0 h2]
  exact kk
theorem r_iremN {x : CX} {own : String} {cc : ByteArray} {nL : Nat} {D : DD} {ret : Option FieldType} {rm : Room} {A : Nat → Prop} {Q : State → Prop} {H : Heap} {cs sl pc n : Nat} {ls : List Slot} {rest : List Value} (C : Cx x own cc nL D ret rm) {a b : Int32} (d : dec cc pc .irem 1 n) {na nb : Nat} (ha : a = nI na) (hb : b = nI nb) (h1 : na < 2 ^ 31) (h0 : 0 < nb) (h2 : nb < 2 ^ 31) {nc : Nat} (hc : na % nb = nc) (kk : WG x A Q H cs sl n ls (.int (nI nc) :: rest)) : WG x A Q H cs sl pc ls (.int b :: .int a :: rest) := by
  subst ha; subst hb; subst hc
  refine r_irem C d (nI_ne0 h0 h2) ?_
  rw [pk_rem h1 h0 h2]
  exact kk
theorem pow4_step {n k u : Nat} (h : u = 4 ^ (n - k)) (hk : k < n) : u / 4 = 4 ^ (n - (k + 1)) := by
  subst h
  obtain ⟨m, rfl⟩ : ∃ m, n = k + 1 + m := ⟨n - (k + 1), by omega⟩
  rw [show k + 1 + m - k = m + 1 by omega, show k + 1 + m - (k + 1) = m by omega, Nat.pow_succ]
  omega
theorem pow4_le {n : Nat} (h : n ≤ 4) : 4 ^ n ≤ 256 := by
  have h : n = 0 ∨ n = 1 ∨ n = 2 ∨ n = 3 ∨ n = 4 := by omega
  rcases h with rfl | rfl | rfl | rfl | rfl <;> decide
theorem pow4_pos {n : Nat} : 0 < 4 ^ n := Nat.pow_pos (by omega)
theorem rem_lt {a b : Int32} (hb : ¬ b ≤ 0) : (a - a / b * b).toInt.toNat < b.toInt.toNat := by
  have h := rem_toInt a b
  have hb' : 0 < b.toInt := by
    rw [Int32.le_iff_toInt_le] at hb
    have : (0 : Int32).toInt = 0 := rfl
    omega
  have h1 : a.toInt.tmod b.toInt < b.toInt := Int.tmod_lt_of_pos _ hb'
  omega
