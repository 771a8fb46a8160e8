/-! cells, blocks of cells, rows that read and write them, contracts, calls -/
def bl (z : Int32) : Prop := z = 0 ∨ z = 1
/-- an object's slots, out of its class's place, its address and its numbers; what it refers to lies at fixed places behind it -/
def vals (t a : Nat) (v : Nat → Int32) : List Value := match t with
  | 0 => [.int (v 0), .int (v 1), .int (v 2), .int (v 3), .int (v 4), .ref (a + 1)]
  | 1 => [.ref (a + 1), .ref (a + 2), .ref (a + 3), .int (v 3)]
  | 2 => [.ref (a + 1)]
  | 3 => [.ref (a + 1), .ref (a + 2), .int (v 2), .int (v 3)]
  | 4 => [.ref (a + 1), .int (v 1)]
  | 5 => [.int (v 0), .int (v 1), .int (v 2), .int (v 3), .int (v 4), .int (v 5), .int (v 6), .int (v 7)]
  | 6 => [.ref (a + 1), .int (v 1), .ref (a + 2), .ref (a + 4), .ref (a + 22), .ref (a + 40), .ref (a + 55), .ref (a + 177), .ref (a + 209), .ref (a + 213), .ref (a + 214)]
  | _ => [.int (v 0), .ref (a + 1), .int (v 2), .ref (a + 2), .int (v 4), .int (v 5), .int (v 6), .int (v 7), .ref (a + 3), .ref (a + 4), .int (v 10), .int (v 11), .int (v 12), .ref (a + 5), .ref (a + 6), .ref (a + 7), .ref (a + 8), .ref (a + 9), .int (v 18), .ref (a + 10), .int (v 20), .int (v 21), .ref (a + 11), .ref (a + 12), .ref (a + 13), .int (v 25)]
def bools (t : Nat) (v : Nat → Int32) : Prop := match t with
  | 0 => bl (v 0) ∧ bl (v 1)
  | 5 => bl (v 0) ∧ bl (v 1)
  | _ => True
/-- what a cell of a kind holds: (8, n) n ints, (9, n) n chars, (10, _) the six towns behind it, (11, _) the three crews, (12, n) n rivers in some order; (t, _) an object of class t -/
def cel (D : DD) (K : Nat × Nat) (a : Nat) (v : Nat → Int32) (H : Heap) : Prop := match K.1 with
  | 8 => va_at D.1 vwCl (a, .inl (D.2 1, K.2, .inl v)) H
  | 9 => va_at D.1 vwCl (a, .inl (D.2 0, K.2, .inl v)) H
  | 10 => va_at D.1 vwCl (a, .inl (D.2 2, 6, .inr (.inr (.inr (.inr (fun t => some (a + 2 + t))))))) H
  | 11 => va_at D.1 vwCl (a, .inl (D.2 3, 3, .inr (.inr (.inr (.inr (fun c => some (a + 7 + 2 * c))))))) H
  | 12 => va_at D.1 vwCl (a, .inl (D.2 4, K.2, .inr (.inr (.inr (.inr (fun j => some (a + 1 + 15 * (v j).toNatClampNeg))))))) H
  | t => va_at D.1 vwCl (a, .inr (t, vals t a v)) H ∧ bools t v
theorem cel_8 {D : DD} {m a : Nat} {v : Nat → Int32} {H : Heap} : cel D (8, m) a v H ↔ va_at D.1 vwCl (a, .inl (D.2 1, m, .inl v)) H := Iff.rfl
theorem cel_9 {D : DD} {m a : Nat} {v : Nat → Int32} {H : Heap} : cel D (9, m) a v H ↔ va_at D.1 vwCl (a, .inl (D.2 0, m, .inl v)) H := Iff.rfl
theorem cel_10 {D : DD} {m a : Nat} {v : Nat → Int32} {H : Heap} : cel D (10, m) a v H ↔ va_at D.1 vwCl (a, .inl (D.2 2, 6, .inr (.inr (.inr (.inr (fun t => some (a + 2 + t))))))) H := Iff.rfl
theorem cel_11 {D : DD} {m a : Nat} {v : Nat → Int32} {H : Heap} : cel D (11, m) a v H ↔ va_at D.1 vwCl (a, .inl (D.2 3, 3, .inr (.inr (.inr (.inr (fun c => some (a + 7 + 2 * c))))))) H := Iff.rfl
theorem cel_12 {D : DD} {m a : Nat} {v : Nat → Int32} {H : Heap} : cel D (12, m) a v H ↔ va_at D.1 vwCl (a, .inl (D.2 4, m, .inr (.inr (.inr (.inr (fun j => some (a + 1 + 15 * (v j).toNatClampNeg))))))) H := Iff.rfl
abbrev celO (t : Nat) : Prop := ∀ (v : Nat → Int32) (a : Nat) (H : Heap) (D : DD), cel D (t, 0) a v H = (va_at D.1 vwCl (a, .inr (t, vals t a v)) H ∧ bools t v)
theorem celO_0 : celO 0 := fun _ _ _ _ => rfl
theorem celO_1 : celO 1 := fun _ _ _ _ => rfl
theorem celO_2 : celO 2 := fun _ _ _ _ => rfl
theorem celO_3 : celO 3 := fun _ _ _ _ => rfl
theorem celO_4 : celO 4 := fun _ _ _ _ => rfl
theorem celO_5 : celO 5 := fun _ _ _ _ => rfl
theorem celO_6 : celO 6 := fun _ _ _ _ => rfl
theorem celO_7 : celO 7 := fun _ _ _ _ => rfl
theorem cel_kept {D : DD} {K : Nat × Nat} {a : Nat} {v : Nat → Int32} {H H1 : Heap} (h : cel D K a v H) (hq : H1[a]? = H[a]?) : cel D K a v H1 := by
  unfold cel at *
  split at h <;> first | exact va_at.kept h hq | exact ⟨va_at.kept h.1 hq, h.2⟩
theorem cel_lt {D : DD} {K : Nat × Nat} {a : Nat} {v : Nat → Int32} {H : Heap} (h : cel D K a v H) : a < H.size := by
  unfold cel at h
  split at h <;> first | exact va_at.lt h | exact va_at.lt h.1
def blk (D : DD) (ks : List (Nat × Nat)) (o : Nat) (R : Nat → Nat → Int32) (H : Heap) : Prop := ∀ (k : Nat) (K : Nat × Nat), ks[k]? = some K → cel D K (o + k) (R k) H
theorem blk_kept {D : DD} {ks : List (Nat × Nat)} {o : Nat} {R : Nat → Nat → Int32} {H H1 : Heap} (h : blk D ks o R H) {n : Nat} (hn : ks.length = n) (hq : ∀ q, o ≤ q → q < o + n → H1[q]? = H[q]?) : blk D ks o R H1 := by
  subst hn
  exact fun k K hk => cel_kept (h k K hk) (hq _ (Nat.le_add_right _ _) (Nat.add_lt_add_left (List.getElem?_eq_some_iff.mp hk).1 _))
theorem blk_put {D : DD} {ks : List (Nat × Nat)} {o : Nat} {R : Nat → Nat → Int32} {H H1 : Heap} (h : blk D ks o R H) {k : Nat} {K : Nat × Nat} {v : Nat → Int32} (hk : ks[k]? = some K) (hc : cel D K (o + k) v H1) (hq : ∀ q, q ≠ o + k → H1[q]? = H[q]?) : blk D ks o (va_up R k v) H1 := by
  intro j J hj
  by_cases e : j = k
  · subst e
    cases hk.symm.trans hj
    simp only [va_up, if_true]
    exact hc
  · simp only [va_up, if_neg e]
    exact cel_kept (h j J hj) (hq _ (by omega))
/-- a block inside another one -/
def shf (R : Nat → Nat → Int32) (i : Nat) : Nat → Nat → Int32 := fun k => R (i + k)
def spl (R : Nat → Nat → Int32) (i n : Nat) (R' : Nat → Nat → Int32) : Nat → Nat → Int32 := fun k => if i ≤ k ∧ k < i + n then R' (k - i) else R k
theorem blk_sub {D : DD} {ks ks' : List (Nat × Nat)} {o o' : Nat} {R : Nat → Nat → Int32} {H : Heap} (h : blk D ks o R H) (i n : Nat) (he : (ks.drop i).take n = ks') (ho : o' = o + i) : blk D ks' o' (shf R i) H := by
  subst he; subst ho
  intro k K hk
  have h1 : ks[i + k]? = some K := by
    rw [List.getElem?_take] at hk
    split at hk
    · rw [List.getElem?_drop] at hk; exact hk
    · cases hk
  rw [Nat.add_assoc]
  exact h (i + k) K h1
theorem blk_spl {D : DD} {ks ks' : List (Nat × Nat)} {o o' : Nat} {R R' : Nat → Nat → Int32} {H H1 : Heap} (h : blk D ks o R H) (i n : Nat) (he : (ks.drop i).take n = ks') (ho : o' = o + i) (h1 : blk D ks' o' R' H1) (hq : ∀ q, ¬ (o' ≤ q ∧ q < o' + n) → H1[q]? = H[q]?) : blk D ks o (spl R i n R') H1 := by
  subst he; subst ho
  intro k K hk
  by_cases e : i ≤ k ∧ k < i + n
  · simp only [spl, if_pos e]
    have h2 : ((ks.drop i).take n)[k - i]? = some K := by
      rw [List.getElem?_take, if_pos (by omega), List.getElem?_drop, show i + (k - i) = k by omega]
      exact hk
    have h3 := h1 (k - i) K h2
    rw [show o + i + (k - i) = o + k by omega] at h3
    exact h3
  · simp only [spl, if_neg e]
    exact cel_kept (h k K hk) (hq _ (by omega))
theorem blk_spl2 {D : DD} {ks ks1 ks2 : List (Nat × Nat)} {o o1 o2 : Nat} {R R1 R2 : Nat → Nat → Int32} {H H1 : Heap} (h : blk D ks o R H) (i n : Nat) (he1 : (ks.drop i).take n = ks1) (ho1 : o1 = o + i) (h1 : blk D ks1 o1 R1 H1) (j m : Nat) (he2 : (ks.drop j).take m = ks2) (ho2 : o2 = o + j) (h2 : blk D ks2 o2 R2 H1) (hq : ∀ q, ¬ ((o1 ≤ q ∧ q < o1 + n) ∨ (o2 ≤ q ∧ q < o2 + m)) → H1[q]? = H[q]?) : blk D ks o (spl (spl R i n R1) j m R2) H1 := by
  subst he1; subst ho1; subst he2; subst ho2
  intro k K hk
  by_cases e : j ≤ k ∧ k < j + m
  · simp only [spl, if_pos e]
    have h3 := h2 (k - j) K (by rw [List.getElem?_take, if_pos (by omega), List.getElem?_drop, show j + (k - j) = k by omega]; exact hk)
    rw [show o + j + (k - j) = o + k by omega] at h3
    exact h3
  · by_cases e' : i ≤ k ∧ k < i + n
    · simp only [spl, if_neg e, if_pos e']
      have h3 := h1 (k - i) K (by rw [List.getElem?_take, if_pos (by omega), List.getElem?_drop, show i + (k - i) = k by omega]; exact hk)
      rw [show o + i + (k - i) = o + k by omega] at h3
      exact h3
    · simp only [spl, if_neg e, if_neg e']
      exact cel_kept (h k K hk) (hq _ (by omega))
/-- one number of one cell is written -/
def pt (R : Nat → Nat → Int32) (k j : Nat) (z : Int32) : Nat → Nat → Int32 := va_up R k (upd (R k) j z)
def imax (a b : Int32) : Int32 := if a < b then b else a
def imin (a b : Int32) : Int32 := if b < a then b else a
/-- a field's words: of the class of the place t, its slot j, from a class 'own' through the pool's row idx -/
def FW (own : String) (idx t j : Nat) : Prop := ∃ (C : String) (T : u_T) (N : Nat), vwCl[t]? = some (C, T, N) ∧ (∀ w ∈ u_ws C T N, w ∈ lwt) ∧ j < N ∧ (T j).1 = C ∧ (Cond.fieldLink own idx C (T j).2.1 (T j).2.2.1 ∈ lwt ∨ ∃ host, Cond.fieldLinkNest own idx C (T j).2.1 (T j).2.2.1 host ∈ lwt)
/-- of a field that is written: what it says more -/
def FP (t j : Nat) (ty : FieldType) : Prop := ∃ (C : String) (T : u_T) (N : Nat) (ty0 : Nat → FieldType), vwCl[t]? = some (C, T, N) ∧ (∀ k, k < N → parseFieldDescriptor (T k).2.2.1 = some (ty0 k)) ∧ (∀ a, a < N → ∀ b, b < N → a ≠ b → (T a).2.1 ≠ (T b).2.1) ∧ (T j).2.2.2 = false ∧ parseFieldDescriptor (T j).2.2.1 = some ty ∧ (∀ (a : Nat) (v : Nat → Int32) (z : Int32), (vals t a v).set j (.int z) = vals t a (upd v j z)) ∧ (∀ a v, j < (vals t a v).length) ∧ ((∀ (v : Nat → Int32) (z : Int32), (ty = .boolean → bl z) → bools t v → bools t (upd v j z))) ∧ ∀ (v : Nat → Int32) (a : Nat) (H : Heap) (D : DD), cel D (t, 0) a v H = (va_at D.1 vwCl (a, .inr (t, vals t a v)) H ∧ bools t v)
theorem bl_nar {z : Int32} (h : bl z) : narrow .boolean (.int z) = .int z ∧ fits .boolean (.int z) = true := by
  rcases h with rfl | rfl <;> exact ⟨rfl, rfl⟩
section RH
variable {x : CX} {own : String} {cc : ByteArray} {nL : Nat} {D : DD} {ret : Option FieldType} {rm : Room} {A : Nat → Prop} {Q : State → Prop} {H : Heap} {cs sl pc n tgt : Nat} {ls : List Slot} {rest : List Value} {ks : List (Nat × Nat)} {o : Nat} {R : Nat → Nat → Int32}
theorem r_get (C : Cx x own cc nL D ret rm) {idx t j a k : Nat} (hb : blk D ks o R H) (hk : ks[k]? = some (t, 0)) (ha : a = o + k) (ht : celO t) (fw : FW own idx t j) {z : Value} (hv : (vals t a (R k))[j]? = some z) (d : dec cc pc (.getfield idx) 3 n) (kk : WG x A Q H cs sl n ls (z :: rest)) : WG x A Q H cs sl pc ls (.ref a :: rest) := by
  subst ha
  obtain ⟨p, l, e, R0, s, m, args, below, meth, c⟩ := x
  obtain ⟨d, rfl⟩ := d
  obtain ⟨C0, T, N, hc, hin, hj, ho, hlink⟩ := fw
  have h0 := hb k _ hk
  rw [ht] at h0
  have hts := kk_args C.2.2.2.2.1 args
  intro locs hS hz
  have hP : va_P D.1 vwCl [(o + k, .inr (t, vals t (o + k) (R k)))] H := by
    intro i q hq
    have : i = 0 := by
      have := (List.getElem?_eq_some_iff.mp hq).1
      simpa using this
    subst this
    cases hq
    exact h0.1
  rcases hlink with hl | ⟨host, hl⟩
  · exact va_get (T := T) (N := N) C.1 C.2.1 hts hin C.2.2.2.1 C.2.2.2.2.1.1 hP 0 rfl hc j hj (hts _ hl) (fun _ h => by rw [ho] at h; exact h) hv d (kk locs hS hz)
  · exact va_getN (T := T) (N := N) C.1 C.2.1 hts hin C.2.2.2.1 C.2.2.2.2.1.1 hP 0 rfl hc j hj (hts _ hl) (fun _ h => by rw [ho] at h; exact h) hv d (kk locs hS hz)
theorem r_put (C : Cx x own cc nL D ret rm) {idx t j a k : Nat} {ty : FieldType} {z : Int32} (hb : blk D ks o R H) (hk : ks[k]? = some (t, 0)) (ha : a = o + k) (hA : A a) (fw : FW own idx t j) (fp : FP t j ty) (hz0 : (ty = .boolean ∧ bl z) ∨ ty = .int) (d : dec cc pc (.putfield idx) 3 n) (kk : ∀ H1 : Heap, blk D ks o (pt R k j z) H1 → (∀ q, q ≠ a → H1[q]? = H[q]?) → WG x A Q H1 cs sl n ls rest) : WG x A Q H cs sl pc ls (.int z :: .ref a :: rest) := by
  subst ha
  obtain ⟨p, l, e, R0, s, m, args, below, meth, c⟩ := x
  obtain ⟨d, rfl⟩ := d
  obtain ⟨C0, T, N, hc, hin, hj, ho, hlink⟩ := fw
  obtain ⟨C1, T1, N1, ty0, hc1, hty, hnm, hfin, hd, hset, hlen, hbo, ht⟩ := fp
  cases hc.symm.trans hc1
  have h0 := hb k _ hk
  rw [ht] at h0
  have hts := kk_args C.2.2.2.2.1 args
  intro locs hS hz
  have hap := va_apart (own := own) hts hin ty0 hty hnm C.2.2.2.2.1.1 hc
  obtain ⟨⟨r, h1, cell, q1, q2, q3, q4⟩, hbl⟩ := h0
  have hr : r = (C0, T, N) := Option.some.inj (h1.symm.trans hc)
  subst hr
  obtain ⟨hSl, hfc, kC, hkC, hkind⟩ := C.2.2.2.2.1.1.1 t _ hc
  obtain ⟨cf, kf, fi, f, hi, hsl⟩ := hSl j hj
  have hlay := hts _ (hin _ (u_in_lay hj))
  unfold u_lay at hlay
  rw [if_neg (by rw [hfin]; decide)] at hlay
  have hst := (u_facts hfc hkC (u_lays hts hin hj) hi).1
  have hnf : narrow ty (.int z) = .int z ∧ fits ty (.int z) = true := by
    rcases hz0 with ⟨rfl, h⟩ | rfl
    · exact bl_nar h
    · exact ⟨rfl, rfl⟩
  have h6 := u_store hfc hkC hkind hlay hi hd hnf.1 hnf.2
  rw [ho] at hi
  have fin : ∀ H' : Heap, H'[o + k]? = some (cell.setSlot f.slot (.int z)) → H'.size = H.size → (∀ q, q ≠ o + k → H'[q]? = H[q]?) → W p l e R0 s m args below meth c H' (locs ++ [⟨o + k, f.slot⟩]) cs sl Q (F0 m (pc + 3) ls.toArray rest) := by
    intro H' e1 e2 e3
    rw [hsl] at e1
    refine kk H' ?_ e3 _ (hS.put e2 e3 hA) (by rw [e2]; exact hz)
    refine blk_put hb hk ?_ e3
    rw [ht]
    refine ⟨⟨_, hc, ?_⟩, hbo _ _ (fun h => by rcases hz0 with ⟨-, h'⟩ | h'; exact h'; rw [h] at h'; cases h') hbl⟩
    show t_OB (o + k) _ _ _ _ (vp_V (vals t (o + k) (upd (R k) j z)))
    rw [← hset]
    exact t_OB.to (V := updV (vp_V (vals t (o + k) (R k))) j (.int z)) ⟨_, e1, q2, q3, t_set q4 hap hj _⟩ (fun i _ => vp_updV_set (hlen _ _) _ i)
  rcases hlink with hl | ⟨host, hl⟩
  · exact W.putK C.1 C.2.1 (f := f) ⟨C.2.2.2.1, hts _ hl, ⟨_, _, _, hi⟩, hst⟩ (by rw [q2]; exact h6) q1 q3 (by rw [hsl]; exact k2_hasslot (q4 j hj)) rfl rfl d fin
  · exact va_WputK C.1 C.2.1 (f := f) C.2.2.2.1 (hts _ hl) hi hst (by rw [q2]; exact h6) q1 q3 (by rw [hsl]; exact k2_hasslot (q4 j hj)) rfl rfl d fin
end RH
