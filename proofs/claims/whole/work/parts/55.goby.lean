/-! a whole spring of the class's river is sprA -/
theorem L4_1 {c : Nat} {r : Nat → Nat → Int32} (n t : Nat) : d_X3_comeUp_L4 c n r 1 t = r := by
  cases n with
  | zero => rfl
  | succ n =>
    rw [d_X3_comeUp_L4]
    by_cases c1 : nI 6 ≤ nI t
    · exact if_pos c1
    · exact (if_neg c1).trans (if_neg (by decide))
section GS
variable {T C : Nat} {kd : Nat → Int32} {cost : Int32} {th go ga : Nat → Int32} {K : Nat → Prop} {sp : Nat → Int32} {c : Nat}
theorem L4_idle {r : Nat → Nat → Int32} (hr : ∀ t, t < 6 → (r (3 + t) 0 = 0 ↔ ¬ t < T)) : ∀ n t, t ≤ 6 → T ≤ t → d_X3_comeUp_L4 c n r 0 t = r := by
  intro n
  induction n with
  | zero => intro t _ _; rfl
  | succ n ih =>
    intro t h6 hT
    rw [d_X3_comeUp_L4]
    by_cases c1 : 6 ≤ t
    · exact if_pos (nI_le c1 (by omega))
    · refine (if_neg (nI_ge (by omega) (by omega))).trans ((if_pos rfl).trans ((lt_eq rfl).trans ((if_pos ?_).trans (ih (t + 1) (by omega) (by omega)))))
      rw [stands_eq, if_neg]
      intro z
      exact z.1 ((hr t (by omega)).mpr (by omega))
theorem cm_sim (hT : T ≤ 6) (hC : C ≤ 3) (hc : c < C) (hK : K c) : ∀ (n t : Nat) (r : Nat → Nat → Int32) (a : Nat → Int32) (x : Int32), t ≤ 6 → 6 < t + n → RG T C a → RV T kd cost th go ga K (upd sp c x) r a → RV T kd cost th go ga K (upd sp c (cmA kd T c n a x t).2) (d_X3_comeUp_L4 c n r 0 t) (cmA kd T c n a x t).1 := by
  intro n
  induction n with
  | zero => intro t r a x h1 h2; exact absurd h2 (by omega)
  | succ n ih =>
    intro t r a x h1 h2 hg h
    by_cases c1 : T ≤ t
    · rw [L4_idle h.1 (n + 1) t h1 c1, cmA, if_pos c1]
      exact h
    · rw [cmA, if_neg c1]
      have b01 := (hg.1 t (by omega)).2.1
      have q1 := (h.2.1 t (by omega)).1
      have hth : ¬ r (3 + t) 0 = 0 := fun z => ((h.1 t (by omega)).mp z) (by omega)
      have c6 : ¬ nI 6 ≤ nI t := nI_ge (by omega) (by omega)
      by_cases c2 : a (25 + t) = 1
      · have e : d_X3_comeUp_L4 c (n + 1) r 0 t = d_X3_comeUp_L4 c n r 0 (t + 1) := by
          rw [d_X3_comeUp_L4]
          refine (if_neg c6).trans ((if_pos rfl).trans ((lt_eq rfl).trans (if_pos ?_)))
          rw [stands_eq, if_neg]
          intro z
          have z2 : r (3 + t) 1 = 0 := z.2
          rw [q1, c2] at z2
          exact absurd z2 (by decide)
        rw [e, if_pos c2]
        exact ih (t + 1) r a x (by omega) (by omega) hg h
      · rw [if_neg c2]
        have h0 : a (25 + t) = 0 := b01.resolve_right c2
        have hst : ¬ d_X5_stands (shf r (3 + t)) = 0 := by
          rw [stands_eq, if_pos (show ¬ shf r (3 + t) 0 0 = 0 ∧ shf r (3 + t) 0 1 = 0 from ⟨hth, by show r (3 + t) 1 = 0; rw [q1, h0]⟩)]
          decide
        obtain ⟨g1, g2⟩ := send_sim hT h (show t < T by omega) (by omega) hK (hg.2 c hc).1
        obtain ⟨g3, -⟩ := stpA_RG (kd := kd) hg hT hC (show t < T by omega) hc h0
        have eu : upd (upd sp c x) c (upd sp c x c + (stpA kd a c t).2.1) = upd sp c (x + (stpA kd a c t).2.1) := by
          funext j
          by_cases hj : j = c
          · subst hj; rw [up_e, up_e, up_e]
          · rw [up_o hj, up_o hj, up_o hj]
        rw [eu] at g2
        by_cases c3 : (stpA kd a c t).2.2 = true
        · rw [if_pos c3] at g1
          have e : d_X3_comeUp_L4 c (n + 1) r 0 t = d_X3_comeUp_L4 c n (put2 r t c (d_X3_sendsHome (shf r (3 + t)) (shf r (9 + 2 * c)) (nI t)).2.1 (d_X3_sendsHome (shf r (3 + t)) (shf r (9 + 2 * c)) (nI t)).2.2) 0 (t + 1) := by
            rw [d_X3_comeUp_L4]
            exact (if_neg c6).trans ((if_pos rfl).trans ((lt_eq rfl).trans ((if_neg hst).trans ((lt_eq rfl).trans (if_pos g1)))))
          rw [e, if_pos c3]
          exact ih (t + 1) _ _ _ (by omega) (by omega) g3 g2
        · rw [if_neg c3] at g1
          have e : d_X3_comeUp_L4 c (n + 1) r 0 t = d_X3_comeUp_L4 c n (put2 r t c (d_X3_sendsHome (shf r (3 + t)) (shf r (9 + 2 * c)) (nI t)).2.1 (d_X3_sendsHome (shf r (3 + t)) (shf r (9 + 2 * c)) (nI t)).2.2) 1 (t + 1) := by
            rw [d_X3_comeUp_L4]
            exact (if_neg c6).trans ((if_pos rfl).trans ((lt_eq rfl).trans ((if_neg hst).trans ((lt_eq rfl).trans (if_neg (by rw [g1]; decide))))))
          rw [e, if_neg c3, L4_1]
          exact g2
theorem come_sim {r : Nat → Nat → Int32} {a : Nat → Int32} (hT : T ≤ 6) (hC : C ≤ 3) (hc : c < C) (hK : K c) (hg : RG T C a) (hs : sp c = 0) (h : RV T kd cost th go ga K sp r a) : RV T kd cost th go ga K sp (d_X3_comeUp r c) (comA kd T c a) := by
  have e0 : upd sp c 0 = sp := by
    funext j
    by_cases hj : j = c
    · subst hj; rw [up_e, hs]
    · rw [up_o hj]
  have g := cm_sim (sp := sp) hT hC hc hK 7 0 r a 0 (by omega) (by omega) hg (by rw [e0]; exact h)
  have e : d_X3_comeUp r c = spl (d_X3_comeUp_L4 c 7 r 0 0) (9 + 2 * c) 2 (d_X0_goHome (shf (d_X3_comeUp_L4 c 7 r 0 0) (9 + 2 * c))) := rfl
  rw [e]
  unfold comA
  generalize d_X3_comeUp_L4 c 7 r 0 0 = s at g
  generalize cmA kd T c 7 a 0 0 = y at g
  obtain ⟨h1, h2, h3, h4, h5, h6, h7⟩ := g
  have s4 : s (9 + 2 * c) 4 = y.2 := by rw [h5 c (by omega), up_e]
  have m0 : d_X0_goHome (shf s (9 + 2 * c)) 0 = upd (upd (s (9 + 2 * c)) 2 (sat 99 (y.1 (37 + c) + y.2 / 10))) 4 0 := by
    have e3 : d_X0_goHome (shf s (9 + 2 * c)) = pt (pt (shf s (9 + 2 * c)) 0 2 (imin 99 (shf s (9 + 2 * c) 0 2 + shf s (9 + 2 * c) 0 4 / 10))) 0 4 0 := rfl
    rw [e3, pt_eq, pt_eq, imin_sat]
    have f2 : shf s (9 + 2 * c) 0 2 = y.1 (37 + c) := (h4 c (by omega) hK).1
    have f4 : shf s (9 + 2 * c) 0 4 = y.2 := s4
    rw [f2, f4]
    rfl
  have m1 : d_X0_goHome (shf s (9 + 2 * c)) 1 = s (10 + 2 * c) := by
    have e3 : d_X0_goHome (shf s (9 + 2 * c)) = pt (pt (shf s (9 + 2 * c)) 0 2 (imin 99 (shf s (9 + 2 * c) 0 2 + shf s (9 + 2 * c) 0 4 / 10))) 0 4 0 := rfl
    rw [e3, pt_k (by decide), pt_k (by decide)]
    show s (9 + 2 * c + 1) = _
    rw [show 9 + 2 * c + 1 = 10 + 2 * c by omega]
  generalize d_X0_goHome (shf s (9 + 2 * c)) = u at m0 m1
  have k0 : spl s (9 + 2 * c) 2 u (9 + 2 * c) = u 0 := by rw [spl_in (by omega), show 9 + 2 * c - (9 + 2 * c) = 0 by omega]
  have k1 : spl s (9 + 2 * c) 2 u (10 + 2 * c) = s (10 + 2 * c) := by rw [spl_in (by omega), show 10 + 2 * c - (9 + 2 * c) = 1 by omega, m1]
  have ko : ∀ q, q ≠ 9 + 2 * c → q ≠ 10 + 2 * c → spl s (9 + 2 * c) 2 u q = s q := fun q z1 z2 => spl_out (by omega)
  refine ⟨fun d hd => ?_, fun d hd => ?_, fun d hd => ?_, fun d hd hKd => ?_, fun d hd => ?_, ?_, ?_⟩
  · rw [ko (3 + d) (by omega) (by omega)]; exact h1 d hd
  · unfold RT
    rw [ko (3 + d) (by omega) (by omega), up_o (by omega), up_o (by omega), up_o (by omega), up_o (by omega), up_o (by omega), up_o (by omega)]
    exact h2 d hd
  · rw [up_o (by omega)]
    by_cases ed : d = c
    · subst ed
      rw [k0, m0, up_o (by decide), up_o (by decide), up_o (by decide), up_o (by decide)]
      exact h3 d hd
    · rw [ko (9 + 2 * d) (by omega) (by omega)]; exact h3 d hd
  · obtain ⟨q1, q2, q3⟩ := h4 d hd hKd
    by_cases ed : d = c
    · subst ed
      refine ⟨?_, ?_, fun j hj => ?_⟩
      · rw [k0, m0, up_o (by decide), up_e, up_e]
      · rw [k0, m0, up_o (by decide), up_o (by decide), up_o (by omega)]; exact q2
      · rw [k1, up_o (by omega)]; exact q3 j hj
    · unfold RC
      rw [ko (9 + 2 * d) (by omega) (by omega), ko (10 + 2 * d) (by omega) (by omega), up_o (by omega), up_o (by omega)]
      refine ⟨q1, q2, fun j hj => ?_⟩
      rw [up_o (by omega)]; exact q3 j hj
  · by_cases ed : d = c
    · subst ed; rw [k0, m0, up_e, hs]
    · rw [ko (9 + 2 * d) (by omega) (by omega), h5 d hd, up_o ed]
  · rw [ko 0 (by omega) (by omega)]; exact h6
  · rw [ko 0 (by omega) (by omega), up_o (by omega)]; exact h7
theorem crews_sim (hT : T ≤ 6) (hC : C ≤ 3) (hsa : ∀ c, c < 3 → ((¬ th c = 0 ∧ go c = 0) ↔ (c < C ∧ ga c = 0))) (hK : ∀ c, c < C → ga c = 0 → K c) (hs : ∀ c, c < 3 → sp c = 0) : ∀ (n c : Nat) (r : Nat → Nat → Int32) (a : Nat → Int32), c ≤ 3 → 3 < c + n → RG T C a → RV T kd cost th go ga K sp r a → RV T kd cost th go ga K sp (d_X3_goBy_L13 n r c) (crA kd T C n a c) := by
  intro n
  induction n with
  | zero => intro c r a h1 h2; exact absurd h2 (by omega)
  | succ n ih =>
    intro c r a h1 h2 hg h
    by_cases c3 : 3 ≤ c
    · have e : d_X3_goBy_L13 (n + 1) r c = r := by rw [d_X3_goBy_L13]; exact if_pos (nI_le c3 (by omega))
      rw [e, crA, if_pos (by omega)]; exact h
    · have c3' : ¬ nI 3 ≤ nI c := nI_ge (by omega) (by omega)
      obtain ⟨t1, t2, t3⟩ := h.2.2.1 c (by omega)
      have hsl : d_X0_sails (shf r (9 + 2 * c)) = if ¬ th c = 0 ∧ go c = 0 then 1 else 0 := by
        unfold d_X0_sails
        have f0 : shf r (9 + 2 * c) 0 0 = th c := t1
        have f1 : shf r (9 + 2 * c) 0 1 = go c := t2
        rw [f0, f1]
        by_cases z : th c = 0
        · rw [if_pos z, if_neg (fun w => w.1 z)]
        · rw [if_neg z]
          by_cases w : go c = 0
          · rw [if_pos w, if_pos ⟨z, w⟩]
          · rw [if_neg w, if_neg (fun v => w v.2)]
      by_cases c4 : c < C ∧ ga c = 0
      · have hcs := (hsa c (by omega)).mpr c4
        rw [if_pos hcs] at hsl
        have e : d_X3_goBy_L13 (n + 1) r c = d_X3_goBy_L13 n (d_X3_comeUp r c) (c + 1) := by
          rw [d_X3_goBy_L13]
          exact (if_neg c3').trans ((lt_eq rfl).trans ((if_neg (by rw [hsl]; decide)).trans (lt_eq rfl)))
        rw [e, crA, if_neg (by omega), if_pos (by rw [t3]; exact c4.2)]
        exact ih (c + 1) _ _ (by omega) (by omega) (comA_RG hT hC c4.1 hg) (come_sim hT hC c4.1 (hK c c4.1 c4.2) hg (hs c (by omega)) h)
      · have hcs : ¬ (¬ th c = 0 ∧ go c = 0) := fun z => c4 ((hsa c (by omega)).mp z)
        rw [if_neg hcs] at hsl
        have e : d_X3_goBy_L13 (n + 1) r c = d_X3_goBy_L13 n r (c + 1) := by
          rw [d_X3_goBy_L13]
          exact (if_neg c3').trans ((lt_eq rfl).trans (if_pos hsl))
        rw [e]
        have hr := ih (c + 1) r a (by omega) (by omega) hg h
        by_cases c5 : C ≤ c
        · rw [crA, if_pos c5]
          cases n with
          | zero => exact absurd h2 (by omega)
          | succ m => rw [crA, if_pos (by omega)] at hr; exact hr
        · rw [crA, if_neg c5, if_neg (by rw [t3]; exact fun z => c4 ⟨by omega, z⟩)]
          exact hr
theorem one_sim {r : Nat → Nat → Int32} {a : Nat → Int32} (hT : T ≤ 6) (hC : C ≤ 3) (hsa : ∀ c, c < 3 → ((¬ th c = 0 ∧ go c = 0) ↔ (c < C ∧ ga c = 0))) (hK : ∀ c, c < C → ga c = 0 → K c) (hs : ∀ c, c < 3 → sp c = 0) (hk : rg 30 cost) (hg : RG T C a) (h : RV T kd cost th go ga K sp r a) : RV T kd cost th go ga K sp (pt (d_X3_goBy_L13 4 (d_X3_earnAndBuild r) 0) 0 3 (d_X3_goBy_L13 4 (d_X3_earnAndBuild r) 0 0 3 + 1)) (sprA kd T C cost a) := by
  have g := crews_sim hT hC hsa hK hs 4 0 _ _ (by omega) (by omega) (earn_RG hT hC hk hg) (eb_sim hT h)
  unfold sprA
  generalize d_X3_goBy_L13 4 (d_X3_earnAndBuild r) 0 = s at g
  generalize crA kd T C 4 (Fb T cost 0 (earnA T a)) 0 = y at g
  obtain ⟨h1, h2, h3, h4, h5, h6, h7⟩ := g
  have ko : ∀ q, q ≠ 0 → pt s 0 3 (s 0 3 + 1) q = s q := fun q z => pt_k z
  refine ⟨fun d hd => ?_, fun d hd => ?_, fun d hd => ?_, fun d hd hKd => ?_, fun d hd => ?_, ?_, ?_⟩
  · rw [ko (3 + d) (by omega)]; exact h1 d hd
  · unfold RT
    rw [ko (3 + d) (by omega), up_o (by omega), up_o (by omega), up_o (by omega), up_o (by omega), up_o (by omega), up_o (by omega)]
    exact h2 d hd
  · rw [ko (9 + 2 * d) (by omega), up_o (by omega)]; exact h3 d hd
  · unfold RC
    rw [ko (9 + 2 * d) (by omega), ko (10 + 2 * d) (by omega), up_o (by omega), up_o (by omega)]
    refine ⟨(h4 d hd hKd).1, (h4 d hd hKd).2.1, fun j hj => ?_⟩
    rw [up_o (by omega)]; exact (h4 d hd hKd).2.2 j hj
  · rw [ko (9 + 2 * d) (by omega)]; exact h5 d hd
  · rw [pt_eq, up_o (by decide)]; exact h6
  · rw [pt_eq, up_e, up_e, h7]
/-- n springs -/
def itA (kd : Nat → Int32) (T C : Nat) (cost : Int32) : Nat → (Nat → Int32) → Nat → Int32
  | 0, a => a
  | n + 1, a => itA kd T C cost n (sprA kd T C cost a)
theorem itA_RG (hT : T ≤ 6) (hC : C ≤ 3) (hk : rg 30 cost) : ∀ (n : Nat) (a : Nat → Int32), RG T C a → RG T C (itA kd T C cost n a) := by
  intro n
  induction n with
  | zero => intro a h; exact h
  | succ n ih => intro a h; exact ih _ (sprA_RG hT hC hk h)
theorem go_sim (hT : T ≤ 6) (hC : C ≤ 3) (hsa : ∀ c, c < 3 → ((¬ th c = 0 ∧ go c = 0) ↔ (c < C ∧ ga c = 0))) (hK : ∀ c, c < C → ga c = 0 → K c) (hs : ∀ c, c < 3 → sp c = 0) (hk : rg 30 cost) {N : Nat} (hN : N < 2 ^ 31) : ∀ (n i : Nat) (r : Nat → Nat → Int32) (a : Nat → Int32), i ≤ N → N < i + n → RG T C a → RV T kd cost th go ga K sp r a → RV T kd cost th go ga K sp (d_X3_goBy_L2 (nI N) n r i) (itA kd T C cost (N - i) a) := by
  intro n
  induction n with
  | zero => intro i r a h1 h2; exact absurd h2 (by omega)
  | succ n ih =>
    intro i r a h1 h2 hg h
    by_cases c1 : N ≤ i
    · have e : d_X3_goBy_L2 (nI N) (n + 1) r i = r := by rw [d_X3_goBy_L2]; exact if_pos (nI_le c1 (by omega))
      rw [e, show N - i = 0 by omega]; exact h
    · have e : d_X3_goBy_L2 (nI N) (n + 1) r i = d_X3_goBy_L2 (nI N) n (pt (d_X3_goBy_L13 4 (d_X3_earnAndBuild r) 0) 0 3 (d_X3_goBy_L13 4 (d_X3_earnAndBuild r) 0 0 3 + 1)) (i + 1) := by
        rw [d_X3_goBy_L2]; exact (if_neg (nI_ge (by omega) (by omega))).trans ((lt_eq rfl).trans (lt_eq rfl))
      rw [e, show N - i = (N - (i + 1)) + 1 by omega]
      exact ih (i + 1) _ _ (by omega) (by omega) (sprA_RG hT hC hk hg) (one_sim hT hC hsa hK hs hk hg h)
theorem goBy_sim {r : Nat → Nat → Int32} {a : Nat → Int32} (hT : T ≤ 6) (hC : C ≤ 3) (hsa : ∀ c, c < 3 → ((¬ th c = 0 ∧ go c = 0) ↔ (c < C ∧ ga c = 0))) (hK : ∀ c, c < C → ga c = 0 → K c) (hs : ∀ c, c < 3 → sp c = 0) (hk : rg 30 cost) {N : Nat} (hN : N < 2 ^ 31) (hg : RG T C a) (h : RV T kd cost th go ga K sp r a) : RV T kd cost th go ga K sp (d_X3_goBy r (nI N)) (itA kd T C cost N a) := by
  have e : d_X3_goBy r (nI N) = d_X3_goBy_L2 (nI N) (N + 1) r 0 := by
    unfold d_X3_goBy
    rw [nI_clamp hN]; rfl
  rw [e]
  exact go_sim hT hC hsa hK hs hk hN (N + 1) 0 r a (by omega) (by omega) hg h
end GS
