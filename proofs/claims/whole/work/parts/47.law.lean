/-! the law: its rows, what is owed of the pure functions, its 28 calls, its loop -/
def OK6 (R : Nat → Nat → Int32) : Prop :=
  (R 0 1 = nI (R 0 1).toNatClampNeg) ∧
  ((R 0 1).toNatClampNeg ≤ 200) ∧
  (∀ j, j < 8 → (R 56 j).toNatClampNeg < 8) ∧
  (R 55 1 = nI (R 55 1).toNatClampNeg) ∧
  ((R 55 1).toNatClampNeg ≤ 8) ∧
  (∀ i, i < 6 → R 211 i = nI (R 211 i).toNatClampNeg ∧ (R 211 i).toNatClampNeg ≤ 20) ∧
  (∀ j, j < 2 → (R 178 j).toNatClampNeg < 2) ∧
  (R 177 1 = nI (R 177 1).toNatClampNeg) ∧
  ((R 177 1).toNatClampNeg ≤ 2)
theorem OK6.hlen {R : Nat → Nat → Int32} (h : OK6 R) : R 0 1 = nI (R 0 1).toNatClampNeg := h.1
theorem OK6.hlen2 {R : Nat → Nat → Int32} (h : OK6 R) : (R 0 1).toNatClampNeg ≤ 200 := h.2.1
theorem OK6.hw8 {R : Nat → Nat → Int32} (h : OK6 R) : ∀ j, j < 8 → (R 56 j).toNatClampNeg < 8 := h.2.2.1
theorem OK6.hpm {R : Nat → Nat → Int32} (h : OK6 R) : R 55 1 = nI (R 55 1).toNatClampNeg := h.2.2.2.1
theorem OK6.hpm2 {R : Nat → Nat → Int32} (h : OK6 R) : (R 55 1).toNatClampNeg ≤ 8 := h.2.2.2.2.1
theorem OK6.hfs {R : Nat → Nat → Int32} (h : OK6 R) : ∀ i, i < 6 → R 211 i = nI (R 211 i).toNatClampNeg ∧ (R 211 i).toNatClampNeg ≤ 20 := h.2.2.2.2.2.1
theorem OK6.hw2 {R : Nat → Nat → Int32} (h : OK6 R) : ∀ j, j < 2 → (R 178 j).toNatClampNeg < 2 := h.2.2.2.2.2.2.1
theorem OK6.hkm {R : Nat → Nat → Int32} (h : OK6 R) : R 177 1 = nI (R 177 1).toNatClampNeg := h.2.2.2.2.2.2.2.1
theorem OK6.hkm2 {R : Nat → Nat → Int32} (h : OK6 R) : (R 177 1).toNatClampNeg ≤ 2 := h.2.2.2.2.2.2.2.2
def OK7 (R : Nat → Nat → Int32) : Prop :=
  (R 0 0 = nI (R 0 0).toNatClampNeg) ∧
  ((R 0 0).toNatClampNeg ≤ 200) ∧
  (R 0 10 = nI (R 0 10).toNatClampNeg) ∧
  ((R 0 10).toNatClampNeg ≤ 6) ∧
  (R 0 11 = nI (R 0 11).toNatClampNeg) ∧
  ((R 0 11).toNatClampNeg ≤ 3) ∧
  (R 0 18 = nI (R 0 18).toNatClampNeg) ∧
  ((R 0 18).toNatClampNeg ≤ 8) ∧
  (∀ i, i < 6 → R 6 (1 + i) = nI (R 6 (1 + i)).toNatClampNeg ∧ (R 6 (1 + i)).toNatClampNeg ≤ 999) ∧
  (R 0 21 = nI (R 0 21).toNatClampNeg) ∧
  ((R 0 21).toNatClampNeg ≤ 6) ∧
  (∀ i, i < 6 → R 11 (3 * i) = nI (R 11 (3 * i)).toNatClampNeg ∧ (R 11 (3 * i)).toNatClampNeg < 6) ∧
  (R 0 20 = nI (R 0 20).toNatClampNeg) ∧
  ((R 0 20).toNatClampNeg ≤ 2)
theorem OK7.h0 {R : Nat → Nat → Int32} (h : OK7 R) : R 0 0 = nI (R 0 0).toNatClampNeg := h.1
theorem OK7.b0 {R : Nat → Nat → Int32} (h : OK7 R) : (R 0 0).toNatClampNeg ≤ 200 := h.2.1
theorem OK7.h10 {R : Nat → Nat → Int32} (h : OK7 R) : R 0 10 = nI (R 0 10).toNatClampNeg := h.2.2.1
theorem OK7.b10 {R : Nat → Nat → Int32} (h : OK7 R) : (R 0 10).toNatClampNeg ≤ 6 := h.2.2.2.1
theorem OK7.h11 {R : Nat → Nat → Int32} (h : OK7 R) : R 0 11 = nI (R 0 11).toNatClampNeg := h.2.2.2.2.1
theorem OK7.b11 {R : Nat → Nat → Int32} (h : OK7 R) : (R 0 11).toNatClampNeg ≤ 3 := h.2.2.2.2.2.1
theorem OK7.h18 {R : Nat → Nat → Int32} (h : OK7 R) : R 0 18 = nI (R 0 18).toNatClampNeg := h.2.2.2.2.2.2.1
theorem OK7.b18 {R : Nat → Nat → Int32} (h : OK7 R) : (R 0 18).toNatClampNeg ≤ 8 := h.2.2.2.2.2.2.2.1
theorem OK7.hsi {R : Nat → Nat → Int32} (h : OK7 R) : ∀ i, i < 6 → R 6 (1 + i) = nI (R 6 (1 + i)).toNatClampNeg ∧ (R 6 (1 + i)).toNatClampNeg ≤ 999 := h.2.2.2.2.2.2.2.2.1
theorem OK7.h21 {R : Nat → Nat → Int32} (h : OK7 R) : R 0 21 = nI (R 0 21).toNatClampNeg := h.2.2.2.2.2.2.2.2.2.1
theorem OK7.b21 {R : Nat → Nat → Int32} (h : OK7 R) : (R 0 21).toNatClampNeg ≤ 6 := h.2.2.2.2.2.2.2.2.2.2.1
theorem OK7.hfi {R : Nat → Nat → Int32} (h : OK7 R) : ∀ i, i < 6 → R 11 (3 * i) = nI (R 11 (3 * i)).toNatClampNeg ∧ (R 11 (3 * i)).toNatClampNeg < 6 := h.2.2.2.2.2.2.2.2.2.2.2.1
theorem OK7.h20 {R : Nat → Nat → Int32} (h : OK7 R) : R 0 20 = nI (R 0 20).toNatClampNeg := h.2.2.2.2.2.2.2.2.2.2.2.2.1
theorem OK7.b20 {R : Nat → Nat → Int32} (h : OK7 R) : (R 0 20).toNatClampNeg ≤ 2 := h.2.2.2.2.2.2.2.2.2.2.2.2.2
/-- what is owed of the two sides: an invariant between their numbers that every pair of calls keeps, with one answer -/
def Sim (Inv : (Nat → Nat → Int32) → (Nat → Nat → Int32) → Prop) : Prop :=
  (∀ {R M : Nat → Nat → Int32}, Inv R M → OK6 R) ∧
  (∀ {R M : Nat → Nat → Int32}, Inv R M → OK7 M) ∧
  (∀ {R M : Nat → Nat → Int32} (a : Int32), Inv R M → (d_X6_write R a).1 = (d_X7_write M a).1 ∧ Inv (d_X6_write R a).2 (d_X7_write M a).2) ∧
  (∀ {R M : Nat → Nat → Int32}, Inv R M → (d_X6_wipe R).1 = (d_X7_wipe M).1 ∧ Inv (d_X6_wipe R).2 (d_X7_wipe M).2) ∧
  (∀ {R M : Nat → Nat → Int32}, Inv R M → (d_X6_fault R).1 = (d_X7_fault M).1 ∧ Inv (d_X6_fault R).2 (d_X7_fault M).2) ∧
  (∀ {R M : Nat → Nat → Int32}, Inv R M → (d_X6_lay R).1 = (d_X7_lay M).1 ∧ Inv (d_X6_lay R).2 (d_X7_lay M).2) ∧
  (∀ {R M : Nat → Nat → Int32} (a : Int32) (b : Int32), Inv R M → d_X6_town R a b = d_X7_town M a b) ∧
  (∀ {R M : Nat → Nat → Int32} (a : Int32) (b : Int32), Inv R M → d_X6_crew R a b = d_X7_crew M a b) ∧
  (∀ {R M : Nat → Nat → Int32} (a : Int32) (b : Int32), Inv R M → d_X6_believes R a b = d_X7_believes M a b) ∧
  (∀ {R M : Nat → Nat → Int32} (a : Int32) (b : Int32), Inv R M → d_X6_asks R a b = d_X7_asks M a b) ∧
  (∀ {R M : Nat → Nat → Int32} (a : Int32), Inv R M → (d_X6_pass R a).1 = (d_X7_pass M a).1 ∧ Inv (d_X6_pass R a).2 (d_X7_pass M a).2) ∧
  (∀ {R M : Nat → Nat → Int32} (a : Int32) (b : Int32), Inv R M → (d_X6_way R a b).1 = (d_X7_way M a b).1 ∧ Inv (d_X6_way R a b).2 (d_X7_way M a b).2) ∧
  (∀ {R M : Nat → Nat → Int32} (a : Int32) (b : Int32) (c : Int32), Inv R M → (d_X6_hire R a b c).1 = (d_X7_hire M a b c).1 ∧ Inv (d_X6_hire R a b c).2 (d_X7_hire M a b c).2) ∧
  (∀ {R M : Nat → Nat → Int32} (a : Int32) (b : Int32), Inv R M → (d_X6_land R a b).1 = (d_X7_land M a b).1 ∧ Inv (d_X6_land R a b).2 (d_X7_land M a b).2) ∧
  (∀ {R M : Nat → Nat → Int32} (a : Int32) (b : Int32), Inv R M → (d_X6_raise R a b).1 = (d_X7_raise M a b).1 ∧ Inv (d_X6_raise R a b).2 (d_X7_raise M a b).2) ∧
  (∀ {R M : Nat → Nat → Int32}, Inv R M → (d_X6_undo R).1 = (d_X7_undo M).1 ∧ Inv (d_X6_undo R).2 (d_X7_undo M).2) ∧
  (∀ {R M : Nat → Nat → Int32} (a : Int32) (b : Int32) (c : Int32), Inv R M → (d_X6_behind R a b c).1 = (d_X7_behind M a b c).1 ∧ Inv (d_X6_behind R a b c).2 (d_X7_behind M a b c).2) ∧
  (∀ {R M : Nat → Nat → Int32} (a : Int32), Inv R M → (d_X6_fire R a).1 = (d_X7_fire M a).1 ∧ Inv (d_X6_fire R a).2 (d_X7_fire M a).2) ∧
  (∀ {R M : Nat → Nat → Int32} (a : Int32) (b : Int32) (c : Int32), Inv R M → (d_X6_best R a b c).1 = (d_X7_best M a b c).1 ∧ Inv (d_X6_best R a b c).2 (d_X7_best M a b c).2) ∧
  (∀ {R M : Nat → Nat → Int32} (a : Int32) (b : Int32) (c : Int32), Inv R M → (d_X6_rests R a b c).1 = (d_X7_rests M a b c).1 ∧ Inv (d_X6_rests R a b c).2 (d_X7_rests M a b c).2) ∧
  (∀ {R M : Nat → Nat → Int32} (a : Int32) (b : Int32), Inv R M → (d_X6_walled R a b).1 = (d_X7_walled M a b).1 ∧ Inv (d_X6_walled R a b).2 (d_X7_walled M a b).2) ∧
  (∀ {R M : Nat → Nat → Int32} (a : Int32) (b : Int32), Inv R M → d_X6_together R a b = d_X7_together M a b) ∧
  (∀ {R M : Nat → Nat → Int32} (a : Int32) (b : Int32) (c : Int32), Inv R M → (d_X6_found R a b c).1 = (d_X7_found M a b c).1 ∧ Inv (d_X6_found R a b c).2 (d_X7_found M a b c).2) ∧
  (∀ {R M : Nat → Nat → Int32}, Inv R M → (d_X6_forget R).1 = (d_X7_forget M).1 ∧ Inv (d_X6_forget R).2 (d_X7_forget M).2) ∧
  (∀ {R M : Nat → Nat → Int32} (a : Int32) (b : Int32), Inv R M → (d_X6_hoard R a b).1 = (d_X7_hoard M a b).1 ∧ Inv (d_X6_hoard R a b).2 (d_X7_hoard M a b).2) ∧
  (∀ {R M : Nat → Nat → Int32} (a : Int32) (b : Int32) (c : Int32), Inv R M → (d_X6_whose R a b c).1 = (d_X7_whose M a b c).1 ∧ Inv (d_X6_whose R a b c).2 (d_X7_whose M a b c).2) ∧
  (∀ {R M : Nat → Nat → Int32} (a : Int32) (b : Int32) (c : Int32), Inv R M → (d_X6_springs R a b c).1 = (d_X7_springs M a b c).1 ∧ Inv (d_X6_springs R a b c).2 (d_X7_springs M a b c).2) ∧
  (∀ {R M : Nat → Nat → Int32}, Inv R M → (d_X6_keep R).1 = (d_X7_keep M).1 ∧ Inv (d_X6_keep R).2 (d_X7_keep M).2) ∧
  (∀ {R M : Nat → Nat → Int32}, Inv R M → (d_X6_back R).1 = (d_X7_back M).1 ∧ Inv (d_X6_back R).2 (d_X7_back M).2) ∧
  (∀ {R M : Nat → Nat → Int32} (a : Int32), Inv R M → d_X6_count R a = d_X7_count M a)
theorem Sim.ok6 {Inv : (Nat → Nat → Int32) → (Nat → Nat → Int32) → Prop} (h : Sim Inv) : ∀ {R M : Nat → Nat → Int32}, Inv R M → OK6 R := h.1
theorem Sim.ok7 {Inv : (Nat → Nat → Int32) → (Nat → Nat → Int32) → Prop} (h : Sim Inv) : ∀ {R M : Nat → Nat → Int32}, Inv R M → OK7 M := h.2.1
theorem Sim.p_write {Inv : (Nat → Nat → Int32) → (Nat → Nat → Int32) → Prop} (h : Sim Inv) : ∀ {R M : Nat → Nat → Int32} (a : Int32), Inv R M → (d_X6_write R a).1 = (d_X7_write M a).1 ∧ Inv (d_X6_write R a).2 (d_X7_write M a).2 := h.2.2.1
theorem Sim.p_wipe {Inv : (Nat → Nat → Int32) → (Nat → Nat → Int32) → Prop} (h : Sim Inv) : ∀ {R M : Nat → Nat → Int32}, Inv R M → (d_X6_wipe R).1 = (d_X7_wipe M).1 ∧ Inv (d_X6_wipe R).2 (d_X7_wipe M).2 := h.2.2.2.1
theorem Sim.p_fault {Inv : (Nat → Nat → Int32) → (Nat → Nat → Int32) → Prop} (h : Sim Inv) : ∀ {R M : Nat → Nat → Int32}, Inv R M → (d_X6_fault R).1 = (d_X7_fault M).1 ∧ Inv (d_X6_fault R).2 (d_X7_fault M).2 := h.2.2.2.2.1
theorem Sim.p_lay {Inv : (Nat → Nat → Int32) → (Nat → Nat → Int32) → Prop} (h : Sim Inv) : ∀ {R M : Nat → Nat → Int32}, Inv R M → (d_X6_lay R).1 = (d_X7_lay M).1 ∧ Inv (d_X6_lay R).2 (d_X7_lay M).2 := h.2.2.2.2.2.1
theorem Sim.p_town {Inv : (Nat → Nat → Int32) → (Nat → Nat → Int32) → Prop} (h : Sim Inv) : ∀ {R M : Nat → Nat → Int32} (a : Int32) (b : Int32), Inv R M → d_X6_town R a b = d_X7_town M a b := h.2.2.2.2.2.2.1
theorem Sim.p_crew {Inv : (Nat → Nat → Int32) → (Nat → Nat → Int32) → Prop} (h : Sim Inv) : ∀ {R M : Nat → Nat → Int32} (a : Int32) (b : Int32), Inv R M → d_X6_crew R a b = d_X7_crew M a b := h.2.2.2.2.2.2.2.1
theorem Sim.p_believes {Inv : (Nat → Nat → Int32) → (Nat → Nat → Int32) → Prop} (h : Sim Inv) : ∀ {R M : Nat → Nat → Int32} (a : Int32) (b : Int32), Inv R M → d_X6_believes R a b = d_X7_believes M a b := h.2.2.2.2.2.2.2.2.1
theorem Sim.p_asks {Inv : (Nat → Nat → Int32) → (Nat → Nat → Int32) → Prop} (h : Sim Inv) : ∀ {R M : Nat → Nat → Int32} (a : Int32) (b : Int32), Inv R M → d_X6_asks R a b = d_X7_asks M a b := h.2.2.2.2.2.2.2.2.2.1
theorem Sim.p_pass {Inv : (Nat → Nat → Int32) → (Nat → Nat → Int32) → Prop} (h : Sim Inv) : ∀ {R M : Nat → Nat → Int32} (a : Int32), Inv R M → (d_X6_pass R a).1 = (d_X7_pass M a).1 ∧ Inv (d_X6_pass R a).2 (d_X7_pass M a).2 := h.2.2.2.2.2.2.2.2.2.2.1
theorem Sim.p_way {Inv : (Nat → Nat → Int32) → (Nat → Nat → Int32) → Prop} (h : Sim Inv) : ∀ {R M : Nat → Nat → Int32} (a : Int32) (b : Int32), Inv R M → (d_X6_way R a b).1 = (d_X7_way M a b).1 ∧ Inv (d_X6_way R a b).2 (d_X7_way M a b).2 := h.2.2.2.2.2.2.2.2.2.2.2.1
theorem Sim.p_hire {Inv : (Nat → Nat → Int32) → (Nat → Nat → Int32) → Prop} (h : Sim Inv) : ∀ {R M : Nat → Nat → Int32} (a : Int32) (b : Int32) (c : Int32), Inv R M → (d_X6_hire R a b c).1 = (d_X7_hire M a b c).1 ∧ Inv (d_X6_hire R a b c).2 (d_X7_hire M a b c).2 := h.2.2.2.2.2.2.2.2.2.2.2.2.1
theorem Sim.p_land {Inv : (Nat → Nat → Int32) → (Nat → Nat → Int32) → Prop} (h : Sim Inv) : ∀ {R M : Nat → Nat → Int32} (a : Int32) (b : Int32), Inv R M → (d_X6_land R a b).1 = (d_X7_land M a b).1 ∧ Inv (d_X6_land R a b).2 (d_X7_land M a b).2 := h.2.2.2.2.2.2.2.2.2.2.2.2.2.1
theorem Sim.p_raise {Inv : (Nat → Nat → Int32) → (Nat → Nat → Int32) → Prop} (h : Sim Inv) : ∀ {R M : Nat → Nat → Int32} (a : Int32) (b : Int32), Inv R M → (d_X6_raise R a b).1 = (d_X7_raise M a b).1 ∧ Inv (d_X6_raise R a b).2 (d_X7_raise M a b).2 := h.2.2.2.2.2.2.2.2.2.2.2.2.2.2.1
theorem Sim.p_undo {Inv : (Nat → Nat → Int32) → (Nat → Nat → Int32) → Prop} (h : Sim Inv) : ∀ {R M : Nat → Nat → Int32}, Inv R M → (d_X6_undo R).1 = (d_X7_undo M).1 ∧ Inv (d_X6_undo R).2 (d_X7_undo M).2 := h.2.2.2.2.2.2.2.2.2.2.2.2.2.2.2.1
theorem Sim.p_behind {Inv : (Nat → Nat → Int32) → (Nat → Nat → Int32) → Prop} (h : Sim Inv) : ∀ {R M : Nat → Nat → Int32} (a : Int32) (b : Int32) (c : Int32), Inv R M → (d_X6_behind R a b c).1 = (d_X7_behind M a b c).1 ∧ Inv (d_X6_behind R a b c).2 (d_X7_behind M a b c).2 := h.2.2.2.2.2.2.2.2.2.2.2.2.2.2.2.2.1
theorem Sim.p_fire {Inv : (Nat → Nat → Int32) → (Nat → Nat → Int32) → Prop} (h : Sim Inv) : ∀ {R M : Nat → Nat → Int32} (a : Int32), Inv R M → (d_X6_fire R a).1 = (d_X7_fire M a).1 ∧ Inv (d_X6_fire R a).2 (d_X7_fire M a).2 := h.2.2.2.2.2.2.2.2.2.2.2.2.2.2.2.2.2.1
theorem Sim.p_best {Inv : (Nat → Nat → Int32) → (Nat → Nat → Int32) → Prop} (h : Sim Inv) : ∀ {R M : Nat → Nat → Int32} (a : Int32) (b : Int32) (c : Int32), Inv R M → (d_X6_best R a b c).1 = (d_X7_best M a b c).1 ∧ Inv (d_X6_best R a b c).2 (d_X7_best M a b c).2 := h.2.2.2.2.2.2.2.2.2.2.2.2.2.2.2.2.2.2.1
theorem Sim.p_rests {Inv : (Nat → Nat → Int32) → (Nat → Nat → Int32) → Prop} (h : Sim Inv) : ∀ {R M : Nat → Nat → Int32} (a : Int32) (b : Int32) (c : Int32), Inv R M → (d_X6_rests R a b c).1 = (d_X7_rests M a b c).1 ∧ Inv (d_X6_rests R a b c).2 (d_X7_rests M a b c).2 := h.2.2.2.2.2.2.2.2.2.2.2.2.2.2.2.2.2.2.2.1
theorem Sim.p_walled {Inv : (Nat → Nat → Int32) → (Nat → Nat → Int32) → Prop} (h : Sim Inv) : ∀ {R M : Nat → Nat → Int32} (a : Int32) (b : Int32), Inv R M → (d_X6_walled R a b).1 = (d_X7_walled M a b).1 ∧ Inv (d_X6_walled R a b).2 (d_X7_walled M a b).2 := h.2.2.2.2.2.2.2.2.2.2.2.2.2.2.2.2.2.2.2.2.1
theorem Sim.p_together {Inv : (Nat → Nat → Int32) → (Nat → Nat → Int32) → Prop} (h : Sim Inv) : ∀ {R M : Nat → Nat → Int32} (a : Int32) (b : Int32), Inv R M → d_X6_together R a b = d_X7_together M a b := h.2.2.2.2.2.2.2.2.2.2.2.2.2.2.2.2.2.2.2.2.2.1
theorem Sim.p_found {Inv : (Nat → Nat → Int32) → (Nat → Nat → Int32) → Prop} (h : Sim Inv) : ∀ {R M : Nat → Nat → Int32} (a : Int32) (b : Int32) (c : Int32), Inv R M → (d_X6_found R a b c).1 = (d_X7_found M a b c).1 ∧ Inv (d_X6_found R a b c).2 (d_X7_found M a b c).2 := h.2.2.2.2.2.2.2.2.2.2.2.2.2.2.2.2.2.2.2.2.2.2.1
theorem Sim.p_forget {Inv : (Nat → Nat → Int32) → (Nat → Nat → Int32) → Prop} (h : Sim Inv) : ∀ {R M : Nat → Nat → Int32}, Inv R M → (d_X6_forget R).1 = (d_X7_forget M).1 ∧ Inv (d_X6_forget R).2 (d_X7_forget M).2 := h.2.2.2.2.2.2.2.2.2.2.2.2.2.2.2.2.2.2.2.2.2.2.2.1
theorem Sim.p_hoard {Inv : (Nat → Nat → Int32) → (Nat → Nat → Int32) → Prop} (h : Sim Inv) : ∀ {R M : Nat → Nat → Int32} (a : Int32) (b : Int32), Inv R M → (d_X6_hoard R a b).1 = (d_X7_hoard M a b).1 ∧ Inv (d_X6_hoard R a b).2 (d_X7_hoard M a b).2 := h.2.2.2.2.2.2.2.2.2.2.2.2.2.2.2.2.2.2.2.2.2.2.2.2.1
theorem Sim.p_whose {Inv : (Nat → Nat → Int32) → (Nat → Nat → Int32) → Prop} (h : Sim Inv) : ∀ {R M : Nat → Nat → Int32} (a : Int32) (b : Int32) (c : Int32), Inv R M → (d_X6_whose R a b c).1 = (d_X7_whose M a b c).1 ∧ Inv (d_X6_whose R a b c).2 (d_X7_whose M a b c).2 := h.2.2.2.2.2.2.2.2.2.2.2.2.2.2.2.2.2.2.2.2.2.2.2.2.2.1
theorem Sim.p_springs {Inv : (Nat → Nat → Int32) → (Nat → Nat → Int32) → Prop} (h : Sim Inv) : ∀ {R M : Nat → Nat → Int32} (a : Int32) (b : Int32) (c : Int32), Inv R M → (d_X6_springs R a b c).1 = (d_X7_springs M a b c).1 ∧ Inv (d_X6_springs R a b c).2 (d_X7_springs M a b c).2 := h.2.2.2.2.2.2.2.2.2.2.2.2.2.2.2.2.2.2.2.2.2.2.2.2.2.2.1
theorem Sim.p_keep {Inv : (Nat → Nat → Int32) → (Nat → Nat → Int32) → Prop} (h : Sim Inv) : ∀ {R M : Nat → Nat → Int32}, Inv R M → (d_X6_keep R).1 = (d_X7_keep M).1 ∧ Inv (d_X6_keep R).2 (d_X7_keep M).2 := h.2.2.2.2.2.2.2.2.2.2.2.2.2.2.2.2.2.2.2.2.2.2.2.2.2.2.2.1
theorem Sim.p_back {Inv : (Nat → Nat → Int32) → (Nat → Nat → Int32) → Prop} (h : Sim Inv) : ∀ {R M : Nat → Nat → Int32}, Inv R M → (d_X6_back R).1 = (d_X7_back M).1 ∧ Inv (d_X6_back R).2 (d_X7_back M).2 := h.2.2.2.2.2.2.2.2.2.2.2.2.2.2.2.2.2.2.2.2.2.2.2.2.2.2.2.2.1
theorem Sim.p_count {Inv : (Nat → Nat → Int32) → (Nat → Nat → Int32) → Prop} (h : Sim Inv) : ∀ {R M : Nat → Nat → Int32} (a : Int32), Inv R M → d_X6_count R a = d_X7_count M a := h.2.2.2.2.2.2.2.2.2.2.2.2.2.2.2.2.2.2.2.2.2.2.2.2.2.2.2.2.2
theorem dL_law_0 : dec cL_law 0 (.new 7) 3 3 := ⟨by decide +kernel, rfl⟩
theorem dL_law_3 : dec cL_law 3 .dup 1 4 := ⟨by decide +kernel, rfl⟩
theorem dL_law_4 : dec cL_law 4 (.invokespecial 9) 3 7 := ⟨by decide +kernel, rfl⟩
theorem dL_law_7 : dec cL_law 7 (.astore_n 1) 1 8 := ⟨by decide +kernel, rfl⟩
theorem dL_law_8 : dec cL_law 8 (.new 10) 3 11 := ⟨by decide +kernel, rfl⟩
theorem dL_law_11 : dec cL_law 11 .dup 1 12 := ⟨by decide +kernel, rfl⟩
theorem dL_law_12 : dec cL_law 12 (.invokespecial 12) 3 15 := ⟨by decide +kernel, rfl⟩
theorem dL_law_15 : dec cL_law 15 (.astore_n 2) 1 16 := ⟨by decide +kernel, rfl⟩
theorem dL_law_16 : dec cL_law 16 (.iconst 0) 1 17 := ⟨by decide +kernel, rfl⟩
theorem dL_law_17 : dec cL_law 17 (.istore_n 3) 1 18 := ⟨by decide +kernel, rfl⟩
theorem dL_law_18 : dec cL_law 18 (.iload_n 3) 1 19 := ⟨by decide +kernel, rfl⟩
theorem dL_law_19 : dec cL_law 19 (.aload_n 0) 1 20 := ⟨by decide +kernel, rfl⟩
theorem dL_law_20 : dec cL_law 20 .arraylength 1 21 := ⟨by decide +kernel, rfl⟩
theorem dL_law_21 : dec cL_law 21 (.iconst 4) 1 22 := ⟨by decide +kernel, rfl⟩
theorem dL_law_22 : dec cL_law 22 .isub 1 23 := ⟨by decide +kernel, rfl⟩
theorem dL_law_23 : decJ cL_law 23 (.if_icmp .gt) 3 26 980 := ⟨957, by decide +kernel, rfl, rfl⟩
theorem dL_law_26 : dec cL_law 26 (.aload_n 0) 1 27 := ⟨by decide +kernel, rfl⟩
theorem dL_law_27 : dec cL_law 27 (.iload_n 3) 1 28 := ⟨by decide +kernel, rfl⟩
theorem dL_law_28 : dec cL_law 28 .iaload 1 29 := ⟨by decide +kernel, rfl⟩
theorem dL_law_29 : dec cL_law 29 (.bipush 31) 2 31 := ⟨by decide +kernel, rfl⟩
theorem dL_law_31 : dec cL_law 31 .iand 1 32 := ⟨by decide +kernel, rfl⟩
theorem dL_law_160 : dec cL_law 160 (.aload_n 1) 1 161 := ⟨by decide +kernel, rfl⟩
theorem dL_law_161 : dec cL_law 161 (.aload_n 0) 1 162 := ⟨by decide +kernel, rfl⟩
theorem dL_law_162 : dec cL_law 162 (.iload_n 3) 1 163 := ⟨by decide +kernel, rfl⟩
theorem dL_law_163 : dec cL_law 163 (.iconst 1) 1 164 := ⟨by decide +kernel, rfl⟩
theorem dL_law_164 : dec cL_law 164 .iadd 1 165 := ⟨by decide +kernel, rfl⟩
theorem dL_law_165 : dec cL_law 165 .iaload 1 166 := ⟨by decide +kernel, rfl⟩
theorem dL_law_166 : dec cL_law 166 (.invokevirtual 13) 3 169 := ⟨by decide +kernel, rfl⟩
theorem dL_law_169 : dec cL_law 169 (.aload_n 2) 1 170 := ⟨by decide +kernel, rfl⟩
theorem dL_law_170 : dec cL_law 170 (.aload_n 0) 1 171 := ⟨by decide +kernel, rfl⟩
theorem dL_law_171 : dec cL_law 171 (.iload_n 3) 1 172 := ⟨by decide +kernel, rfl⟩
theorem dL_law_172 : dec cL_law 172 (.iconst 1) 1 173 := ⟨by decide +kernel, rfl⟩
theorem dL_law_173 : dec cL_law 173 .iadd 1 174 := ⟨by decide +kernel, rfl⟩
theorem dL_law_174 : dec cL_law 174 .iaload 1 175 := ⟨by decide +kernel, rfl⟩
theorem dL_law_175 : dec cL_law 175 (.invokevirtual 17) 3 178 := ⟨by decide +kernel, rfl⟩
theorem dL_law_178 : decJ cL_law 178 (.if_icmp .eq) 3 181 974 := ⟨796, by decide +kernel, rfl, rfl⟩
theorem dL_law_181 : dec cL_law 181 (.iconst 0) 1 182 := ⟨by decide +kernel, rfl⟩
theorem dL_law_182 : dec cL_law 182 .ireturn 1 183 := ⟨by decide +kernel, rfl⟩
theorem dL_law_183 : dec cL_law 183 (.aload_n 1) 1 184 := ⟨by decide +kernel, rfl⟩
theorem dL_law_184 : dec cL_law 184 (.invokevirtual 18) 3 187 := ⟨by decide +kernel, rfl⟩
theorem dL_law_187 : dec cL_law 187 (.aload_n 2) 1 188 := ⟨by decide +kernel, rfl⟩
theorem dL_law_188 : dec cL_law 188 (.invokevirtual 22) 3 191 := ⟨by decide +kernel, rfl⟩
theorem dL_law_191 : decJ cL_law 191 (.if_icmp .eq) 3 194 974 := ⟨783, by decide +kernel, rfl, rfl⟩
theorem dL_law_194 : dec cL_law 194 (.iconst 0) 1 195 := ⟨by decide +kernel, rfl⟩
theorem dL_law_195 : dec cL_law 195 .ireturn 1 196 := ⟨by decide +kernel, rfl⟩
theorem dL_law_196 : dec cL_law 196 (.aload_n 1) 1 197 := ⟨by decide +kernel, rfl⟩
theorem dL_law_197 : dec cL_law 197 (.invokevirtual 23) 3 200 := ⟨by decide +kernel, rfl⟩
theorem dL_law_200 : dec cL_law 200 (.aload_n 2) 1 201 := ⟨by decide +kernel, rfl⟩
theorem dL_law_201 : dec cL_law 201 (.invokevirtual 26) 3 204 := ⟨by decide +kernel, rfl⟩
theorem dL_law_204 : decJ cL_law 204 (.if_icmp .eq) 3 207 974 := ⟨770, by decide +kernel, rfl, rfl⟩
theorem dL_law_207 : dec cL_law 207 (.iconst 0) 1 208 := ⟨by decide +kernel, rfl⟩
theorem dL_law_208 : dec cL_law 208 .ireturn 1 209 := ⟨by decide +kernel, rfl⟩
theorem dL_law_209 : dec cL_law 209 (.aload_n 1) 1 210 := ⟨by decide +kernel, rfl⟩
theorem dL_law_210 : dec cL_law 210 (.invokevirtual 27) 3 213 := ⟨by decide +kernel, rfl⟩
theorem dL_law_213 : dec cL_law 213 (.aload_n 2) 1 214 := ⟨by decide +kernel, rfl⟩
theorem dL_law_214 : dec cL_law 214 (.invokevirtual 30) 3 217 := ⟨by decide +kernel, rfl⟩
theorem dL_law_217 : decJ cL_law 217 (.if_icmp .eq) 3 220 974 := ⟨757, by decide +kernel, rfl, rfl⟩
theorem dL_law_220 : dec cL_law 220 (.iconst 0) 1 221 := ⟨by decide +kernel, rfl⟩
theorem dL_law_221 : dec cL_law 221 .ireturn 1 222 := ⟨by decide +kernel, rfl⟩
theorem dL_law_222 : dec cL_law 222 (.aload_n 1) 1 223 := ⟨by decide +kernel, rfl⟩
theorem dL_law_223 : dec cL_law 223 (.aload_n 0) 1 224 := ⟨by decide +kernel, rfl⟩
theorem dL_law_224 : dec cL_law 224 (.iload_n 3) 1 225 := ⟨by decide +kernel, rfl⟩
theorem dL_law_225 : dec cL_law 225 (.iconst 1) 1 226 := ⟨by decide +kernel, rfl⟩
theorem dL_law_226 : dec cL_law 226 .iadd 1 227 := ⟨by decide +kernel, rfl⟩
theorem dL_law_227 : dec cL_law 227 .iaload 1 228 := ⟨by decide +kernel, rfl⟩
theorem dL_law_228 : dec cL_law 228 (.aload_n 0) 1 229 := ⟨by decide +kernel, rfl⟩
theorem dL_law_229 : dec cL_law 229 (.iload_n 3) 1 230 := ⟨by decide +kernel, rfl⟩
theorem dL_law_230 : dec cL_law 230 (.iconst 2) 1 231 := ⟨by decide +kernel, rfl⟩
theorem dL_law_231 : dec cL_law 231 .iadd 1 232 := ⟨by decide +kernel, rfl⟩
theorem dL_law_232 : dec cL_law 232 .iaload 1 233 := ⟨by decide +kernel, rfl⟩
theorem dL_law_233 : dec cL_law 233 (.invokevirtual 31) 3 236 := ⟨by decide +kernel, rfl⟩
theorem dL_law_236 : dec cL_law 236 (.aload_n 2) 1 237 := ⟨by decide +kernel, rfl⟩
theorem dL_law_237 : dec cL_law 237 (.aload_n 0) 1 238 := ⟨by decide +kernel, rfl⟩
theorem dL_law_238 : dec cL_law 238 (.iload_n 3) 1 239 := ⟨by decide +kernel, rfl⟩
theorem dL_law_239 : dec cL_law 239 (.iconst 1) 1 240 := ⟨by decide +kernel, rfl⟩
theorem dL_law_240 : dec cL_law 240 .iadd 1 241 := ⟨by decide +kernel, rfl⟩
theorem dL_law_241 : dec cL_law 241 .iaload 1 242 := ⟨by decide +kernel, rfl⟩
theorem dL_law_242 : dec cL_law 242 (.aload_n 0) 1 243 := ⟨by decide +kernel, rfl⟩
theorem dL_law_243 : dec cL_law 243 (.iload_n 3) 1 244 := ⟨by decide +kernel, rfl⟩
theorem dL_law_244 : dec cL_law 244 (.iconst 2) 1 245 := ⟨by decide +kernel, rfl⟩
theorem dL_law_245 : dec cL_law 245 .iadd 1 246 := ⟨by decide +kernel, rfl⟩
theorem dL_law_246 : dec cL_law 246 .iaload 1 247 := ⟨by decide +kernel, rfl⟩
theorem dL_law_247 : dec cL_law 247 (.invokevirtual 35) 3 250 := ⟨by decide +kernel, rfl⟩
theorem dL_law_250 : decJ cL_law 250 (.if_icmp .eq) 3 253 974 := ⟨724, by decide +kernel, rfl, rfl⟩
theorem dL_law_253 : dec cL_law 253 (.iconst 0) 1 254 := ⟨by decide +kernel, rfl⟩
theorem dL_law_254 : dec cL_law 254 .ireturn 1 255 := ⟨by decide +kernel, rfl⟩
theorem dL_law_255 : dec cL_law 255 (.aload_n 1) 1 256 := ⟨by decide +kernel, rfl⟩
theorem dL_law_256 : dec cL_law 256 (.aload_n 0) 1 257 := ⟨by decide +kernel, rfl⟩
theorem dL_law_257 : dec cL_law 257 (.iload_n 3) 1 258 := ⟨by decide +kernel, rfl⟩
theorem dL_law_258 : dec cL_law 258 (.iconst 1) 1 259 := ⟨by decide +kernel, rfl⟩
theorem dL_law_259 : dec cL_law 259 .iadd 1 260 := ⟨by decide +kernel, rfl⟩
theorem dL_law_260 : dec cL_law 260 .iaload 1 261 := ⟨by decide +kernel, rfl⟩
theorem dL_law_261 : dec cL_law 261 (.aload_n 0) 1 262 := ⟨by decide +kernel, rfl⟩
theorem dL_law_262 : dec cL_law 262 (.iload_n 3) 1 263 := ⟨by decide +kernel, rfl⟩
theorem dL_law_263 : dec cL_law 263 (.iconst 2) 1 264 := ⟨by decide +kernel, rfl⟩
theorem dL_law_264 : dec cL_law 264 .iadd 1 265 := ⟨by decide +kernel, rfl⟩
theorem dL_law_265 : dec cL_law 265 .iaload 1 266 := ⟨by decide +kernel, rfl⟩
theorem dL_law_266 : dec cL_law 266 (.invokevirtual 36) 3 269 := ⟨by decide +kernel, rfl⟩
theorem dL_law_269 : dec cL_law 269 (.aload_n 2) 1 270 := ⟨by decide +kernel, rfl⟩
theorem dL_law_270 : dec cL_law 270 (.aload_n 0) 1 271 := ⟨by decide +kernel, rfl⟩
theorem dL_law_271 : dec cL_law 271 (.iload_n 3) 1 272 := ⟨by decide +kernel, rfl⟩
theorem dL_law_272 : dec cL_law 272 (.iconst 1) 1 273 := ⟨by decide +kernel, rfl⟩
theorem dL_law_273 : dec cL_law 273 .iadd 1 274 := ⟨by decide +kernel, rfl⟩
theorem dL_law_274 : dec cL_law 274 .iaload 1 275 := ⟨by decide +kernel, rfl⟩
theorem dL_law_275 : dec cL_law 275 (.aload_n 0) 1 276 := ⟨by decide +kernel, rfl⟩
theorem dL_law_276 : dec cL_law 276 (.iload_n 3) 1 277 := ⟨by decide +kernel, rfl⟩
theorem dL_law_277 : dec cL_law 277 (.iconst 2) 1 278 := ⟨by decide +kernel, rfl⟩
theorem dL_law_278 : dec cL_law 278 .iadd 1 279 := ⟨by decide +kernel, rfl⟩
theorem dL_law_279 : dec cL_law 279 .iaload 1 280 := ⟨by decide +kernel, rfl⟩
theorem dL_law_280 : dec cL_law 280 (.invokevirtual 39) 3 283 := ⟨by decide +kernel, rfl⟩
theorem dL_law_283 : decJ cL_law 283 (.if_icmp .eq) 3 286 974 := ⟨691, by decide +kernel, rfl, rfl⟩
theorem dL_law_286 : dec cL_law 286 (.iconst 0) 1 287 := ⟨by decide +kernel, rfl⟩
theorem dL_law_287 : dec cL_law 287 .ireturn 1 288 := ⟨by decide +kernel, rfl⟩
theorem dL_law_288 : dec cL_law 288 (.aload_n 1) 1 289 := ⟨by decide +kernel, rfl⟩
theorem dL_law_289 : dec cL_law 289 (.aload_n 0) 1 290 := ⟨by decide +kernel, rfl⟩
theorem dL_law_290 : dec cL_law 290 (.iload_n 3) 1 291 := ⟨by decide +kernel, rfl⟩
theorem dL_law_291 : dec cL_law 291 (.iconst 1) 1 292 := ⟨by decide +kernel, rfl⟩
theorem dL_law_292 : dec cL_law 292 .iadd 1 293 := ⟨by decide +kernel, rfl⟩
theorem dL_law_293 : dec cL_law 293 .iaload 1 294 := ⟨by decide +kernel, rfl⟩
theorem dL_law_294 : dec cL_law 294 (.aload_n 0) 1 295 := ⟨by decide +kernel, rfl⟩
theorem dL_law_295 : dec cL_law 295 (.iload_n 3) 1 296 := ⟨by decide +kernel, rfl⟩
theorem dL_law_296 : dec cL_law 296 (.iconst 2) 1 297 := ⟨by decide +kernel, rfl⟩
theorem dL_law_297 : dec cL_law 297 .iadd 1 298 := ⟨by decide +kernel, rfl⟩
theorem dL_law_298 : dec cL_law 298 .iaload 1 299 := ⟨by decide +kernel, rfl⟩
theorem dL_law_299 : dec cL_law 299 (.invokevirtual 40) 3 302 := ⟨by decide +kernel, rfl⟩
theorem dL_law_302 : dec cL_law 302 (.aload_n 2) 1 303 := ⟨by decide +kernel, rfl⟩
theorem dL_law_303 : dec cL_law 303 (.aload_n 0) 1 304 := ⟨by decide +kernel, rfl⟩
theorem dL_law_304 : dec cL_law 304 (.iload_n 3) 1 305 := ⟨by decide +kernel, rfl⟩
theorem dL_law_305 : dec cL_law 305 (.iconst 1) 1 306 := ⟨by decide +kernel, rfl⟩
theorem dL_law_306 : dec cL_law 306 .iadd 1 307 := ⟨by decide +kernel, rfl⟩
theorem dL_law_307 : dec cL_law 307 .iaload 1 308 := ⟨by decide +kernel, rfl⟩
theorem dL_law_308 : dec cL_law 308 (.aload_n 0) 1 309 := ⟨by decide +kernel, rfl⟩
theorem dL_law_309 : dec cL_law 309 (.iload_n 3) 1 310 := ⟨by decide +kernel, rfl⟩
theorem dL_law_310 : dec cL_law 310 (.iconst 2) 1 311 := ⟨by decide +kernel, rfl⟩
theorem dL_law_311 : dec cL_law 311 .iadd 1 312 := ⟨by decide +kernel, rfl⟩
theorem dL_law_312 : dec cL_law 312 .iaload 1 313 := ⟨by decide +kernel, rfl⟩
theorem dL_law_313 : dec cL_law 313 (.invokevirtual 43) 3 316 := ⟨by decide +kernel, rfl⟩
theorem dL_law_316 : decJ cL_law 316 (.if_icmp .eq) 3 319 974 := ⟨658, by decide +kernel, rfl, rfl⟩
theorem dL_law_319 : dec cL_law 319 (.iconst 0) 1 320 := ⟨by decide +kernel, rfl⟩
theorem dL_law_320 : dec cL_law 320 .ireturn 1 321 := ⟨by decide +kernel, rfl⟩
theorem dL_law_321 : dec cL_law 321 (.aload_n 1) 1 322 := ⟨by decide +kernel, rfl⟩
theorem dL_law_322 : dec cL_law 322 (.aload_n 0) 1 323 := ⟨by decide +kernel, rfl⟩
theorem dL_law_323 : dec cL_law 323 (.iload_n 3) 1 324 := ⟨by decide +kernel, rfl⟩
theorem dL_law_324 : dec cL_law 324 (.iconst 1) 1 325 := ⟨by decide +kernel, rfl⟩
theorem dL_law_325 : dec cL_law 325 .iadd 1 326 := ⟨by decide +kernel, rfl⟩
theorem dL_law_326 : dec cL_law 326 .iaload 1 327 := ⟨by decide +kernel, rfl⟩
theorem dL_law_327 : dec cL_law 327 (.aload_n 0) 1 328 := ⟨by decide +kernel, rfl⟩
theorem dL_law_328 : dec cL_law 328 (.iload_n 3) 1 329 := ⟨by decide +kernel, rfl⟩
theorem dL_law_329 : dec cL_law 329 (.iconst 2) 1 330 := ⟨by decide +kernel, rfl⟩
theorem dL_law_330 : dec cL_law 330 .iadd 1 331 := ⟨by decide +kernel, rfl⟩
theorem dL_law_331 : dec cL_law 331 .iaload 1 332 := ⟨by decide +kernel, rfl⟩
theorem dL_law_332 : dec cL_law 332 (.invokevirtual 44) 3 335 := ⟨by decide +kernel, rfl⟩
theorem dL_law_335 : dec cL_law 335 (.aload_n 2) 1 336 := ⟨by decide +kernel, rfl⟩
theorem dL_law_336 : dec cL_law 336 (.aload_n 0) 1 337 := ⟨by decide +kernel, rfl⟩
theorem dL_law_337 : dec cL_law 337 (.iload_n 3) 1 338 := ⟨by decide +kernel, rfl⟩
theorem dL_law_338 : dec cL_law 338 (.iconst 1) 1 339 := ⟨by decide +kernel, rfl⟩
theorem dL_law_339 : dec cL_law 339 .iadd 1 340 := ⟨by decide +kernel, rfl⟩
theorem dL_law_340 : dec cL_law 340 .iaload 1 341 := ⟨by decide +kernel, rfl⟩
theorem dL_law_341 : dec cL_law 341 (.aload_n 0) 1 342 := ⟨by decide +kernel, rfl⟩
theorem dL_law_342 : dec cL_law 342 (.iload_n 3) 1 343 := ⟨by decide +kernel, rfl⟩
theorem dL_law_343 : dec cL_law 343 (.iconst 2) 1 344 := ⟨by decide +kernel, rfl⟩
theorem dL_law_344 : dec cL_law 344 .iadd 1 345 := ⟨by decide +kernel, rfl⟩
theorem dL_law_345 : dec cL_law 345 .iaload 1 346 := ⟨by decide +kernel, rfl⟩
theorem dL_law_346 : dec cL_law 346 (.invokevirtual 47) 3 349 := ⟨by decide +kernel, rfl⟩
theorem dL_law_349 : decJ cL_law 349 (.if_icmp .eq) 3 352 974 := ⟨625, by decide +kernel, rfl, rfl⟩
theorem dL_law_352 : dec cL_law 352 (.iconst 0) 1 353 := ⟨by decide +kernel, rfl⟩
theorem dL_law_353 : dec cL_law 353 .ireturn 1 354 := ⟨by decide +kernel, rfl⟩
theorem dL_law_354 : dec cL_law 354 (.aload_n 1) 1 355 := ⟨by decide +kernel, rfl⟩
theorem dL_law_355 : dec cL_law 355 (.aload_n 0) 1 356 := ⟨by decide +kernel, rfl⟩
theorem dL_law_356 : dec cL_law 356 (.iload_n 3) 1 357 := ⟨by decide +kernel, rfl⟩
theorem dL_law_357 : dec cL_law 357 (.iconst 1) 1 358 := ⟨by decide +kernel, rfl⟩
theorem dL_law_358 : dec cL_law 358 .iadd 1 359 := ⟨by decide +kernel, rfl⟩
theorem dL_law_359 : dec cL_law 359 .iaload 1 360 := ⟨by decide +kernel, rfl⟩
theorem dL_law_360 : dec cL_law 360 (.invokevirtual 48) 3 363 := ⟨by decide +kernel, rfl⟩
theorem dL_law_363 : dec cL_law 363 (.aload_n 2) 1 364 := ⟨by decide +kernel, rfl⟩
theorem dL_law_364 : dec cL_law 364 (.aload_n 0) 1 365 := ⟨by decide +kernel, rfl⟩
theorem dL_law_365 : dec cL_law 365 (.iload_n 3) 1 366 := ⟨by decide +kernel, rfl⟩
theorem dL_law_366 : dec cL_law 366 (.iconst 1) 1 367 := ⟨by decide +kernel, rfl⟩
theorem dL_law_367 : dec cL_law 367 .iadd 1 368 := ⟨by decide +kernel, rfl⟩
theorem dL_law_368 : dec cL_law 368 .iaload 1 369 := ⟨by decide +kernel, rfl⟩
theorem dL_law_369 : dec cL_law 369 (.invokevirtual 51) 3 372 := ⟨by decide +kernel, rfl⟩
theorem dL_law_372 : decJ cL_law 372 (.if_icmp .eq) 3 375 974 := ⟨602, by decide +kernel, rfl, rfl⟩
theorem dL_law_375 : dec cL_law 375 (.iconst 0) 1 376 := ⟨by decide +kernel, rfl⟩
theorem dL_law_376 : dec cL_law 376 .ireturn 1 377 := ⟨by decide +kernel, rfl⟩
theorem dL_law_377 : dec cL_law 377 (.aload_n 1) 1 378 := ⟨by decide +kernel, rfl⟩
theorem dL_law_378 : dec cL_law 378 (.aload_n 0) 1 379 := ⟨by decide +kernel, rfl⟩
theorem dL_law_379 : dec cL_law 379 (.iload_n 3) 1 380 := ⟨by decide +kernel, rfl⟩
theorem dL_law_380 : dec cL_law 380 (.iconst 1) 1 381 := ⟨by decide +kernel, rfl⟩
theorem dL_law_381 : dec cL_law 381 .iadd 1 382 := ⟨by decide +kernel, rfl⟩
theorem dL_law_382 : dec cL_law 382 .iaload 1 383 := ⟨by decide +kernel, rfl⟩
theorem dL_law_383 : dec cL_law 383 (.aload_n 0) 1 384 := ⟨by decide +kernel, rfl⟩
theorem dL_law_384 : dec cL_law 384 (.iload_n 3) 1 385 := ⟨by decide +kernel, rfl⟩
theorem dL_law_385 : dec cL_law 385 (.iconst 2) 1 386 := ⟨by decide +kernel, rfl⟩
theorem dL_law_386 : dec cL_law 386 .iadd 1 387 := ⟨by decide +kernel, rfl⟩
theorem dL_law_387 : dec cL_law 387 .iaload 1 388 := ⟨by decide +kernel, rfl⟩
theorem dL_law_388 : dec cL_law 388 (.invokevirtual 52) 3 391 := ⟨by decide +kernel, rfl⟩
theorem dL_law_391 : dec cL_law 391 (.aload_n 2) 1 392 := ⟨by decide +kernel, rfl⟩
theorem dL_law_392 : dec cL_law 392 (.aload_n 0) 1 393 := ⟨by decide +kernel, rfl⟩
theorem dL_law_393 : dec cL_law 393 (.iload_n 3) 1 394 := ⟨by decide +kernel, rfl⟩
theorem dL_law_394 : dec cL_law 394 (.iconst 1) 1 395 := ⟨by decide +kernel, rfl⟩
theorem dL_law_395 : dec cL_law 395 .iadd 1 396 := ⟨by decide +kernel, rfl⟩
theorem dL_law_396 : dec cL_law 396 .iaload 1 397 := ⟨by decide +kernel, rfl⟩
theorem dL_law_397 : dec cL_law 397 (.aload_n 0) 1 398 := ⟨by decide +kernel, rfl⟩
theorem dL_law_398 : dec cL_law 398 (.iload_n 3) 1 399 := ⟨by decide +kernel, rfl⟩
theorem dL_law_399 : dec cL_law 399 (.iconst 2) 1 400 := ⟨by decide +kernel, rfl⟩
theorem dL_law_400 : dec cL_law 400 .iadd 1 401 := ⟨by decide +kernel, rfl⟩
theorem dL_law_401 : dec cL_law 401 .iaload 1 402 := ⟨by decide +kernel, rfl⟩
theorem dL_law_402 : dec cL_law 402 (.invokevirtual 55) 3 405 := ⟨by decide +kernel, rfl⟩
theorem dL_law_405 : decJ cL_law 405 (.if_icmp .eq) 3 408 974 := ⟨569, by decide +kernel, rfl, rfl⟩
theorem dL_law_408 : dec cL_law 408 (.iconst 0) 1 409 := ⟨by decide +kernel, rfl⟩
theorem dL_law_409 : dec cL_law 409 .ireturn 1 410 := ⟨by decide +kernel, rfl⟩
theorem dL_law_410 : dec cL_law 410 (.aload_n 1) 1 411 := ⟨by decide +kernel, rfl⟩
theorem dL_law_411 : dec cL_law 411 (.aload_n 0) 1 412 := ⟨by decide +kernel, rfl⟩
theorem dL_law_412 : dec cL_law 412 (.iload_n 3) 1 413 := ⟨by decide +kernel, rfl⟩
theorem dL_law_413 : dec cL_law 413 (.iconst 1) 1 414 := ⟨by decide +kernel, rfl⟩
theorem dL_law_414 : dec cL_law 414 .iadd 1 415 := ⟨by decide +kernel, rfl⟩
theorem dL_law_415 : dec cL_law 415 .iaload 1 416 := ⟨by decide +kernel, rfl⟩
theorem dL_law_416 : dec cL_law 416 (.aload_n 0) 1 417 := ⟨by decide +kernel, rfl⟩
theorem dL_law_417 : dec cL_law 417 (.iload_n 3) 1 418 := ⟨by decide +kernel, rfl⟩
theorem dL_law_418 : dec cL_law 418 (.iconst 2) 1 419 := ⟨by decide +kernel, rfl⟩
theorem dL_law_419 : dec cL_law 419 .iadd 1 420 := ⟨by decide +kernel, rfl⟩
theorem dL_law_420 : dec cL_law 420 .iaload 1 421 := ⟨by decide +kernel, rfl⟩
theorem dL_law_421 : dec cL_law 421 (.aload_n 0) 1 422 := ⟨by decide +kernel, rfl⟩
theorem dL_law_422 : dec cL_law 422 (.iload_n 3) 1 423 := ⟨by decide +kernel, rfl⟩
theorem dL_law_423 : dec cL_law 423 (.iconst 3) 1 424 := ⟨by decide +kernel, rfl⟩
theorem dL_law_424 : dec cL_law 424 .iadd 1 425 := ⟨by decide +kernel, rfl⟩
theorem dL_law_425 : dec cL_law 425 .iaload 1 426 := ⟨by decide +kernel, rfl⟩
theorem dL_law_426 : dec cL_law 426 (.invokevirtual 56) 3 429 := ⟨by decide +kernel, rfl⟩
theorem dL_law_429 : dec cL_law 429 (.aload_n 2) 1 430 := ⟨by decide +kernel, rfl⟩
theorem dL_law_430 : dec cL_law 430 (.aload_n 0) 1 431 := ⟨by decide +kernel, rfl⟩
theorem dL_law_431 : dec cL_law 431 (.iload_n 3) 1 432 := ⟨by decide +kernel, rfl⟩
theorem dL_law_432 : dec cL_law 432 (.iconst 1) 1 433 := ⟨by decide +kernel, rfl⟩
theorem dL_law_433 : dec cL_law 433 .iadd 1 434 := ⟨by decide +kernel, rfl⟩
theorem dL_law_434 : dec cL_law 434 .iaload 1 435 := ⟨by decide +kernel, rfl⟩
theorem dL_law_435 : dec cL_law 435 (.aload_n 0) 1 436 := ⟨by decide +kernel, rfl⟩
theorem dL_law_436 : dec cL_law 436 (.iload_n 3) 1 437 := ⟨by decide +kernel, rfl⟩
theorem dL_law_437 : dec cL_law 437 (.iconst 2) 1 438 := ⟨by decide +kernel, rfl⟩
theorem dL_law_438 : dec cL_law 438 .iadd 1 439 := ⟨by decide +kernel, rfl⟩
theorem dL_law_439 : dec cL_law 439 .iaload 1 440 := ⟨by decide +kernel, rfl⟩
theorem dL_law_440 : dec cL_law 440 (.aload_n 0) 1 441 := ⟨by decide +kernel, rfl⟩
theorem dL_law_441 : dec cL_law 441 (.iload_n 3) 1 442 := ⟨by decide +kernel, rfl⟩
theorem dL_law_442 : dec cL_law 442 (.iconst 3) 1 443 := ⟨by decide +kernel, rfl⟩
theorem dL_law_443 : dec cL_law 443 .iadd 1 444 := ⟨by decide +kernel, rfl⟩
theorem dL_law_444 : dec cL_law 444 .iaload 1 445 := ⟨by decide +kernel, rfl⟩
theorem dL_law_445 : dec cL_law 445 (.invokevirtual 60) 3 448 := ⟨by decide +kernel, rfl⟩
theorem dL_law_448 : decJ cL_law 448 (.if_icmp .eq) 3 451 974 := ⟨526, by decide +kernel, rfl, rfl⟩
theorem dL_law_451 : dec cL_law 451 (.iconst 0) 1 452 := ⟨by decide +kernel, rfl⟩
theorem dL_law_452 : dec cL_law 452 .ireturn 1 453 := ⟨by decide +kernel, rfl⟩
theorem dL_law_453 : dec cL_law 453 (.aload_n 1) 1 454 := ⟨by decide +kernel, rfl⟩
theorem dL_law_454 : dec cL_law 454 (.aload_n 0) 1 455 := ⟨by decide +kernel, rfl⟩
theorem dL_law_455 : dec cL_law 455 (.iload_n 3) 1 456 := ⟨by decide +kernel, rfl⟩
theorem dL_law_456 : dec cL_law 456 (.iconst 1) 1 457 := ⟨by decide +kernel, rfl⟩
theorem dL_law_457 : dec cL_law 457 .iadd 1 458 := ⟨by decide +kernel, rfl⟩
theorem dL_law_458 : dec cL_law 458 .iaload 1 459 := ⟨by decide +kernel, rfl⟩
theorem dL_law_459 : dec cL_law 459 (.aload_n 0) 1 460 := ⟨by decide +kernel, rfl⟩
theorem dL_law_460 : dec cL_law 460 (.iload_n 3) 1 461 := ⟨by decide +kernel, rfl⟩
theorem dL_law_461 : dec cL_law 461 (.iconst 2) 1 462 := ⟨by decide +kernel, rfl⟩
theorem dL_law_462 : dec cL_law 462 .iadd 1 463 := ⟨by decide +kernel, rfl⟩
theorem dL_law_463 : dec cL_law 463 .iaload 1 464 := ⟨by decide +kernel, rfl⟩
theorem dL_law_464 : dec cL_law 464 (.invokevirtual 61) 3 467 := ⟨by decide +kernel, rfl⟩
theorem dL_law_467 : dec cL_law 467 (.aload_n 2) 1 468 := ⟨by decide +kernel, rfl⟩
theorem dL_law_468 : dec cL_law 468 (.aload_n 0) 1 469 := ⟨by decide +kernel, rfl⟩
theorem dL_law_469 : dec cL_law 469 (.iload_n 3) 1 470 := ⟨by decide +kernel, rfl⟩
theorem dL_law_470 : dec cL_law 470 (.iconst 1) 1 471 := ⟨by decide +kernel, rfl⟩
theorem dL_law_471 : dec cL_law 471 .iadd 1 472 := ⟨by decide +kernel, rfl⟩
theorem dL_law_472 : dec cL_law 472 .iaload 1 473 := ⟨by decide +kernel, rfl⟩
theorem dL_law_473 : dec cL_law 473 (.aload_n 0) 1 474 := ⟨by decide +kernel, rfl⟩
theorem dL_law_474 : dec cL_law 474 (.iload_n 3) 1 475 := ⟨by decide +kernel, rfl⟩
theorem dL_law_475 : dec cL_law 475 (.iconst 2) 1 476 := ⟨by decide +kernel, rfl⟩
theorem dL_law_476 : dec cL_law 476 .iadd 1 477 := ⟨by decide +kernel, rfl⟩
theorem dL_law_477 : dec cL_law 477 .iaload 1 478 := ⟨by decide +kernel, rfl⟩
theorem dL_law_478 : dec cL_law 478 (.invokevirtual 64) 3 481 := ⟨by decide +kernel, rfl⟩
theorem dL_law_481 : decJ cL_law 481 (.if_icmp .eq) 3 484 974 := ⟨493, by decide +kernel, rfl, rfl⟩
theorem dL_law_484 : dec cL_law 484 (.iconst 0) 1 485 := ⟨by decide +kernel, rfl⟩
theorem dL_law_485 : dec cL_law 485 .ireturn 1 486 := ⟨by decide +kernel, rfl⟩
theorem dL_law_486 : dec cL_law 486 (.aload_n 1) 1 487 := ⟨by decide +kernel, rfl⟩
theorem dL_law_487 : dec cL_law 487 (.aload_n 0) 1 488 := ⟨by decide +kernel, rfl⟩
theorem dL_law_488 : dec cL_law 488 (.iload_n 3) 1 489 := ⟨by decide +kernel, rfl⟩
theorem dL_law_489 : dec cL_law 489 (.iconst 1) 1 490 := ⟨by decide +kernel, rfl⟩
theorem dL_law_490 : dec cL_law 490 .iadd 1 491 := ⟨by decide +kernel, rfl⟩
theorem dL_law_491 : dec cL_law 491 .iaload 1 492 := ⟨by decide +kernel, rfl⟩
theorem dL_law_492 : dec cL_law 492 (.aload_n 0) 1 493 := ⟨by decide +kernel, rfl⟩
theorem dL_law_493 : dec cL_law 493 (.iload_n 3) 1 494 := ⟨by decide +kernel, rfl⟩
theorem dL_law_494 : dec cL_law 494 (.iconst 2) 1 495 := ⟨by decide +kernel, rfl⟩
theorem dL_law_495 : dec cL_law 495 .iadd 1 496 := ⟨by decide +kernel, rfl⟩
theorem dL_law_496 : dec cL_law 496 .iaload 1 497 := ⟨by decide +kernel, rfl⟩
theorem dL_law_497 : dec cL_law 497 (.invokevirtual 65) 3 500 := ⟨by decide +kernel, rfl⟩
theorem dL_law_500 : dec cL_law 500 (.aload_n 2) 1 501 := ⟨by decide +kernel, rfl⟩
theorem dL_law_501 : dec cL_law 501 (.aload_n 0) 1 502 := ⟨by decide +kernel, rfl⟩
theorem dL_law_502 : dec cL_law 502 (.iload_n 3) 1 503 := ⟨by decide +kernel, rfl⟩
theorem dL_law_503 : dec cL_law 503 (.iconst 1) 1 504 := ⟨by decide +kernel, rfl⟩
theorem dL_law_504 : dec cL_law 504 .iadd 1 505 := ⟨by decide +kernel, rfl⟩
theorem dL_law_505 : dec cL_law 505 .iaload 1 506 := ⟨by decide +kernel, rfl⟩
theorem dL_law_506 : dec cL_law 506 (.aload_n 0) 1 507 := ⟨by decide +kernel, rfl⟩
theorem dL_law_507 : dec cL_law 507 (.iload_n 3) 1 508 := ⟨by decide +kernel, rfl⟩
theorem dL_law_508 : dec cL_law 508 (.iconst 2) 1 509 := ⟨by decide +kernel, rfl⟩
theorem dL_law_509 : dec cL_law 509 .iadd 1 510 := ⟨by decide +kernel, rfl⟩
theorem dL_law_510 : dec cL_law 510 .iaload 1 511 := ⟨by decide +kernel, rfl⟩
theorem dL_law_511 : dec cL_law 511 (.invokevirtual 68) 3 514 := ⟨by decide +kernel, rfl⟩
theorem dL_law_514 : decJ cL_law 514 (.if_icmp .eq) 3 517 974 := ⟨460, by decide +kernel, rfl, rfl⟩
theorem dL_law_517 : dec cL_law 517 (.iconst 0) 1 518 := ⟨by decide +kernel, rfl⟩
theorem dL_law_518 : dec cL_law 518 .ireturn 1 519 := ⟨by decide +kernel, rfl⟩
theorem dL_law_519 : dec cL_law 519 (.aload_n 1) 1 520 := ⟨by decide +kernel, rfl⟩
theorem dL_law_520 : dec cL_law 520 (.invokevirtual 69) 3 523 := ⟨by decide +kernel, rfl⟩
theorem dL_law_523 : dec cL_law 523 (.aload_n 2) 1 524 := ⟨by decide +kernel, rfl⟩
theorem dL_law_524 : dec cL_law 524 (.invokevirtual 72) 3 527 := ⟨by decide +kernel, rfl⟩
theorem dL_law_527 : decJ cL_law 527 (.if_icmp .eq) 3 530 974 := ⟨447, by decide +kernel, rfl, rfl⟩
theorem dL_law_530 : dec cL_law 530 (.iconst 0) 1 531 := ⟨by decide +kernel, rfl⟩
theorem dL_law_531 : dec cL_law 531 .ireturn 1 532 := ⟨by decide +kernel, rfl⟩
theorem dL_law_532 : dec cL_law 532 (.aload_n 1) 1 533 := ⟨by decide +kernel, rfl⟩
theorem dL_law_533 : dec cL_law 533 (.aload_n 0) 1 534 := ⟨by decide +kernel, rfl⟩
theorem dL_law_534 : dec cL_law 534 (.iload_n 3) 1 535 := ⟨by decide +kernel, rfl⟩
theorem dL_law_535 : dec cL_law 535 (.iconst 1) 1 536 := ⟨by decide +kernel, rfl⟩
theorem dL_law_536 : dec cL_law 536 .iadd 1 537 := ⟨by decide +kernel, rfl⟩
theorem dL_law_537 : dec cL_law 537 .iaload 1 538 := ⟨by decide +kernel, rfl⟩
theorem dL_law_538 : dec cL_law 538 (.aload_n 0) 1 539 := ⟨by decide +kernel, rfl⟩
theorem dL_law_539 : dec cL_law 539 (.iload_n 3) 1 540 := ⟨by decide +kernel, rfl⟩
theorem dL_law_540 : dec cL_law 540 (.iconst 2) 1 541 := ⟨by decide +kernel, rfl⟩
theorem dL_law_541 : dec cL_law 541 .iadd 1 542 := ⟨by decide +kernel, rfl⟩
theorem dL_law_542 : dec cL_law 542 .iaload 1 543 := ⟨by decide +kernel, rfl⟩
theorem dL_law_543 : dec cL_law 543 (.aload_n 0) 1 544 := ⟨by decide +kernel, rfl⟩
theorem dL_law_544 : dec cL_law 544 (.iload_n 3) 1 545 := ⟨by decide +kernel, rfl⟩
theorem dL_law_545 : dec cL_law 545 (.iconst 3) 1 546 := ⟨by decide +kernel, rfl⟩
theorem dL_law_546 : dec cL_law 546 .iadd 1 547 := ⟨by decide +kernel, rfl⟩
theorem dL_law_547 : dec cL_law 547 .iaload 1 548 := ⟨by decide +kernel, rfl⟩
theorem dL_law_548 : dec cL_law 548 (.invokevirtual 73) 3 551 := ⟨by decide +kernel, rfl⟩
theorem dL_law_551 : dec cL_law 551 (.aload_n 2) 1 552 := ⟨by decide +kernel, rfl⟩
theorem dL_law_552 : dec cL_law 552 (.aload_n 0) 1 553 := ⟨by decide +kernel, rfl⟩
theorem dL_law_553 : dec cL_law 553 (.iload_n 3) 1 554 := ⟨by decide +kernel, rfl⟩
theorem dL_law_554 : dec cL_law 554 (.iconst 1) 1 555 := ⟨by decide +kernel, rfl⟩
theorem dL_law_555 : dec cL_law 555 .iadd 1 556 := ⟨by decide +kernel, rfl⟩
theorem dL_law_556 : dec cL_law 556 .iaload 1 557 := ⟨by decide +kernel, rfl⟩
theorem dL_law_557 : dec cL_law 557 (.aload_n 0) 1 558 := ⟨by decide +kernel, rfl⟩
theorem dL_law_558 : dec cL_law 558 (.iload_n 3) 1 559 := ⟨by decide +kernel, rfl⟩
theorem dL_law_559 : dec cL_law 559 (.iconst 2) 1 560 := ⟨by decide +kernel, rfl⟩
theorem dL_law_560 : dec cL_law 560 .iadd 1 561 := ⟨by decide +kernel, rfl⟩
theorem dL_law_561 : dec cL_law 561 .iaload 1 562 := ⟨by decide +kernel, rfl⟩
theorem dL_law_562 : dec cL_law 562 (.aload_n 0) 1 563 := ⟨by decide +kernel, rfl⟩
theorem dL_law_563 : dec cL_law 563 (.iload_n 3) 1 564 := ⟨by decide +kernel, rfl⟩
theorem dL_law_564 : dec cL_law 564 (.iconst 3) 1 565 := ⟨by decide +kernel, rfl⟩
theorem dL_law_565 : dec cL_law 565 .iadd 1 566 := ⟨by decide +kernel, rfl⟩
theorem dL_law_566 : dec cL_law 566 .iaload 1 567 := ⟨by decide +kernel, rfl⟩
theorem dL_law_567 : dec cL_law 567 (.invokevirtual 76) 3 570 := ⟨by decide +kernel, rfl⟩
theorem dL_law_570 : decJ cL_law 570 (.if_icmp .eq) 3 573 974 := ⟨404, by decide +kernel, rfl, rfl⟩
theorem dL_law_573 : dec cL_law 573 (.iconst 0) 1 574 := ⟨by decide +kernel, rfl⟩
theorem dL_law_574 : dec cL_law 574 .ireturn 1 575 := ⟨by decide +kernel, rfl⟩
theorem dL_law_575 : dec cL_law 575 (.aload_n 1) 1 576 := ⟨by decide +kernel, rfl⟩
theorem dL_law_576 : dec cL_law 576 (.aload_n 0) 1 577 := ⟨by decide +kernel, rfl⟩
theorem dL_law_577 : dec cL_law 577 (.iload_n 3) 1 578 := ⟨by decide +kernel, rfl⟩
theorem dL_law_578 : dec cL_law 578 (.iconst 1) 1 579 := ⟨by decide +kernel, rfl⟩
theorem dL_law_579 : dec cL_law 579 .iadd 1 580 := ⟨by decide +kernel, rfl⟩
theorem dL_law_580 : dec cL_law 580 .iaload 1 581 := ⟨by decide +kernel, rfl⟩
theorem dL_law_581 : dec cL_law 581 (.invokevirtual 77) 3 584 := ⟨by decide +kernel, rfl⟩
theorem dL_law_584 : dec cL_law 584 (.aload_n 2) 1 585 := ⟨by decide +kernel, rfl⟩
theorem dL_law_585 : dec cL_law 585 (.aload_n 0) 1 586 := ⟨by decide +kernel, rfl⟩
theorem dL_law_586 : dec cL_law 586 (.iload_n 3) 1 587 := ⟨by decide +kernel, rfl⟩
theorem dL_law_587 : dec cL_law 587 (.iconst 1) 1 588 := ⟨by decide +kernel, rfl⟩
theorem dL_law_588 : dec cL_law 588 .iadd 1 589 := ⟨by decide +kernel, rfl⟩
theorem dL_law_589 : dec cL_law 589 .iaload 1 590 := ⟨by decide +kernel, rfl⟩
theorem dL_law_590 : dec cL_law 590 (.invokevirtual 80) 3 593 := ⟨by decide +kernel, rfl⟩
theorem dL_law_593 : decJ cL_law 593 (.if_icmp .eq) 3 596 974 := ⟨381, by decide +kernel, rfl, rfl⟩
theorem dL_law_596 : dec cL_law 596 (.iconst 0) 1 597 := ⟨by decide +kernel, rfl⟩
theorem dL_law_597 : dec cL_law 597 .ireturn 1 598 := ⟨by decide +kernel, rfl⟩
theorem dL_law_598 : dec cL_law 598 (.aload_n 1) 1 599 := ⟨by decide +kernel, rfl⟩
theorem dL_law_599 : dec cL_law 599 (.aload_n 0) 1 600 := ⟨by decide +kernel, rfl⟩
theorem dL_law_600 : dec cL_law 600 (.iload_n 3) 1 601 := ⟨by decide +kernel, rfl⟩
theorem dL_law_601 : dec cL_law 601 (.iconst 1) 1 602 := ⟨by decide +kernel, rfl⟩
theorem dL_law_602 : dec cL_law 602 .iadd 1 603 := ⟨by decide +kernel, rfl⟩
theorem dL_law_603 : dec cL_law 603 .iaload 1 604 := ⟨by decide +kernel, rfl⟩
theorem dL_law_604 : dec cL_law 604 (.aload_n 0) 1 605 := ⟨by decide +kernel, rfl⟩
theorem dL_law_605 : dec cL_law 605 (.iload_n 3) 1 606 := ⟨by decide +kernel, rfl⟩
theorem dL_law_606 : dec cL_law 606 (.iconst 2) 1 607 := ⟨by decide +kernel, rfl⟩
theorem dL_law_607 : dec cL_law 607 .iadd 1 608 := ⟨by decide +kernel, rfl⟩
theorem dL_law_608 : dec cL_law 608 .iaload 1 609 := ⟨by decide +kernel, rfl⟩
theorem dL_law_609 : dec cL_law 609 (.aload_n 0) 1 610 := ⟨by decide +kernel, rfl⟩
theorem dL_law_610 : dec cL_law 610 (.iload_n 3) 1 611 := ⟨by decide +kernel, rfl⟩
theorem dL_law_611 : dec cL_law 611 (.iconst 3) 1 612 := ⟨by decide +kernel, rfl⟩
theorem dL_law_612 : dec cL_law 612 .iadd 1 613 := ⟨by decide +kernel, rfl⟩
theorem dL_law_613 : dec cL_law 613 .iaload 1 614 := ⟨by decide +kernel, rfl⟩
theorem dL_law_614 : dec cL_law 614 (.invokevirtual 81) 3 617 := ⟨by decide +kernel, rfl⟩
theorem dL_law_617 : dec cL_law 617 (.aload_n 2) 1 618 := ⟨by decide +kernel, rfl⟩
theorem dL_law_618 : dec cL_law 618 (.aload_n 0) 1 619 := ⟨by decide +kernel, rfl⟩
theorem dL_law_619 : dec cL_law 619 (.iload_n 3) 1 620 := ⟨by decide +kernel, rfl⟩
theorem dL_law_620 : dec cL_law 620 (.iconst 1) 1 621 := ⟨by decide +kernel, rfl⟩
theorem dL_law_621 : dec cL_law 621 .iadd 1 622 := ⟨by decide +kernel, rfl⟩
theorem dL_law_622 : dec cL_law 622 .iaload 1 623 := ⟨by decide +kernel, rfl⟩
theorem dL_law_623 : dec cL_law 623 (.aload_n 0) 1 624 := ⟨by decide +kernel, rfl⟩
theorem dL_law_624 : dec cL_law 624 (.iload_n 3) 1 625 := ⟨by decide +kernel, rfl⟩
theorem dL_law_625 : dec cL_law 625 (.iconst 2) 1 626 := ⟨by decide +kernel, rfl⟩
theorem dL_law_626 : dec cL_law 626 .iadd 1 627 := ⟨by decide +kernel, rfl⟩
theorem dL_law_627 : dec cL_law 627 .iaload 1 628 := ⟨by decide +kernel, rfl⟩
theorem dL_law_628 : dec cL_law 628 (.aload_n 0) 1 629 := ⟨by decide +kernel, rfl⟩
theorem dL_law_629 : dec cL_law 629 (.iload_n 3) 1 630 := ⟨by decide +kernel, rfl⟩
theorem dL_law_630 : dec cL_law 630 (.iconst 3) 1 631 := ⟨by decide +kernel, rfl⟩
theorem dL_law_631 : dec cL_law 631 .iadd 1 632 := ⟨by decide +kernel, rfl⟩
theorem dL_law_632 : dec cL_law 632 .iaload 1 633 := ⟨by decide +kernel, rfl⟩
theorem dL_law_633 : dec cL_law 633 (.invokevirtual 84) 3 636 := ⟨by decide +kernel, rfl⟩
theorem dL_law_636 : decJ cL_law 636 (.if_icmp .eq) 3 639 974 := ⟨338, by decide +kernel, rfl, rfl⟩
theorem dL_law_639 : dec cL_law 639 (.iconst 0) 1 640 := ⟨by decide +kernel, rfl⟩
theorem dL_law_640 : dec cL_law 640 .ireturn 1 641 := ⟨by decide +kernel, rfl⟩
theorem dL_law_641 : dec cL_law 641 (.aload_n 1) 1 642 := ⟨by decide +kernel, rfl⟩
theorem dL_law_642 : dec cL_law 642 (.aload_n 0) 1 643 := ⟨by decide +kernel, rfl⟩
theorem dL_law_643 : dec cL_law 643 (.iload_n 3) 1 644 := ⟨by decide +kernel, rfl⟩
theorem dL_law_644 : dec cL_law 644 (.iconst 1) 1 645 := ⟨by decide +kernel, rfl⟩
theorem dL_law_645 : dec cL_law 645 .iadd 1 646 := ⟨by decide +kernel, rfl⟩
theorem dL_law_646 : dec cL_law 646 .iaload 1 647 := ⟨by decide +kernel, rfl⟩
theorem dL_law_647 : dec cL_law 647 (.aload_n 0) 1 648 := ⟨by decide +kernel, rfl⟩
theorem dL_law_648 : dec cL_law 648 (.iload_n 3) 1 649 := ⟨by decide +kernel, rfl⟩
theorem dL_law_649 : dec cL_law 649 (.iconst 2) 1 650 := ⟨by decide +kernel, rfl⟩
theorem dL_law_650 : dec cL_law 650 .iadd 1 651 := ⟨by decide +kernel, rfl⟩
theorem dL_law_651 : dec cL_law 651 .iaload 1 652 := ⟨by decide +kernel, rfl⟩
theorem dL_law_652 : dec cL_law 652 (.aload_n 0) 1 653 := ⟨by decide +kernel, rfl⟩
theorem dL_law_653 : dec cL_law 653 (.iload_n 3) 1 654 := ⟨by decide +kernel, rfl⟩
theorem dL_law_654 : dec cL_law 654 (.iconst 3) 1 655 := ⟨by decide +kernel, rfl⟩
theorem dL_law_655 : dec cL_law 655 .iadd 1 656 := ⟨by decide +kernel, rfl⟩
theorem dL_law_656 : dec cL_law 656 .iaload 1 657 := ⟨by decide +kernel, rfl⟩
theorem dL_law_657 : dec cL_law 657 (.invokevirtual 85) 3 660 := ⟨by decide +kernel, rfl⟩
theorem dL_law_660 : dec cL_law 660 (.aload_n 2) 1 661 := ⟨by decide +kernel, rfl⟩
theorem dL_law_661 : dec cL_law 661 (.aload_n 0) 1 662 := ⟨by decide +kernel, rfl⟩
theorem dL_law_662 : dec cL_law 662 (.iload_n 3) 1 663 := ⟨by decide +kernel, rfl⟩
theorem dL_law_663 : dec cL_law 663 (.iconst 1) 1 664 := ⟨by decide +kernel, rfl⟩
theorem dL_law_664 : dec cL_law 664 .iadd 1 665 := ⟨by decide +kernel, rfl⟩
theorem dL_law_665 : dec cL_law 665 .iaload 1 666 := ⟨by decide +kernel, rfl⟩
theorem dL_law_666 : dec cL_law 666 (.aload_n 0) 1 667 := ⟨by decide +kernel, rfl⟩
theorem dL_law_667 : dec cL_law 667 (.iload_n 3) 1 668 := ⟨by decide +kernel, rfl⟩
theorem dL_law_668 : dec cL_law 668 (.iconst 2) 1 669 := ⟨by decide +kernel, rfl⟩
theorem dL_law_669 : dec cL_law 669 .iadd 1 670 := ⟨by decide +kernel, rfl⟩
theorem dL_law_670 : dec cL_law 670 .iaload 1 671 := ⟨by decide +kernel, rfl⟩
theorem dL_law_671 : dec cL_law 671 (.aload_n 0) 1 672 := ⟨by decide +kernel, rfl⟩
theorem dL_law_672 : dec cL_law 672 (.iload_n 3) 1 673 := ⟨by decide +kernel, rfl⟩
theorem dL_law_673 : dec cL_law 673 (.iconst 3) 1 674 := ⟨by decide +kernel, rfl⟩
theorem dL_law_674 : dec cL_law 674 .iadd 1 675 := ⟨by decide +kernel, rfl⟩
theorem dL_law_675 : dec cL_law 675 .iaload 1 676 := ⟨by decide +kernel, rfl⟩
theorem dL_law_676 : dec cL_law 676 (.invokevirtual 88) 3 679 := ⟨by decide +kernel, rfl⟩
theorem dL_law_679 : decJ cL_law 679 (.if_icmp .eq) 3 682 974 := ⟨295, by decide +kernel, rfl, rfl⟩
theorem dL_law_682 : dec cL_law 682 (.iconst 0) 1 683 := ⟨by decide +kernel, rfl⟩
theorem dL_law_683 : dec cL_law 683 .ireturn 1 684 := ⟨by decide +kernel, rfl⟩
theorem dL_law_684 : dec cL_law 684 (.aload_n 1) 1 685 := ⟨by decide +kernel, rfl⟩
theorem dL_law_685 : dec cL_law 685 (.aload_n 0) 1 686 := ⟨by decide +kernel, rfl⟩
theorem dL_law_686 : dec cL_law 686 (.iload_n 3) 1 687 := ⟨by decide +kernel, rfl⟩
theorem dL_law_687 : dec cL_law 687 (.iconst 1) 1 688 := ⟨by decide +kernel, rfl⟩
theorem dL_law_688 : dec cL_law 688 .iadd 1 689 := ⟨by decide +kernel, rfl⟩
theorem dL_law_689 : dec cL_law 689 .iaload 1 690 := ⟨by decide +kernel, rfl⟩
theorem dL_law_690 : dec cL_law 690 (.aload_n 0) 1 691 := ⟨by decide +kernel, rfl⟩
theorem dL_law_691 : dec cL_law 691 (.iload_n 3) 1 692 := ⟨by decide +kernel, rfl⟩
theorem dL_law_692 : dec cL_law 692 (.iconst 2) 1 693 := ⟨by decide +kernel, rfl⟩
theorem dL_law_693 : dec cL_law 693 .iadd 1 694 := ⟨by decide +kernel, rfl⟩
theorem dL_law_694 : dec cL_law 694 .iaload 1 695 := ⟨by decide +kernel, rfl⟩
theorem dL_law_695 : dec cL_law 695 (.invokevirtual 89) 3 698 := ⟨by decide +kernel, rfl⟩
theorem dL_law_698 : dec cL_law 698 (.aload_n 2) 1 699 := ⟨by decide +kernel, rfl⟩
theorem dL_law_699 : dec cL_law 699 (.aload_n 0) 1 700 := ⟨by decide +kernel, rfl⟩
theorem dL_law_700 : dec cL_law 700 (.iload_n 3) 1 701 := ⟨by decide +kernel, rfl⟩
theorem dL_law_701 : dec cL_law 701 (.iconst 1) 1 702 := ⟨by decide +kernel, rfl⟩
theorem dL_law_702 : dec cL_law 702 .iadd 1 703 := ⟨by decide +kernel, rfl⟩
theorem dL_law_703 : dec cL_law 703 .iaload 1 704 := ⟨by decide +kernel, rfl⟩
theorem dL_law_704 : dec cL_law 704 (.aload_n 0) 1 705 := ⟨by decide +kernel, rfl⟩
theorem dL_law_705 : dec cL_law 705 (.iload_n 3) 1 706 := ⟨by decide +kernel, rfl⟩
theorem dL_law_706 : dec cL_law 706 (.iconst 2) 1 707 := ⟨by decide +kernel, rfl⟩
theorem dL_law_707 : dec cL_law 707 .iadd 1 708 := ⟨by decide +kernel, rfl⟩
theorem dL_law_708 : dec cL_law 708 .iaload 1 709 := ⟨by decide +kernel, rfl⟩
theorem dL_law_709 : dec cL_law 709 (.invokevirtual 92) 3 712 := ⟨by decide +kernel, rfl⟩
theorem dL_law_712 : decJ cL_law 712 (.if_icmp .eq) 3 715 974 := ⟨262, by decide +kernel, rfl, rfl⟩
theorem dL_law_715 : dec cL_law 715 (.iconst 0) 1 716 := ⟨by decide +kernel, rfl⟩
theorem dL_law_716 : dec cL_law 716 .ireturn 1 717 := ⟨by decide +kernel, rfl⟩
theorem dL_law_717 : dec cL_law 717 (.aload_n 1) 1 718 := ⟨by decide +kernel, rfl⟩
theorem dL_law_718 : dec cL_law 718 (.aload_n 0) 1 719 := ⟨by decide +kernel, rfl⟩
theorem dL_law_719 : dec cL_law 719 (.iload_n 3) 1 720 := ⟨by decide +kernel, rfl⟩
theorem dL_law_720 : dec cL_law 720 (.iconst 1) 1 721 := ⟨by decide +kernel, rfl⟩
theorem dL_law_721 : dec cL_law 721 .iadd 1 722 := ⟨by decide +kernel, rfl⟩
theorem dL_law_722 : dec cL_law 722 .iaload 1 723 := ⟨by decide +kernel, rfl⟩
theorem dL_law_723 : dec cL_law 723 (.aload_n 0) 1 724 := ⟨by decide +kernel, rfl⟩
theorem dL_law_724 : dec cL_law 724 (.iload_n 3) 1 725 := ⟨by decide +kernel, rfl⟩
theorem dL_law_725 : dec cL_law 725 (.iconst 2) 1 726 := ⟨by decide +kernel, rfl⟩
theorem dL_law_726 : dec cL_law 726 .iadd 1 727 := ⟨by decide +kernel, rfl⟩
theorem dL_law_727 : dec cL_law 727 .iaload 1 728 := ⟨by decide +kernel, rfl⟩
theorem dL_law_728 : dec cL_law 728 (.invokevirtual 93) 3 731 := ⟨by decide +kernel, rfl⟩
theorem dL_law_731 : dec cL_law 731 (.aload_n 2) 1 732 := ⟨by decide +kernel, rfl⟩
theorem dL_law_732 : dec cL_law 732 (.aload_n 0) 1 733 := ⟨by decide +kernel, rfl⟩
theorem dL_law_733 : dec cL_law 733 (.iload_n 3) 1 734 := ⟨by decide +kernel, rfl⟩
theorem dL_law_734 : dec cL_law 734 (.iconst 1) 1 735 := ⟨by decide +kernel, rfl⟩
theorem dL_law_735 : dec cL_law 735 .iadd 1 736 := ⟨by decide +kernel, rfl⟩
theorem dL_law_736 : dec cL_law 736 .iaload 1 737 := ⟨by decide +kernel, rfl⟩
theorem dL_law_737 : dec cL_law 737 (.aload_n 0) 1 738 := ⟨by decide +kernel, rfl⟩
theorem dL_law_738 : dec cL_law 738 (.iload_n 3) 1 739 := ⟨by decide +kernel, rfl⟩
theorem dL_law_739 : dec cL_law 739 (.iconst 2) 1 740 := ⟨by decide +kernel, rfl⟩
theorem dL_law_740 : dec cL_law 740 .iadd 1 741 := ⟨by decide +kernel, rfl⟩
theorem dL_law_741 : dec cL_law 741 .iaload 1 742 := ⟨by decide +kernel, rfl⟩
theorem dL_law_742 : dec cL_law 742 (.invokevirtual 96) 3 745 := ⟨by decide +kernel, rfl⟩
theorem dL_law_745 : decJ cL_law 745 (.if_icmp .eq) 3 748 974 := ⟨229, by decide +kernel, rfl, rfl⟩
theorem dL_law_748 : dec cL_law 748 (.iconst 0) 1 749 := ⟨by decide +kernel, rfl⟩
theorem dL_law_749 : dec cL_law 749 .ireturn 1 750 := ⟨by decide +kernel, rfl⟩
theorem dL_law_750 : dec cL_law 750 (.aload_n 1) 1 751 := ⟨by decide +kernel, rfl⟩
theorem dL_law_751 : dec cL_law 751 (.aload_n 0) 1 752 := ⟨by decide +kernel, rfl⟩
theorem dL_law_752 : dec cL_law 752 (.iload_n 3) 1 753 := ⟨by decide +kernel, rfl⟩
theorem dL_law_753 : dec cL_law 753 (.iconst 1) 1 754 := ⟨by decide +kernel, rfl⟩
theorem dL_law_754 : dec cL_law 754 .iadd 1 755 := ⟨by decide +kernel, rfl⟩
theorem dL_law_755 : dec cL_law 755 .iaload 1 756 := ⟨by decide +kernel, rfl⟩
theorem dL_law_756 : dec cL_law 756 (.aload_n 0) 1 757 := ⟨by decide +kernel, rfl⟩
theorem dL_law_757 : dec cL_law 757 (.iload_n 3) 1 758 := ⟨by decide +kernel, rfl⟩
theorem dL_law_758 : dec cL_law 758 (.iconst 2) 1 759 := ⟨by decide +kernel, rfl⟩
theorem dL_law_759 : dec cL_law 759 .iadd 1 760 := ⟨by decide +kernel, rfl⟩
theorem dL_law_760 : dec cL_law 760 .iaload 1 761 := ⟨by decide +kernel, rfl⟩
theorem dL_law_761 : dec cL_law 761 (.aload_n 0) 1 762 := ⟨by decide +kernel, rfl⟩
theorem dL_law_762 : dec cL_law 762 (.iload_n 3) 1 763 := ⟨by decide +kernel, rfl⟩
theorem dL_law_763 : dec cL_law 763 (.iconst 3) 1 764 := ⟨by decide +kernel, rfl⟩
theorem dL_law_764 : dec cL_law 764 .iadd 1 765 := ⟨by decide +kernel, rfl⟩
theorem dL_law_765 : dec cL_law 765 .iaload 1 766 := ⟨by decide +kernel, rfl⟩
theorem dL_law_766 : dec cL_law 766 (.invokevirtual 97) 3 769 := ⟨by decide +kernel, rfl⟩
theorem dL_law_769 : dec cL_law 769 (.aload_n 2) 1 770 := ⟨by decide +kernel, rfl⟩
theorem dL_law_770 : dec cL_law 770 (.aload_n 0) 1 771 := ⟨by decide +kernel, rfl⟩
theorem dL_law_771 : dec cL_law 771 (.iload_n 3) 1 772 := ⟨by decide +kernel, rfl⟩
theorem dL_law_772 : dec cL_law 772 (.iconst 1) 1 773 := ⟨by decide +kernel, rfl⟩
theorem dL_law_773 : dec cL_law 773 .iadd 1 774 := ⟨by decide +kernel, rfl⟩
theorem dL_law_774 : dec cL_law 774 .iaload 1 775 := ⟨by decide +kernel, rfl⟩
theorem dL_law_775 : dec cL_law 775 (.aload_n 0) 1 776 := ⟨by decide +kernel, rfl⟩
theorem dL_law_776 : dec cL_law 776 (.iload_n 3) 1 777 := ⟨by decide +kernel, rfl⟩
theorem dL_law_777 : dec cL_law 777 (.iconst 2) 1 778 := ⟨by decide +kernel, rfl⟩
theorem dL_law_778 : dec cL_law 778 .iadd 1 779 := ⟨by decide +kernel, rfl⟩
theorem dL_law_779 : dec cL_law 779 .iaload 1 780 := ⟨by decide +kernel, rfl⟩
theorem dL_law_780 : dec cL_law 780 (.aload_n 0) 1 781 := ⟨by decide +kernel, rfl⟩
theorem dL_law_781 : dec cL_law 781 (.iload_n 3) 1 782 := ⟨by decide +kernel, rfl⟩
theorem dL_law_782 : dec cL_law 782 (.iconst 3) 1 783 := ⟨by decide +kernel, rfl⟩
theorem dL_law_783 : dec cL_law 783 .iadd 1 784 := ⟨by decide +kernel, rfl⟩
theorem dL_law_784 : dec cL_law 784 .iaload 1 785 := ⟨by decide +kernel, rfl⟩
theorem dL_law_785 : dec cL_law 785 (.invokevirtual 100) 3 788 := ⟨by decide +kernel, rfl⟩
theorem dL_law_788 : decJ cL_law 788 (.if_icmp .eq) 3 791 974 := ⟨186, by decide +kernel, rfl, rfl⟩
theorem dL_law_791 : dec cL_law 791 (.iconst 0) 1 792 := ⟨by decide +kernel, rfl⟩
theorem dL_law_792 : dec cL_law 792 .ireturn 1 793 := ⟨by decide +kernel, rfl⟩
theorem dL_law_793 : dec cL_law 793 (.aload_n 1) 1 794 := ⟨by decide +kernel, rfl⟩
theorem dL_law_794 : dec cL_law 794 (.invokevirtual 101) 3 797 := ⟨by decide +kernel, rfl⟩
theorem dL_law_797 : dec cL_law 797 (.aload_n 2) 1 798 := ⟨by decide +kernel, rfl⟩
theorem dL_law_798 : dec cL_law 798 (.invokevirtual 104) 3 801 := ⟨by decide +kernel, rfl⟩
theorem dL_law_801 : decJ cL_law 801 (.if_icmp .eq) 3 804 974 := ⟨173, by decide +kernel, rfl, rfl⟩
theorem dL_law_804 : dec cL_law 804 (.iconst 0) 1 805 := ⟨by decide +kernel, rfl⟩
theorem dL_law_805 : dec cL_law 805 .ireturn 1 806 := ⟨by decide +kernel, rfl⟩
theorem dL_law_806 : dec cL_law 806 (.aload_n 1) 1 807 := ⟨by decide +kernel, rfl⟩
theorem dL_law_807 : dec cL_law 807 (.aload_n 0) 1 808 := ⟨by decide +kernel, rfl⟩
theorem dL_law_808 : dec cL_law 808 (.iload_n 3) 1 809 := ⟨by decide +kernel, rfl⟩
theorem dL_law_809 : dec cL_law 809 (.iconst 1) 1 810 := ⟨by decide +kernel, rfl⟩
theorem dL_law_810 : dec cL_law 810 .iadd 1 811 := ⟨by decide +kernel, rfl⟩
theorem dL_law_811 : dec cL_law 811 .iaload 1 812 := ⟨by decide +kernel, rfl⟩
theorem dL_law_812 : dec cL_law 812 (.aload_n 0) 1 813 := ⟨by decide +kernel, rfl⟩
theorem dL_law_813 : dec cL_law 813 (.iload_n 3) 1 814 := ⟨by decide +kernel, rfl⟩
theorem dL_law_814 : dec cL_law 814 (.iconst 2) 1 815 := ⟨by decide +kernel, rfl⟩
theorem dL_law_815 : dec cL_law 815 .iadd 1 816 := ⟨by decide +kernel, rfl⟩
theorem dL_law_816 : dec cL_law 816 .iaload 1 817 := ⟨by decide +kernel, rfl⟩
theorem dL_law_817 : dec cL_law 817 (.invokevirtual 105) 3 820 := ⟨by decide +kernel, rfl⟩
theorem dL_law_820 : dec cL_law 820 (.aload_n 2) 1 821 := ⟨by decide +kernel, rfl⟩
theorem dL_law_821 : dec cL_law 821 (.aload_n 0) 1 822 := ⟨by decide +kernel, rfl⟩
theorem dL_law_822 : dec cL_law 822 (.iload_n 3) 1 823 := ⟨by decide +kernel, rfl⟩
theorem dL_law_823 : dec cL_law 823 (.iconst 1) 1 824 := ⟨by decide +kernel, rfl⟩
theorem dL_law_824 : dec cL_law 824 .iadd 1 825 := ⟨by decide +kernel, rfl⟩
theorem dL_law_825 : dec cL_law 825 .iaload 1 826 := ⟨by decide +kernel, rfl⟩
theorem dL_law_826 : dec cL_law 826 (.aload_n 0) 1 827 := ⟨by decide +kernel, rfl⟩
theorem dL_law_827 : dec cL_law 827 (.iload_n 3) 1 828 := ⟨by decide +kernel, rfl⟩
theorem dL_law_828 : dec cL_law 828 (.iconst 2) 1 829 := ⟨by decide +kernel, rfl⟩
theorem dL_law_829 : dec cL_law 829 .iadd 1 830 := ⟨by decide +kernel, rfl⟩
theorem dL_law_830 : dec cL_law 830 .iaload 1 831 := ⟨by decide +kernel, rfl⟩
theorem dL_law_831 : dec cL_law 831 (.invokevirtual 108) 3 834 := ⟨by decide +kernel, rfl⟩
theorem dL_law_834 : decJ cL_law 834 (.if_icmp .eq) 3 837 974 := ⟨140, by decide +kernel, rfl, rfl⟩
theorem dL_law_837 : dec cL_law 837 (.iconst 0) 1 838 := ⟨by decide +kernel, rfl⟩
theorem dL_law_838 : dec cL_law 838 .ireturn 1 839 := ⟨by decide +kernel, rfl⟩
theorem dL_law_839 : dec cL_law 839 (.aload_n 1) 1 840 := ⟨by decide +kernel, rfl⟩
theorem dL_law_840 : dec cL_law 840 (.aload_n 0) 1 841 := ⟨by decide +kernel, rfl⟩
theorem dL_law_841 : dec cL_law 841 (.iload_n 3) 1 842 := ⟨by decide +kernel, rfl⟩
theorem dL_law_842 : dec cL_law 842 (.iconst 1) 1 843 := ⟨by decide +kernel, rfl⟩
theorem dL_law_843 : dec cL_law 843 .iadd 1 844 := ⟨by decide +kernel, rfl⟩
theorem dL_law_844 : dec cL_law 844 .iaload 1 845 := ⟨by decide +kernel, rfl⟩
theorem dL_law_845 : dec cL_law 845 (.aload_n 0) 1 846 := ⟨by decide +kernel, rfl⟩
theorem dL_law_846 : dec cL_law 846 (.iload_n 3) 1 847 := ⟨by decide +kernel, rfl⟩
theorem dL_law_847 : dec cL_law 847 (.iconst 2) 1 848 := ⟨by decide +kernel, rfl⟩
theorem dL_law_848 : dec cL_law 848 .iadd 1 849 := ⟨by decide +kernel, rfl⟩
theorem dL_law_849 : dec cL_law 849 .iaload 1 850 := ⟨by decide +kernel, rfl⟩
theorem dL_law_850 : dec cL_law 850 (.aload_n 0) 1 851 := ⟨by decide +kernel, rfl⟩
theorem dL_law_851 : dec cL_law 851 (.iload_n 3) 1 852 := ⟨by decide +kernel, rfl⟩
theorem dL_law_852 : dec cL_law 852 (.iconst 3) 1 853 := ⟨by decide +kernel, rfl⟩
theorem dL_law_853 : dec cL_law 853 .iadd 1 854 := ⟨by decide +kernel, rfl⟩
theorem dL_law_854 : dec cL_law 854 .iaload 1 855 := ⟨by decide +kernel, rfl⟩
theorem dL_law_855 : dec cL_law 855 (.invokevirtual 109) 3 858 := ⟨by decide +kernel, rfl⟩
theorem dL_law_858 : dec cL_law 858 (.aload_n 2) 1 859 := ⟨by decide +kernel, rfl⟩
theorem dL_law_859 : dec cL_law 859 (.aload_n 0) 1 860 := ⟨by decide +kernel, rfl⟩
theorem dL_law_860 : dec cL_law 860 (.iload_n 3) 1 861 := ⟨by decide +kernel, rfl⟩
theorem dL_law_861 : dec cL_law 861 (.iconst 1) 1 862 := ⟨by decide +kernel, rfl⟩
theorem dL_law_862 : dec cL_law 862 .iadd 1 863 := ⟨by decide +kernel, rfl⟩
theorem dL_law_863 : dec cL_law 863 .iaload 1 864 := ⟨by decide +kernel, rfl⟩
theorem dL_law_864 : dec cL_law 864 (.aload_n 0) 1 865 := ⟨by decide +kernel, rfl⟩
theorem dL_law_865 : dec cL_law 865 (.iload_n 3) 1 866 := ⟨by decide +kernel, rfl⟩
theorem dL_law_866 : dec cL_law 866 (.iconst 2) 1 867 := ⟨by decide +kernel, rfl⟩
theorem dL_law_867 : dec cL_law 867 .iadd 1 868 := ⟨by decide +kernel, rfl⟩
theorem dL_law_868 : dec cL_law 868 .iaload 1 869 := ⟨by decide +kernel, rfl⟩
theorem dL_law_869 : dec cL_law 869 (.aload_n 0) 1 870 := ⟨by decide +kernel, rfl⟩
theorem dL_law_870 : dec cL_law 870 (.iload_n 3) 1 871 := ⟨by decide +kernel, rfl⟩
theorem dL_law_871 : dec cL_law 871 (.iconst 3) 1 872 := ⟨by decide +kernel, rfl⟩
theorem dL_law_872 : dec cL_law 872 .iadd 1 873 := ⟨by decide +kernel, rfl⟩
theorem dL_law_873 : dec cL_law 873 .iaload 1 874 := ⟨by decide +kernel, rfl⟩
theorem dL_law_874 : dec cL_law 874 (.invokevirtual 112) 3 877 := ⟨by decide +kernel, rfl⟩
theorem dL_law_877 : decJ cL_law 877 (.if_icmp .eq) 3 880 974 := ⟨97, by decide +kernel, rfl, rfl⟩
theorem dL_law_880 : dec cL_law 880 (.iconst 0) 1 881 := ⟨by decide +kernel, rfl⟩
theorem dL_law_881 : dec cL_law 881 .ireturn 1 882 := ⟨by decide +kernel, rfl⟩
theorem dL_law_882 : dec cL_law 882 (.aload_n 1) 1 883 := ⟨by decide +kernel, rfl⟩
theorem dL_law_883 : dec cL_law 883 (.aload_n 0) 1 884 := ⟨by decide +kernel, rfl⟩
theorem dL_law_884 : dec cL_law 884 (.iload_n 3) 1 885 := ⟨by decide +kernel, rfl⟩
theorem dL_law_885 : dec cL_law 885 (.iconst 1) 1 886 := ⟨by decide +kernel, rfl⟩
theorem dL_law_886 : dec cL_law 886 .iadd 1 887 := ⟨by decide +kernel, rfl⟩
theorem dL_law_887 : dec cL_law 887 .iaload 1 888 := ⟨by decide +kernel, rfl⟩
theorem dL_law_888 : dec cL_law 888 (.aload_n 0) 1 889 := ⟨by decide +kernel, rfl⟩
theorem dL_law_889 : dec cL_law 889 (.iload_n 3) 1 890 := ⟨by decide +kernel, rfl⟩
theorem dL_law_890 : dec cL_law 890 (.iconst 2) 1 891 := ⟨by decide +kernel, rfl⟩
theorem dL_law_891 : dec cL_law 891 .iadd 1 892 := ⟨by decide +kernel, rfl⟩
theorem dL_law_892 : dec cL_law 892 .iaload 1 893 := ⟨by decide +kernel, rfl⟩
theorem dL_law_893 : dec cL_law 893 (.aload_n 0) 1 894 := ⟨by decide +kernel, rfl⟩
theorem dL_law_894 : dec cL_law 894 (.iload_n 3) 1 895 := ⟨by decide +kernel, rfl⟩
theorem dL_law_895 : dec cL_law 895 (.iconst 3) 1 896 := ⟨by decide +kernel, rfl⟩
theorem dL_law_896 : dec cL_law 896 .iadd 1 897 := ⟨by decide +kernel, rfl⟩
theorem dL_law_897 : dec cL_law 897 .iaload 1 898 := ⟨by decide +kernel, rfl⟩
theorem dL_law_898 : dec cL_law 898 (.invokevirtual 113) 3 901 := ⟨by decide +kernel, rfl⟩
theorem dL_law_901 : dec cL_law 901 (.aload_n 2) 1 902 := ⟨by decide +kernel, rfl⟩
theorem dL_law_902 : dec cL_law 902 (.aload_n 0) 1 903 := ⟨by decide +kernel, rfl⟩
theorem dL_law_903 : dec cL_law 903 (.iload_n 3) 1 904 := ⟨by decide +kernel, rfl⟩
theorem dL_law_904 : dec cL_law 904 (.iconst 1) 1 905 := ⟨by decide +kernel, rfl⟩
theorem dL_law_905 : dec cL_law 905 .iadd 1 906 := ⟨by decide +kernel, rfl⟩
theorem dL_law_906 : dec cL_law 906 .iaload 1 907 := ⟨by decide +kernel, rfl⟩
theorem dL_law_907 : dec cL_law 907 (.aload_n 0) 1 908 := ⟨by decide +kernel, rfl⟩
theorem dL_law_908 : dec cL_law 908 (.iload_n 3) 1 909 := ⟨by decide +kernel, rfl⟩
theorem dL_law_909 : dec cL_law 909 (.iconst 2) 1 910 := ⟨by decide +kernel, rfl⟩
theorem dL_law_910 : dec cL_law 910 .iadd 1 911 := ⟨by decide +kernel, rfl⟩
theorem dL_law_911 : dec cL_law 911 .iaload 1 912 := ⟨by decide +kernel, rfl⟩
theorem dL_law_912 : dec cL_law 912 (.aload_n 0) 1 913 := ⟨by decide +kernel, rfl⟩
theorem dL_law_913 : dec cL_law 913 (.iload_n 3) 1 914 := ⟨by decide +kernel, rfl⟩
theorem dL_law_914 : dec cL_law 914 (.iconst 3) 1 915 := ⟨by decide +kernel, rfl⟩
theorem dL_law_915 : dec cL_law 915 .iadd 1 916 := ⟨by decide +kernel, rfl⟩
theorem dL_law_916 : dec cL_law 916 .iaload 1 917 := ⟨by decide +kernel, rfl⟩
theorem dL_law_917 : dec cL_law 917 (.invokevirtual 116) 3 920 := ⟨by decide +kernel, rfl⟩
theorem dL_law_920 : decJ cL_law 920 (.if_icmp .eq) 3 923 974 := ⟨54, by decide +kernel, rfl, rfl⟩
theorem dL_law_923 : dec cL_law 923 (.iconst 0) 1 924 := ⟨by decide +kernel, rfl⟩
theorem dL_law_924 : dec cL_law 924 .ireturn 1 925 := ⟨by decide +kernel, rfl⟩
theorem dL_law_925 : dec cL_law 925 (.aload_n 1) 1 926 := ⟨by decide +kernel, rfl⟩
theorem dL_law_926 : dec cL_law 926 (.invokevirtual 117) 3 929 := ⟨by decide +kernel, rfl⟩
theorem dL_law_929 : dec cL_law 929 (.aload_n 2) 1 930 := ⟨by decide +kernel, rfl⟩
theorem dL_law_930 : dec cL_law 930 (.invokevirtual 120) 3 933 := ⟨by decide +kernel, rfl⟩
theorem dL_law_933 : decJ cL_law 933 (.if_icmp .eq) 3 936 974 := ⟨41, by decide +kernel, rfl, rfl⟩
theorem dL_law_936 : dec cL_law 936 (.iconst 0) 1 937 := ⟨by decide +kernel, rfl⟩
theorem dL_law_937 : dec cL_law 937 .ireturn 1 938 := ⟨by decide +kernel, rfl⟩
theorem dL_law_938 : dec cL_law 938 (.aload_n 1) 1 939 := ⟨by decide +kernel, rfl⟩
theorem dL_law_939 : dec cL_law 939 (.invokevirtual 121) 3 942 := ⟨by decide +kernel, rfl⟩
theorem dL_law_942 : dec cL_law 942 (.aload_n 2) 1 943 := ⟨by decide +kernel, rfl⟩
theorem dL_law_943 : dec cL_law 943 (.invokevirtual 124) 3 946 := ⟨by decide +kernel, rfl⟩
theorem dL_law_946 : decJ cL_law 946 (.if_icmp .eq) 3 949 974 := ⟨28, by decide +kernel, rfl, rfl⟩
theorem dL_law_949 : dec cL_law 949 (.iconst 0) 1 950 := ⟨by decide +kernel, rfl⟩
theorem dL_law_950 : dec cL_law 950 .ireturn 1 951 := ⟨by decide +kernel, rfl⟩
theorem dL_law_951 : dec cL_law 951 (.aload_n 1) 1 952 := ⟨by decide +kernel, rfl⟩
theorem dL_law_952 : dec cL_law 952 (.aload_n 0) 1 953 := ⟨by decide +kernel, rfl⟩
theorem dL_law_953 : dec cL_law 953 (.iload_n 3) 1 954 := ⟨by decide +kernel, rfl⟩
theorem dL_law_954 : dec cL_law 954 (.iconst 1) 1 955 := ⟨by decide +kernel, rfl⟩
theorem dL_law_955 : dec cL_law 955 .iadd 1 956 := ⟨by decide +kernel, rfl⟩
theorem dL_law_956 : dec cL_law 956 .iaload 1 957 := ⟨by decide +kernel, rfl⟩
theorem dL_law_957 : dec cL_law 957 (.invokevirtual 125) 3 960 := ⟨by decide +kernel, rfl⟩
theorem dL_law_960 : dec cL_law 960 (.aload_n 2) 1 961 := ⟨by decide +kernel, rfl⟩
theorem dL_law_961 : dec cL_law 961 (.aload_n 0) 1 962 := ⟨by decide +kernel, rfl⟩
theorem dL_law_962 : dec cL_law 962 (.iload_n 3) 1 963 := ⟨by decide +kernel, rfl⟩
theorem dL_law_963 : dec cL_law 963 (.iconst 1) 1 964 := ⟨by decide +kernel, rfl⟩
theorem dL_law_964 : dec cL_law 964 .iadd 1 965 := ⟨by decide +kernel, rfl⟩
theorem dL_law_965 : dec cL_law 965 .iaload 1 966 := ⟨by decide +kernel, rfl⟩
theorem dL_law_966 : dec cL_law 966 (.invokevirtual 128) 3 969 := ⟨by decide +kernel, rfl⟩
theorem dL_law_969 : decJ cL_law 969 (.if_icmp .eq) 3 972 974 := ⟨5, by decide +kernel, rfl, rfl⟩
theorem dL_law_972 : dec cL_law 972 (.iconst 0) 1 973 := ⟨by decide +kernel, rfl⟩
theorem dL_law_973 : dec cL_law 973 .ireturn 1 974 := ⟨by decide +kernel, rfl⟩
theorem dL_law_974 : dec cL_law 974 (.iinc 3 4) 3 977 := ⟨by decide +kernel, rfl⟩
theorem dL_law_977 : decJ cL_law 977 .goto 3 980 18 := ⟨-959, by decide +kernel, rfl, rfl⟩
theorem dL_law_980 : dec cL_law 980 (.iconst 1) 1 981 := ⟨by decide +kernel, rfl⟩
theorem dL_law_981 : dec cL_law 981 .ireturn 1 982 := ⟨by decide +kernel, rfl⟩
set_option maxRecDepth 100000 in
theorem dL_law_32 : decode cL_law 32 = .ok (.tableswitch 942 0 27 #[128, 151, 164, 177, 190, 223, 256, 289, 322, 345, 378, 421, 454, 487, 500, 543, 566, 609, 652, 685, 718, 761, 774, 807, 850, 893, 906, 919], 128) := by decide +kernel
def SC (x : CX) (b L : Nat) (xs : Nat → Int32) : Prop := match x with | (_, _, _, _, s, _, _, _, _, _) => va_X b L xs s s.heap ∧ b < s.heap.size
theorem and31 (z : Int32) : ∃ k, k < 32 ∧ z &&& 31 = nI k := by
  refine ⟨(z &&& 31).toBitVec.toNat, ?_, ?_⟩
  · rw [Int32.toBitVec_and, BitVec.toNat_and]
    exact Nat.lt_of_le_of_lt Nat.and_le_right (by decide)
  · apply Int32.toBitVec_inj.mp
    show _ = BitVec.ofNat 32 _
    rw [BitVec.ofNat_toNat, BitVec.setWidth_eq]
theorem law_more {i L : Nat} (hi : i ≤ 300) (hL : L ≤ 256) (h : ¬ nI L - 4 < nI i) : i + 4 ≤ L := by
  rw [Int32.lt_iff_toInt_lt, Int32.toInt_sub, nI_toInt (by omega), nI_toInt (by omega)] at h
  have h4 : (4 : Int32).toInt = 4 := by decide
  rw [h4] at h
  have hb : ((L : Int) - 4).bmod (2 ^ 32) = (L : Int) - 4 := Int.bmod_eq_of_le (by omega) (by omega)
  rw [hb] at h
  omega
section LW
variable {x : CX} {D : DD} {ret : Option FieldType} {rm : Room} {A : Nat → Prop} {Q : State → Prop} {H : Heap} {cs sl pc n : Nat} {ls : List Slot} {rest : List Value} {b L o6 o7 i : Nat} {xs : Nat → Int32} {R M : Nat → Nat → Int32} {Inv : (Nat → Nat → Int32) → (Nat → Nat → Int32) → Prop}
theorem r_sld {cc : ByteArray} (C : Cx x RL cc 4 D ret rm) (X : SC x b L xs) (hbA : ¬ A b) (hL : L ≤ 256) {z : Int32} {j : Nat} (hz : z = nI j) (hj : j < L) (d : dec cc pc .iaload 1 n) (kk : WG x A Q H cs sl n ls (.int (xs j) :: rest)) : WG x A Q H cs sl pc ls (.int z :: .ref b :: rest) := by
  subst hz
  obtain ⟨p, l, e, R0, s, m, args, below, meth, c⟩ := x
  obtain ⟨d, rfl⟩ := d
  intro locs hS hzz
  have hc : (nI j).toNatClampNeg = j := nI_clamp (by omega)
  refine va_sld C.1 C.2.1 X.1 X.2 hbA hS (fun q => by rcases q with q | q; exact nI_pos (by omega) q; rw [hc] at q; omega) d ?_
  rw [hc]
  exact kk locs hS hzz
theorem r_slen {cc : ByteArray} (C : Cx x RL cc 4 D ret rm) (X : SC x b L xs) (hbA : ¬ A b) (d : dec cc pc .arraylength 1 n) (kk : WG x A Q H cs sl n ls (.int (nI L) :: rest)) : WG x A Q H cs sl pc ls (.ref b :: rest) := by
  obtain ⟨p, l, e, R0, s, m, args, below, meth, c⟩ := x
  obtain ⟨d, rfl⟩ := d
  intro locs hS hzz
  exact va_slen C.1 C.2.1 X.1 X.2 hbA hS d (kk locs hS hzz)
def LSl (b o6 o7 i : Nat) : List Slot := [.val (.ref b), .val (.ref o6), .val (.ref o7), .val (.int (nI i))]
set_option maxHeartbeats 4000000 in
set_option maxRecDepth 100000 in
theorem law_write (S : Sim Inv) (C : Cx x RL cL_law 4 D ret rm) (X : SC x b L xs) (hbA : ¬ A b) (hA6 : ∀ q, fp1 o6 215 q → A q) (hA7 : ∀ q, fp1 o7 14 q → A q) (hd : o6 + 215 ≤ o7) (hi : i + 4 ≤ L) (hL : L ≤ 256) (hR1 : 8 ≤ rm.frames) (hR2 : 300 ≤ rm.locals) (hR3 : cs ≤ rm.cells) (hR4 : sl ≤ rm.slots) (hI : Inv R M) (hb6 : blk D ksMain o6 R H) (hb7 : blk D ksModel o7 M H) (kk : ∀ (H1 : Heap) (R1 M1 : Nat → Nat → Int32), Inv R1 M1 → blk D ksMain o6 R1 H1 → blk D ksModel o7 M1 H1 → WG x A Q H1 cs sl 974 (LSl b o6 o7 i) []) : WG x A Q H cs sl 160 (LSl b o6 o7 i) [] := by
  refine r_aload_n C dL_law_160 rfl ?_
  refine r_aload_n C dL_law_161 rfl ?_
  refine r_iload_n C dL_law_162 rfl ?_
  refine r_iconst C dL_law_163 (1 : Int32) (by decide) ?_
  refine r_iadd C dL_law_164 ?_
  refine r_sld C X hbA hL (j := i + 1) (nI_add i 1) (by omega) dL_law_165 ?_
  refine r_callV0 C cw_L_13 (fun l => c_X6_write l D o6 R (xs (i + 1))  _ rfl) (rest := []) hb6 (k := 0) rfl rfl celO_6 hb6 (fun q h => hA6 q h) rfl rfl rfl (Nat.le_of_ble_eq_true rfl) ⟨Nat.le_trans (Nat.le_of_ble_eq_true rfl) hR1, Nat.le_trans (Nat.le_of_ble_eq_true rfl) hR2, hR3, hR4⟩ dL_law_166 (fun v H1 hv hq1 => ?_)
  obtain ⟨rfl, g6⟩ := hv
  have g7 := blk_kept hb7 (n := 14) rfl (fun q h1 h2 => hq1 q (by unfold fp1; omega))
  dsimp only [psh]
  refine r_aload_n C dL_law_169 rfl ?_
  refine r_aload_n C dL_law_170 rfl ?_
  refine r_iload_n C dL_law_171 rfl ?_
  refine r_iconst C dL_law_172 (1 : Int32) (by decide) ?_
  refine r_iadd C dL_law_173 ?_
  refine r_sld C X hbA hL (j := i + 1) (nI_add i 1) (by omega) dL_law_174 ?_
  refine r_callV0 C cw_L_17 (fun l => c_X7_write l D o7 M (xs (i + 1)) (S.ok7 hI).h0 (S.ok7 hI).b0 _ rfl) (rest := [.int (d_X6_write R (xs (i + 1))).1]) g7 (k := 0) rfl rfl celO_7 g7 (fun q h => hA7 q h) rfl rfl rfl (Nat.le_of_ble_eq_true rfl) ⟨Nat.le_trans (Nat.le_of_ble_eq_true rfl) hR1, Nat.le_trans (Nat.le_of_ble_eq_true rfl) hR2, hR3, hR4⟩ dL_law_175 (fun v H2 hv hq2 => ?_)
  obtain ⟨rfl, k7⟩ := hv
  have k6 := blk_kept g6 (n := 215) rfl (fun q h1 h2 => hq2 q (by unfold fp1; omega))
  dsimp only [psh]
  have hs := S.p_write (xs (i + 1)) hI
  refine r_ic_eq C dL_law_178 (fun _ => ?_) (fun h => absurd hs.1 h)
  exact kk H2 _ _ hs.2 k6 k7
set_option maxHeartbeats 4000000 in
set_option maxRecDepth 100000 in
theorem law_wipe (S : Sim Inv) (C : Cx x RL cL_law 4 D ret rm) (X : SC x b L xs) (hbA : ¬ A b) (hA6 : ∀ q, fp1 o6 215 q → A q) (hA7 : ∀ q, fp1 o7 14 q → A q) (hd : o6 + 215 ≤ o7) (hi : i + 4 ≤ L) (hL : L ≤ 256) (hR1 : 8 ≤ rm.frames) (hR2 : 300 ≤ rm.locals) (hR3 : cs ≤ rm.cells) (hR4 : sl ≤ rm.slots) (hI : Inv R M) (hb6 : blk D ksMain o6 R H) (hb7 : blk D ksModel o7 M H) (kk : ∀ (H1 : Heap) (R1 M1 : Nat → Nat → Int32), Inv R1 M1 → blk D ksMain o6 R1 H1 → blk D ksModel o7 M1 H1 → WG x A Q H1 cs sl 974 (LSl b o6 o7 i) []) : WG x A Q H cs sl 183 (LSl b o6 o7 i) [] := by
  refine r_aload_n C dL_law_183 rfl ?_
  refine r_callV0 C cw_L_18 (fun l => c_X6_wipe l D o6 R  _ rfl) (rest := []) hb6 (k := 0) rfl rfl celO_6 hb6 (fun q h => hA6 q h) rfl rfl rfl (Nat.le_of_ble_eq_true rfl) ⟨Nat.le_trans (Nat.le_of_ble_eq_true rfl) hR1, Nat.le_trans (Nat.le_of_ble_eq_true rfl) hR2, hR3, hR4⟩ dL_law_184 (fun v H1 hv hq1 => ?_)
  obtain ⟨rfl, g6⟩ := hv
  have g7 := blk_kept hb7 (n := 14) rfl (fun q h1 h2 => hq1 q (by unfold fp1; omega))
  dsimp only [psh]
  refine r_aload_n C dL_law_187 rfl ?_
  refine r_callV0 C cw_L_22 (fun l => c_X7_wipe l D o7 M  _ rfl) (rest := [.int (d_X6_wipe R).1]) g7 (k := 0) rfl rfl celO_7 g7 (fun q h => hA7 q h) rfl rfl rfl (Nat.le_of_ble_eq_true rfl) ⟨Nat.le_trans (Nat.le_of_ble_eq_true rfl) hR1, Nat.le_trans (Nat.le_of_ble_eq_true rfl) hR2, hR3, hR4⟩ dL_law_188 (fun v H2 hv hq2 => ?_)
  obtain ⟨rfl, k7⟩ := hv
  have k6 := blk_kept g6 (n := 215) rfl (fun q h1 h2 => hq2 q (by unfold fp1; omega))
  dsimp only [psh]
  have hs := S.p_wipe hI
  refine r_ic_eq C dL_law_191 (fun _ => ?_) (fun h => absurd hs.1 h)
  exact kk H2 _ _ hs.2 k6 k7
set_option maxHeartbeats 4000000 in
set_option maxRecDepth 100000 in
theorem law_fault (S : Sim Inv) (C : Cx x RL cL_law 4 D ret rm) (X : SC x b L xs) (hbA : ¬ A b) (hA6 : ∀ q, fp1 o6 215 q → A q) (hA7 : ∀ q, fp1 o7 14 q → A q) (hd : o6 + 215 ≤ o7) (hi : i + 4 ≤ L) (hL : L ≤ 256) (hR1 : 8 ≤ rm.frames) (hR2 : 300 ≤ rm.locals) (hR3 : cs ≤ rm.cells) (hR4 : sl ≤ rm.slots) (hI : Inv R M) (hb6 : blk D ksMain o6 R H) (hb7 : blk D ksModel o7 M H) (kk : ∀ (H1 : Heap) (R1 M1 : Nat → Nat → Int32), Inv R1 M1 → blk D ksMain o6 R1 H1 → blk D ksModel o7 M1 H1 → WG x A Q H1 cs sl 974 (LSl b o6 o7 i) []) : WG x A Q H cs sl 196 (LSl b o6 o7 i) [] := by
  refine r_aload_n C dL_law_196 rfl ?_
  refine r_callV0 C cw_L_23 (fun l => c_X6_fault l D o6 R (S.ok6 hI).hlen (S.ok6 hI).hlen2 _ rfl) (rest := []) hb6 (k := 0) rfl rfl celO_6 hb6 (fun q h => hA6 q h) rfl rfl rfl (Nat.le_of_ble_eq_true rfl) ⟨Nat.le_trans (Nat.le_of_ble_eq_true rfl) hR1, Nat.le_trans (Nat.le_of_ble_eq_true rfl) hR2, hR3, hR4⟩ dL_law_197 (fun v H1 hv hq1 => ?_)
  obtain ⟨rfl, g6⟩ := hv
  have g7 := blk_kept hb7 (n := 14) rfl (fun q h1 h2 => hq1 q (by unfold fp1; omega))
  dsimp only [psh]
  refine r_aload_n C dL_law_200 rfl ?_
  refine r_callV0 C cw_L_26 (fun l => c_X7_fault l D o7 M (S.ok7 hI).h0 (S.ok7 hI).b0 _ rfl) (rest := [.int (d_X6_fault R).1]) g7 (k := 0) rfl rfl celO_7 g7 (fun q h => hA7 q h) rfl rfl rfl (Nat.le_of_ble_eq_true rfl) ⟨Nat.le_trans (Nat.le_of_ble_eq_true rfl) hR1, Nat.le_trans (Nat.le_of_ble_eq_true rfl) hR2, hR3, hR4⟩ dL_law_201 (fun v H2 hv hq2 => ?_)
  obtain ⟨rfl, k7⟩ := hv
  have k6 := blk_kept g6 (n := 215) rfl (fun q h1 h2 => hq2 q (by unfold fp1; omega))
  dsimp only [psh]
  have hs := S.p_fault hI
  refine r_ic_eq C dL_law_204 (fun _ => ?_) (fun h => absurd hs.1 h)
  exact kk H2 _ _ hs.2 k6 k7
set_option maxHeartbeats 4000000 in
set_option maxRecDepth 100000 in
theorem law_lay (S : Sim Inv) (C : Cx x RL cL_law 4 D ret rm) (X : SC x b L xs) (hbA : ¬ A b) (hA6 : ∀ q, fp1 o6 215 q → A q) (hA7 : ∀ q, fp1 o7 14 q → A q) (hd : o6 + 215 ≤ o7) (hi : i + 4 ≤ L) (hL : L ≤ 256) (hR1 : 8 ≤ rm.frames) (hR2 : 300 ≤ rm.locals) (hR3 : cs ≤ rm.cells) (hR4 : sl ≤ rm.slots) (hI : Inv R M) (hb6 : blk D ksMain o6 R H) (hb7 : blk D ksModel o7 M H) (kk : ∀ (H1 : Heap) (R1 M1 : Nat → Nat → Int32), Inv R1 M1 → blk D ksMain o6 R1 H1 → blk D ksModel o7 M1 H1 → WG x A Q H1 cs sl 974 (LSl b o6 o7 i) []) : WG x A Q H cs sl 209 (LSl b o6 o7 i) [] := by
  refine r_aload_n C dL_law_209 rfl ?_
  refine r_callV0 C cw_L_27 (fun l => c_X6_lay l D o6 R (S.ok6 hI).hlen (S.ok6 hI).hlen2 _ rfl) (rest := []) hb6 (k := 0) rfl rfl celO_6 hb6 (fun q h => hA6 q h) rfl rfl rfl (Nat.le_of_ble_eq_true rfl) ⟨Nat.le_trans (Nat.le_of_ble_eq_true rfl) hR1, Nat.le_trans (Nat.le_of_ble_eq_true rfl) hR2, hR3, hR4⟩ dL_law_210 (fun v H1 hv hq1 => ?_)
  obtain ⟨rfl, g6⟩ := hv
  have g7 := blk_kept hb7 (n := 14) rfl (fun q h1 h2 => hq1 q (by unfold fp1; omega))
  dsimp only [psh]
  refine r_aload_n C dL_law_213 rfl ?_
  refine r_callV0 C cw_L_30 (fun l => c_X7_lay l D o7 M (S.ok7 hI).h0 (S.ok7 hI).b0 _ rfl) (rest := [.int (d_X6_lay R).1]) g7 (k := 0) rfl rfl celO_7 g7 (fun q h => hA7 q h) rfl rfl rfl (Nat.le_of_ble_eq_true rfl) ⟨Nat.le_trans (Nat.le_of_ble_eq_true rfl) hR1, Nat.le_trans (Nat.le_of_ble_eq_true rfl) hR2, hR3, hR4⟩ dL_law_214 (fun v H2 hv hq2 => ?_)
  obtain ⟨rfl, k7⟩ := hv
  have k6 := blk_kept g6 (n := 215) rfl (fun q h1 h2 => hq2 q (by unfold fp1; omega))
  dsimp only [psh]
  have hs := S.p_lay hI
  refine r_ic_eq C dL_law_217 (fun _ => ?_) (fun h => absurd hs.1 h)
  exact kk H2 _ _ hs.2 k6 k7
set_option maxHeartbeats 4000000 in
set_option maxRecDepth 100000 in
theorem law_town (S : Sim Inv) (C : Cx x RL cL_law 4 D ret rm) (X : SC x b L xs) (hbA : ¬ A b) (hA6 : ∀ q, fp1 o6 215 q → A q) (hA7 : ∀ q, fp1 o7 14 q → A q) (hd : o6 + 215 ≤ o7) (hi : i + 4 ≤ L) (hL : L ≤ 256) (hR1 : 8 ≤ rm.frames) (hR2 : 300 ≤ rm.locals) (hR3 : cs ≤ rm.cells) (hR4 : sl ≤ rm.slots) (hI : Inv R M) (hb6 : blk D ksMain o6 R H) (hb7 : blk D ksModel o7 M H) (kk : ∀ (H1 : Heap) (R1 M1 : Nat → Nat → Int32), Inv R1 M1 → blk D ksMain o6 R1 H1 → blk D ksModel o7 M1 H1 → WG x A Q H1 cs sl 974 (LSl b o6 o7 i) []) : WG x A Q H cs sl 222 (LSl b o6 o7 i) [] := by
  refine r_aload_n C dL_law_222 rfl ?_
  refine r_aload_n C dL_law_223 rfl ?_
  refine r_iload_n C dL_law_224 rfl ?_
  refine r_iconst C dL_law_225 (1 : Int32) (by decide) ?_
  refine r_iadd C dL_law_226 ?_
  refine r_sld C X hbA hL (j := i + 1) (nI_add i 1) (by omega) dL_law_227 ?_
  refine r_aload_n C dL_law_228 rfl ?_
  refine r_iload_n C dL_law_229 rfl ?_
  refine r_iconst C dL_law_230 (2 : Int32) (by decide) ?_
  refine r_iadd C dL_law_231 ?_
  refine r_sld C X hbA hL (j := i + 2) (nI_add i 2) (by omega) dL_law_232 ?_
  refine r_callV0 C cw_L_31 (fun l => c_X6_town l D o6 R (xs (i + 1)) (xs (i + 2))  _ rfl) (rest := []) hb6 (k := 0) rfl rfl celO_6 hb6 (fun q h => h.elim) rfl rfl rfl (Nat.le_of_ble_eq_true rfl) ⟨Nat.le_trans (Nat.le_of_ble_eq_true rfl) hR1, Nat.le_trans (Nat.le_of_ble_eq_true rfl) hR2, hR3, hR4⟩ dL_law_233 (fun v H1 hv hq1 => ?_)
  subst hv
  have g6 := blk_kept hb6 (n := 215) rfl (fun q h1 h2 => hq1 q (fun h => h))
  have g7 := blk_kept hb7 (n := 14) rfl (fun q h1 h2 => hq1 q (fun h => h))
  dsimp only [psh]
  refine r_aload_n C dL_law_236 rfl ?_
  refine r_aload_n C dL_law_237 rfl ?_
  refine r_iload_n C dL_law_238 rfl ?_
  refine r_iconst C dL_law_239 (1 : Int32) (by decide) ?_
  refine r_iadd C dL_law_240 ?_
  refine r_sld C X hbA hL (j := i + 1) (nI_add i 1) (by omega) dL_law_241 ?_
  refine r_aload_n C dL_law_242 rfl ?_
  refine r_iload_n C dL_law_243 rfl ?_
  refine r_iconst C dL_law_244 (2 : Int32) (by decide) ?_
  refine r_iadd C dL_law_245 ?_
  refine r_sld C X hbA hL (j := i + 2) (nI_add i 2) (by omega) dL_law_246 ?_
  refine r_callV0 C cw_L_35 (fun l => c_X7_town l D o7 M (xs (i + 1)) (xs (i + 2)) (S.ok7 hI).h10 (S.ok7 hI).b10 _ rfl) (rest := [.int (d_X6_town R (xs (i + 1)) (xs (i + 2)))]) g7 (k := 0) rfl rfl celO_7 g7 (fun q h => h.elim) rfl rfl rfl (Nat.le_of_ble_eq_true rfl) ⟨Nat.le_trans (Nat.le_of_ble_eq_true rfl) hR1, Nat.le_trans (Nat.le_of_ble_eq_true rfl) hR2, hR3, hR4⟩ dL_law_247 (fun v H2 hv hq2 => ?_)
  subst hv
  have k6 := blk_kept g6 (n := 215) rfl (fun q h1 h2 => hq2 q (fun h => h))
  have k7 := blk_kept g7 (n := 14) rfl (fun q h1 h2 => hq2 q (fun h => h))
  dsimp only [psh]
  refine r_ic_eq C dL_law_250 (fun _ => ?_) (fun h => absurd (S.p_town (xs (i + 1)) (xs (i + 2)) hI) h)
  exact kk H2 _ _ hI k6 k7
set_option maxHeartbeats 4000000 in
set_option maxRecDepth 100000 in
theorem law_crew (S : Sim Inv) (C : Cx x RL cL_law 4 D ret rm) (X : SC x b L xs) (hbA : ¬ A b) (hA6 : ∀ q, fp1 o6 215 q → A q) (hA7 : ∀ q, fp1 o7 14 q → A q) (hd : o6 + 215 ≤ o7) (hi : i + 4 ≤ L) (hL : L ≤ 256) (hR1 : 8 ≤ rm.frames) (hR2 : 300 ≤ rm.locals) (hR3 : cs ≤ rm.cells) (hR4 : sl ≤ rm.slots) (hI : Inv R M) (hb6 : blk D ksMain o6 R H) (hb7 : blk D ksModel o7 M H) (kk : ∀ (H1 : Heap) (R1 M1 : Nat → Nat → Int32), Inv R1 M1 → blk D ksMain o6 R1 H1 → blk D ksModel o7 M1 H1 → WG x A Q H1 cs sl 974 (LSl b o6 o7 i) []) : WG x A Q H cs sl 255 (LSl b o6 o7 i) [] := by
  refine r_aload_n C dL_law_255 rfl ?_
  refine r_aload_n C dL_law_256 rfl ?_
  refine r_iload_n C dL_law_257 rfl ?_
  refine r_iconst C dL_law_258 (1 : Int32) (by decide) ?_
  refine r_iadd C dL_law_259 ?_
  refine r_sld C X hbA hL (j := i + 1) (nI_add i 1) (by omega) dL_law_260 ?_
  refine r_aload_n C dL_law_261 rfl ?_
  refine r_iload_n C dL_law_262 rfl ?_
  refine r_iconst C dL_law_263 (2 : Int32) (by decide) ?_
  refine r_iadd C dL_law_264 ?_
  refine r_sld C X hbA hL (j := i + 2) (nI_add i 2) (by omega) dL_law_265 ?_
  refine r_callV0 C cw_L_36 (fun l => c_X6_crew l D o6 R (xs (i + 1)) (xs (i + 2))  _ rfl) (rest := []) hb6 (k := 0) rfl rfl celO_6 hb6 (fun q h => h.elim) rfl rfl rfl (Nat.le_of_ble_eq_true rfl) ⟨Nat.le_trans (Nat.le_of_ble_eq_true rfl) hR1, Nat.le_trans (Nat.le_of_ble_eq_true rfl) hR2, hR3, hR4⟩ dL_law_266 (fun v H1 hv hq1 => ?_)
  subst hv
  have g6 := blk_kept hb6 (n := 215) rfl (fun q h1 h2 => hq1 q (fun h => h))
  have g7 := blk_kept hb7 (n := 14) rfl (fun q h1 h2 => hq1 q (fun h => h))
  dsimp only [psh]
  refine r_aload_n C dL_law_269 rfl ?_
  refine r_aload_n C dL_law_270 rfl ?_
  refine r_iload_n C dL_law_271 rfl ?_
  refine r_iconst C dL_law_272 (1 : Int32) (by decide) ?_
  refine r_iadd C dL_law_273 ?_
  refine r_sld C X hbA hL (j := i + 1) (nI_add i 1) (by omega) dL_law_274 ?_
  refine r_aload_n C dL_law_275 rfl ?_
  refine r_iload_n C dL_law_276 rfl ?_
  refine r_iconst C dL_law_277 (2 : Int32) (by decide) ?_
  refine r_iadd C dL_law_278 ?_
  refine r_sld C X hbA hL (j := i + 2) (nI_add i 2) (by omega) dL_law_279 ?_
  refine r_callV0 C cw_L_39 (fun l => c_X7_crew l D o7 M (xs (i + 1)) (xs (i + 2)) (S.ok7 hI).h11 (S.ok7 hI).b11 _ rfl) (rest := [.int (d_X6_crew R (xs (i + 1)) (xs (i + 2)))]) g7 (k := 0) rfl rfl celO_7 g7 (fun q h => h.elim) rfl rfl rfl (Nat.le_of_ble_eq_true rfl) ⟨Nat.le_trans (Nat.le_of_ble_eq_true rfl) hR1, Nat.le_trans (Nat.le_of_ble_eq_true rfl) hR2, hR3, hR4⟩ dL_law_280 (fun v H2 hv hq2 => ?_)
  subst hv
  have k6 := blk_kept g6 (n := 215) rfl (fun q h1 h2 => hq2 q (fun h => h))
  have k7 := blk_kept g7 (n := 14) rfl (fun q h1 h2 => hq2 q (fun h => h))
  dsimp only [psh]
  refine r_ic_eq C dL_law_283 (fun _ => ?_) (fun h => absurd (S.p_crew (xs (i + 1)) (xs (i + 2)) hI) h)
  exact kk H2 _ _ hI k6 k7
set_option maxHeartbeats 4000000 in
set_option maxRecDepth 100000 in
theorem law_believes (S : Sim Inv) (C : Cx x RL cL_law 4 D ret rm) (X : SC x b L xs) (hbA : ¬ A b) (hA6 : ∀ q, fp1 o6 215 q → A q) (hA7 : ∀ q, fp1 o7 14 q → A q) (hd : o6 + 215 ≤ o7) (hi : i + 4 ≤ L) (hL : L ≤ 256) (hR1 : 8 ≤ rm.frames) (hR2 : 300 ≤ rm.locals) (hR3 : cs ≤ rm.cells) (hR4 : sl ≤ rm.slots) (hI : Inv R M) (hb6 : blk D ksMain o6 R H) (hb7 : blk D ksModel o7 M H) (kk : ∀ (H1 : Heap) (R1 M1 : Nat → Nat → Int32), Inv R1 M1 → blk D ksMain o6 R1 H1 → blk D ksModel o7 M1 H1 → WG x A Q H1 cs sl 974 (LSl b o6 o7 i) []) : WG x A Q H cs sl 288 (LSl b o6 o7 i) [] := by
  refine r_aload_n C dL_law_288 rfl ?_
  refine r_aload_n C dL_law_289 rfl ?_
  refine r_iload_n C dL_law_290 rfl ?_
  refine r_iconst C dL_law_291 (1 : Int32) (by decide) ?_
  refine r_iadd C dL_law_292 ?_
  refine r_sld C X hbA hL (j := i + 1) (nI_add i 1) (by omega) dL_law_293 ?_
  refine r_aload_n C dL_law_294 rfl ?_
  refine r_iload_n C dL_law_295 rfl ?_
  refine r_iconst C dL_law_296 (2 : Int32) (by decide) ?_
  refine r_iadd C dL_law_297 ?_
  refine r_sld C X hbA hL (j := i + 2) (nI_add i 2) (by omega) dL_law_298 ?_
  refine r_callV0 C cw_L_40 (fun l => c_X6_believes l D o6 R (xs (i + 1)) (xs (i + 2))  _ rfl) (rest := []) hb6 (k := 0) rfl rfl celO_6 hb6 (fun q h => h.elim) rfl rfl rfl (Nat.le_of_ble_eq_true rfl) ⟨Nat.le_trans (Nat.le_of_ble_eq_true rfl) hR1, Nat.le_trans (Nat.le_of_ble_eq_true rfl) hR2, hR3, hR4⟩ dL_law_299 (fun v H1 hv hq1 => ?_)
  subst hv
  have g6 := blk_kept hb6 (n := 215) rfl (fun q h1 h2 => hq1 q (fun h => h))
  have g7 := blk_kept hb7 (n := 14) rfl (fun q h1 h2 => hq1 q (fun h => h))
  dsimp only [psh]
  refine r_aload_n C dL_law_302 rfl ?_
  refine r_aload_n C dL_law_303 rfl ?_
  refine r_iload_n C dL_law_304 rfl ?_
  refine r_iconst C dL_law_305 (1 : Int32) (by decide) ?_
  refine r_iadd C dL_law_306 ?_
  refine r_sld C X hbA hL (j := i + 1) (nI_add i 1) (by omega) dL_law_307 ?_
  refine r_aload_n C dL_law_308 rfl ?_
  refine r_iload_n C dL_law_309 rfl ?_
  refine r_iconst C dL_law_310 (2 : Int32) (by decide) ?_
  refine r_iadd C dL_law_311 ?_
  refine r_sld C X hbA hL (j := i + 2) (nI_add i 2) (by omega) dL_law_312 ?_
  refine r_callV0 C cw_L_43 (fun l => c_X7_believes l D o7 M (xs (i + 1)) (xs (i + 2)) (S.ok7 hI).h10 (S.ok7 hI).b10 (S.ok7 hI).h11 (S.ok7 hI).b11 _ rfl) (rest := [.int (d_X6_believes R (xs (i + 1)) (xs (i + 2)))]) g7 (k := 0) rfl rfl celO_7 g7 (fun q h => h.elim) rfl rfl rfl (Nat.le_of_ble_eq_true rfl) ⟨Nat.le_trans (Nat.le_of_ble_eq_true rfl) hR1, Nat.le_trans (Nat.le_of_ble_eq_true rfl) hR2, hR3, hR4⟩ dL_law_313 (fun v H2 hv hq2 => ?_)
  subst hv
  have k6 := blk_kept g6 (n := 215) rfl (fun q h1 h2 => hq2 q (fun h => h))
  have k7 := blk_kept g7 (n := 14) rfl (fun q h1 h2 => hq2 q (fun h => h))
  dsimp only [psh]
  refine r_ic_eq C dL_law_316 (fun _ => ?_) (fun h => absurd (S.p_believes (xs (i + 1)) (xs (i + 2)) hI) h)
  exact kk H2 _ _ hI k6 k7
set_option maxHeartbeats 4000000 in
set_option maxRecDepth 100000 in
theorem law_asks (S : Sim Inv) (C : Cx x RL cL_law 4 D ret rm) (X : SC x b L xs) (hbA : ¬ A b) (hA6 : ∀ q, fp1 o6 215 q → A q) (hA7 : ∀ q, fp1 o7 14 q → A q) (hd : o6 + 215 ≤ o7) (hi : i + 4 ≤ L) (hL : L ≤ 256) (hR1 : 8 ≤ rm.frames) (hR2 : 300 ≤ rm.locals) (hR3 : cs ≤ rm.cells) (hR4 : sl ≤ rm.slots) (hI : Inv R M) (hb6 : blk D ksMain o6 R H) (hb7 : blk D ksModel o7 M H) (kk : ∀ (H1 : Heap) (R1 M1 : Nat → Nat → Int32), Inv R1 M1 → blk D ksMain o6 R1 H1 → blk D ksModel o7 M1 H1 → WG x A Q H1 cs sl 974 (LSl b o6 o7 i) []) : WG x A Q H cs sl 321 (LSl b o6 o7 i) [] := by
  refine r_aload_n C dL_law_321 rfl ?_
  refine r_aload_n C dL_law_322 rfl ?_
  refine r_iload_n C dL_law_323 rfl ?_
  refine r_iconst C dL_law_324 (1 : Int32) (by decide) ?_
  refine r_iadd C dL_law_325 ?_
  refine r_sld C X hbA hL (j := i + 1) (nI_add i 1) (by omega) dL_law_326 ?_
  refine r_aload_n C dL_law_327 rfl ?_
  refine r_iload_n C dL_law_328 rfl ?_
  refine r_iconst C dL_law_329 (2 : Int32) (by decide) ?_
  refine r_iadd C dL_law_330 ?_
  refine r_sld C X hbA hL (j := i + 2) (nI_add i 2) (by omega) dL_law_331 ?_
  refine r_callV0 C cw_L_44 (fun l => c_X6_asks l D o6 R (xs (i + 1)) (xs (i + 2))  _ rfl) (rest := []) hb6 (k := 0) rfl rfl celO_6 hb6 (fun q h => h.elim) rfl rfl rfl (Nat.le_of_ble_eq_true rfl) ⟨Nat.le_trans (Nat.le_of_ble_eq_true rfl) hR1, Nat.le_trans (Nat.le_of_ble_eq_true rfl) hR2, hR3, hR4⟩ dL_law_332 (fun v H1 hv hq1 => ?_)
  subst hv
  have g6 := blk_kept hb6 (n := 215) rfl (fun q h1 h2 => hq1 q (fun h => h))
  have g7 := blk_kept hb7 (n := 14) rfl (fun q h1 h2 => hq1 q (fun h => h))
  dsimp only [psh]
  refine r_aload_n C dL_law_335 rfl ?_
  refine r_aload_n C dL_law_336 rfl ?_
  refine r_iload_n C dL_law_337 rfl ?_
  refine r_iconst C dL_law_338 (1 : Int32) (by decide) ?_
  refine r_iadd C dL_law_339 ?_
  refine r_sld C X hbA hL (j := i + 1) (nI_add i 1) (by omega) dL_law_340 ?_
  refine r_aload_n C dL_law_341 rfl ?_
  refine r_iload_n C dL_law_342 rfl ?_
  refine r_iconst C dL_law_343 (2 : Int32) (by decide) ?_
  refine r_iadd C dL_law_344 ?_
  refine r_sld C X hbA hL (j := i + 2) (nI_add i 2) (by omega) dL_law_345 ?_
  refine r_callV0 C cw_L_47 (fun l => c_X7_asks l D o7 M (xs (i + 1)) (xs (i + 2)) (S.ok7 hI).h10 (S.ok7 hI).b10 (S.ok7 hI).h11 (S.ok7 hI).b11 _ rfl) (rest := [.int (d_X6_asks R (xs (i + 1)) (xs (i + 2)))]) g7 (k := 0) rfl rfl celO_7 g7 (fun q h => h.elim) rfl rfl rfl (Nat.le_of_ble_eq_true rfl) ⟨Nat.le_trans (Nat.le_of_ble_eq_true rfl) hR1, Nat.le_trans (Nat.le_of_ble_eq_true rfl) hR2, hR3, hR4⟩ dL_law_346 (fun v H2 hv hq2 => ?_)
  subst hv
  have k6 := blk_kept g6 (n := 215) rfl (fun q h1 h2 => hq2 q (fun h => h))
  have k7 := blk_kept g7 (n := 14) rfl (fun q h1 h2 => hq2 q (fun h => h))
  dsimp only [psh]
  refine r_ic_eq C dL_law_349 (fun _ => ?_) (fun h => absurd (S.p_asks (xs (i + 1)) (xs (i + 2)) hI) h)
  exact kk H2 _ _ hI k6 k7
set_option maxHeartbeats 4000000 in
set_option maxRecDepth 100000 in
theorem law_pass (S : Sim Inv) (C : Cx x RL cL_law 4 D ret rm) (X : SC x b L xs) (hbA : ¬ A b) (hA6 : ∀ q, fp1 o6 215 q → A q) (hA7 : ∀ q, fp1 o7 14 q → A q) (hd : o6 + 215 ≤ o7) (hi : i + 4 ≤ L) (hL : L ≤ 256) (hR1 : 8 ≤ rm.frames) (hR2 : 300 ≤ rm.locals) (hR3 : cs ≤ rm.cells) (hR4 : sl ≤ rm.slots) (hI : Inv R M) (hb6 : blk D ksMain o6 R H) (hb7 : blk D ksModel o7 M H) (kk : ∀ (H1 : Heap) (R1 M1 : Nat → Nat → Int32), Inv R1 M1 → blk D ksMain o6 R1 H1 → blk D ksModel o7 M1 H1 → WG x A Q H1 cs sl 974 (LSl b o6 o7 i) []) : WG x A Q H cs sl 354 (LSl b o6 o7 i) [] := by
  refine r_aload_n C dL_law_354 rfl ?_
  refine r_aload_n C dL_law_355 rfl ?_
  refine r_iload_n C dL_law_356 rfl ?_
  refine r_iconst C dL_law_357 (1 : Int32) (by decide) ?_
  refine r_iadd C dL_law_358 ?_
  refine r_sld C X hbA hL (j := i + 1) (nI_add i 1) (by omega) dL_law_359 ?_
  refine r_callV0 C cw_L_48 (fun l => c_X6_pass l D o6 R (xs (i + 1)) (S.ok6 hI).hw8 _ rfl) (rest := []) hb6 (k := 0) rfl rfl celO_6 hb6 (fun q h => hA6 q h) rfl rfl rfl (Nat.le_of_ble_eq_true rfl) ⟨Nat.le_trans (Nat.le_of_ble_eq_true rfl) hR1, Nat.le_trans (Nat.le_of_ble_eq_true rfl) hR2, hR3, hR4⟩ dL_law_360 (fun v H1 hv hq1 => ?_)
  obtain ⟨rfl, g6⟩ := hv
  have g7 := blk_kept hb7 (n := 14) rfl (fun q h1 h2 => hq1 q (by unfold fp1; omega))
  dsimp only [psh]
  refine r_aload_n C dL_law_363 rfl ?_
  refine r_aload_n C dL_law_364 rfl ?_
  refine r_iload_n C dL_law_365 rfl ?_
  refine r_iconst C dL_law_366 (1 : Int32) (by decide) ?_
  refine r_iadd C dL_law_367 ?_
  refine r_sld C X hbA hL (j := i + 1) (nI_add i 1) (by omega) dL_law_368 ?_
  refine r_callV0 C cw_L_51 (fun l => c_X7_pass l D o7 M (xs (i + 1)) (S.ok7 hI).h10 (S.ok7 hI).b10 (S.ok7 hI).h11 (S.ok7 hI).b11 (S.ok7 hI).h18 (S.ok7 hI).b18 _ rfl) (rest := [.int (d_X6_pass R (xs (i + 1))).1]) g7 (k := 0) rfl rfl celO_7 g7 (fun q h => hA7 q h) rfl rfl rfl (Nat.le_of_ble_eq_true rfl) ⟨Nat.le_trans (Nat.le_of_ble_eq_true rfl) hR1, Nat.le_trans (Nat.le_of_ble_eq_true rfl) hR2, hR3, hR4⟩ dL_law_369 (fun v H2 hv hq2 => ?_)
  obtain ⟨rfl, k7⟩ := hv
  have k6 := blk_kept g6 (n := 215) rfl (fun q h1 h2 => hq2 q (by unfold fp1; omega))
  dsimp only [psh]
  have hs := S.p_pass (xs (i + 1)) hI
  refine r_ic_eq C dL_law_372 (fun _ => ?_) (fun h => absurd hs.1 h)
  exact kk H2 _ _ hs.2 k6 k7
set_option maxHeartbeats 4000000 in
set_option maxRecDepth 100000 in
theorem law_way (S : Sim Inv) (C : Cx x RL cL_law 4 D ret rm) (X : SC x b L xs) (hbA : ¬ A b) (hA6 : ∀ q, fp1 o6 215 q → A q) (hA7 : ∀ q, fp1 o7 14 q → A q) (hd : o6 + 215 ≤ o7) (hi : i + 4 ≤ L) (hL : L ≤ 256) (hR1 : 8 ≤ rm.frames) (hR2 : 300 ≤ rm.locals) (hR3 : cs ≤ rm.cells) (hR4 : sl ≤ rm.slots) (hI : Inv R M) (hb6 : blk D ksMain o6 R H) (hb7 : blk D ksModel o7 M H) (kk : ∀ (H1 : Heap) (R1 M1 : Nat → Nat → Int32), Inv R1 M1 → blk D ksMain o6 R1 H1 → blk D ksModel o7 M1 H1 → WG x A Q H1 cs sl 974 (LSl b o6 o7 i) []) : WG x A Q H cs sl 377 (LSl b o6 o7 i) [] := by
  refine r_aload_n C dL_law_377 rfl ?_
  refine r_aload_n C dL_law_378 rfl ?_
  refine r_iload_n C dL_law_379 rfl ?_
  refine r_iconst C dL_law_380 (1 : Int32) (by decide) ?_
  refine r_iadd C dL_law_381 ?_
  refine r_sld C X hbA hL (j := i + 1) (nI_add i 1) (by omega) dL_law_382 ?_
  refine r_aload_n C dL_law_383 rfl ?_
  refine r_iload_n C dL_law_384 rfl ?_
  refine r_iconst C dL_law_385 (2 : Int32) (by decide) ?_
  refine r_iadd C dL_law_386 ?_
  refine r_sld C X hbA hL (j := i + 2) (nI_add i 2) (by omega) dL_law_387 ?_
  refine r_callV0 C cw_L_52 (fun l => c_X6_way l D o6 R (xs (i + 1)) (xs (i + 2)) (S.ok6 hI).hw8 _ rfl) (rest := []) hb6 (k := 0) rfl rfl celO_6 hb6 (fun q h => hA6 q h) rfl rfl rfl (Nat.le_of_ble_eq_true rfl) ⟨Nat.le_trans (Nat.le_of_ble_eq_true rfl) hR1, Nat.le_trans (Nat.le_of_ble_eq_true rfl) hR2, hR3, hR4⟩ dL_law_388 (fun v H1 hv hq1 => ?_)
  obtain ⟨rfl, g6⟩ := hv
  have g7 := blk_kept hb7 (n := 14) rfl (fun q h1 h2 => hq1 q (by unfold fp1; omega))
  dsimp only [psh]
  refine r_aload_n C dL_law_391 rfl ?_
  refine r_aload_n C dL_law_392 rfl ?_
  refine r_iload_n C dL_law_393 rfl ?_
  refine r_iconst C dL_law_394 (1 : Int32) (by decide) ?_
  refine r_iadd C dL_law_395 ?_
  refine r_sld C X hbA hL (j := i + 1) (nI_add i 1) (by omega) dL_law_396 ?_
  refine r_aload_n C dL_law_397 rfl ?_
  refine r_iload_n C dL_law_398 rfl ?_
  refine r_iconst C dL_law_399 (2 : Int32) (by decide) ?_
  refine r_iadd C dL_law_400 ?_
  refine r_sld C X hbA hL (j := i + 2) (nI_add i 2) (by omega) dL_law_401 ?_
  refine r_callV0 C cw_L_55 (fun l => c_X7_way l D o7 M (xs (i + 1)) (xs (i + 2)) (S.ok7 hI).h10 (S.ok7 hI).b10 (S.ok7 hI).h18 (S.ok7 hI).b18 _ rfl) (rest := [.int (d_X6_way R (xs (i + 1)) (xs (i + 2))).1]) g7 (k := 0) rfl rfl celO_7 g7 (fun q h => hA7 q h) rfl rfl rfl (Nat.le_of_ble_eq_true rfl) ⟨Nat.le_trans (Nat.le_of_ble_eq_true rfl) hR1, Nat.le_trans (Nat.le_of_ble_eq_true rfl) hR2, hR3, hR4⟩ dL_law_402 (fun v H2 hv hq2 => ?_)
  obtain ⟨rfl, k7⟩ := hv
  have k6 := blk_kept g6 (n := 215) rfl (fun q h1 h2 => hq2 q (by unfold fp1; omega))
  dsimp only [psh]
  have hs := S.p_way (xs (i + 1)) (xs (i + 2)) hI
  refine r_ic_eq C dL_law_405 (fun _ => ?_) (fun h => absurd hs.1 h)
  exact kk H2 _ _ hs.2 k6 k7
set_option maxHeartbeats 4000000 in
set_option maxRecDepth 100000 in
theorem law_hire (S : Sim Inv) (C : Cx x RL cL_law 4 D ret rm) (X : SC x b L xs) (hbA : ¬ A b) (hA6 : ∀ q, fp1 o6 215 q → A q) (hA7 : ∀ q, fp1 o7 14 q → A q) (hd : o6 + 215 ≤ o7) (hi : i + 4 ≤ L) (hL : L ≤ 256) (hR1 : 8 ≤ rm.frames) (hR2 : 300 ≤ rm.locals) (hR3 : cs ≤ rm.cells) (hR4 : sl ≤ rm.slots) (hI : Inv R M) (hb6 : blk D ksMain o6 R H) (hb7 : blk D ksModel o7 M H) (kk : ∀ (H1 : Heap) (R1 M1 : Nat → Nat → Int32), Inv R1 M1 → blk D ksMain o6 R1 H1 → blk D ksModel o7 M1 H1 → WG x A Q H1 cs sl 974 (LSl b o6 o7 i) []) : WG x A Q H cs sl 410 (LSl b o6 o7 i) [] := by
  refine r_aload_n C dL_law_410 rfl ?_
  refine r_aload_n C dL_law_411 rfl ?_
  refine r_iload_n C dL_law_412 rfl ?_
  refine r_iconst C dL_law_413 (1 : Int32) (by decide) ?_
  refine r_iadd C dL_law_414 ?_
  refine r_sld C X hbA hL (j := i + 1) (nI_add i 1) (by omega) dL_law_415 ?_
  refine r_aload_n C dL_law_416 rfl ?_
  refine r_iload_n C dL_law_417 rfl ?_
  refine r_iconst C dL_law_418 (2 : Int32) (by decide) ?_
  refine r_iadd C dL_law_419 ?_
  refine r_sld C X hbA hL (j := i + 2) (nI_add i 2) (by omega) dL_law_420 ?_
  refine r_aload_n C dL_law_421 rfl ?_
  refine r_iload_n C dL_law_422 rfl ?_
  refine r_iconst C dL_law_423 (3 : Int32) (by decide) ?_
  refine r_iadd C dL_law_424 ?_
  refine r_sld C X hbA hL (j := i + 3) (nI_add i 3) (by omega) dL_law_425 ?_
  refine r_callV0 C cw_L_56 (fun l => c_X6_hire l D o6 R (xs (i + 1)) (xs (i + 2)) (xs (i + 3)) (S.ok6 hI).hw8 _ rfl) (rest := []) hb6 (k := 0) rfl rfl celO_6 hb6 (fun q h => hA6 q h) rfl rfl rfl (Nat.le_of_ble_eq_true rfl) ⟨Nat.le_trans (Nat.le_of_ble_eq_true rfl) hR1, Nat.le_trans (Nat.le_of_ble_eq_true rfl) hR2, hR3, hR4⟩ dL_law_426 (fun v H1 hv hq1 => ?_)
  obtain ⟨rfl, g6⟩ := hv
  have g7 := blk_kept hb7 (n := 14) rfl (fun q h1 h2 => hq1 q (by unfold fp1; omega))
  dsimp only [psh]
  refine r_aload_n C dL_law_429 rfl ?_
  refine r_aload_n C dL_law_430 rfl ?_
  refine r_iload_n C dL_law_431 rfl ?_
  refine r_iconst C dL_law_432 (1 : Int32) (by decide) ?_
  refine r_iadd C dL_law_433 ?_
  refine r_sld C X hbA hL (j := i + 1) (nI_add i 1) (by omega) dL_law_434 ?_
  refine r_aload_n C dL_law_435 rfl ?_
  refine r_iload_n C dL_law_436 rfl ?_
  refine r_iconst C dL_law_437 (2 : Int32) (by decide) ?_
  refine r_iadd C dL_law_438 ?_
  refine r_sld C X hbA hL (j := i + 2) (nI_add i 2) (by omega) dL_law_439 ?_
  refine r_aload_n C dL_law_440 rfl ?_
  refine r_iload_n C dL_law_441 rfl ?_
  refine r_iconst C dL_law_442 (3 : Int32) (by decide) ?_
  refine r_iadd C dL_law_443 ?_
  refine r_sld C X hbA hL (j := i + 3) (nI_add i 3) (by omega) dL_law_444 ?_
  refine r_callV0 C cw_L_60 (fun l => c_X7_hire l D o7 M (xs (i + 1)) (xs (i + 2)) (xs (i + 3)) (S.ok7 hI).h10 (S.ok7 hI).b10 (S.ok7 hI).h11 (S.ok7 hI).b11 (S.ok7 hI).h18 (S.ok7 hI).b18 _ rfl) (rest := [.int (d_X6_hire R (xs (i + 1)) (xs (i + 2)) (xs (i + 3))).1]) g7 (k := 0) rfl rfl celO_7 g7 (fun q h => hA7 q h) rfl rfl rfl (Nat.le_of_ble_eq_true rfl) ⟨Nat.le_trans (Nat.le_of_ble_eq_true rfl) hR1, Nat.le_trans (Nat.le_of_ble_eq_true rfl) hR2, hR3, hR4⟩ dL_law_445 (fun v H2 hv hq2 => ?_)
  obtain ⟨rfl, k7⟩ := hv
  have k6 := blk_kept g6 (n := 215) rfl (fun q h1 h2 => hq2 q (by unfold fp1; omega))
  dsimp only [psh]
  have hs := S.p_hire (xs (i + 1)) (xs (i + 2)) (xs (i + 3)) hI
  refine r_ic_eq C dL_law_448 (fun _ => ?_) (fun h => absurd hs.1 h)
  exact kk H2 _ _ hs.2 k6 k7
set_option maxHeartbeats 4000000 in
set_option maxRecDepth 100000 in
theorem law_land (S : Sim Inv) (C : Cx x RL cL_law 4 D ret rm) (X : SC x b L xs) (hbA : ¬ A b) (hA6 : ∀ q, fp1 o6 215 q → A q) (hA7 : ∀ q, fp1 o7 14 q → A q) (hd : o6 + 215 ≤ o7) (hi : i + 4 ≤ L) (hL : L ≤ 256) (hR1 : 8 ≤ rm.frames) (hR2 : 300 ≤ rm.locals) (hR3 : cs ≤ rm.cells) (hR4 : sl ≤ rm.slots) (hI : Inv R M) (hb6 : blk D ksMain o6 R H) (hb7 : blk D ksModel o7 M H) (kk : ∀ (H1 : Heap) (R1 M1 : Nat → Nat → Int32), Inv R1 M1 → blk D ksMain o6 R1 H1 → blk D ksModel o7 M1 H1 → WG x A Q H1 cs sl 974 (LSl b o6 o7 i) []) : WG x A Q H cs sl 453 (LSl b o6 o7 i) [] := by
  refine r_aload_n C dL_law_453 rfl ?_
  refine r_aload_n C dL_law_454 rfl ?_
  refine r_iload_n C dL_law_455 rfl ?_
  refine r_iconst C dL_law_456 (1 : Int32) (by decide) ?_
  refine r_iadd C dL_law_457 ?_
  refine r_sld C X hbA hL (j := i + 1) (nI_add i 1) (by omega) dL_law_458 ?_
  refine r_aload_n C dL_law_459 rfl ?_
  refine r_iload_n C dL_law_460 rfl ?_
  refine r_iconst C dL_law_461 (2 : Int32) (by decide) ?_
  refine r_iadd C dL_law_462 ?_
  refine r_sld C X hbA hL (j := i + 2) (nI_add i 2) (by omega) dL_law_463 ?_
  refine r_callV0 C cw_L_61 (fun l => c_X6_land l D o6 R (xs (i + 1)) (xs (i + 2)) (S.ok6 hI).hw8 _ rfl) (rest := []) hb6 (k := 0) rfl rfl celO_6 hb6 (fun q h => hA6 q h) rfl rfl rfl (Nat.le_of_ble_eq_true rfl) ⟨Nat.le_trans (Nat.le_of_ble_eq_true rfl) hR1, Nat.le_trans (Nat.le_of_ble_eq_true rfl) hR2, hR3, hR4⟩ dL_law_464 (fun v H1 hv hq1 => ?_)
  obtain ⟨rfl, g6⟩ := hv
  have g7 := blk_kept hb7 (n := 14) rfl (fun q h1 h2 => hq1 q (by unfold fp1; omega))
  dsimp only [psh]
  refine r_aload_n C dL_law_467 rfl ?_
  refine r_aload_n C dL_law_468 rfl ?_
  refine r_iload_n C dL_law_469 rfl ?_
  refine r_iconst C dL_law_470 (1 : Int32) (by decide) ?_
  refine r_iadd C dL_law_471 ?_
  refine r_sld C X hbA hL (j := i + 1) (nI_add i 1) (by omega) dL_law_472 ?_
  refine r_aload_n C dL_law_473 rfl ?_
  refine r_iload_n C dL_law_474 rfl ?_
  refine r_iconst C dL_law_475 (2 : Int32) (by decide) ?_
  refine r_iadd C dL_law_476 ?_
  refine r_sld C X hbA hL (j := i + 2) (nI_add i 2) (by omega) dL_law_477 ?_
  refine r_callV0 C cw_L_64 (fun l => c_X7_land l D o7 M (xs (i + 1)) (xs (i + 2)) (S.ok7 hI).h10 (S.ok7 hI).b10 (S.ok7 hI).h11 (S.ok7 hI).b11 (S.ok7 hI).h18 (S.ok7 hI).b18 _ rfl) (rest := [.int (d_X6_land R (xs (i + 1)) (xs (i + 2))).1]) g7 (k := 0) rfl rfl celO_7 g7 (fun q h => hA7 q h) rfl rfl rfl (Nat.le_of_ble_eq_true rfl) ⟨Nat.le_trans (Nat.le_of_ble_eq_true rfl) hR1, Nat.le_trans (Nat.le_of_ble_eq_true rfl) hR2, hR3, hR4⟩ dL_law_478 (fun v H2 hv hq2 => ?_)
  obtain ⟨rfl, k7⟩ := hv
  have k6 := blk_kept g6 (n := 215) rfl (fun q h1 h2 => hq2 q (by unfold fp1; omega))
  dsimp only [psh]
  have hs := S.p_land (xs (i + 1)) (xs (i + 2)) hI
  refine r_ic_eq C dL_law_481 (fun _ => ?_) (fun h => absurd hs.1 h)
  exact kk H2 _ _ hs.2 k6 k7
set_option maxHeartbeats 4000000 in
set_option maxRecDepth 100000 in
theorem law_raise (S : Sim Inv) (C : Cx x RL cL_law 4 D ret rm) (X : SC x b L xs) (hbA : ¬ A b) (hA6 : ∀ q, fp1 o6 215 q → A q) (hA7 : ∀ q, fp1 o7 14 q → A q) (hd : o6 + 215 ≤ o7) (hi : i + 4 ≤ L) (hL : L ≤ 256) (hR1 : 8 ≤ rm.frames) (hR2 : 300 ≤ rm.locals) (hR3 : cs ≤ rm.cells) (hR4 : sl ≤ rm.slots) (hI : Inv R M) (hb6 : blk D ksMain o6 R H) (hb7 : blk D ksModel o7 M H) (kk : ∀ (H1 : Heap) (R1 M1 : Nat → Nat → Int32), Inv R1 M1 → blk D ksMain o6 R1 H1 → blk D ksModel o7 M1 H1 → WG x A Q H1 cs sl 974 (LSl b o6 o7 i) []) : WG x A Q H cs sl 486 (LSl b o6 o7 i) [] := by
  refine r_aload_n C dL_law_486 rfl ?_
  refine r_aload_n C dL_law_487 rfl ?_
  refine r_iload_n C dL_law_488 rfl ?_
  refine r_iconst C dL_law_489 (1 : Int32) (by decide) ?_
  refine r_iadd C dL_law_490 ?_
  refine r_sld C X hbA hL (j := i + 1) (nI_add i 1) (by omega) dL_law_491 ?_
  refine r_aload_n C dL_law_492 rfl ?_
  refine r_iload_n C dL_law_493 rfl ?_
  refine r_iconst C dL_law_494 (2 : Int32) (by decide) ?_
  refine r_iadd C dL_law_495 ?_
  refine r_sld C X hbA hL (j := i + 2) (nI_add i 2) (by omega) dL_law_496 ?_
  refine r_callV0 C cw_L_65 (fun l => c_X6_raise l D o6 R (xs (i + 1)) (xs (i + 2)) (S.ok6 hI).hw8 _ rfl) (rest := []) hb6 (k := 0) rfl rfl celO_6 hb6 (fun q h => hA6 q h) rfl rfl rfl (Nat.le_of_ble_eq_true rfl) ⟨Nat.le_trans (Nat.le_of_ble_eq_true rfl) hR1, Nat.le_trans (Nat.le_of_ble_eq_true rfl) hR2, hR3, hR4⟩ dL_law_497 (fun v H1 hv hq1 => ?_)
  obtain ⟨rfl, g6⟩ := hv
  have g7 := blk_kept hb7 (n := 14) rfl (fun q h1 h2 => hq1 q (by unfold fp1; omega))
  dsimp only [psh]
  refine r_aload_n C dL_law_500 rfl ?_
  refine r_aload_n C dL_law_501 rfl ?_
  refine r_iload_n C dL_law_502 rfl ?_
  refine r_iconst C dL_law_503 (1 : Int32) (by decide) ?_
  refine r_iadd C dL_law_504 ?_
  refine r_sld C X hbA hL (j := i + 1) (nI_add i 1) (by omega) dL_law_505 ?_
  refine r_aload_n C dL_law_506 rfl ?_
  refine r_iload_n C dL_law_507 rfl ?_
  refine r_iconst C dL_law_508 (2 : Int32) (by decide) ?_
  refine r_iadd C dL_law_509 ?_
  refine r_sld C X hbA hL (j := i + 2) (nI_add i 2) (by omega) dL_law_510 ?_
  refine r_callV0 C cw_L_68 (fun l => c_X7_raise l D o7 M (xs (i + 1)) (xs (i + 2)) (S.ok7 hI).h10 (S.ok7 hI).b10 (S.ok7 hI).h18 (S.ok7 hI).b18 _ rfl) (rest := [.int (d_X6_raise R (xs (i + 1)) (xs (i + 2))).1]) g7 (k := 0) rfl rfl celO_7 g7 (fun q h => hA7 q h) rfl rfl rfl (Nat.le_of_ble_eq_true rfl) ⟨Nat.le_trans (Nat.le_of_ble_eq_true rfl) hR1, Nat.le_trans (Nat.le_of_ble_eq_true rfl) hR2, hR3, hR4⟩ dL_law_511 (fun v H2 hv hq2 => ?_)
  obtain ⟨rfl, k7⟩ := hv
  have k6 := blk_kept g6 (n := 215) rfl (fun q h1 h2 => hq2 q (by unfold fp1; omega))
  dsimp only [psh]
  have hs := S.p_raise (xs (i + 1)) (xs (i + 2)) hI
  refine r_ic_eq C dL_law_514 (fun _ => ?_) (fun h => absurd hs.1 h)
  exact kk H2 _ _ hs.2 k6 k7
set_option maxHeartbeats 4000000 in
set_option maxRecDepth 100000 in
theorem law_undo (S : Sim Inv) (C : Cx x RL cL_law 4 D ret rm) (X : SC x b L xs) (hbA : ¬ A b) (hA6 : ∀ q, fp1 o6 215 q → A q) (hA7 : ∀ q, fp1 o7 14 q → A q) (hd : o6 + 215 ≤ o7) (hi : i + 4 ≤ L) (hL : L ≤ 256) (hR1 : 8 ≤ rm.frames) (hR2 : 300 ≤ rm.locals) (hR3 : cs ≤ rm.cells) (hR4 : sl ≤ rm.slots) (hI : Inv R M) (hb6 : blk D ksMain o6 R H) (hb7 : blk D ksModel o7 M H) (kk : ∀ (H1 : Heap) (R1 M1 : Nat → Nat → Int32), Inv R1 M1 → blk D ksMain o6 R1 H1 → blk D ksModel o7 M1 H1 → WG x A Q H1 cs sl 974 (LSl b o6 o7 i) []) : WG x A Q H cs sl 519 (LSl b o6 o7 i) [] := by
  refine r_aload_n C dL_law_519 rfl ?_
  refine r_callV0 C cw_L_69 (fun l => c_X6_undo l D o6 R (S.ok6 hI).hw8 (S.ok6 hI).hpm (S.ok6 hI).hpm2 _ rfl) (rest := []) hb6 (k := 0) rfl rfl celO_6 hb6 (fun q h => hA6 q h) rfl rfl rfl (Nat.le_of_ble_eq_true rfl) ⟨Nat.le_trans (Nat.le_of_ble_eq_true rfl) hR1, Nat.le_trans (Nat.le_of_ble_eq_true rfl) hR2, hR3, hR4⟩ dL_law_520 (fun v H1 hv hq1 => ?_)
  obtain ⟨rfl, g6⟩ := hv
  have g7 := blk_kept hb7 (n := 14) rfl (fun q h1 h2 => hq1 q (by unfold fp1; omega))
  dsimp only [psh]
  refine r_aload_n C dL_law_523 rfl ?_
  refine r_callV0 C cw_L_72 (fun l => c_X7_undo l D o7 M (S.ok7 hI).h18 (S.ok7 hI).b18 _ rfl) (rest := [.int (d_X6_undo R).1]) g7 (k := 0) rfl rfl celO_7 g7 (fun q h => hA7 q h) rfl rfl rfl (Nat.le_of_ble_eq_true rfl) ⟨Nat.le_trans (Nat.le_of_ble_eq_true rfl) hR1, Nat.le_trans (Nat.le_of_ble_eq_true rfl) hR2, hR3, hR4⟩ dL_law_524 (fun v H2 hv hq2 => ?_)
  obtain ⟨rfl, k7⟩ := hv
  have k6 := blk_kept g6 (n := 215) rfl (fun q h1 h2 => hq2 q (by unfold fp1; omega))
  dsimp only [psh]
  have hs := S.p_undo hI
  refine r_ic_eq C dL_law_527 (fun _ => ?_) (fun h => absurd hs.1 h)
  exact kk H2 _ _ hs.2 k6 k7
set_option maxHeartbeats 4000000 in
set_option maxRecDepth 100000 in
theorem law_behind (S : Sim Inv) (C : Cx x RL cL_law 4 D ret rm) (X : SC x b L xs) (hbA : ¬ A b) (hA6 : ∀ q, fp1 o6 215 q → A q) (hA7 : ∀ q, fp1 o7 14 q → A q) (hd : o6 + 215 ≤ o7) (hi : i + 4 ≤ L) (hL : L ≤ 256) (hR1 : 8 ≤ rm.frames) (hR2 : 300 ≤ rm.locals) (hR3 : cs ≤ rm.cells) (hR4 : sl ≤ rm.slots) (hI : Inv R M) (hb6 : blk D ksMain o6 R H) (hb7 : blk D ksModel o7 M H) (kk : ∀ (H1 : Heap) (R1 M1 : Nat → Nat → Int32), Inv R1 M1 → blk D ksMain o6 R1 H1 → blk D ksModel o7 M1 H1 → WG x A Q H1 cs sl 974 (LSl b o6 o7 i) []) : WG x A Q H cs sl 532 (LSl b o6 o7 i) [] := by
  refine r_aload_n C dL_law_532 rfl ?_
  refine r_aload_n C dL_law_533 rfl ?_
  refine r_iload_n C dL_law_534 rfl ?_
  refine r_iconst C dL_law_535 (1 : Int32) (by decide) ?_
  refine r_iadd C dL_law_536 ?_
  refine r_sld C X hbA hL (j := i + 1) (nI_add i 1) (by omega) dL_law_537 ?_
  refine r_aload_n C dL_law_538 rfl ?_
  refine r_iload_n C dL_law_539 rfl ?_
  refine r_iconst C dL_law_540 (2 : Int32) (by decide) ?_
  refine r_iadd C dL_law_541 ?_
  refine r_sld C X hbA hL (j := i + 2) (nI_add i 2) (by omega) dL_law_542 ?_
  refine r_aload_n C dL_law_543 rfl ?_
  refine r_iload_n C dL_law_544 rfl ?_
  refine r_iconst C dL_law_545 (3 : Int32) (by decide) ?_
  refine r_iadd C dL_law_546 ?_
  refine r_sld C X hbA hL (j := i + 3) (nI_add i 3) (by omega) dL_law_547 ?_
  refine r_callV0 C cw_L_73 (fun l => c_X6_behind l D o6 R (xs (i + 1)) (xs (i + 2)) (xs (i + 3))  _ rfl) (rest := []) hb6 (k := 0) rfl rfl celO_6 hb6 (fun q h => hA6 q h) rfl rfl rfl (Nat.le_of_ble_eq_true rfl) ⟨Nat.le_trans (Nat.le_of_ble_eq_true rfl) hR1, Nat.le_trans (Nat.le_of_ble_eq_true rfl) hR2, hR3, hR4⟩ dL_law_548 (fun v H1 hv hq1 => ?_)
  obtain ⟨rfl, g6⟩ := hv
  have g7 := blk_kept hb7 (n := 14) rfl (fun q h1 h2 => hq1 q (by unfold fp1; omega))
  dsimp only [psh]
  refine r_aload_n C dL_law_551 rfl ?_
  refine r_aload_n C dL_law_552 rfl ?_
  refine r_iload_n C dL_law_553 rfl ?_
  refine r_iconst C dL_law_554 (1 : Int32) (by decide) ?_
  refine r_iadd C dL_law_555 ?_
  refine r_sld C X hbA hL (j := i + 1) (nI_add i 1) (by omega) dL_law_556 ?_
  refine r_aload_n C dL_law_557 rfl ?_
  refine r_iload_n C dL_law_558 rfl ?_
  refine r_iconst C dL_law_559 (2 : Int32) (by decide) ?_
  refine r_iadd C dL_law_560 ?_
  refine r_sld C X hbA hL (j := i + 2) (nI_add i 2) (by omega) dL_law_561 ?_
  refine r_aload_n C dL_law_562 rfl ?_
  refine r_iload_n C dL_law_563 rfl ?_
  refine r_iconst C dL_law_564 (3 : Int32) (by decide) ?_
  refine r_iadd C dL_law_565 ?_
  refine r_sld C X hbA hL (j := i + 3) (nI_add i 3) (by omega) dL_law_566 ?_
  refine r_callV0 C cw_L_76 (fun l => c_X7_behind l D o7 M (xs (i + 1)) (xs (i + 2)) (xs (i + 3)) (S.ok7 hI).h10 (S.ok7 hI).b10 (S.ok7 hI).h11 (S.ok7 hI).b11 _ rfl) (rest := [.int (d_X6_behind R (xs (i + 1)) (xs (i + 2)) (xs (i + 3))).1]) g7 (k := 0) rfl rfl celO_7 g7 (fun q h => hA7 q h) rfl rfl rfl (Nat.le_of_ble_eq_true rfl) ⟨Nat.le_trans (Nat.le_of_ble_eq_true rfl) hR1, Nat.le_trans (Nat.le_of_ble_eq_true rfl) hR2, hR3, hR4⟩ dL_law_567 (fun v H2 hv hq2 => ?_)
  obtain ⟨rfl, k7⟩ := hv
  have k6 := blk_kept g6 (n := 215) rfl (fun q h1 h2 => hq2 q (by unfold fp1; omega))
  dsimp only [psh]
  have hs := S.p_behind (xs (i + 1)) (xs (i + 2)) (xs (i + 3)) hI
  refine r_ic_eq C dL_law_570 (fun _ => ?_) (fun h => absurd hs.1 h)
  exact kk H2 _ _ hs.2 k6 k7
set_option maxHeartbeats 4000000 in
set_option maxRecDepth 100000 in
theorem law_fire (S : Sim Inv) (C : Cx x RL cL_law 4 D ret rm) (X : SC x b L xs) (hbA : ¬ A b) (hA6 : ∀ q, fp1 o6 215 q → A q) (hA7 : ∀ q, fp1 o7 14 q → A q) (hd : o6 + 215 ≤ o7) (hi : i + 4 ≤ L) (hL : L ≤ 256) (hR1 : 8 ≤ rm.frames) (hR2 : 300 ≤ rm.locals) (hR3 : cs ≤ rm.cells) (hR4 : sl ≤ rm.slots) (hI : Inv R M) (hb6 : blk D ksMain o6 R H) (hb7 : blk D ksModel o7 M H) (kk : ∀ (H1 : Heap) (R1 M1 : Nat → Nat → Int32), Inv R1 M1 → blk D ksMain o6 R1 H1 → blk D ksModel o7 M1 H1 → WG x A Q H1 cs sl 974 (LSl b o6 o7 i) []) : WG x A Q H cs sl 575 (LSl b o6 o7 i) [] := by
  refine r_aload_n C dL_law_575 rfl ?_
  refine r_aload_n C dL_law_576 rfl ?_
  refine r_iload_n C dL_law_577 rfl ?_
  refine r_iconst C dL_law_578 (1 : Int32) (by decide) ?_
  refine r_iadd C dL_law_579 ?_
  refine r_sld C X hbA hL (j := i + 1) (nI_add i 1) (by omega) dL_law_580 ?_
  refine r_callV0 C cw_L_77 (fun l => c_X6_fire l D o6 R (xs (i + 1))  _ rfl) (rest := []) hb6 (k := 0) rfl rfl celO_6 hb6 (fun q h => hA6 q h) rfl rfl rfl (Nat.le_of_ble_eq_true rfl) ⟨Nat.le_trans (Nat.le_of_ble_eq_true rfl) hR1, Nat.le_trans (Nat.le_of_ble_eq_true rfl) hR2, hR3, hR4⟩ dL_law_581 (fun v H1 hv hq1 => ?_)
  obtain ⟨rfl, g6⟩ := hv
  have g7 := blk_kept hb7 (n := 14) rfl (fun q h1 h2 => hq1 q (by unfold fp1; omega))
  dsimp only [psh]
  refine r_aload_n C dL_law_584 rfl ?_
  refine r_aload_n C dL_law_585 rfl ?_
  refine r_iload_n C dL_law_586 rfl ?_
  refine r_iconst C dL_law_587 (1 : Int32) (by decide) ?_
  refine r_iadd C dL_law_588 ?_
  refine r_sld C X hbA hL (j := i + 1) (nI_add i 1) (by omega) dL_law_589 ?_
  refine r_callV0 C cw_L_80 (fun l => c_X7_fire l D o7 M (xs (i + 1)) (S.ok7 hI).h10 (S.ok7 hI).b10 (S.ok7 hI).h11 (S.ok7 hI).b11 _ rfl) (rest := [.int (d_X6_fire R (xs (i + 1))).1]) g7 (k := 0) rfl rfl celO_7 g7 (fun q h => hA7 q h) rfl rfl rfl (Nat.le_of_ble_eq_true rfl) ⟨Nat.le_trans (Nat.le_of_ble_eq_true rfl) hR1, Nat.le_trans (Nat.le_of_ble_eq_true rfl) hR2, hR3, hR4⟩ dL_law_590 (fun v H2 hv hq2 => ?_)
  obtain ⟨rfl, k7⟩ := hv
  have k6 := blk_kept g6 (n := 215) rfl (fun q h1 h2 => hq2 q (by unfold fp1; omega))
  dsimp only [psh]
  have hs := S.p_fire (xs (i + 1)) hI
  refine r_ic_eq C dL_law_593 (fun _ => ?_) (fun h => absurd hs.1 h)
  exact kk H2 _ _ hs.2 k6 k7
set_option maxHeartbeats 4000000 in
set_option maxRecDepth 100000 in
theorem law_best (S : Sim Inv) (C : Cx x RL cL_law 4 D ret rm) (X : SC x b L xs) (hbA : ¬ A b) (hA6 : ∀ q, fp1 o6 215 q → A q) (hA7 : ∀ q, fp1 o7 14 q → A q) (hd : o6 + 215 ≤ o7) (hi : i + 4 ≤ L) (hL : L ≤ 256) (hR1 : 8 ≤ rm.frames) (hR2 : 300 ≤ rm.locals) (hR3 : cs ≤ rm.cells) (hR4 : sl ≤ rm.slots) (hI : Inv R M) (hb6 : blk D ksMain o6 R H) (hb7 : blk D ksModel o7 M H) (kk : ∀ (H1 : Heap) (R1 M1 : Nat → Nat → Int32), Inv R1 M1 → blk D ksMain o6 R1 H1 → blk D ksModel o7 M1 H1 → WG x A Q H1 cs sl 974 (LSl b o6 o7 i) []) : WG x A Q H cs sl 598 (LSl b o6 o7 i) [] := by
  refine r_aload_n C dL_law_598 rfl ?_
  refine r_aload_n C dL_law_599 rfl ?_
  refine r_iload_n C dL_law_600 rfl ?_
  refine r_iconst C dL_law_601 (1 : Int32) (by decide) ?_
  refine r_iadd C dL_law_602 ?_
  refine r_sld C X hbA hL (j := i + 1) (nI_add i 1) (by omega) dL_law_603 ?_
  refine r_aload_n C dL_law_604 rfl ?_
  refine r_iload_n C dL_law_605 rfl ?_
  refine r_iconst C dL_law_606 (2 : Int32) (by decide) ?_
  refine r_iadd C dL_law_607 ?_
  refine r_sld C X hbA hL (j := i + 2) (nI_add i 2) (by omega) dL_law_608 ?_
  refine r_aload_n C dL_law_609 rfl ?_
  refine r_iload_n C dL_law_610 rfl ?_
  refine r_iconst C dL_law_611 (3 : Int32) (by decide) ?_
  refine r_iadd C dL_law_612 ?_
  refine r_sld C X hbA hL (j := i + 3) (nI_add i 3) (by omega) dL_law_613 ?_
  refine r_callV0 C cw_L_81 (fun l => c_X6_best l D o6 R (xs (i + 1)) (xs (i + 2)) (xs (i + 3))  _ rfl) (rest := []) hb6 (k := 0) rfl rfl celO_6 hb6 (fun q h => hA6 q h) rfl rfl rfl (Nat.le_of_ble_eq_true rfl) ⟨Nat.le_trans (Nat.le_of_ble_eq_true rfl) hR1, Nat.le_trans (Nat.le_of_ble_eq_true rfl) hR2, hR3, hR4⟩ dL_law_614 (fun v H1 hv hq1 => ?_)
  obtain ⟨rfl, g6⟩ := hv
  have g7 := blk_kept hb7 (n := 14) rfl (fun q h1 h2 => hq1 q (by unfold fp1; omega))
  dsimp only [psh]
  refine r_aload_n C dL_law_617 rfl ?_
  refine r_aload_n C dL_law_618 rfl ?_
  refine r_iload_n C dL_law_619 rfl ?_
  refine r_iconst C dL_law_620 (1 : Int32) (by decide) ?_
  refine r_iadd C dL_law_621 ?_
  refine r_sld C X hbA hL (j := i + 1) (nI_add i 1) (by omega) dL_law_622 ?_
  refine r_aload_n C dL_law_623 rfl ?_
  refine r_iload_n C dL_law_624 rfl ?_
  refine r_iconst C dL_law_625 (2 : Int32) (by decide) ?_
  refine r_iadd C dL_law_626 ?_
  refine r_sld C X hbA hL (j := i + 2) (nI_add i 2) (by omega) dL_law_627 ?_
  refine r_aload_n C dL_law_628 rfl ?_
  refine r_iload_n C dL_law_629 rfl ?_
  refine r_iconst C dL_law_630 (3 : Int32) (by decide) ?_
  refine r_iadd C dL_law_631 ?_
  refine r_sld C X hbA hL (j := i + 3) (nI_add i 3) (by omega) dL_law_632 ?_
  refine r_callV0 C cw_L_84 (fun l => c_X7_best l D o7 M (xs (i + 1)) (xs (i + 2)) (xs (i + 3)) (S.ok7 hI).h10 (S.ok7 hI).b10 (S.ok7 hI).h11 (S.ok7 hI).b11 _ rfl) (rest := [.int (d_X6_best R (xs (i + 1)) (xs (i + 2)) (xs (i + 3))).1]) g7 (k := 0) rfl rfl celO_7 g7 (fun q h => hA7 q h) rfl rfl rfl (Nat.le_of_ble_eq_true rfl) ⟨Nat.le_trans (Nat.le_of_ble_eq_true rfl) hR1, Nat.le_trans (Nat.le_of_ble_eq_true rfl) hR2, hR3, hR4⟩ dL_law_633 (fun v H2 hv hq2 => ?_)
  obtain ⟨rfl, k7⟩ := hv
  have k6 := blk_kept g6 (n := 215) rfl (fun q h1 h2 => hq2 q (by unfold fp1; omega))
  dsimp only [psh]
  have hs := S.p_best (xs (i + 1)) (xs (i + 2)) (xs (i + 3)) hI
  refine r_ic_eq C dL_law_636 (fun _ => ?_) (fun h => absurd hs.1 h)
  exact kk H2 _ _ hs.2 k6 k7
set_option maxHeartbeats 4000000 in
set_option maxRecDepth 100000 in
theorem law_rests (S : Sim Inv) (C : Cx x RL cL_law 4 D ret rm) (X : SC x b L xs) (hbA : ¬ A b) (hA6 : ∀ q, fp1 o6 215 q → A q) (hA7 : ∀ q, fp1 o7 14 q → A q) (hd : o6 + 215 ≤ o7) (hi : i + 4 ≤ L) (hL : L ≤ 256) (hR1 : 8 ≤ rm.frames) (hR2 : 300 ≤ rm.locals) (hR3 : cs ≤ rm.cells) (hR4 : sl ≤ rm.slots) (hI : Inv R M) (hb6 : blk D ksMain o6 R H) (hb7 : blk D ksModel o7 M H) (kk : ∀ (H1 : Heap) (R1 M1 : Nat → Nat → Int32), Inv R1 M1 → blk D ksMain o6 R1 H1 → blk D ksModel o7 M1 H1 → WG x A Q H1 cs sl 974 (LSl b o6 o7 i) []) : WG x A Q H cs sl 641 (LSl b o6 o7 i) [] := by
  refine r_aload_n C dL_law_641 rfl ?_
  refine r_aload_n C dL_law_642 rfl ?_
  refine r_iload_n C dL_law_643 rfl ?_
  refine r_iconst C dL_law_644 (1 : Int32) (by decide) ?_
  refine r_iadd C dL_law_645 ?_
  refine r_sld C X hbA hL (j := i + 1) (nI_add i 1) (by omega) dL_law_646 ?_
  refine r_aload_n C dL_law_647 rfl ?_
  refine r_iload_n C dL_law_648 rfl ?_
  refine r_iconst C dL_law_649 (2 : Int32) (by decide) ?_
  refine r_iadd C dL_law_650 ?_
  refine r_sld C X hbA hL (j := i + 2) (nI_add i 2) (by omega) dL_law_651 ?_
  refine r_aload_n C dL_law_652 rfl ?_
  refine r_iload_n C dL_law_653 rfl ?_
  refine r_iconst C dL_law_654 (3 : Int32) (by decide) ?_
  refine r_iadd C dL_law_655 ?_
  refine r_sld C X hbA hL (j := i + 3) (nI_add i 3) (by omega) dL_law_656 ?_
  refine r_callV0 C cw_L_85 (fun l => c_X6_rests l D o6 R (xs (i + 1)) (xs (i + 2)) (xs (i + 3))  _ rfl) (rest := []) hb6 (k := 0) rfl rfl celO_6 hb6 (fun q h => hA6 q h) rfl rfl rfl (Nat.le_of_ble_eq_true rfl) ⟨Nat.le_trans (Nat.le_of_ble_eq_true rfl) hR1, Nat.le_trans (Nat.le_of_ble_eq_true rfl) hR2, hR3, hR4⟩ dL_law_657 (fun v H1 hv hq1 => ?_)
  obtain ⟨rfl, g6⟩ := hv
  have g7 := blk_kept hb7 (n := 14) rfl (fun q h1 h2 => hq1 q (by unfold fp1; omega))
  dsimp only [psh]
  refine r_aload_n C dL_law_660 rfl ?_
  refine r_aload_n C dL_law_661 rfl ?_
  refine r_iload_n C dL_law_662 rfl ?_
  refine r_iconst C dL_law_663 (1 : Int32) (by decide) ?_
  refine r_iadd C dL_law_664 ?_
  refine r_sld C X hbA hL (j := i + 1) (nI_add i 1) (by omega) dL_law_665 ?_
  refine r_aload_n C dL_law_666 rfl ?_
  refine r_iload_n C dL_law_667 rfl ?_
  refine r_iconst C dL_law_668 (2 : Int32) (by decide) ?_
  refine r_iadd C dL_law_669 ?_
  refine r_sld C X hbA hL (j := i + 2) (nI_add i 2) (by omega) dL_law_670 ?_
  refine r_aload_n C dL_law_671 rfl ?_
  refine r_iload_n C dL_law_672 rfl ?_
  refine r_iconst C dL_law_673 (3 : Int32) (by decide) ?_
  refine r_iadd C dL_law_674 ?_
  refine r_sld C X hbA hL (j := i + 3) (nI_add i 3) (by omega) dL_law_675 ?_
  refine r_callV0 C cw_L_88 (fun l => c_X7_rests l D o7 M (xs (i + 1)) (xs (i + 2)) (xs (i + 3)) (S.ok7 hI).h10 (S.ok7 hI).b10 (S.ok7 hI).h11 (S.ok7 hI).b11 _ rfl) (rest := [.int (d_X6_rests R (xs (i + 1)) (xs (i + 2)) (xs (i + 3))).1]) g7 (k := 0) rfl rfl celO_7 g7 (fun q h => hA7 q h) rfl rfl rfl (Nat.le_of_ble_eq_true rfl) ⟨Nat.le_trans (Nat.le_of_ble_eq_true rfl) hR1, Nat.le_trans (Nat.le_of_ble_eq_true rfl) hR2, hR3, hR4⟩ dL_law_676 (fun v H2 hv hq2 => ?_)
  obtain ⟨rfl, k7⟩ := hv
  have k6 := blk_kept g6 (n := 215) rfl (fun q h1 h2 => hq2 q (by unfold fp1; omega))
  dsimp only [psh]
  have hs := S.p_rests (xs (i + 1)) (xs (i + 2)) (xs (i + 3)) hI
  refine r_ic_eq C dL_law_679 (fun _ => ?_) (fun h => absurd hs.1 h)
  exact kk H2 _ _ hs.2 k6 k7
set_option maxHeartbeats 4000000 in
set_option maxRecDepth 100000 in
theorem law_walled (S : Sim Inv) (C : Cx x RL cL_law 4 D ret rm) (X : SC x b L xs) (hbA : ¬ A b) (hA6 : ∀ q, fp1 o6 215 q → A q) (hA7 : ∀ q, fp1 o7 14 q → A q) (hd : o6 + 215 ≤ o7) (hi : i + 4 ≤ L) (hL : L ≤ 256) (hR1 : 8 ≤ rm.frames) (hR2 : 300 ≤ rm.locals) (hR3 : cs ≤ rm.cells) (hR4 : sl ≤ rm.slots) (hI : Inv R M) (hb6 : blk D ksMain o6 R H) (hb7 : blk D ksModel o7 M H) (kk : ∀ (H1 : Heap) (R1 M1 : Nat → Nat → Int32), Inv R1 M1 → blk D ksMain o6 R1 H1 → blk D ksModel o7 M1 H1 → WG x A Q H1 cs sl 974 (LSl b o6 o7 i) []) : WG x A Q H cs sl 684 (LSl b o6 o7 i) [] := by
  refine r_aload_n C dL_law_684 rfl ?_
  refine r_aload_n C dL_law_685 rfl ?_
  refine r_iload_n C dL_law_686 rfl ?_
  refine r_iconst C dL_law_687 (1 : Int32) (by decide) ?_
  refine r_iadd C dL_law_688 ?_
  refine r_sld C X hbA hL (j := i + 1) (nI_add i 1) (by omega) dL_law_689 ?_
  refine r_aload_n C dL_law_690 rfl ?_
  refine r_iload_n C dL_law_691 rfl ?_
  refine r_iconst C dL_law_692 (2 : Int32) (by decide) ?_
  refine r_iadd C dL_law_693 ?_
  refine r_sld C X hbA hL (j := i + 2) (nI_add i 2) (by omega) dL_law_694 ?_
  refine r_callV0 C cw_L_89 (fun l => c_X6_walled l D o6 R (xs (i + 1)) (xs (i + 2))  _ rfl) (rest := []) hb6 (k := 0) rfl rfl celO_6 hb6 (fun q h => hA6 q h) rfl rfl rfl (Nat.le_of_ble_eq_true rfl) ⟨Nat.le_trans (Nat.le_of_ble_eq_true rfl) hR1, Nat.le_trans (Nat.le_of_ble_eq_true rfl) hR2, hR3, hR4⟩ dL_law_695 (fun v H1 hv hq1 => ?_)
  obtain ⟨rfl, g6⟩ := hv
  have g7 := blk_kept hb7 (n := 14) rfl (fun q h1 h2 => hq1 q (by unfold fp1; omega))
  dsimp only [psh]
  refine r_aload_n C dL_law_698 rfl ?_
  refine r_aload_n C dL_law_699 rfl ?_
  refine r_iload_n C dL_law_700 rfl ?_
  refine r_iconst C dL_law_701 (1 : Int32) (by decide) ?_
  refine r_iadd C dL_law_702 ?_
  refine r_sld C X hbA hL (j := i + 1) (nI_add i 1) (by omega) dL_law_703 ?_
  refine r_aload_n C dL_law_704 rfl ?_
  refine r_iload_n C dL_law_705 rfl ?_
  refine r_iconst C dL_law_706 (2 : Int32) (by decide) ?_
  refine r_iadd C dL_law_707 ?_
  refine r_sld C X hbA hL (j := i + 2) (nI_add i 2) (by omega) dL_law_708 ?_
  refine r_callV0 C cw_L_92 (fun l => c_X7_walled l D o7 M (xs (i + 1)) (xs (i + 2)) (S.ok7 hI).h10 (S.ok7 hI).b10 (S.ok7 hI).h11 (S.ok7 hI).b11 _ rfl) (rest := [.int (d_X6_walled R (xs (i + 1)) (xs (i + 2))).1]) g7 (k := 0) rfl rfl celO_7 g7 (fun q h => hA7 q h) rfl rfl rfl (Nat.le_of_ble_eq_true rfl) ⟨Nat.le_trans (Nat.le_of_ble_eq_true rfl) hR1, Nat.le_trans (Nat.le_of_ble_eq_true rfl) hR2, hR3, hR4⟩ dL_law_709 (fun v H2 hv hq2 => ?_)
  obtain ⟨rfl, k7⟩ := hv
  have k6 := blk_kept g6 (n := 215) rfl (fun q h1 h2 => hq2 q (by unfold fp1; omega))
  dsimp only [psh]
  have hs := S.p_walled (xs (i + 1)) (xs (i + 2)) hI
  refine r_ic_eq C dL_law_712 (fun _ => ?_) (fun h => absurd hs.1 h)
  exact kk H2 _ _ hs.2 k6 k7
set_option maxHeartbeats 4000000 in
set_option maxRecDepth 100000 in
theorem law_together (S : Sim Inv) (C : Cx x RL cL_law 4 D ret rm) (X : SC x b L xs) (hbA : ¬ A b) (hA6 : ∀ q, fp1 o6 215 q → A q) (hA7 : ∀ q, fp1 o7 14 q → A q) (hd : o6 + 215 ≤ o7) (hi : i + 4 ≤ L) (hL : L ≤ 256) (hR1 : 8 ≤ rm.frames) (hR2 : 300 ≤ rm.locals) (hR3 : cs ≤ rm.cells) (hR4 : sl ≤ rm.slots) (hI : Inv R M) (hb6 : blk D ksMain o6 R H) (hb7 : blk D ksModel o7 M H) (kk : ∀ (H1 : Heap) (R1 M1 : Nat → Nat → Int32), Inv R1 M1 → blk D ksMain o6 R1 H1 → blk D ksModel o7 M1 H1 → WG x A Q H1 cs sl 974 (LSl b o6 o7 i) []) : WG x A Q H cs sl 717 (LSl b o6 o7 i) [] := by
  refine r_aload_n C dL_law_717 rfl ?_
  refine r_aload_n C dL_law_718 rfl ?_
  refine r_iload_n C dL_law_719 rfl ?_
  refine r_iconst C dL_law_720 (1 : Int32) (by decide) ?_
  refine r_iadd C dL_law_721 ?_
  refine r_sld C X hbA hL (j := i + 1) (nI_add i 1) (by omega) dL_law_722 ?_
  refine r_aload_n C dL_law_723 rfl ?_
  refine r_iload_n C dL_law_724 rfl ?_
  refine r_iconst C dL_law_725 (2 : Int32) (by decide) ?_
  refine r_iadd C dL_law_726 ?_
  refine r_sld C X hbA hL (j := i + 2) (nI_add i 2) (by omega) dL_law_727 ?_
  refine r_callV0 C cw_L_93 (fun l => c_X6_together l D o6 R (xs (i + 1)) (xs (i + 2))  _ rfl) (rest := []) hb6 (k := 0) rfl rfl celO_6 hb6 (fun q h => h.elim) rfl rfl rfl (Nat.le_of_ble_eq_true rfl) ⟨Nat.le_trans (Nat.le_of_ble_eq_true rfl) hR1, Nat.le_trans (Nat.le_of_ble_eq_true rfl) hR2, hR3, hR4⟩ dL_law_728 (fun v H1 hv hq1 => ?_)
  subst hv
  have g6 := blk_kept hb6 (n := 215) rfl (fun q h1 h2 => hq1 q (fun h => h))
  have g7 := blk_kept hb7 (n := 14) rfl (fun q h1 h2 => hq1 q (fun h => h))
  dsimp only [psh]
  refine r_aload_n C dL_law_731 rfl ?_
  refine r_aload_n C dL_law_732 rfl ?_
  refine r_iload_n C dL_law_733 rfl ?_
  refine r_iconst C dL_law_734 (1 : Int32) (by decide) ?_
  refine r_iadd C dL_law_735 ?_
  refine r_sld C X hbA hL (j := i + 1) (nI_add i 1) (by omega) dL_law_736 ?_
  refine r_aload_n C dL_law_737 rfl ?_
  refine r_iload_n C dL_law_738 rfl ?_
  refine r_iconst C dL_law_739 (2 : Int32) (by decide) ?_
  refine r_iadd C dL_law_740 ?_
  refine r_sld C X hbA hL (j := i + 2) (nI_add i 2) (by omega) dL_law_741 ?_
  refine r_callV0 C cw_L_96 (fun l => c_X7_together l D o7 M (xs (i + 1)) (xs (i + 2)) (S.ok7 hI).h10 (S.ok7 hI).b10 (S.ok7 hI).h11 (S.ok7 hI).b11 (S.ok7 hI).hsi _ rfl) (rest := [.int (d_X6_together R (xs (i + 1)) (xs (i + 2)))]) g7 (k := 0) rfl rfl celO_7 g7 (fun q h => h.elim) rfl rfl rfl (Nat.le_of_ble_eq_true rfl) ⟨Nat.le_trans (Nat.le_of_ble_eq_true rfl) hR1, Nat.le_trans (Nat.le_of_ble_eq_true rfl) hR2, hR3, hR4⟩ dL_law_742 (fun v H2 hv hq2 => ?_)
  subst hv
  have k6 := blk_kept g6 (n := 215) rfl (fun q h1 h2 => hq2 q (fun h => h))
  have k7 := blk_kept g7 (n := 14) rfl (fun q h1 h2 => hq2 q (fun h => h))
  dsimp only [psh]
  refine r_ic_eq C dL_law_745 (fun _ => ?_) (fun h => absurd (S.p_together (xs (i + 1)) (xs (i + 2)) hI) h)
  exact kk H2 _ _ hI k6 k7
set_option maxHeartbeats 4000000 in
set_option maxRecDepth 100000 in
theorem law_found (S : Sim Inv) (C : Cx x RL cL_law 4 D ret rm) (X : SC x b L xs) (hbA : ¬ A b) (hA6 : ∀ q, fp1 o6 215 q → A q) (hA7 : ∀ q, fp1 o7 14 q → A q) (hd : o6 + 215 ≤ o7) (hi : i + 4 ≤ L) (hL : L ≤ 256) (hR1 : 8 ≤ rm.frames) (hR2 : 300 ≤ rm.locals) (hR3 : cs ≤ rm.cells) (hR4 : sl ≤ rm.slots) (hI : Inv R M) (hb6 : blk D ksMain o6 R H) (hb7 : blk D ksModel o7 M H) (kk : ∀ (H1 : Heap) (R1 M1 : Nat → Nat → Int32), Inv R1 M1 → blk D ksMain o6 R1 H1 → blk D ksModel o7 M1 H1 → WG x A Q H1 cs sl 974 (LSl b o6 o7 i) []) : WG x A Q H cs sl 750 (LSl b o6 o7 i) [] := by
  refine r_aload_n C dL_law_750 rfl ?_
  refine r_aload_n C dL_law_751 rfl ?_
  refine r_iload_n C dL_law_752 rfl ?_
  refine r_iconst C dL_law_753 (1 : Int32) (by decide) ?_
  refine r_iadd C dL_law_754 ?_
  refine r_sld C X hbA hL (j := i + 1) (nI_add i 1) (by omega) dL_law_755 ?_
  refine r_aload_n C dL_law_756 rfl ?_
  refine r_iload_n C dL_law_757 rfl ?_
  refine r_iconst C dL_law_758 (2 : Int32) (by decide) ?_
  refine r_iadd C dL_law_759 ?_
  refine r_sld C X hbA hL (j := i + 2) (nI_add i 2) (by omega) dL_law_760 ?_
  refine r_aload_n C dL_law_761 rfl ?_
  refine r_iload_n C dL_law_762 rfl ?_
  refine r_iconst C dL_law_763 (3 : Int32) (by decide) ?_
  refine r_iadd C dL_law_764 ?_
  refine r_sld C X hbA hL (j := i + 3) (nI_add i 3) (by omega) dL_law_765 ?_
  refine r_callV0 C cw_L_97 (fun l => c_X6_found l D o6 R (xs (i + 1)) (xs (i + 2)) (xs (i + 3))  _ rfl) (rest := []) hb6 (k := 0) rfl rfl celO_6 hb6 (fun q h => hA6 q h) rfl rfl rfl (Nat.le_of_ble_eq_true rfl) ⟨Nat.le_trans (Nat.le_of_ble_eq_true rfl) hR1, Nat.le_trans (Nat.le_of_ble_eq_true rfl) hR2, hR3, hR4⟩ dL_law_766 (fun v H1 hv hq1 => ?_)
  obtain ⟨rfl, g6⟩ := hv
  have g7 := blk_kept hb7 (n := 14) rfl (fun q h1 h2 => hq1 q (by unfold fp1; omega))
  dsimp only [psh]
  refine r_aload_n C dL_law_769 rfl ?_
  refine r_aload_n C dL_law_770 rfl ?_
  refine r_iload_n C dL_law_771 rfl ?_
  refine r_iconst C dL_law_772 (1 : Int32) (by decide) ?_
  refine r_iadd C dL_law_773 ?_
  refine r_sld C X hbA hL (j := i + 1) (nI_add i 1) (by omega) dL_law_774 ?_
  refine r_aload_n C dL_law_775 rfl ?_
  refine r_iload_n C dL_law_776 rfl ?_
  refine r_iconst C dL_law_777 (2 : Int32) (by decide) ?_
  refine r_iadd C dL_law_778 ?_
  refine r_sld C X hbA hL (j := i + 2) (nI_add i 2) (by omega) dL_law_779 ?_
  refine r_aload_n C dL_law_780 rfl ?_
  refine r_iload_n C dL_law_781 rfl ?_
  refine r_iconst C dL_law_782 (3 : Int32) (by decide) ?_
  refine r_iadd C dL_law_783 ?_
  refine r_sld C X hbA hL (j := i + 3) (nI_add i 3) (by omega) dL_law_784 ?_
  refine r_callV0 C cw_L_100 (fun l => c_X7_found l D o7 M (xs (i + 1)) (xs (i + 2)) (xs (i + 3)) (S.ok7 hI).h10 (S.ok7 hI).b10 (S.ok7 hI).h21 (S.ok7 hI).b21 _ rfl) (rest := [.int (d_X6_found R (xs (i + 1)) (xs (i + 2)) (xs (i + 3))).1]) g7 (k := 0) rfl rfl celO_7 g7 (fun q h => hA7 q h) rfl rfl rfl (Nat.le_of_ble_eq_true rfl) ⟨Nat.le_trans (Nat.le_of_ble_eq_true rfl) hR1, Nat.le_trans (Nat.le_of_ble_eq_true rfl) hR2, hR3, hR4⟩ dL_law_785 (fun v H2 hv hq2 => ?_)
  obtain ⟨rfl, k7⟩ := hv
  have k6 := blk_kept g6 (n := 215) rfl (fun q h1 h2 => hq2 q (by unfold fp1; omega))
  dsimp only [psh]
  have hs := S.p_found (xs (i + 1)) (xs (i + 2)) (xs (i + 3)) hI
  refine r_ic_eq C dL_law_788 (fun _ => ?_) (fun h => absurd hs.1 h)
  exact kk H2 _ _ hs.2 k6 k7
set_option maxHeartbeats 4000000 in
set_option maxRecDepth 100000 in
theorem law_forget (S : Sim Inv) (C : Cx x RL cL_law 4 D ret rm) (X : SC x b L xs) (hbA : ¬ A b) (hA6 : ∀ q, fp1 o6 215 q → A q) (hA7 : ∀ q, fp1 o7 14 q → A q) (hd : o6 + 215 ≤ o7) (hi : i + 4 ≤ L) (hL : L ≤ 256) (hR1 : 8 ≤ rm.frames) (hR2 : 300 ≤ rm.locals) (hR3 : cs ≤ rm.cells) (hR4 : sl ≤ rm.slots) (hI : Inv R M) (hb6 : blk D ksMain o6 R H) (hb7 : blk D ksModel o7 M H) (kk : ∀ (H1 : Heap) (R1 M1 : Nat → Nat → Int32), Inv R1 M1 → blk D ksMain o6 R1 H1 → blk D ksModel o7 M1 H1 → WG x A Q H1 cs sl 974 (LSl b o6 o7 i) []) : WG x A Q H cs sl 793 (LSl b o6 o7 i) [] := by
  refine r_aload_n C dL_law_793 rfl ?_
  refine r_callV0 C cw_L_101 (fun l => c_X6_forget l D o6 R  _ rfl) (rest := []) hb6 (k := 0) rfl rfl celO_6 hb6 (fun q h => hA6 q h) rfl rfl rfl (Nat.le_of_ble_eq_true rfl) ⟨Nat.le_trans (Nat.le_of_ble_eq_true rfl) hR1, Nat.le_trans (Nat.le_of_ble_eq_true rfl) hR2, hR3, hR4⟩ dL_law_794 (fun v H1 hv hq1 => ?_)
  obtain ⟨rfl, g6⟩ := hv
  have g7 := blk_kept hb7 (n := 14) rfl (fun q h1 h2 => hq1 q (by unfold fp1; omega))
  dsimp only [psh]
  refine r_aload_n C dL_law_797 rfl ?_
  refine r_callV0 C cw_L_104 (fun l => c_X7_forget l D o7 M  _ rfl) (rest := [.int (d_X6_forget R).1]) g7 (k := 0) rfl rfl celO_7 g7 (fun q h => hA7 q h) rfl rfl rfl (Nat.le_of_ble_eq_true rfl) ⟨Nat.le_trans (Nat.le_of_ble_eq_true rfl) hR1, Nat.le_trans (Nat.le_of_ble_eq_true rfl) hR2, hR3, hR4⟩ dL_law_798 (fun v H2 hv hq2 => ?_)
  obtain ⟨rfl, k7⟩ := hv
  have k6 := blk_kept g6 (n := 215) rfl (fun q h1 h2 => hq2 q (by unfold fp1; omega))
  dsimp only [psh]
  have hs := S.p_forget hI
  refine r_ic_eq C dL_law_801 (fun _ => ?_) (fun h => absurd hs.1 h)
  exact kk H2 _ _ hs.2 k6 k7
set_option maxHeartbeats 4000000 in
set_option maxRecDepth 100000 in
theorem law_hoard (S : Sim Inv) (C : Cx x RL cL_law 4 D ret rm) (X : SC x b L xs) (hbA : ¬ A b) (hA6 : ∀ q, fp1 o6 215 q → A q) (hA7 : ∀ q, fp1 o7 14 q → A q) (hd : o6 + 215 ≤ o7) (hi : i + 4 ≤ L) (hL : L ≤ 256) (hR1 : 8 ≤ rm.frames) (hR2 : 300 ≤ rm.locals) (hR3 : cs ≤ rm.cells) (hR4 : sl ≤ rm.slots) (hI : Inv R M) (hb6 : blk D ksMain o6 R H) (hb7 : blk D ksModel o7 M H) (kk : ∀ (H1 : Heap) (R1 M1 : Nat → Nat → Int32), Inv R1 M1 → blk D ksMain o6 R1 H1 → blk D ksModel o7 M1 H1 → WG x A Q H1 cs sl 974 (LSl b o6 o7 i) []) : WG x A Q H cs sl 806 (LSl b o6 o7 i) [] := by
  refine r_aload_n C dL_law_806 rfl ?_
  refine r_aload_n C dL_law_807 rfl ?_
  refine r_iload_n C dL_law_808 rfl ?_
  refine r_iconst C dL_law_809 (1 : Int32) (by decide) ?_
  refine r_iadd C dL_law_810 ?_
  refine r_sld C X hbA hL (j := i + 1) (nI_add i 1) (by omega) dL_law_811 ?_
  refine r_aload_n C dL_law_812 rfl ?_
  refine r_iload_n C dL_law_813 rfl ?_
  refine r_iconst C dL_law_814 (2 : Int32) (by decide) ?_
  refine r_iadd C dL_law_815 ?_
  refine r_sld C X hbA hL (j := i + 2) (nI_add i 2) (by omega) dL_law_816 ?_
  refine r_callV0 C cw_L_105 (fun l => c_X6_hoard l D o6 R (xs (i + 1)) (xs (i + 2)) (S.ok6 hI).hfs _ rfl) (rest := []) hb6 (k := 0) rfl rfl celO_6 hb6 (fun q h => hA6 q h) rfl rfl rfl (Nat.le_of_ble_eq_true rfl) ⟨Nat.le_trans (Nat.le_of_ble_eq_true rfl) hR1, Nat.le_trans (Nat.le_of_ble_eq_true rfl) hR2, hR3, hR4⟩ dL_law_817 (fun v H1 hv hq1 => ?_)
  obtain ⟨rfl, g6⟩ := hv
  have g7 := blk_kept hb7 (n := 14) rfl (fun q h1 h2 => hq1 q (by unfold fp1; omega))
  dsimp only [psh]
  refine r_aload_n C dL_law_820 rfl ?_
  refine r_aload_n C dL_law_821 rfl ?_
  refine r_iload_n C dL_law_822 rfl ?_
  refine r_iconst C dL_law_823 (1 : Int32) (by decide) ?_
  refine r_iadd C dL_law_824 ?_
  refine r_sld C X hbA hL (j := i + 1) (nI_add i 1) (by omega) dL_law_825 ?_
  refine r_aload_n C dL_law_826 rfl ?_
  refine r_iload_n C dL_law_827 rfl ?_
  refine r_iconst C dL_law_828 (2 : Int32) (by decide) ?_
  refine r_iadd C dL_law_829 ?_
  refine r_sld C X hbA hL (j := i + 2) (nI_add i 2) (by omega) dL_law_830 ?_
  refine r_callV0 C cw_L_108 (fun l => c_X7_hoard l D o7 M (xs (i + 1)) (xs (i + 2)) (S.ok7 hI).h10 (S.ok7 hI).b10 (S.ok7 hI).h11 (S.ok7 hI).b11 (S.ok7 hI).h21 (S.ok7 hI).b21 (S.ok7 hI).hfi _ rfl) (rest := [.int (d_X6_hoard R (xs (i + 1)) (xs (i + 2))).1]) g7 (k := 0) rfl rfl celO_7 g7 (fun q h => hA7 q h) rfl rfl rfl (Nat.le_of_ble_eq_true rfl) ⟨Nat.le_trans (Nat.le_of_ble_eq_true rfl) hR1, Nat.le_trans (Nat.le_of_ble_eq_true rfl) hR2, hR3, hR4⟩ dL_law_831 (fun v H2 hv hq2 => ?_)
  obtain ⟨rfl, k7⟩ := hv
  have k6 := blk_kept g6 (n := 215) rfl (fun q h1 h2 => hq2 q (by unfold fp1; omega))
  dsimp only [psh]
  have hs := S.p_hoard (xs (i + 1)) (xs (i + 2)) hI
  refine r_ic_eq C dL_law_834 (fun _ => ?_) (fun h => absurd hs.1 h)
  exact kk H2 _ _ hs.2 k6 k7
set_option maxHeartbeats 4000000 in
set_option maxRecDepth 100000 in
theorem law_whose (S : Sim Inv) (C : Cx x RL cL_law 4 D ret rm) (X : SC x b L xs) (hbA : ¬ A b) (hA6 : ∀ q, fp1 o6 215 q → A q) (hA7 : ∀ q, fp1 o7 14 q → A q) (hd : o6 + 215 ≤ o7) (hi : i + 4 ≤ L) (hL : L ≤ 256) (hR1 : 8 ≤ rm.frames) (hR2 : 300 ≤ rm.locals) (hR3 : cs ≤ rm.cells) (hR4 : sl ≤ rm.slots) (hI : Inv R M) (hb6 : blk D ksMain o6 R H) (hb7 : blk D ksModel o7 M H) (kk : ∀ (H1 : Heap) (R1 M1 : Nat → Nat → Int32), Inv R1 M1 → blk D ksMain o6 R1 H1 → blk D ksModel o7 M1 H1 → WG x A Q H1 cs sl 974 (LSl b o6 o7 i) []) : WG x A Q H cs sl 839 (LSl b o6 o7 i) [] := by
  refine r_aload_n C dL_law_839 rfl ?_
  refine r_aload_n C dL_law_840 rfl ?_
  refine r_iload_n C dL_law_841 rfl ?_
  refine r_iconst C dL_law_842 (1 : Int32) (by decide) ?_
  refine r_iadd C dL_law_843 ?_
  refine r_sld C X hbA hL (j := i + 1) (nI_add i 1) (by omega) dL_law_844 ?_
  refine r_aload_n C dL_law_845 rfl ?_
  refine r_iload_n C dL_law_846 rfl ?_
  refine r_iconst C dL_law_847 (2 : Int32) (by decide) ?_
  refine r_iadd C dL_law_848 ?_
  refine r_sld C X hbA hL (j := i + 2) (nI_add i 2) (by omega) dL_law_849 ?_
  refine r_aload_n C dL_law_850 rfl ?_
  refine r_iload_n C dL_law_851 rfl ?_
  refine r_iconst C dL_law_852 (3 : Int32) (by decide) ?_
  refine r_iadd C dL_law_853 ?_
  refine r_sld C X hbA hL (j := i + 3) (nI_add i 3) (by omega) dL_law_854 ?_
  refine r_callV0 C cw_L_109 (fun l => c_X6_whose l D o6 R (xs (i + 1)) (xs (i + 2)) (xs (i + 3))  _ rfl) (rest := []) hb6 (k := 0) rfl rfl celO_6 hb6 (fun q h => hA6 q h) rfl rfl rfl (Nat.le_of_ble_eq_true rfl) ⟨Nat.le_trans (Nat.le_of_ble_eq_true rfl) hR1, Nat.le_trans (Nat.le_of_ble_eq_true rfl) hR2, hR3, hR4⟩ dL_law_855 (fun v H1 hv hq1 => ?_)
  obtain ⟨rfl, g6⟩ := hv
  have g7 := blk_kept hb7 (n := 14) rfl (fun q h1 h2 => hq1 q (by unfold fp1; omega))
  dsimp only [psh]
  refine r_aload_n C dL_law_858 rfl ?_
  refine r_aload_n C dL_law_859 rfl ?_
  refine r_iload_n C dL_law_860 rfl ?_
  refine r_iconst C dL_law_861 (1 : Int32) (by decide) ?_
  refine r_iadd C dL_law_862 ?_
  refine r_sld C X hbA hL (j := i + 1) (nI_add i 1) (by omega) dL_law_863 ?_
  refine r_aload_n C dL_law_864 rfl ?_
  refine r_iload_n C dL_law_865 rfl ?_
  refine r_iconst C dL_law_866 (2 : Int32) (by decide) ?_
  refine r_iadd C dL_law_867 ?_
  refine r_sld C X hbA hL (j := i + 2) (nI_add i 2) (by omega) dL_law_868 ?_
  refine r_aload_n C dL_law_869 rfl ?_
  refine r_iload_n C dL_law_870 rfl ?_
  refine r_iconst C dL_law_871 (3 : Int32) (by decide) ?_
  refine r_iadd C dL_law_872 ?_
  refine r_sld C X hbA hL (j := i + 3) (nI_add i 3) (by omega) dL_law_873 ?_
  refine r_callV0 C cw_L_112 (fun l => c_X7_whose l D o7 M (xs (i + 1)) (xs (i + 2)) (xs (i + 3)) (S.ok7 hI).h10 (S.ok7 hI).b10 (S.ok7 hI).h11 (S.ok7 hI).b11 _ rfl) (rest := [.int (d_X6_whose R (xs (i + 1)) (xs (i + 2)) (xs (i + 3))).1]) g7 (k := 0) rfl rfl celO_7 g7 (fun q h => hA7 q h) rfl rfl rfl (Nat.le_of_ble_eq_true rfl) ⟨Nat.le_trans (Nat.le_of_ble_eq_true rfl) hR1, Nat.le_trans (Nat.le_of_ble_eq_true rfl) hR2, hR3, hR4⟩ dL_law_874 (fun v H2 hv hq2 => ?_)
  obtain ⟨rfl, k7⟩ := hv
  have k6 := blk_kept g6 (n := 215) rfl (fun q h1 h2 => hq2 q (by unfold fp1; omega))
  dsimp only [psh]
  have hs := S.p_whose (xs (i + 1)) (xs (i + 2)) (xs (i + 3)) hI
  refine r_ic_eq C dL_law_877 (fun _ => ?_) (fun h => absurd hs.1 h)
  exact kk H2 _ _ hs.2 k6 k7
set_option maxHeartbeats 4000000 in
set_option maxRecDepth 100000 in
theorem law_springs (S : Sim Inv) (C : Cx x RL cL_law 4 D ret rm) (X : SC x b L xs) (hbA : ¬ A b) (hA6 : ∀ q, fp1 o6 215 q → A q) (hA7 : ∀ q, fp1 o7 14 q → A q) (hd : o6 + 215 ≤ o7) (hi : i + 4 ≤ L) (hL : L ≤ 256) (hR1 : 8 ≤ rm.frames) (hR2 : 300 ≤ rm.locals) (hR3 : cs ≤ rm.cells) (hR4 : sl ≤ rm.slots) (hI : Inv R M) (hb6 : blk D ksMain o6 R H) (hb7 : blk D ksModel o7 M H) (kk : ∀ (H1 : Heap) (R1 M1 : Nat → Nat → Int32), Inv R1 M1 → blk D ksMain o6 R1 H1 → blk D ksModel o7 M1 H1 → WG x A Q H1 cs sl 974 (LSl b o6 o7 i) []) : WG x A Q H cs sl 882 (LSl b o6 o7 i) [] := by
  refine r_aload_n C dL_law_882 rfl ?_
  refine r_aload_n C dL_law_883 rfl ?_
  refine r_iload_n C dL_law_884 rfl ?_
  refine r_iconst C dL_law_885 (1 : Int32) (by decide) ?_
  refine r_iadd C dL_law_886 ?_
  refine r_sld C X hbA hL (j := i + 1) (nI_add i 1) (by omega) dL_law_887 ?_
  refine r_aload_n C dL_law_888 rfl ?_
  refine r_iload_n C dL_law_889 rfl ?_
  refine r_iconst C dL_law_890 (2 : Int32) (by decide) ?_
  refine r_iadd C dL_law_891 ?_
  refine r_sld C X hbA hL (j := i + 2) (nI_add i 2) (by omega) dL_law_892 ?_
  refine r_aload_n C dL_law_893 rfl ?_
  refine r_iload_n C dL_law_894 rfl ?_
  refine r_iconst C dL_law_895 (3 : Int32) (by decide) ?_
  refine r_iadd C dL_law_896 ?_
  refine r_sld C X hbA hL (j := i + 3) (nI_add i 3) (by omega) dL_law_897 ?_
  refine r_callV0 C cw_L_113 (fun l => c_X6_springs l D o6 R (xs (i + 1)) (xs (i + 2)) (xs (i + 3))  _ rfl) (rest := []) hb6 (k := 0) rfl rfl celO_6 hb6 (fun q h => hA6 q h) rfl rfl rfl (Nat.le_of_ble_eq_true rfl) ⟨Nat.le_trans (Nat.le_of_ble_eq_true rfl) hR1, Nat.le_trans (Nat.le_of_ble_eq_true rfl) hR2, hR3, hR4⟩ dL_law_898 (fun v H1 hv hq1 => ?_)
  obtain ⟨rfl, g6⟩ := hv
  have g7 := blk_kept hb7 (n := 14) rfl (fun q h1 h2 => hq1 q (by unfold fp1; omega))
  dsimp only [psh]
  refine r_aload_n C dL_law_901 rfl ?_
  refine r_aload_n C dL_law_902 rfl ?_
  refine r_iload_n C dL_law_903 rfl ?_
  refine r_iconst C dL_law_904 (1 : Int32) (by decide) ?_
  refine r_iadd C dL_law_905 ?_
  refine r_sld C X hbA hL (j := i + 1) (nI_add i 1) (by omega) dL_law_906 ?_
  refine r_aload_n C dL_law_907 rfl ?_
  refine r_iload_n C dL_law_908 rfl ?_
  refine r_iconst C dL_law_909 (2 : Int32) (by decide) ?_
  refine r_iadd C dL_law_910 ?_
  refine r_sld C X hbA hL (j := i + 2) (nI_add i 2) (by omega) dL_law_911 ?_
  refine r_aload_n C dL_law_912 rfl ?_
  refine r_iload_n C dL_law_913 rfl ?_
  refine r_iconst C dL_law_914 (3 : Int32) (by decide) ?_
  refine r_iadd C dL_law_915 ?_
  refine r_sld C X hbA hL (j := i + 3) (nI_add i 3) (by omega) dL_law_916 ?_
  refine r_callV0 C cw_L_116 (fun l => c_X7_springs l D o7 M (xs (i + 1)) (xs (i + 2)) (xs (i + 3)) (S.ok7 hI).h10 (S.ok7 hI).b10 (S.ok7 hI).h11 (S.ok7 hI).b11 _ rfl) (rest := [.int (d_X6_springs R (xs (i + 1)) (xs (i + 2)) (xs (i + 3))).1]) g7 (k := 0) rfl rfl celO_7 g7 (fun q h => hA7 q h) rfl rfl rfl (Nat.le_of_ble_eq_true rfl) ⟨Nat.le_trans (Nat.le_of_ble_eq_true rfl) hR1, Nat.le_trans (Nat.le_of_ble_eq_true rfl) hR2, hR3, hR4⟩ dL_law_917 (fun v H2 hv hq2 => ?_)
  obtain ⟨rfl, k7⟩ := hv
  have k6 := blk_kept g6 (n := 215) rfl (fun q h1 h2 => hq2 q (by unfold fp1; omega))
  dsimp only [psh]
  have hs := S.p_springs (xs (i + 1)) (xs (i + 2)) (xs (i + 3)) hI
  refine r_ic_eq C dL_law_920 (fun _ => ?_) (fun h => absurd hs.1 h)
  exact kk H2 _ _ hs.2 k6 k7
set_option maxHeartbeats 4000000 in
set_option maxRecDepth 100000 in
theorem law_keep (S : Sim Inv) (C : Cx x RL cL_law 4 D ret rm) (X : SC x b L xs) (hbA : ¬ A b) (hA6 : ∀ q, fp1 o6 215 q → A q) (hA7 : ∀ q, fp1 o7 14 q → A q) (hd : o6 + 215 ≤ o7) (hi : i + 4 ≤ L) (hL : L ≤ 256) (hR1 : 8 ≤ rm.frames) (hR2 : 300 ≤ rm.locals) (hR3 : cs ≤ rm.cells) (hR4 : sl ≤ rm.slots) (hI : Inv R M) (hb6 : blk D ksMain o6 R H) (hb7 : blk D ksModel o7 M H) (kk : ∀ (H1 : Heap) (R1 M1 : Nat → Nat → Int32), Inv R1 M1 → blk D ksMain o6 R1 H1 → blk D ksModel o7 M1 H1 → WG x A Q H1 cs sl 974 (LSl b o6 o7 i) []) : WG x A Q H cs sl 925 (LSl b o6 o7 i) [] := by
  refine r_aload_n C dL_law_925 rfl ?_
  refine r_callV0 C cw_L_117 (fun l => c_X6_keep l D o6 R (S.ok6 hI).hw2 _ rfl) (rest := []) hb6 (k := 0) rfl rfl celO_6 hb6 (fun q h => hA6 q h) rfl rfl rfl (Nat.le_of_ble_eq_true rfl) ⟨Nat.le_trans (Nat.le_of_ble_eq_true rfl) hR1, Nat.le_trans (Nat.le_of_ble_eq_true rfl) hR2, hR3, hR4⟩ dL_law_926 (fun v H1 hv hq1 => ?_)
  obtain ⟨rfl, g6⟩ := hv
  have g7 := blk_kept hb7 (n := 14) rfl (fun q h1 h2 => hq1 q (by unfold fp1; omega))
  dsimp only [psh]
  refine r_aload_n C dL_law_929 rfl ?_
  refine r_callV0 C cw_L_120 (fun l => c_X7_keep l D o7 M (S.ok7 hI).h20 (S.ok7 hI).b20 _ rfl) (rest := [.int (d_X6_keep R).1]) g7 (k := 0) rfl rfl celO_7 g7 (fun q h => hA7 q h) rfl rfl rfl (Nat.le_of_ble_eq_true rfl) ⟨Nat.le_trans (Nat.le_of_ble_eq_true rfl) hR1, Nat.le_trans (Nat.le_of_ble_eq_true rfl) hR2, hR3, hR4⟩ dL_law_930 (fun v H2 hv hq2 => ?_)
  obtain ⟨rfl, k7⟩ := hv
  have k6 := blk_kept g6 (n := 215) rfl (fun q h1 h2 => hq2 q (by unfold fp1; omega))
  dsimp only [psh]
  have hs := S.p_keep hI
  refine r_ic_eq C dL_law_933 (fun _ => ?_) (fun h => absurd hs.1 h)
  exact kk H2 _ _ hs.2 k6 k7
set_option maxHeartbeats 4000000 in
set_option maxRecDepth 100000 in
theorem law_back (S : Sim Inv) (C : Cx x RL cL_law 4 D ret rm) (X : SC x b L xs) (hbA : ¬ A b) (hA6 : ∀ q, fp1 o6 215 q → A q) (hA7 : ∀ q, fp1 o7 14 q → A q) (hd : o6 + 215 ≤ o7) (hi : i + 4 ≤ L) (hL : L ≤ 256) (hR1 : 8 ≤ rm.frames) (hR2 : 300 ≤ rm.locals) (hR3 : cs ≤ rm.cells) (hR4 : sl ≤ rm.slots) (hI : Inv R M) (hb6 : blk D ksMain o6 R H) (hb7 : blk D ksModel o7 M H) (kk : ∀ (H1 : Heap) (R1 M1 : Nat → Nat → Int32), Inv R1 M1 → blk D ksMain o6 R1 H1 → blk D ksModel o7 M1 H1 → WG x A Q H1 cs sl 974 (LSl b o6 o7 i) []) : WG x A Q H cs sl 938 (LSl b o6 o7 i) [] := by
  refine r_aload_n C dL_law_938 rfl ?_
  refine r_callV0 C cw_L_121 (fun l => c_X6_back l D o6 R (S.ok6 hI).hw2 (S.ok6 hI).hkm (S.ok6 hI).hkm2 _ rfl) (rest := []) hb6 (k := 0) rfl rfl celO_6 hb6 (fun q h => hA6 q h) rfl rfl rfl (Nat.le_of_ble_eq_true rfl) ⟨Nat.le_trans (Nat.le_of_ble_eq_true rfl) hR1, Nat.le_trans (Nat.le_of_ble_eq_true rfl) hR2, hR3, hR4⟩ dL_law_939 (fun v H1 hv hq1 => ?_)
  obtain ⟨rfl, g6⟩ := hv
  have g7 := blk_kept hb7 (n := 14) rfl (fun q h1 h2 => hq1 q (by unfold fp1; omega))
  dsimp only [psh]
  refine r_aload_n C dL_law_942 rfl ?_
  refine r_callV0 C cw_L_124 (fun l => c_X7_back l D o7 M (S.ok7 hI).h20 (S.ok7 hI).b20 _ rfl) (rest := [.int (d_X6_back R).1]) g7 (k := 0) rfl rfl celO_7 g7 (fun q h => hA7 q h) rfl rfl rfl (Nat.le_of_ble_eq_true rfl) ⟨Nat.le_trans (Nat.le_of_ble_eq_true rfl) hR1, Nat.le_trans (Nat.le_of_ble_eq_true rfl) hR2, hR3, hR4⟩ dL_law_943 (fun v H2 hv hq2 => ?_)
  obtain ⟨rfl, k7⟩ := hv
  have k6 := blk_kept g6 (n := 215) rfl (fun q h1 h2 => hq2 q (by unfold fp1; omega))
  dsimp only [psh]
  have hs := S.p_back hI
  refine r_ic_eq C dL_law_946 (fun _ => ?_) (fun h => absurd hs.1 h)
  exact kk H2 _ _ hs.2 k6 k7
set_option maxHeartbeats 4000000 in
set_option maxRecDepth 100000 in
theorem law_count (S : Sim Inv) (C : Cx x RL cL_law 4 D ret rm) (X : SC x b L xs) (hbA : ¬ A b) (hA6 : ∀ q, fp1 o6 215 q → A q) (hA7 : ∀ q, fp1 o7 14 q → A q) (hd : o6 + 215 ≤ o7) (hi : i + 4 ≤ L) (hL : L ≤ 256) (hR1 : 8 ≤ rm.frames) (hR2 : 300 ≤ rm.locals) (hR3 : cs ≤ rm.cells) (hR4 : sl ≤ rm.slots) (hI : Inv R M) (hb6 : blk D ksMain o6 R H) (hb7 : blk D ksModel o7 M H) (kk : ∀ (H1 : Heap) (R1 M1 : Nat → Nat → Int32), Inv R1 M1 → blk D ksMain o6 R1 H1 → blk D ksModel o7 M1 H1 → WG x A Q H1 cs sl 974 (LSl b o6 o7 i) []) : WG x A Q H cs sl 951 (LSl b o6 o7 i) [] := by
  refine r_aload_n C dL_law_951 rfl ?_
  refine r_aload_n C dL_law_952 rfl ?_
  refine r_iload_n C dL_law_953 rfl ?_
  refine r_iconst C dL_law_954 (1 : Int32) (by decide) ?_
  refine r_iadd C dL_law_955 ?_
  refine r_sld C X hbA hL (j := i + 1) (nI_add i 1) (by omega) dL_law_956 ?_
  refine r_callV0 C cw_L_125 (fun l => c_X6_count l D o6 R (xs (i + 1))  _ rfl) (rest := []) hb6 (k := 0) rfl rfl celO_6 hb6 (fun q h => h.elim) rfl rfl rfl (Nat.le_of_ble_eq_true rfl) ⟨Nat.le_trans (Nat.le_of_ble_eq_true rfl) hR1, Nat.le_trans (Nat.le_of_ble_eq_true rfl) hR2, hR3, hR4⟩ dL_law_957 (fun v H1 hv hq1 => ?_)
  subst hv
  have g6 := blk_kept hb6 (n := 215) rfl (fun q h1 h2 => hq1 q (fun h => h))
  have g7 := blk_kept hb7 (n := 14) rfl (fun q h1 h2 => hq1 q (fun h => h))
  dsimp only [psh]
  refine r_aload_n C dL_law_960 rfl ?_
  refine r_aload_n C dL_law_961 rfl ?_
  refine r_iload_n C dL_law_962 rfl ?_
  refine r_iconst C dL_law_963 (1 : Int32) (by decide) ?_
  refine r_iadd C dL_law_964 ?_
  refine r_sld C X hbA hL (j := i + 1) (nI_add i 1) (by omega) dL_law_965 ?_
  refine r_callV0 C cw_L_128 (fun l => c_X7_count l D o7 M (xs (i + 1)) (S.ok7 hI).h10 (S.ok7 hI).b10 (S.ok7 hI).h11 (S.ok7 hI).b11 _ rfl) (rest := [.int (d_X6_count R (xs (i + 1)))]) g7 (k := 0) rfl rfl celO_7 g7 (fun q h => h.elim) rfl rfl rfl (Nat.le_of_ble_eq_true rfl) ⟨Nat.le_trans (Nat.le_of_ble_eq_true rfl) hR1, Nat.le_trans (Nat.le_of_ble_eq_true rfl) hR2, hR3, hR4⟩ dL_law_966 (fun v H2 hv hq2 => ?_)
  subst hv
  have k6 := blk_kept g6 (n := 215) rfl (fun q h1 h2 => hq2 q (fun h => h))
  have k7 := blk_kept g7 (n := 14) rfl (fun q h1 h2 => hq2 q (fun h => h))
  dsimp only [psh]
  refine r_ic_eq C dL_law_969 (fun _ => ?_) (fun h => absurd (S.p_count (xs (i + 1)) hI) h)
  exact kk H2 _ _ hI k6 k7
set_option maxHeartbeats 4000000 in
set_option maxRecDepth 100000 in
theorem law_loop (S : Sim Inv) (C : Cx x RL cL_law 4 D ret rm) (X : SC x b L xs) (hbA : ¬ A b) (hA6 : ∀ q, fp1 o6 215 q → A q) (hA7 : ∀ q, fp1 o7 14 q → A q) (hd : o6 + 215 ≤ o7) (hL : L ≤ 256) (hR1 : 8 ≤ rm.frames) (hR2 : 300 ≤ rm.locals) (hR3 : cs ≤ rm.cells) (hR4 : sl ≤ rm.slots) (kend : ∀ (H1 : Heap) (i : Nat), WG x A Q H1 cs sl 980 (LSl b o6 o7 i) []) : ∀ (n i : Nat) (H : Heap) (R M : Nat → Nat → Int32), i ≤ 300 → L < i + n → Inv R M → blk D ksMain o6 R H → blk D ksModel o7 M H → WG x A Q H cs sl 18 (LSl b o6 o7 i) [] := by
  intro n
  induction n with
  | zero =>
    intro i H R M hi hn hI hb6 hb7
    refine r_iload_n C dL_law_18 rfl ?_
    refine r_aload_n C dL_law_19 rfl ?_
    refine r_slen C X hbA dL_law_20 ?_
    refine r_iconst C dL_law_21 (4 : Int32) (by decide) ?_
    refine r_isub C dL_law_22 ?_
    exact r_ic_gt C dL_law_23 (fun _ => kend H i) (fun h => absurd (law_more hi hL h) (by omega))
  | succ n ih =>
    intro i H R M hi hn hI hb6 hb7
    refine r_iload_n C dL_law_18 rfl ?_
    refine r_aload_n C dL_law_19 rfl ?_
    refine r_slen C X hbA dL_law_20 ?_
    refine r_iconst C dL_law_21 (4 : Int32) (by decide) ?_
    refine r_isub C dL_law_22 ?_
    refine r_ic_gt C dL_law_23 (fun _ => kend H i) (fun h => ?_)
    have hi4 := law_more hi hL h
    have kk : ∀ (H1 : Heap) (R1 M1 : Nat → Nat → Int32), Inv R1 M1 → blk D ksMain o6 R1 H1 → blk D ksModel o7 M1 H1 → WG x A Q H1 cs sl 974 (LSl b o6 o7 i) [] := by
      intro H1 R1 M1 hI1 h6 h7
      refine r_iinc C dL_law_974 (nI (i + 4)) rfl (nI_add i 4) (ls' := LSl b o6 o7 (i + 4)) rfl ?_
      refine r_goto C dL_law_977 ?_
      exact ih (i + 4) H1 R1 M1 (by omega) (by omega) hI1 h6 h7
    refine r_aload_n C dL_law_26 rfl ?_
    refine r_iload_n C dL_law_27 rfl ?_
    refine r_sld C X hbA hL (j := i) rfl (by omega) dL_law_28 ?_
    refine r_bipush C dL_law_29 (31 : Int32) (by decide) ?_
    refine r_iand C dL_law_31 ?_
    obtain ⟨k, hk, hz⟩ := and31 (xs i)
    have hc : k = 0 ∨ k = 1 ∨ k = 2 ∨ k = 3 ∨ k = 4 ∨ k = 5 ∨ k = 6 ∨ k = 7 ∨ k = 8 ∨ k = 9 ∨ k = 10 ∨ k = 11 ∨ k = 12 ∨ k = 13 ∨ k = 14 ∨ k = 15 ∨ k = 16 ∨ k = 17 ∨ k = 18 ∨ k = 19 ∨ k = 20 ∨ k = 21 ∨ k = 22 ∨ k = 23 ∨ k = 24 ∨ k = 25 ∨ k = 26 ∨ k = 27 ∨ 28 ≤ k := by omega
    rcases hc with rfl | rfl | rfl | rfl | rfl | rfl | rfl | rfl | rfl | rfl | rfl | rfl | rfl | rfl | rfl | rfl | rfl | rfl | rfl | rfl | rfl | rfl | rfl | rfl | rfl | rfl | rfl | rfl | hc
    · exact r_tswI C dL_law_32 hz (by decide) (by decide) (off := 128) (by decide) (tgt := 160) rfl (law_write S C X hbA hA6 hA7 hd hi4 hL hR1 hR2 hR3 hR4 hI hb6 hb7 kk)
    · exact r_tswI C dL_law_32 hz (by decide) (by decide) (off := 151) (by decide) (tgt := 183) rfl (law_wipe S C X hbA hA6 hA7 hd hi4 hL hR1 hR2 hR3 hR4 hI hb6 hb7 kk)
    · exact r_tswI C dL_law_32 hz (by decide) (by decide) (off := 164) (by decide) (tgt := 196) rfl (law_fault S C X hbA hA6 hA7 hd hi4 hL hR1 hR2 hR3 hR4 hI hb6 hb7 kk)
    · exact r_tswI C dL_law_32 hz (by decide) (by decide) (off := 177) (by decide) (tgt := 209) rfl (law_lay S C X hbA hA6 hA7 hd hi4 hL hR1 hR2 hR3 hR4 hI hb6 hb7 kk)
    · exact r_tswI C dL_law_32 hz (by decide) (by decide) (off := 190) (by decide) (tgt := 222) rfl (law_town S C X hbA hA6 hA7 hd hi4 hL hR1 hR2 hR3 hR4 hI hb6 hb7 kk)
    · exact r_tswI C dL_law_32 hz (by decide) (by decide) (off := 223) (by decide) (tgt := 255) rfl (law_crew S C X hbA hA6 hA7 hd hi4 hL hR1 hR2 hR3 hR4 hI hb6 hb7 kk)
    · exact r_tswI C dL_law_32 hz (by decide) (by decide) (off := 256) (by decide) (tgt := 288) rfl (law_believes S C X hbA hA6 hA7 hd hi4 hL hR1 hR2 hR3 hR4 hI hb6 hb7 kk)
    · exact r_tswI C dL_law_32 hz (by decide) (by decide) (off := 289) (by decide) (tgt := 321) rfl (law_asks S C X hbA hA6 hA7 hd hi4 hL hR1 hR2 hR3 hR4 hI hb6 hb7 kk)
    · exact r_tswI C dL_law_32 hz (by decide) (by decide) (off := 322) (by decide) (tgt := 354) rfl (law_pass S C X hbA hA6 hA7 hd hi4 hL hR1 hR2 hR3 hR4 hI hb6 hb7 kk)
    · exact r_tswI C dL_law_32 hz (by decide) (by decide) (off := 345) (by decide) (tgt := 377) rfl (law_way S C X hbA hA6 hA7 hd hi4 hL hR1 hR2 hR3 hR4 hI hb6 hb7 kk)
    · exact r_tswI C dL_law_32 hz (by decide) (by decide) (off := 378) (by decide) (tgt := 410) rfl (law_hire S C X hbA hA6 hA7 hd hi4 hL hR1 hR2 hR3 hR4 hI hb6 hb7 kk)
    · exact r_tswI C dL_law_32 hz (by decide) (by decide) (off := 421) (by decide) (tgt := 453) rfl (law_land S C X hbA hA6 hA7 hd hi4 hL hR1 hR2 hR3 hR4 hI hb6 hb7 kk)
    · exact r_tswI C dL_law_32 hz (by decide) (by decide) (off := 454) (by decide) (tgt := 486) rfl (law_raise S C X hbA hA6 hA7 hd hi4 hL hR1 hR2 hR3 hR4 hI hb6 hb7 kk)
    · exact r_tswI C dL_law_32 hz (by decide) (by decide) (off := 487) (by decide) (tgt := 519) rfl (law_undo S C X hbA hA6 hA7 hd hi4 hL hR1 hR2 hR3 hR4 hI hb6 hb7 kk)
    · exact r_tswI C dL_law_32 hz (by decide) (by decide) (off := 500) (by decide) (tgt := 532) rfl (law_behind S C X hbA hA6 hA7 hd hi4 hL hR1 hR2 hR3 hR4 hI hb6 hb7 kk)
    · exact r_tswI C dL_law_32 hz (by decide) (by decide) (off := 543) (by decide) (tgt := 575) rfl (law_fire S C X hbA hA6 hA7 hd hi4 hL hR1 hR2 hR3 hR4 hI hb6 hb7 kk)
    · exact r_tswI C dL_law_32 hz (by decide) (by decide) (off := 566) (by decide) (tgt := 598) rfl (law_best S C X hbA hA6 hA7 hd hi4 hL hR1 hR2 hR3 hR4 hI hb6 hb7 kk)
    · exact r_tswI C dL_law_32 hz (by decide) (by decide) (off := 609) (by decide) (tgt := 641) rfl (law_rests S C X hbA hA6 hA7 hd hi4 hL hR1 hR2 hR3 hR4 hI hb6 hb7 kk)
    · exact r_tswI C dL_law_32 hz (by decide) (by decide) (off := 652) (by decide) (tgt := 684) rfl (law_walled S C X hbA hA6 hA7 hd hi4 hL hR1 hR2 hR3 hR4 hI hb6 hb7 kk)
    · exact r_tswI C dL_law_32 hz (by decide) (by decide) (off := 685) (by decide) (tgt := 717) rfl (law_together S C X hbA hA6 hA7 hd hi4 hL hR1 hR2 hR3 hR4 hI hb6 hb7 kk)
    · exact r_tswI C dL_law_32 hz (by decide) (by decide) (off := 718) (by decide) (tgt := 750) rfl (law_found S C X hbA hA6 hA7 hd hi4 hL hR1 hR2 hR3 hR4 hI hb6 hb7 kk)
    · exact r_tswI C dL_law_32 hz (by decide) (by decide) (off := 761) (by decide) (tgt := 793) rfl (law_forget S C X hbA hA6 hA7 hd hi4 hL hR1 hR2 hR3 hR4 hI hb6 hb7 kk)
    · exact r_tswI C dL_law_32 hz (by decide) (by decide) (off := 774) (by decide) (tgt := 806) rfl (law_hoard S C X hbA hA6 hA7 hd hi4 hL hR1 hR2 hR3 hR4 hI hb6 hb7 kk)
    · exact r_tswI C dL_law_32 hz (by decide) (by decide) (off := 807) (by decide) (tgt := 839) rfl (law_whose S C X hbA hA6 hA7 hd hi4 hL hR1 hR2 hR3 hR4 hI hb6 hb7 kk)
    · exact r_tswI C dL_law_32 hz (by decide) (by decide) (off := 850) (by decide) (tgt := 882) rfl (law_springs S C X hbA hA6 hA7 hd hi4 hL hR1 hR2 hR3 hR4 hI hb6 hb7 kk)
    · exact r_tswI C dL_law_32 hz (by decide) (by decide) (off := 893) (by decide) (tgt := 925) rfl (law_keep S C X hbA hA6 hA7 hd hi4 hL hR1 hR2 hR3 hR4 hI hb6 hb7 kk)
    · exact r_tswI C dL_law_32 hz (by decide) (by decide) (off := 906) (by decide) (tgt := 938) rfl (law_back S C X hbA hA6 hA7 hd hi4 hL hR1 hR2 hR3 hR4 hI hb6 hb7 kk)
    · exact r_tswI C dL_law_32 hz (by decide) (by decide) (off := 919) (by decide) (tgt := 951) rfl (law_count S C X hbA hA6 hA7 hd hi4 hL hR1 hR2 hR3 hR4 hI hb6 hb7 kk)
    · refine r_tswO C dL_law_32 (Or.inr ?_) (tgt := 974) rfl (kk H R M hI hb6 hb7)
      rw [hz, nI_toInt (by omega)]
      omega
end LW
