/-! the law's own numbers: the remainder that is never negative, the cells, the operator, the clamp -/
theorem md_b1 {y P : Nat} (h : P ≤ y) (hy : y ≤ 2 ^ 31) : (-(P : Int)).bmod (2 ^ 32) = -(P : Int) := Int.bmod_eq_of_le (by omega) (by omega)
theorem md_b2 {y P M : Nat} (e : P + M = y) (hy : y ≤ 2 ^ 31) : (-(y : Int) - -(P : Int)).bmod (2 ^ 32) = -(M : Int) := by
  rw [show -(y : Int) - -(P : Int) = -(M : Int) from by omega]
  exact Int.bmod_eq_of_le (by omega) (by omega)
theorem md_neg {x : Int32} {d y : Nat} (hx : x.toInt = -(y : Int)) (hy : y ≤ 2 ^ 31) (hd : d < 2 ^ 31) : (x - x / nI d * nI d).toInt = -((y % d : Nat) : Int) := by
  have e1 := Nat.div_add_mod' y d
  have e2 := Nat.div_le_self y d
  have e3 : y / d * d ≤ y := Nat.div_mul_le_self y d
  have ed : (nI d).toInt = (d : Int) := nI_toInt hd
  have q : (x / nI d).toInt = -((y / d : Nat) : Int) := by
    rw [Int32.toInt_div, hx, ed, Int.neg_tdiv, ← Int.ofNat_tdiv]
    exact md_b1 e2 hy
  have m : (x / nI d * nI d).toInt = -((y / d * d : Nat) : Int) := by
    rw [Int32.toInt_mul, q, ed, Int.neg_mul, ← Int.natCast_mul]
    exact md_b1 e3 hy
  rw [Int32.toInt_sub, hx, m]
  exact md_b2 e1 hy
theorem md_ok (x : Int32) {d : Nat} (h0 : 0 < d) (hd : d < 2 ^ 31) : (¬ 0 ≤ x - x / nI d * nI d ∧ ∃ j, j < d ∧ x - x / nI d * nI d + nI d = nI j) ∨ (0 ≤ x - x / nI d * nI d ∧ ∃ j, j < d ∧ x - x / nI d * nI d = nI j) := by
  have z0 : (0 : Int32).toInt = 0 := by decide
  by_cases h : x < 0
  · rw [Int32.lt_iff_toInt_lt, z0] at h
    obtain ⟨y, hy⟩ : ∃ y : Nat, x.toInt = -(y : Int) := ⟨x.toInt.natAbs, by omega⟩
    have lo := Int32.le_toInt x
    have r := md_neg hy (by omega) hd
    have ml := Nat.mod_lt y h0
    by_cases z : y % d = 0
    · rw [z] at r
      refine Or.inr ⟨?_, 0, h0, Int32.toInt_inj.mp ?_⟩
      · rw [Int32.le_iff_toInt_le, r, z0]; omega
      · rw [r, nI_toInt (by omega)]; omega
    · refine Or.inl ⟨?_, d - y % d, by omega, Int32.toInt_inj.mp ?_⟩
      · rw [Int32.le_iff_toInt_le, r, z0]; omega
      · rw [Int32.toInt_add, r, nI_toInt hd, nI_toInt (by omega), show -((y % d : Nat) : Int) + (d : Int) = ((d - y % d : Nat) : Int) from by omega]
        exact Int.bmod_eq_of_le (by omega) (by omega)
  · obtain ⟨j, hj, e⟩ := nI_of h
    subst e
    rw [pk_rem hj h0 hd]
    have ml := Nat.mod_lt j h0
    exact Or.inr ⟨nI_pos' (by omega), j % d, ml, rfl⟩
def md_f (p0 p1 : Int32) : Int32 := if 0 ≤ p0 - p0 / p1 * p1 then p0 - p0 / p1 * p1 else p0 - p0 / p1 * p1 + p1
theorem md_w {post : Int32 → Prop} {u : St0} {p0 p1 : Int32} (h0 : ¬ p1 = 0) (h : post (md_f p0 p1)) : wpL_mod post u p0 p1 := by
  refine ⟨h0, fun x e => ?_⟩
  subst e
  unfold md_f at h
  by_cases z : 0 ≤ p0 - p0 / p1 * p1
  · rw [if_pos z] at h; exact br_t z h
  · rw [if_neg z] at h; exact br_f z h
theorem md_j (x : Int32) {d : Nat} (h0 : 0 < d) (hd : d < 2 ^ 31) : ∃ j, j < d ∧ md_f x (nI d) = nI j := by
  unfold md_f
  rcases md_ok x h0 hd with ⟨z, j, hj, e⟩ | ⟨z, j, hj, e⟩
  · exact ⟨j, hj, by rw [if_neg z]; exact e⟩
  · exact ⟨j, hj, by rw [if_pos z]; exact e⟩
def ce_f (L : Nat) (xs : Nat → Int32) (p1 : Int32) : Int32 := if (Int32.ofNat L) ≤ p1 then 0 else xs p1.toNatClampNeg
theorem ce_d {post : Int32 → Prop} {L : Nat} {xs : Nat → Int32} {u : St0} {p1 : Int32} {j : Nat} (hj : p1 = nI j) (hjb : j < 2 ^ 31) (hL : L ≤ 260) (h : post (ce_f L xs p1)) : wpL_cell post L xs u p1 := by
  unfold ce_f at h
  by_cases z : (Int32.ofNat L) ≤ p1
  · rw [if_pos z] at h; exact br_t z h
  · rw [if_neg z] at h
    refine br_f z ⟨?_, h⟩
    subst hj
    have w : ¬ L ≤ j := fun w => z (nI_le w hjb)
    exact vp_in_nI (by omega) (by omega)
theorem tp_b {o : Nat} (ho : tp_O o) : 1 ≤ o ∧ o ≤ 20 ∧ ¬ (o = 3 ∨ o = 4) := by
  unfold tp_O at ho
  omega
theorem tp_z {zz : Nat} (hz : zz = 3 ∨ zz = 5) : ((zz = 3 ∨ zz = 4) ∧ (0 : Int32) = 0) ∨ (¬ (zz = 3 ∨ zz = 4) ∧ (0 : Int32) = 0) := by
  rcases hz with rfl | rfl
  · exact Or.inl ⟨Or.inl rfl, rfl⟩
  · exact Or.inr ⟨by decide, rfl⟩
theorem tp_11 {o : Nat} (ho : tp_O o) (e : nI o = 11) : o = 11 := by
  have := tp_b ho
  exact (nI_eq (b := 11) (by omega) (by omega)).mp e
theorem lo_w {post : Int32 → Prop} {u : St0} {p0 : Int32} (h : ∀ o, tp_O o → post (nI o)) : wpL_op post u p0 := by
  obtain ⟨c, hc, e⟩ := md_j p0 (d := 7) (by omega) (by omega)
  refine md_w (by decide) ?_
  rw [show md_f p0 7 = nI c from e]
  refine pk_le 4 c (fun z => pk_eq c 4 (fun _ => h 11 (Or.inl rfl)) (fun w => ?_)) (fun z => ?_)
  · have q := h (c + 14) (by unfold tp_O; omega)
    rw [← nI_add] at q
    exact q
  · have q := h (15 + c) (by unfold tp_O; omega)
    rw [← nI_add] at q
    exact q
/-- the fuel that a run takes -/
def fl_C (v : Int32) (F : Nat) : Prop := (1 ≤ v ∧ v ≤ 400 ∧ v = nI F) ∨ (1 ≤ v ∧ ¬ v ≤ 400 ∧ nI F = 400) ∨ (¬ 1 ≤ v ∧ nI F = 1)
theorem fl_w {post : Int32 → Prop} {u : St0} {v : Int32} (h : ∀ F, 1 ≤ F → F ≤ 400 → fl_C v F → post (nI F)) : wpL_clampFuel post u v := by
  by_cases a : 1 ≤ v
  · by_cases b : v ≤ 400
    · refine br_t a (br_t b ?_)
      have a' := a
      rw [Int32.le_iff_toInt_le, show (1 : Int32).toInt = 1 from by decide] at a'
      have b' := b
      rw [Int32.le_iff_toInt_le, show (400 : Int32).toInt = 400 from by decide] at b'
      have e : v = nI v.toInt.toNat := Int32.toInt_inj.mp (by rw [nI_toInt (by omega)]; omega)
      have q := h v.toInt.toNat (by omega) (by omega) (Or.inl ⟨a, b, e⟩)
      rw [← e] at q
      exact q
    · exact br_t a (br_f b (h 400 (by omega) (by omega) (Or.inr (Or.inl ⟨a, b, rfl⟩))))
  · exact br_f a (h 1 (by omega) (by omega) (Or.inr (Or.inr ⟨a, rfl⟩)))
theorem fl_n {F : Nat} (h1 : 1 ≤ F) (h4 : F ≤ 400) : fl_C (nI F) F := Or.inl ⟨nI_le (a := 1) h1 (by omega), nI_le (b := 400) h4 (by omega), rfl⟩
/-- a new object -/
def cl_f (p0 : Int32) : Int32 := if 1 ≤ p0 then (if p0 ≤ 32 then p0 else 32) else 1
def nw_S (dl : Int32) : SX := (dl, nI 0, 0, 128, 0, 0, 0, 0, -1, 0, -1, 1, 0, -1, 0, 0, -1, -1, tq_k [], tq_v [], fun _ => 0, fun _ => 0, fun _ => 0, fun _ => 0, fun _ => 0, fun _ => 0, fun _ => 0, fun _ => 0, fun _ => 0, fun _ => 0, fun _ => 0, fun _ => 0, fun _ => 0, fun _ => 0)
theorem in_w {post : SX → Prop} {u : St1} {p0 : Int32} (h : post (nw_S (cl_f p0))) : wpX_init post 16 4776 u p0 := by
  obtain ⟨a1, a2, a3, a4, a5, a6, a7, a8, a9, a10, a11, a12, a13, a14, a15, a16, a17, a18⟩ := u
  refine ⟨by decide, by decide, by decide, by decide, by decide, by decide, by decide, by decide, by decide, by decide, by decide, by decide, by decide, by decide, by decide, by decide, by decide, by decide, by decide, by decide, by decide, by decide, by decide, by decide, by decide, by decide, by decide, by decide, by decide, by decide, by decide, by decide, ?_⟩
  unfold cl_f at h
  by_cases a : 1 ≤ p0
  · rw [if_pos a] at h
    by_cases b : p0 ≤ 32
    · rw [if_pos b] at h; exact br_t a (br_t b h)
    · rw [if_neg b] at h; exact br_t a (br_f b h)
  · rw [if_neg a] at h; exact br_f a h
