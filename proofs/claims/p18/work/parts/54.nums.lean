/-! the law's own numbers: the remainder that is never negative -/
theorem md_b1 {y P : Nat} (h : P ≤ y) (hy : y ≤ 2 ^ 31) : (-(P : Int)).bmod (2 ^ 32) = -(P : Int) := Int.bmod_eq_of_le (by omega) (by omega)
theorem md_b2 {y P M : Nat} (e : P + M = y) (hy : y ≤ 2 ^ 31) : (-(y : Int) - -(P : Int)).bmod (2 ^ 32) = -(M : Int) := by
  rw [show -(y : Int) - -(P : Int) = -(M : Int) from by omega]
  exact Int.bmod_eq_of_le (by omega) (by omega)
theorem md_neg {x : Int32} {d y : Nat} (hx : x.toInt = -(y : Int)) (hy : y ≤ 2 ^ 31) (hd : d < 2 ^ 31) : (x - x / nI d * nI d).toInt = -((y % d : Nat) : Int) := by
  have e1 := Nat.div_add_mod' y d
  have e2 := Nat.div_le_self y d
  have e3 : y / d * d ≤ y := Nat.div_mul_le_self y d
  have ed : (nI d).toInt = (d : Int) := nI_toInt hd
  have q : (x / nI d).toInt = -((y / d : Nat) : Int) := by
    rw [Int32.toInt_div, hx, ed, Int.neg_tdiv, ← Int.ofNat_tdiv]
    exact md_b1 e2 hy
  have m : (x / nI d * nI d).toInt = -((y / d * d : Nat) : Int) := by
    rw [Int32.toInt_mul, q, ed, Int.neg_mul, ← Int.natCast_mul]
    exact md_b1 e3 hy
  rw [Int32.toInt_sub, hx, m]
  exact md_b2 e1 hy
theorem md_ok (x : Int32) {d : Nat} (h0 : 0 < d) (hd : d < 2 ^ 31) : (x - x / nI d * nI d < 0 ∧ ∃ j, j < d ∧ x - x / nI d * nI d + nI d = nI j) ∨ (¬ x - x / nI d * nI d < 0 ∧ ∃ j, j < d ∧ x - x / nI d * nI d = nI j) := by
  have z0 : (0 : Int32).toInt = 0 := by decide
  by_cases h : x < 0
  · rw [Int32.lt_iff_toInt_lt, z0] at h
    obtain ⟨y, hy⟩ : ∃ y : Nat, x.toInt = -(y : Int) := ⟨x.toInt.natAbs, by omega⟩
    have lo := Int32.le_toInt x
    have r := md_neg hy (by omega) hd
    have ml := Nat.mod_lt y h0
    by_cases z : y % d = 0
    · rw [z] at r
      refine Or.inr ⟨?_, 0, h0, Int32.toInt_inj.mp ?_⟩
      · rw [Int32.lt_iff_toInt_lt, r, z0]; omega
      · rw [r, nI_toInt (by omega)]; omega
    · refine Or.inl ⟨?_, d - y % d, by omega, Int32.toInt_inj.mp ?_⟩
      · rw [Int32.lt_iff_toInt_lt, r, z0]; omega
      · rw [Int32.toInt_add, r, nI_toInt hd, nI_toInt (by omega), show -((y % d : Nat) : Int) + (d : Int) = ((d - y % d : Nat) : Int) from by omega]
        exact Int.bmod_eq_of_le (by omega) (by omega)
  · obtain ⟨j, hj, e⟩ := nI_of h
    subst e
    rw [pk_rem hj h0 hd]
    have ml := Nat.mod_lt j h0
    exact Or.inr ⟨nI_pos (by omega), j % d, ml, rfl⟩
