/-! the tokens as both sides hold them -/
def tk_K (tk : Nat → Int32) (n i : Nat) : Nat := if i < n then (tk i).toNatClampNeg else 0
def tk_ok (tk : Nat → Int32) (n : Nat) : Prop := n ≤ 64 ∧ ∀ i, i < n → ∃ k : Nat, 1 ≤ k ∧ k ≤ 20 ∧ tk i = nI k
section
variable {tk : Nat → Int32} {n : Nat}
theorem tk_v (H : tk_ok tk n) {i : Nat} (hi : i < n) : tk i = nI (tk_K tk n i) ∧ 1 ≤ tk_K tk n i ∧ tk_K tk n i ≤ 20 := by
  obtain ⟨k, h1, h2, e⟩ := H.2 i hi
  have : tk_K tk n i = k := by unfold tk_K; rw [if_pos hi, e, nI_clamp (by omega)]
  rw [this]; exact ⟨e, h1, h2⟩
theorem tk_0 {i : Nat} (hi : n ≤ i) : tk_K tk n i = 0 := if_neg (by omega)
theorem tk_lt {i : Nat} (h : tk_K tk n i ≠ 0) : i < n := by
  rcases Nat.lt_or_ge i n with z | z
  · exact z
  · exact absurd (tk_0 z) h
theorem tk_20 (H : tk_ok tk n) (i : Nat) : tk_K tk n i ≤ 20 := by
  rcases Nat.lt_or_ge i n with z | z
  · exact (tk_v H z).2.2
  · rw [tk_0 z]; omega
theorem tk_c (H : tk_ok tk n) {i : Nat} (hi : i < n) : tk (nI i).toNatClampNeg = nI (tk_K tk n i) := by
  have := H.1
  rw [nI_clamp (by omega)]; exact (tk_v H hi).1
theorem tk_in (H : tk_ok tk n) {i : Nat} (hi : i < n) : vp_in (nI i) 64 := vp_in_nI (by have := H.1; omega) (by omega)
/-- a branch on a token's kind -/
theorem tk_b (H : tk_ok tk n) {i : Nat} (hi : i < n) (c : Nat) {A B : Prop} (f : tk_K tk n i = c → A) (g : tk_K tk n i ≠ c → B) {y : Int32} (hy : y = nI c := by rfl) (hc : c < 2 ^ 31 := by omega) : (tk (nI i).toNatClampNeg = y → A) ∧ (¬ tk (nI i).toNatClampNeg = y → B) := by
  have h := tk_v H hi
  exact pk_eq (tk_K tk n i) c f g (tk_c H hi) hy (by omega) hc
end
theorem ni_2 (a : Nat) : nI a + 2 = nI (a + 2) := nI_add a 2
theorem ni_3 (a : Nat) : nI a + 3 = nI (a + 3) := nI_add a 3
theorem ni_4 (a : Nat) : nI a + 4 = nI (a + 4) := nI_add a 4
theorem ni_5 (a : Nat) : nI a + 5 = nI (a + 5) := nI_add a 5
theorem ni_m {a : Nat} (h : 1 ≤ a) : nI a - 1 = nI (a - 1) := pk_sub (b := 1) h
theorem ni_nm1 {a : Nat} (h : a < 2 ^ 31) : ¬ nI a = -1 := by
  intro e
  have h1 := nI_toInt h
  rw [e] at h1
  have h2 : (-1 : Int32).toInt = -1 := by decide
  omega
/-- the skip function moves on -/
theorem sk_gt {K : Nat → Nat} {n : Nat} (hn : ∀ i, n ≤ i → K i = 0) (p : Nat) : p < sk_f K n p := by
  by_cases h : ∃ j, dp_I K p j
  · obtain ⟨j, h⟩ := h
    rw [sk_I h]; exact h.1
  · by_cases h1 : K p = 1
    · rw [sk_no h h1]
      rcases Nat.lt_or_ge p n with z | z
      · exact z
      · have := hn p z; omega
    · rw [sk_at h1]; omega
theorem it_gt {K : Nat → Nat} {n : Nat} (hn : ∀ i, n ≤ i → K i = 0) (s x : Nat) : ∀ d, it_f (sk_f K n) x s + d ≤ it_f (sk_f K n) (x + d) s
  | 0 => Nat.le_refl _
  | d + 1 => by
    have h := it_gt hn s x d
    have g := sk_gt hn (it_f (sk_f K n) (x + d) s)
    rw [show x + (d + 1) = x + d + 1 from rfl, it_s]
    omega
theorem ls_bd {K : Nat → Nat} {n s c : Nat} (hn : ∀ i, n ≤ i → K i = 0) (lc : ls_C K (sk_f K n) s c) : (∀ x, x ≤ c → it_f (sk_f K n) x s < n ∧ s + x ≤ it_f (sk_f K n) x s) ∧ s + c < n := by
  have e : it_f (sk_f K n) c s < n := by
    rcases Nat.lt_or_ge (it_f (sk_f K n) c s) n with z | z
    · exact z
    · have := hn _ z; have := lc.2; omega
  have h0 := it_gt hn s 0
  refine ⟨fun x hx => ⟨?_, ?_⟩, ?_⟩
  · have := it_gt hn s x (c - x)
    rw [show x + (c - x) = c from by omega] at this
    omega
  · have := h0 x
    rw [Nat.zero_add] at this
    exact this
  · have := h0 c
    rw [Nat.zero_add] at this
    have e2 : it_f (sk_f K n) 0 s = s := rfl
    omega
/-- the component's table of ends -/
def xb_A (K : Nat → Nat) (n : Nat) (af : Nat → Int32) : Prop := ∀ i, i < n → K i ≠ 2 → dp_I K i (sk_f K n i) ∧ af i = nI (sk_f K n i)
