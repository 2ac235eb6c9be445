/-! the depth of the parens; items -/
def dp_d (K : Nat → Nat) : Nat → Int
  | 0 => 0
  | j + 1 => dp_d K j + (if K j = 1 then 1 else if K j = 2 then -1 else 0)
section
variable {K : Nat → Nat}
theorem dp_1 {j : Nat} (h : K j = 1) : dp_d K (j + 1) = dp_d K j + 1 := by simp [dp_d, h]
theorem dp_2 {j : Nat} (h : K j = 2) : dp_d K (j + 1) = dp_d K j - 1 := by simp [dp_d, h]; omega
theorem dp_0 {j : Nat} (h1 : K j ≠ 1) (h2 : K j ≠ 2) : dp_d K (j + 1) = dp_d K j := by simp [dp_d, h1, h2]
theorem dp_s (j : Nat) : dp_d K j - 1 ≤ dp_d K (j + 1) ∧ dp_d K (j + 1) ≤ dp_d K j + 1 := by
  by_cases h : K j = 1
  · rw [dp_1 h]; omega
  · by_cases h2 : K j = 2
    · rw [dp_2 h2]; omega
    · rw [dp_0 h h2]; omega
end
def dp_I (K : Nat → Nat) (i j : Nat) : Prop := i < j ∧ dp_d K j = dp_d K i ∧ ∀ m, i < m → m < j → dp_d K i < dp_d K m
def dp_L (K : Nat → Nat) (p q : Nat) : Prop := p ≤ q ∧ dp_d K q = dp_d K p ∧ ∀ m, p ≤ m → m ≤ q → dp_d K p ≤ dp_d K m
section
variable {K : Nat → Nat}
theorem dp_I_u {i j j' : Nat} (h : dp_I K i j) (h' : dp_I K i j') : j = j' := by
  obtain ⟨a, b, c⟩ := h
  obtain ⟨a', b', c'⟩ := h'
  rcases Nat.lt_trichotomy j j' with z | z | z
  · have := c' j a z; omega
  · exact z
  · have := c j' a' z; omega
theorem dp_I_a {i : Nat} (h1 : K i ≠ 1) (h2 : K i ≠ 2) : dp_I K i (i + 1) := ⟨by omega, dp_0 h1 h2, fun m a b => by omega⟩
theorem dp_I_n2 {i j : Nat} (h : dp_I K i j) : K i ≠ 2 := by
  intro e
  obtain ⟨a, b, c⟩ := h
  have := dp_2 e
  by_cases z : i + 1 = j
  · subst z; omega
  · have := c (i + 1) (by omega) (by omega); omega
theorem dp_I_at {i j : Nat} (h : dp_I K i j) (h1 : K i ≠ 1) : j = i + 1 := dp_I_u h (dp_I_a h1 (dp_I_n2 h))
theorem dp_I_L {i j : Nat} (h : dp_I K i j) : dp_L K i j := by
  obtain ⟨a, b, c⟩ := h
  refine ⟨by omega, b, fun m x y => ?_⟩
  by_cases z : m = i
  · subst z; omega
  · by_cases z2 : m = j
    · subst z2; omega
    · have := c m (by omega) (by omega); omega
theorem dp_L_r (p : Nat) : dp_L K p p := ⟨by omega, rfl, fun m a b => by
  have : m = p := by omega
  subst this; omega⟩
theorem dp_L_t {p q r : Nat} (h : dp_L K p q) (h' : dp_L K q r) : dp_L K p r := by
  obtain ⟨a, b, c⟩ := h
  obtain ⟨a', b', c'⟩ := h'
  refine ⟨by omega, by omega, fun m x y => ?_⟩
  by_cases z : m ≤ q
  · exact c m x z
  · have := c' m (by omega) y; omega
theorem dp_I_w {i q : Nat} (h1 : K i = 1) (h : dp_L K (i + 1) q) (h2 : K q = 2) : dp_I K i (q + 1) := by
  obtain ⟨a, b, c⟩ := h
  have e1 := dp_1 h1
  have e2 := dp_2 h2
  refine ⟨by omega, by omega, fun m x y => ?_⟩
  have := c m (by omega) (by omega); omega
theorem dp_I_1 {i j : Nat} (h : dp_I K i j) (h1 : K i = 1) : i + 1 < j := by
  obtain ⟨a, b, c⟩ := h
  have e1 := dp_1 h1
  by_cases z : j = i + 1
  · subst z; omega
  · omega
theorem dp_nest {i j m m' : Nat} (h : dp_I K i j) (a : i < m) (b : m < j) (h' : dp_I K m m') : m' < j := by
  obtain ⟨a1, b1, c1⟩ := h
  obtain ⟨a2, b2, c2⟩ := h'
  have := c1 m a b
  rcases Nat.lt_trichotomy m' j with z | z | z
  · exact z
  · subst z; omega
  · have := c2 j b z; omega
theorem dp_ex {p j : Nat} (h : p < j) (hd : dp_d K j < dp_d K p) (h2 : K p ≠ 2) : ∃ p', dp_I K p p' ∧ p' < j := by
  by_cases h1 : K p = 1
  · have key : ∀ d m : Nat, m + d = j → p < m → (∀ x, p < x → x ≤ m → dp_d K p < dp_d K x) → ∃ p', dp_I K p p' ∧ p' < j := by
      intro d
      induction d with
      | zero => intro m e hm hx; have := hx m hm (by omega); have e2 : m = j := by omega
                subst e2; omega
      | succ d ih =>
        intro m e hm hx
        have s := dp_s (K := K) m
        have hmm := hx m hm (by omega)
        by_cases z : dp_d K (m + 1) ≤ dp_d K p
        · have e1 : dp_d K (m + 1) = dp_d K p := by omega
          refine ⟨m + 1, ⟨by omega, e1, fun x a b => hx x a (by omega)⟩, ?_⟩
          by_cases zz : m + 1 = j
          · rw [zz] at e1; omega
          · omega
        · exact ih (m + 1) (by omega) (by omega) (fun x a b => by
            by_cases zz : x = m + 1
            · subst zz; omega
            · exact hx x a (by omega))
    have e1 := dp_1 h1
    refine key (j - (p + 1)) (p + 1) (by omega) (by omega) (fun x a b => ?_)
    have : x = p + 1 := by omega
    subst this; omega
  · refine ⟨p + 1, dp_I_a h1 h2, ?_⟩
    by_cases z : p + 1 = j
    · subst z; rw [dp_0 h1 h2] at hd; omega
    · omega
theorem dp_Iex {i j p : Nat} (h : dp_I K i j) (h1 : K i = 1) (hL : dp_L K (i + 1) p) (hp : p < j) :
    (K p = 2 → p + 1 = j) ∧ (K p ≠ 2 → ∃ p', dp_I K p p' ∧ p' < j ∧ dp_L K (i + 1) p') := by
  have e1 := dp_1 h1
  have hp2 := hL.2.1
  have hl := hL.1
  constructor
  · intro e
    exact dp_I_u (dp_I_w h1 hL e) h
  · intro e
    obtain ⟨p', a, b⟩ := dp_ex hp (by rw [h.2.1]; omega) e
    exact ⟨p', a, b, dp_L_t hL (dp_I_L a)⟩
end
/-! the skip function; lists of items -/
noncomputable def sk_f (K : Nat → Nat) (n i : Nat) : Nat := @dite Nat (∃ j, dp_I K i j) (Classical.propDecidable _) (fun h => Classical.choose h) (fun _ => if K i = 1 then n else i + 1)
theorem sk_I {K : Nat → Nat} {n i j : Nat} (h : dp_I K i j) : sk_f K n i = j := by
  have e : ∃ j, dp_I K i j := ⟨j, h⟩
  unfold sk_f
  rw [dif_pos e]
  exact dp_I_u (Classical.choose_spec e) h
theorem sk_IE {K : Nat → Nat} {n i j : Nat} (h : dp_I K i j) : dp_I K i (sk_f K n i) := by rw [sk_I h]; exact h
theorem sk_no {K : Nat → Nat} {n i : Nat} (h : ¬ ∃ j, dp_I K i j) (h1 : K i = 1) : sk_f K n i = n := by
  unfold sk_f
  rw [dif_neg h, if_pos h1]
theorem sk_at {K : Nat → Nat} {n i : Nat} (h1 : K i ≠ 1) : sk_f K n i = i + 1 := by
  by_cases h : ∃ j, dp_I K i j
  · obtain ⟨j, h⟩ := h
    rw [sk_I h, dp_I_at h h1]
  · unfold sk_f
    rw [dif_neg h, if_neg h1]
def it_f (a : Nat → Nat) : Nat → Nat → Nat
  | 0, p => p
  | k + 1, p => it_f a k (a p)
theorem it_s (a : Nat → Nat) : ∀ k p, it_f a (k + 1) p = a (it_f a k p)
  | 0, _ => rfl
  | k + 1, p => it_s a k (a p)
theorem it_add (a : Nat → Nat) : ∀ k m p, it_f a (k + m) p = it_f a m (it_f a k p)
  | 0, m, p => by rw [Nat.zero_add]; rfl
  | k + 1, m, p => by rw [Nat.add_right_comm]; exact it_add a k m (a p)
/-- the list from s has c items -/
def ls_C (K a : Nat → Nat) (s c : Nat) : Prop := (∀ j, j < c → K (it_f a j s) ≠ 2) ∧ K (it_f a c s) = 2
/-- p is an item of the list from s -/
def ls_M (K a : Nat → Nat) (s p : Nat) : Prop := ∃ j, p = it_f a j s ∧ ∀ j', j' ≤ j → K (it_f a j' s) ≠ 2
section
variable {K a : Nat → Nat}
theorem ls_C_u {s c c' : Nat} (h : ls_C K a s c) (h' : ls_C K a s c') : c = c' := by
  rcases Nat.lt_trichotomy c c' with z | z | z
  · exact absurd h.2 (h'.1 c z)
  · exact z
  · exact absurd h'.2 (h.1 c' z)
theorem ls_CM {s c p : Nat} (h : ls_C K a s c) : ls_M K a s p ↔ ∃ j, j < c ∧ p = it_f a j s := by
  constructor
  · rintro ⟨j, e, hj⟩
    refine ⟨j, ?_, e⟩
    rcases Nat.lt_or_ge j c with z | z
    · exact z
    · exact absurd h.2 (hj c z)
  · rintro ⟨j, hj, e⟩
    exact ⟨j, e, fun j' h' => h.1 j' (by omega)⟩
theorem ls_C_s {s c : Nat} (h1 : K s ≠ 2) (h : ls_C K a (a s) c) : ls_C K a s (c + 1) := by
  refine ⟨fun j hj => ?_, h.2⟩
  cases j with
  | zero => exact h1
  | succ j => exact h.1 j (by omega)
theorem ls_C_0 {s : Nat} (h : K s = 2) : ls_C K a s 0 := ⟨fun j hj => by omega, h⟩
theorem ls_C_t {s c : Nat} (h : ls_C K a s (c + 1)) : K s ≠ 2 ∧ ls_C K a (a s) c :=
  ⟨h.1 0 (by omega), fun j hj => h.1 (j + 1) (by omega), h.2⟩
theorem ls_C_z {s : Nat} (h : ls_C K a s 0) : K s = 2 := h.2
theorem ls_M_0 {s : Nat} (h : K s ≠ 2) : ls_M K a s s := ⟨0, rfl, fun j hj => by
  have : j = 0 := by omega
  subst this; exact h⟩
theorem ls_M_s {s p : Nat} (h1 : K s ≠ 2) (h : ls_M K a (a s) p) : ls_M K a s p := by
  obtain ⟨j, e, hj⟩ := h
  refine ⟨j + 1, e, fun j' h' => ?_⟩
  cases j' with
  | zero => exact h1
  | succ j' => exact hj j' (by omega)
theorem ls_M_c {s p : Nat} (h : ls_M K a s p) : K s ≠ 2 ∧ (p = s ∨ ls_M K a (a s) p) := by
  obtain ⟨j, e, hj⟩ := h
  refine ⟨hj 0 (by omega), ?_⟩
  cases j with
  | zero => exact Or.inl e
  | succ j => exact Or.inr ⟨j, e, fun j' h' => hj (j' + 1) (by omega)⟩
theorem ls_M_n2 {s p : Nat} (h : ls_M K a s p) : K p ≠ 2 := by
  obtain ⟨j, e, hj⟩ := h
  rw [e]; exact hj j (Nat.le_refl _)
/-- a list whose items are items: its span -/
theorem ls_L {s : Nat} : ∀ {c : Nat}, (∀ j, j < c → dp_I K (it_f a j s) (a (it_f a j s))) → dp_L K s (it_f a c s)
  | 0, _ => dp_L_r s
  | c + 1, h => by
    rw [it_s]
    exact dp_L_t (ls_L (fun j hj => h j (by omega))) (dp_I_L (h c (by omega)))
end
theorem ls_om {j p p' d : Nat} (a : j - p ≤ d + 1) (b : p < p') : j - p' ≤ d := by omega
theorem ls_om2 {c p p' j : Nat} (a : c + p' < j) (b : p < p') : c + 1 + p < j := by omega
/-- in a matched list every item is an item, and the list ends at its paren -/
theorem ls_ex {K : Nat → Nat} {n i j : Nat} (h : dp_I K i j) (h1 : K i = 1) : ∀ (d p : Nat), j - p ≤ d → dp_L K (i + 1) p → p < j →
    ∃ c, ls_C K (sk_f K n) p c ∧ it_f (sk_f K n) c p + 1 = j ∧ c + p < j ∧ (∀ x, x < c → dp_I K (it_f (sk_f K n) x p) (sk_f K n (it_f (sk_f K n) x p)))
  | 0, p, hd, _, hp => by omega
  | d + 1, p, hd, hL, hp => by
    have ex := dp_Iex h h1 hL hp
    by_cases z : K p = 2
    · exact ⟨0, ls_C_0 z, ex.1 z, by omega, fun x hx => by omega⟩
    · obtain ⟨p', a, b, c⟩ := ex.2 z
      have ha := a.1
      have e := sk_I (n := n) a
      obtain ⟨c', x1, x2, x3, x4⟩ := ls_ex (n := n) h h1 d p' (ls_om hd ha) c b
      refine ⟨c' + 1, ls_C_s z (by rw [e]; exact x1), ?_, ls_om2 x3 ha, fun x hx => ?_⟩
      · show it_f (sk_f K n) c' (sk_f K n p) + 1 = j
        rw [e]; exact x2
      · cases x with
        | zero => show dp_I K p (sk_f K n p); rw [e]; exact a
        | succ x =>
          show dp_I K (it_f (sk_f K n) x (sk_f K n p)) (sk_f K n (it_f (sk_f K n) x (sk_f K n p)))
          rw [e]; exact x4 x (by omega)
theorem ls_in {K : Nat → Nat} {n i j : Nat} (h : dp_I K i j) (h1 : K i = 1) :
    ∃ c, ls_C K (sk_f K n) (i + 1) c ∧ it_f (sk_f K n) c (i + 1) + 1 = j ∧ c + (i + 1) < j ∧ (∀ x, x < c → dp_I K (it_f (sk_f K n) x (i + 1)) (sk_f K n (it_f (sk_f K n) x (i + 1)))) :=
  ls_ex h h1 _ (i + 1) (Nat.le_refl _) (dp_L_r _) (dp_I_1 h h1)
