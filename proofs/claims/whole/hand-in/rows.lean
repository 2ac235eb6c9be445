section
/-! rows of kit/rows/PURE-ROWS -/
theorem pk_us {f : Nat → Int32} {k : Nat} {x : Int32} : upd f k x k = x := if_pos rfl
theorem pk_un {f : Nat → Int32} {k j : Nat} {x : Int32} (h : j ≠ k) : upd f k x j = f j := if_neg h
theorem pk_sub {a b : Nat} (h : b ≤ a) : nI a - nI b = nI (a - b) := by
  obtain ⟨c, rfl⟩ : ∃ c, a = c + b := ⟨a - b, by omega⟩
  rw [← nI_add, Int32.add_sub_cancel, Nat.add_sub_cancel]
theorem pk_m1 (n : Nat) : nI (n + 1) + (-1) = nI n := by
  rw [← nI_1, Int32.add_assoc, show (1 : Int32) + (-1) = 0 from rfl, Int32.add_zero]
theorem pk_ix (x : Int32) {n : Nat} (hn : n < 2 ^ 31) : x < 0 ∨ nI n ≤ x ∨ ∃ j : Nat, j < n ∧ x = nI j := by
  by_cases h : x < 0
  · exact Or.inl h
  · obtain ⟨j, hj, rfl⟩ := nI_of h
    by_cases h2 : j < n
    · exact Or.inr (Or.inr ⟨j, h2, rfl⟩)
    · exact Or.inr (Or.inl (nI_le (by omega) hj))
theorem pk_le {x y : Int32} {A B : Prop} (a b : Nat) (f : a ≤ b → A) (g : b < a → B) (hx : x = nI a := by rfl) (hy : y = nI b := by rfl) (ha : a < 2 ^ 31 := by omega) (hb : b < 2 ^ 31 := by omega) : (x ≤ y → A) ∧ (¬ x ≤ y → B) := by
  subst hx hy
  rw [nI_leI ha hb]
  exact ⟨f, fun z => g (by omega)⟩
theorem pk_lt {x y : Int32} {A B : Prop} (a b : Nat) (f : a < b → A) (g : b ≤ a → B) (hx : x = nI a := by rfl) (hy : y = nI b := by rfl) (ha : a < 2 ^ 31 := by omega) (hb : b < 2 ^ 31 := by omega) : (x < y → A) ∧ (¬ x < y → B) := by
  subst hx hy
  rw [nI_ltI ha hb]
  exact ⟨f, fun z => g (by omega)⟩
theorem pk_eq {x y : Int32} {A B : Prop} (a b : Nat) (f : a = b → A) (g : a ≠ b → B) (hx : x = nI a := by rfl) (hy : y = nI b := by rfl) (ha : a < 2 ^ 31 := by omega) (hb : b < 2 ^ 31 := by omega) : (x = y → A) ∧ (¬ x = y → B) := by
  subst hx hy
  rw [nI_eq ha hb]
  exact ⟨f, g⟩
theorem pk_in {x : Int32} (n N : Nat) (h : n < N) (hx : x = nI n := by rfl) (hN : N < 2 ^ 31 := by omega) : vp_in x N := by
  subst hx
  exact vp_in_nI h hN
theorem pk_cl {x : Int32} (n : Nat) (hx : x = nI n := by rfl) (h : n < 2 ^ 31 := by omega) : x.toNatClampNeg = n := by
  subst hx
  exact nI_clamp h
end
section
/-! the depth of the parens; items -/
def dp_d (K : Nat → Nat) : Nat → Int
  | 0 => 0
  | j + 1 => dp_d K j + (if K j = 1 then 1 else if K j = 2 then -1 else 0)
section
variable {K : Nat → Nat}
theorem dp_1 {j : Nat} (h : K j = 1) : dp_d K (j + 1) = dp_d K j + 1 := by simp [dp_d, h]
theorem dp_2 {j : Nat} (h : K j = 2) : dp_d K (j + 1) = dp_d K j - 1 := by simp [dp_d, h]; omega
theorem dp_0 {j : Nat} (h1 : K j ≠ 1) (h2 : K j ≠ 2) : dp_d K (j + 1) = dp_d K j := by simp [dp_d, h1, h2]
theorem dp_s (j : Nat) : dp_d K j - 1 ≤ dp_d K (j + 1) ∧ dp_d K (j + 1) ≤ dp_d K j + 1 := by
  by_cases h : K j = 1
  · rw [dp_1 h]; omega
  · by_cases h2 : K j = 2
    · rw [dp_2 h2]; omega
    · rw [dp_0 h h2]; omega
end
def dp_I (K : Nat → Nat) (i j : Nat) : Prop := i < j ∧ dp_d K j = dp_d K i ∧ ∀ m, i < m → m < j → dp_d K i < dp_d K m
def dp_L (K : Nat → Nat) (p q : Nat) : Prop := p ≤ q ∧ dp_d K q = dp_d K p ∧ ∀ m, p ≤ m → m ≤ q → dp_d K p ≤ dp_d K m
section
variable {K : Nat → Nat}
theorem dp_I_u {i j j' : Nat} (h : dp_I K i j) (h' : dp_I K i j') : j = j' := by
  obtain ⟨a, b, c⟩ := h
  obtain ⟨a', b', c'⟩ := h'
  rcases Nat.lt_trichotomy j j' with z | z | z
  · have := c' j a z; omega
  · exact z
  · have := c j' a' z; omega
theorem dp_I_a {i : Nat} (h1 : K i ≠ 1) (h2 : K i ≠ 2) : dp_I K i (i + 1) := ⟨by omega, dp_0 h1 h2, fun m a b => by omega⟩
theorem dp_I_n2 {i j : Nat} (h : dp_I K i j) : K i ≠ 2 := by
  intro e
  obtain ⟨a, b, c⟩ := h
  have := dp_2 e
  by_cases z : i + 1 = j
  · subst z; omega
  · have := c (i + 1) (by omega) (by omega); omega
theorem dp_I_at {i j : Nat} (h : dp_I K i j) (h1 : K i ≠ 1) : j = i + 1 := dp_I_u h (dp_I_a h1 (dp_I_n2 h))
theorem dp_I_L {i j : Nat} (h : dp_I K i j) : dp_L K i j := by
  obtain ⟨a, b, c⟩ := h
  refine ⟨by omega, b, fun m x y => ?_⟩
  by_cases z : m = i
  · subst z; omega
  · by_cases z2 : m = j
    · subst z2; omega
    · have := c m (by omega) (by omega); omega
theorem dp_L_r (p : Nat) : dp_L K p p := ⟨by omega, rfl, fun m a b => by
  have : m = p := by omega
  subst this; omega⟩
theorem dp_L_t {p q r : Nat} (h : dp_L K p q) (h' : dp_L K q r) : dp_L K p r := by
  obtain ⟨a, b, c⟩ := h
  obtain ⟨a', b', c'⟩ := h'
  refine ⟨by omega, by omega, fun m x y => ?_⟩
  by_cases z : m ≤ q
  · exact c m x z
  · have := c' m (by omega) y; omega
theorem dp_I_w {i q : Nat} (h1 : K i = 1) (h : dp_L K (i + 1) q) (h2 : K q = 2) : dp_I K i (q + 1) := by
  obtain ⟨a, b, c⟩ := h
  have e1 := dp_1 h1
  have e2 := dp_2 h2
  refine ⟨by omega, by omega, fun m x y => ?_⟩
  have := c m (by omega) (by omega); omega
theorem dp_I_1 {i j : Nat} (h : dp_I K i j) (h1 : K i = 1) : i + 1 < j := by
  obtain ⟨a, b, c⟩ := h
  have e1 := dp_1 h1
  by_cases z : j = i + 1
  · subst z; omega
  · omega
theorem dp_nest {i j m m' : Nat} (h : dp_I K i j) (a : i < m) (b : m < j) (h' : dp_I K m m') : m' < j := by
  obtain ⟨a1, b1, c1⟩ := h
  obtain ⟨a2, b2, c2⟩ := h'
  have := c1 m a b
  rcases Nat.lt_trichotomy m' j with z | z | z
  · exact z
  · subst z; omega
  · have := c2 j b z; omega
theorem dp_ex {p j : Nat} (h : p < j) (hd : dp_d K j < dp_d K p) (h2 : K p ≠ 2) : ∃ p', dp_I K p p' ∧ p' < j := by
  by_cases h1 : K p = 1
  · have key : ∀ d m : Nat, m + d = j → p < m → (∀ x, p < x → x ≤ m → dp_d K p < dp_d K x) → ∃ p', dp_I K p p' ∧ p' < j := by
      intro d
      induction d with
      | zero => intro m e hm hx; have := hx m hm (by omega); have e2 : m = j := by omega
                subst e2; omega
      | succ d ih =>
        intro m e hm hx
        have s := dp_s (K := K) m
        have hmm := hx m hm (by omega)
        by_cases z : dp_d K (m + 1) ≤ dp_d K p
        · have e1 : dp_d K (m + 1) = dp_d K p := by omega
          refine ⟨m + 1, ⟨by omega, e1, fun x a b => hx x a (by omega)⟩, ?_⟩
          by_cases zz : m + 1 = j
          · rw [zz] at e1; omega
          · omega
        · exact ih (m + 1) (by omega) (by omega) (fun x a b => by
            by_cases zz : x = m + 1
            · subst zz; omega
            · exact hx x a (by omega))
    have e1 := dp_1 h1
    refine key (j - (p + 1)) (p + 1) (by omega) (by omega) (fun x a b => ?_)
    have : x = p + 1 := by omega
    subst this; omega
  · refine ⟨p + 1, dp_I_a h1 h2, ?_⟩
    by_cases z : p + 1 = j
    · subst z; rw [dp_0 h1 h2] at hd; omega
    · omega
theorem dp_Iex {i j p : Nat} (h : dp_I K i j) (h1 : K i = 1) (hL : dp_L K (i + 1) p) (hp : p < j) :
    (K p = 2 → p + 1 = j) ∧ (K p ≠ 2 → ∃ p', dp_I K p p' ∧ p' < j ∧ dp_L K (i + 1) p') := by
  have e1 := dp_1 h1
  have hp2 := hL.2.1
  have hl := hL.1
  constructor
  · intro e
    exact dp_I_u (dp_I_w h1 hL e) h
  · intro e
    obtain ⟨p', a, b⟩ := dp_ex hp (by rw [h.2.1]; omega) e
    exact ⟨p', a, b, dp_L_t hL (dp_I_L a)⟩
end
/-! the skip function; lists of items -/
noncomputable def sk_f (K : Nat → Nat) (n i : Nat) : Nat := @dite Nat (∃ j, dp_I K i j) (Classical.propDecidable _) (fun h => Classical.choose h) (fun _ => if K i = 1 then n else i + 1)
theorem sk_I {K : Nat → Nat} {n i j : Nat} (h : dp_I K i j) : sk_f K n i = j := by
  have e : ∃ j, dp_I K i j := ⟨j, h⟩
  unfold sk_f
  rw [dif_pos e]
  exact dp_I_u (Classical.choose_spec e) h
theorem sk_IE {K : Nat → Nat} {n i j : Nat} (h : dp_I K i j) : dp_I K i (sk_f K n i) := by rw [sk_I h]; exact h
theorem sk_no {K : Nat → Nat} {n i : Nat} (h : ¬ ∃ j, dp_I K i j) (h1 : K i = 1) : sk_f K n i = n := by
  unfold sk_f
  rw [dif_neg h, if_pos h1]
theorem sk_at {K : Nat → Nat} {n i : Nat} (h1 : K i ≠ 1) : sk_f K n i = i + 1 := by
  by_cases h : ∃ j, dp_I K i j
  · obtain ⟨j, h⟩ := h
    rw [sk_I h, dp_I_at h h1]
  · unfold sk_f
    rw [dif_neg h, if_neg h1]
def it_f (a : Nat → Nat) : Nat → Nat → Nat
  | 0, p => p
  | k + 1, p => it_f a k (a p)
theorem it_s (a : Nat → Nat) : ∀ k p, it_f a (k + 1) p = a (it_f a k p)
  | 0, _ => rfl
  | k + 1, p => it_s a k (a p)
theorem it_add (a : Nat → Nat) : ∀ k m p, it_f a (k + m) p = it_f a m (it_f a k p)
  | 0, m, p => by rw [Nat.zero_add]; rfl
  | k + 1, m, p => by rw [Nat.add_right_comm]; exact it_add a k m (a p)
/-- the list from s has c items -/
def ls_C (K a : Nat → Nat) (s c : Nat) : Prop := (∀ j, j < c → K (it_f a j s) ≠ 2) ∧ K (it_f a c s) = 2
/-- p is an item of the list from s -/
def ls_M (K a : Nat → Nat) (s p : Nat) : Prop := ∃ j, p = it_f a j s ∧ ∀ j', j' ≤ j → K (it_f a j' s) ≠ 2
section
variable {K a : Nat → Nat}
theorem ls_C_u {s c c' : Nat} (h : ls_C K a s c) (h' : ls_C K a s c') : c = c' := by
  rcases Nat.lt_trichotomy c c' with z | z | z
  · exact absurd h.2 (h'.1 c z)
  · exact z
  · exact absurd h'.2 (h.1 c' z)
theorem ls_CM {s c p : Nat} (h : ls_C K a s c) : ls_M K a s p ↔ ∃ j, j < c ∧ p = it_f a j s := by
  constructor
  · rintro ⟨j, e, hj⟩
    refine ⟨j, ?_, e⟩
    rcases Nat.lt_or_ge j c with z | z
    · exact z
    · exact absurd h.2 (hj c z)
  · rintro ⟨j, hj, e⟩
    exact ⟨j, e, fun j' h' => h.1 j' (by omega)⟩
theorem ls_C_s {s c : Nat} (h1 : K s ≠ 2) (h : ls_C K a (a s) c) : ls_C K a s (c + 1) := by
  refine ⟨fun j hj => ?_, h.2⟩
  cases j with
  | zero => exact h1
  | succ j => exact h.1 j (by omega)
theorem ls_C_0 {s : Nat} (h : K s = 2) : ls_C K a s 0 := ⟨fun j hj => by omega, h⟩
theorem ls_C_t {s c : Nat} (h : ls_C K a s (c + 1)) : K s ≠ 2 ∧ ls_C K a (a s) c :=
  ⟨h.1 0 (by omega), fun j hj => h.1 (j + 1) (by omega), h.2⟩
theorem ls_C_z {s : Nat} (h : ls_C K a s 0) : K s = 2 := h.2
theorem ls_M_0 {s : Nat} (h : K s ≠ 2) : ls_M K a s s := ⟨0, rfl, fun j hj => by
  have : j = 0 := by omega
  subst this; exact h⟩
theorem ls_M_s {s p : Nat} (h1 : K s ≠ 2) (h : ls_M K a (a s) p) : ls_M K a s p := by
  obtain ⟨j, e, hj⟩ := h
  refine ⟨j + 1, e, fun j' h' => ?_⟩
  cases j' with
  | zero => exact h1
  | succ j' => exact hj j' (by omega)
theorem ls_M_c {s p : Nat} (h : ls_M K a s p) : K s ≠ 2 ∧ (p = s ∨ ls_M K a (a s) p) := by
  obtain ⟨j, e, hj⟩ := h
  refine ⟨hj 0 (by omega), ?_⟩
  cases j with
  | zero => exact Or.inl e
  | succ j => exact Or.inr ⟨j, e, fun j' h' => hj (j' + 1) (by omega)⟩
theorem ls_M_n2 {s p : Nat} (h : ls_M K a s p) : K p ≠ 2 := by
  obtain ⟨j, e, hj⟩ := h
  rw [e]; exact hj j (Nat.le_refl _)
/-- a list whose items are items: its span -/
theorem ls_L {s : Nat} : ∀ {c : Nat}, (∀ j, j < c → dp_I K (it_f a j s) (a (it_f a j s))) → dp_L K s (it_f a c s)
  | 0, _ => dp_L_r s
  | c + 1, h => by
    rw [it_s]
    exact dp_L_t (ls_L (fun j hj => h j (by omega))) (dp_I_L (h c (by omega)))
end
theorem ls_om {j p p' d : Nat} (a : j - p ≤ d + 1) (b : p < p') : j - p' ≤ d := by omega
theorem ls_om2 {c p p' j : Nat} (a : c + p' < j) (b : p < p') : c + 1 + p < j := by omega
/-- in a matched list every item is an item, and the list ends at its paren -/
theorem ls_ex {K : Nat → Nat} {n i j : Nat} (h : dp_I K i j) (h1 : K i = 1) : ∀ (d p : Nat), j - p ≤ d → dp_L K (i + 1) p → p < j →
    ∃ c, ls_C K (sk_f K n) p c ∧ it_f (sk_f K n) c p + 1 = j ∧ c + p < j ∧ (∀ x, x < c → dp_I K (it_f (sk_f K n) x p) (sk_f K n (it_f (sk_f K n) x p)))
  | 0, p, hd, _, hp => by omega
  | d + 1, p, hd, hL, hp => by
    have ex := dp_Iex h h1 hL hp
    by_cases z : K p = 2
    · exact ⟨0, ls_C_0 z, ex.1 z, by omega, fun x hx => by omega⟩
    · obtain ⟨p', a, b, c⟩ := ex.2 z
      have ha := a.1
      have e := sk_I (n := n) a
      obtain ⟨c', x1, x2, x3, x4⟩ := ls_ex (n := n) h h1 d p' (ls_om hd ha) c b
      refine ⟨c' + 1, ls_C_s z (by rw [e]; exact x1), ?_, ls_om2 x3 ha, fun x hx => ?_⟩
      · show it_f (sk_f K n) c' (sk_f K n p) + 1 = j
        rw [e]; exact x2
      · cases x with
        | zero => show dp_I K p (sk_f K n p); rw [e]; exact a
        | succ x =>
          show dp_I K (it_f (sk_f K n) x (sk_f K n p)) (sk_f K n (it_f (sk_f K n) x (sk_f K n p)))
          rw [e]; exact x4 x (by omega)
theorem ls_in {K : Nat → Nat} {n i j : Nat} (h : dp_I K i j) (h1 : K i = 1) :
    ∃ c, ls_C K (sk_f K n) (i + 1) c ∧ it_f (sk_f K n) c (i + 1) + 1 = j ∧ c + (i + 1) < j ∧ (∀ x, x < c → dp_I K (it_f (sk_f K n) x (i + 1)) (sk_f K n (it_f (sk_f K n) x (i + 1)))) :=
  ls_ex h h1 _ (i + 1) (Nat.le_refl _) (dp_L_r _) (dp_I_1 h h1)
end
section
/-! the grammar, by the places of its items -/
def gr_dup (V : Nat → Int32) (a : Nat → Nat) (st s : Nat) : Prop := ∃ k, k < 4 ∧ (∀ k', k' ≤ k → it_f a k' (st + 1) < s - 1) ∧ V (it_f a k (st + 1) + 1) = V s
def gr_BS (K : Nat → Nat) (V : Nat → Int32) (a : Nat → Nat) (h st b : Nat) : Prop := K b = 1 ∧ ls_C K a (b + 1) 2 ∧ K (b + 1) = 4 ∧ ¬ gr_dup V a st (b + 1) ∧ (h = 9 → K (b + 2) = 1 ∧ K (b + 3) = 7)
def gr_P (K : Nat → Nat) (V : Nat → Int32) (q c : Nat) : Prop := c ≤ 4 ∧ (∀ j, j < c → K (q + 1 + j) = 4) ∧ K (q + 1 + c) = 2 ∧ ∀ j j', j < j' → j' < c → V (q + 1 + j) ≠ V (q + 1 + j')
def gr_n (h : Nat) : Nat := if h = 10 then 3 else if h = 12 ∨ h = 13 ∨ h = 14 then 1 else 2
def gr_FS (K : Nat → Nat) (V : Nat → Int32) (a : Nat → Nat) (i h : Nat) : Prop :=
  (h = 6 ∧ ls_C K a (i + 2) 1) ∨
  (h = 7 ∧ ls_C K a (i + 2) 2 ∧ K (i + 2) = 1 ∧ ∃ c, gr_P K V (i + 2) c) ∨
  ((h = 8 ∨ h = 9) ∧ ls_C K a (i + 2) 2 ∧ K (i + 2) = 1 ∧ ∃ c, 1 ≤ c ∧ c ≤ 4 ∧ ls_C K a (i + 3) c ∧ ∀ j, j < c → gr_BS K V a h (i + 2) (it_f a j (i + 3))) ∨
  (10 ≤ h ∧ ls_C K a (i + 2) (gr_n h)) ∨
  (h < 6 ∧ ∃ c, c ≤ 4 ∧ ls_C K a (i + 1) (c + 1))
def gr_E (K a : Nat → Nat) (i c : Nat) : Prop := K i = 1 ∧ ((10 ≤ K (i + 1) ∧ ls_M K a (i + 2) c) ∨ (K (i + 1) < 6 ∧ ls_M K a (i + 1) c) ∨ (7 ≤ K (i + 1) ∧ K (i + 1) ≤ 9 ∧ c = a (i + 2)) ∨ ((K (i + 1) = 8 ∨ K (i + 1) = 9) ∧ ∃ b, ls_M K a (i + 3) b ∧ c = b + 2))
def gr_D (K a : Nat → Nat) (i c : Nat) : Prop := K i = 1 ∧ K (i + 1) = 6 ∧ ls_M K a (i + 2) c
def gr_N (K a : Nat → Nat) (i c : Nat) : Prop := K i = 1 ∧ ((K (i + 1) = 7 ∧ ls_M K a (i + 3) c) ∨ ((K (i + 1) = 8 ∨ K (i + 1) = 9) ∧ ∃ b, ls_M K a (i + 3) b ∧ c = b + 1))
def gr_SH (K : Nat → Nat) (V : Nat → Int32) (a : Nat → Nat) (i : Nat) : Prop := K i = 3 ∨ K i = 4 ∨ K i = 5 ∨ (K i = 1 ∧ gr_FS K V a i (K (i + 1)))
def gr_EC (K : Nat → Nat) (V : Nat → Int32) (a : Nat → Nat) (E D : Nat → Prop) (i : Nat) : Prop := gr_SH K V a i ∧ (∀ c, gr_E K a i c → E c) ∧ (∀ c, gr_D K a i c → D c)
def gr_DS (K a : Nat → Nat) (i : Nat) : Prop := K i = 3 ∨ K i = 5 ∨ (K i = 1 ∧ ∃ c, ls_C K a (i + 1) c)
def gr_DM (K a : Nat → Nat) (i c : Nat) : Prop := K i = 1 ∧ ls_M K a (i + 1) c
def gr_DC (K a : Nat → Nat) (D : Nat → Prop) (i : Nat) : Prop := gr_DS K a i ∧ ∀ c, gr_DM K a i c → D c
def gr_X (K : Nat → Nat) (V : Nat → Int32) (a : Nat → Nat) : Nat → Bool → Nat → Prop
  | 0, _, _ => False
  | k + 1, true, i => gr_EC K V a (gr_X K V a k true) (gr_X K V a k false) i
  | k + 1, false, i => gr_DC K a (gr_X K V a k false) i
theorem gr_X_up {K : Nat → Nat} {V : Nat → Int32} {a : Nat → Nat} : ∀ (k : Nat) (b : Bool) (i : Nat), gr_X K V a k b i → gr_X K V a (k + 1) b i
  | 0, _, _, h => False.elim h
  | k + 1, true, i, h => ⟨h.1, fun c hc => gr_X_up k true c (h.2.1 c hc), fun c hc => gr_X_up k false c (h.2.2 c hc)⟩
  | k + 1, false, i, h => ⟨h.1, fun c hc => gr_X_up k false c (h.2 c hc)⟩
section
variable {K : Nat → Nat} {V : Nat → Int32} {n : Nat}
theorem it_at {s : Nat} : ∀ {c : Nat}, (∀ j, j < c → K (s + j) ≠ 1) → it_f (sk_f K n) c s = s + c
  | 0, _ => rfl
  | c + 1, h => by
    rw [it_s, it_at (fun j hj => h j (by omega)), sk_at (h c (by omega))]
    omega
theorem gr_end {i s c : Nat} (h1 : K i = 1) (hL : dp_L K (i + 1) s) (hc : ls_C K (sk_f K n) s c) (hI : ∀ j, j < c → dp_I K (it_f (sk_f K n) j s) (sk_f K n (it_f (sk_f K n) j s))) : dp_I K i (it_f (sk_f K n) c s + 1) :=
  dp_I_w h1 (dp_L_t hL (ls_L hI)) hc.2
theorem gr_kw {i : Nat} (h : 6 ≤ K (i + 1)) : dp_L K (i + 1) (i + 2) := dp_I_L (dp_I_a (by omega) (by omega))
theorem gr_PI {q c : Nat} (h1 : K q = 1) (h : gr_P K V q c) : dp_I K q (q + 2 + c) := by
  obtain ⟨h4, hs, h2, hd⟩ := h
  have key : ∀ d, d ≤ c → dp_L K (q + 1) (q + 1 + d) := by
    intro d
    induction d with
    | zero => intro _; exact dp_L_r _
    | succ d ih =>
      intro hd
      have := hs d (by omega)
      exact dp_L_t (ih (by omega)) (dp_I_L (dp_I_a (by omega) (by omega)))
  have := dp_I_w h1 (key c (Nat.le_refl _)) h2
  rw [show q + 2 + c = q + 1 + c + 1 from by omega]
  exact this
theorem gr_Pa {q c : Nat} (h1 : K q = 1) (h : gr_P K V q c) : sk_f K n q = q + 2 + c := sk_I (gr_PI h1 h)
theorem gr_Pi {q c j : Nat} (h : gr_P K V q c) (hj : j ≤ c) : it_f (sk_f K n) j (q + 1) = q + 1 + j :=
  it_at (fun x hx => by have := h.2.1 x (by omega); omega)
theorem gr_PC {q c : Nat} (h : gr_P K V q c) : ls_C K (sk_f K n) (q + 1) c := by
  refine ⟨fun j hj => ?_, ?_⟩
  · rw [gr_Pi h (by omega)]
    have := h.2.1 j hj; omega
  · rw [gr_Pi h (Nat.le_refl _)]; exact h.2.2.1
/-- a bind -/
theorem gr_b1 {h st b : Nat} (hb : gr_BS K V (sk_f K n) h st b) : sk_f K n (b + 1) = b + 2 ∧ K (b + 2) ≠ 2 ∧ K (sk_f K n (b + 2)) = 2 := by
  obtain ⟨h1, h2, h3, h4, h5⟩ := hb
  have e : sk_f K n (b + 1) = b + 2 := sk_at (by omega)
  have t := (ls_C_t h2).2
  rw [e] at t
  have t2 := ls_C_t t
  exact ⟨e, t2.1, t2.2.2⟩
theorem gr_bI {h st b : Nat} (hb : gr_BS K V (sk_f K n) h st b) (hI : dp_I K (b + 2) (sk_f K n (b + 2))) : dp_I K b (sk_f K n (b + 2) + 1) := by
  have e := gr_b1 hb
  have h4 := hb.2.2.1
  exact dp_I_w hb.1 (dp_L_t (dp_I_L (dp_I_a (i := b + 1) (by omega) (by omega))) (dp_I_L hI)) e.2.2
theorem gr_ba {h st b : Nat} (hb : gr_BS K V (sk_f K n) h st b) (hI : dp_I K (b + 2) (sk_f K n (b + 2))) : sk_f K n b = sk_f K n (b + 2) + 1 := sk_I (gr_bI hb hI)
section
variable {E D : Nat → Prop}
/-- the binds of a LET: the list's end -/
theorem gr_LI {h st s c : Nat} (hb : ∀ j, j < c → gr_BS K V (sk_f K n) h st (it_f (sk_f K n) j s)) (hE : ∀ j, j < c → dp_I K (it_f (sk_f K n) j s + 2) (sk_f K n (it_f (sk_f K n) j s + 2))) (j : Nat) (hj : j < c) : dp_I K (it_f (sk_f K n) j s) (sk_f K n (it_f (sk_f K n) j s)) :=
  sk_IE (gr_bI (hb j hj) (hE j hj))
theorem gr_EI (hE : ∀ c, E c → dp_I K c (sk_f K n c)) (hD : ∀ c, D c → dp_I K c (sk_f K n c)) {i : Nat} (h : gr_EC K V (sk_f K n) E D i) : dp_I K i (sk_f K n i) := by
  obtain ⟨hs, he, hd⟩ := h
  rcases hs with z | z | z | ⟨h1, z⟩
  · exact sk_IE (dp_I_a (by omega) (by omega))
  · exact sk_IE (dp_I_a (by omega) (by omega))
  · exact sk_IE (dp_I_a (by omega) (by omega))
  · rcases z with ⟨k, l⟩ | ⟨k, l, k2, c, p⟩ | ⟨k, l, k2, c, c1, c4, lc, b⟩ | ⟨k, l⟩ | ⟨k, c, c4, l⟩
    · exact sk_IE (gr_end h1 (gr_kw (by omega)) l (fun j hj => hD _ (hd _ ⟨h1, k, (ls_CM l).mpr ⟨j, hj, rfl⟩⟩)))
    · refine sk_IE (gr_end h1 (gr_kw (by omega)) l (fun j hj => ?_))
      have e := gr_PI k2 p
      match j, hj with
      | 0, _ => exact sk_IE e
      | 1, _ => exact hE _ (he _ ⟨h1, Or.inr (Or.inr (Or.inl ⟨by omega, by omega, rfl⟩))⟩)
    · refine sk_IE (gr_end h1 (gr_kw (by omega)) l (fun j hj => ?_))
      have hb2 : ∀ j, j < c → dp_I K (it_f (sk_f K n) j (i + 3) + 2) (sk_f K n (it_f (sk_f K n) j (i + 3) + 2)) := fun j hj => hE _ (he _ ⟨h1, Or.inr (Or.inr (Or.inr ⟨k, _, (ls_CM lc).mpr ⟨j, hj, rfl⟩, rfl⟩))⟩)
      match j, hj with
      | 0, _ => exact sk_IE (gr_end (i := i + 2) k2 (dp_L_r _) lc (gr_LI b hb2))
      | 1, _ => exact hE _ (he _ ⟨h1, Or.inr (Or.inr (Or.inl ⟨by omega, by omega, rfl⟩))⟩)
    · exact sk_IE (gr_end h1 (gr_kw (by omega)) l (fun j hj => hE _ (he _ ⟨h1, Or.inl ⟨k, (ls_CM l).mpr ⟨j, hj, rfl⟩⟩⟩)))
    · exact sk_IE (gr_end h1 (dp_L_r _) l (fun j hj => hE _ (he _ ⟨h1, Or.inr (Or.inl ⟨k, (ls_CM l).mpr ⟨j, hj, rfl⟩⟩)⟩)))
theorem gr_DI (hD : ∀ c, D c → dp_I K c (sk_f K n c)) {i : Nat} (h : gr_DC K (sk_f K n) D i) : dp_I K i (sk_f K n i) := by
  obtain ⟨hs, hd⟩ := h
  rcases hs with z | z | ⟨h1, c, l⟩
  · exact sk_IE (dp_I_a (by omega) (by omega))
  · exact sk_IE (dp_I_a (by omega) (by omega))
  · exact sk_IE (gr_end h1 (dp_L_r _) l (fun j hj => hD _ (hd _ ⟨h1, (ls_CM l).mpr ⟨j, hj, rfl⟩⟩)))
end
theorem gr_XI : ∀ (k : Nat) (b : Bool) (i : Nat), gr_X K V (sk_f K n) k b i → dp_I K i (sk_f K n i)
  | 0, _, _, h => False.elim h
  | k + 1, true, i, h => gr_EI (fun c => gr_XI k true c) (fun c => gr_XI k false c) h
  | k + 1, false, i, h => gr_DI (fun c => gr_XI k false c) h
end
/-! the reference's goal machine, purely -/
def pm_C (K : Nat → Nat) (V : Nat → Int32) (a : Nat → Nat) (n : Nat) (E D N : Nat → Prop) : List (Nat × Nat × Nat) → Nat → Prop
  | [], p => p = n
  | (g, x, st) :: S, p =>
    (g = 1 ∧ E p ∧ pm_C K V a n E D N S (a p)) ∨
    (g = 2 ∧ D p ∧ pm_C K V a n E D N S (a p)) ∨
    (g = 3 ∧ ∃ c, ls_C K a p c ∧ (∀ j, j < c → D (it_f a j p)) ∧ pm_C K V a n E D N S (it_f a c p + 1)) ∨
    (g = 4 ∧ K p = 2 ∧ pm_C K V a n E D N S (p + 1)) ∨
    (g = 8 ∧ ∃ c, (c = 0 ∨ x + c ≤ 4) ∧ ls_C K a p c ∧ (∀ j, j < c → E (it_f a j p)) ∧ pm_C K V a n E D N S (it_f a c p)) ∨
    ((g = 5 ∨ g = 6) ∧ ∃ c, 0 < x + c ∧ (c = 0 ∨ x + c ≤ 4) ∧ ls_C K a p c ∧ (∀ j, j < c → gr_BS K V a (g + 3) st (it_f a j p) ∧ N (it_f a j p + 1) ∧ E (it_f a j p + 2)) ∧ pm_C K V a n E D N S (it_f a c p + 1)) ∨
    (g = 7 ∧ K p = 1 ∧ K (p + 1) = 7 ∧ E p ∧ pm_C K V a n E D N S (a p))
def pm_T (K : Nat → Nat) (V : Nat → Int32) (a : Nat → Nat) (p g x st p' : Nat) (new : List (Nat × Nat × Nat)) : Prop :=
  (g = 4 ∧ K p = 2 ∧ p' = p + 1 ∧ new = []) ∨
  (g = 3 ∧ K p = 2 ∧ p' = p + 1 ∧ new = []) ∨
  (g = 3 ∧ K p ≠ 2 ∧ p' = p ∧ new = [(2, 0, 0), (3, 0, 0)]) ∨
  (g = 2 ∧ K p = 1 ∧ p' = p + 1 ∧ new = [(3, 0, 0)]) ∨
  (g = 2 ∧ (K p = 3 ∨ K p = 5) ∧ p' = p + 1 ∧ new = []) ∨
  (g = 8 ∧ K p = 2 ∧ p' = p ∧ new = []) ∨
  (g = 8 ∧ K p ≠ 2 ∧ x < 4 ∧ p' = p ∧ new = [(1, 0, 0), (8, x + 1, 0)]) ∨
  ((g = 5 ∨ g = 6) ∧ K p = 2 ∧ 0 < x ∧ p' = p + 1 ∧ new = []) ∨
  ((g = 5 ∨ g = 6) ∧ K p = 1 ∧ x < 4 ∧ K (p + 1) = 4 ∧ ¬ gr_dup V a st (p + 1) ∧ p' = p + 2 ∧ new = [(if g = 5 then 1 else 7, 0, 0), (4, 0, 0), (g, x + 1, st)]) ∨
  ((g = 7 ∨ g = 1) ∧ K p = 1 ∧ K (p + 1) = 7 ∧ K (p + 2) = 1 ∧ ∃ c, gr_P K V (p + 2) c ∧ p' = p + 4 + c ∧ new = [(1, 0, 0), (4, 0, 0)]) ∨
  (g = 1 ∧ (K p = 3 ∨ K p = 4 ∨ K p = 5) ∧ p' = p + 1 ∧ new = []) ∨
  (g = 1 ∧ K p = 1 ∧ (K (p + 1) = 8 ∨ K (p + 1) = 9) ∧ K (p + 2) = 1 ∧ p' = p + 3 ∧ new = [(K (p + 1) - 3, 0, p + 2), (1, 0, 0), (4, 0, 0)]) ∨
  (g = 1 ∧ K p = 1 ∧ K (p + 1) < 6 ∧ p' = p + 1 ∧ new = [(1, 0, 0), (8, 0, 0), (4, 0, 0)]) ∨
  (g = 1 ∧ K p = 1 ∧ K (p + 1) = 6 ∧ p' = p + 2 ∧ new = [(2, 0, 0), (4, 0, 0)]) ∨
  (g = 1 ∧ K p = 1 ∧ 10 ≤ K (p + 1) ∧ p' = p + 2 ∧ new = List.replicate (gr_n (K (p + 1))) (1, 0, 0) ++ [(4, 0, 0)])
section
variable {K : Nat → Nat} {V : Nat → Int32} {n : Nat} {E D N : Nat → Prop}
theorem pm_C1 {x st : Nat} {S : List (Nat × Nat × Nat)} {p : Nat} : pm_C K V (sk_f K n) n E D N ((1, x, st) :: S) p ↔ E p ∧ pm_C K V (sk_f K n) n E D N S (sk_f K n p) := by simp [pm_C]
theorem pm_C2 {x st : Nat} {S : List (Nat × Nat × Nat)} {p : Nat} : pm_C K V (sk_f K n) n E D N ((2, x, st) :: S) p ↔ D p ∧ pm_C K V (sk_f K n) n E D N S (sk_f K n p) := by simp [pm_C]
theorem pm_C3 {x st : Nat} {S : List (Nat × Nat × Nat)} {p : Nat} : pm_C K V (sk_f K n) n E D N ((3, x, st) :: S) p ↔ ∃ c, ls_C K (sk_f K n) p c ∧ (∀ j, j < c → D (it_f (sk_f K n) j p)) ∧ pm_C K V (sk_f K n) n E D N S (it_f (sk_f K n) c p + 1) := by simp [pm_C]
theorem pm_C4 {x st : Nat} {S : List (Nat × Nat × Nat)} {p : Nat} : pm_C K V (sk_f K n) n E D N ((4, x, st) :: S) p ↔ K p = 2 ∧ pm_C K V (sk_f K n) n E D N S (p + 1) := by simp [pm_C]
theorem pm_C8 {x st : Nat} {S : List (Nat × Nat × Nat)} {p : Nat} : pm_C K V (sk_f K n) n E D N ((8, x, st) :: S) p ↔ ∃ c, (c = 0 ∨ x + c ≤ 4) ∧ ls_C K (sk_f K n) p c ∧ (∀ j, j < c → E (it_f (sk_f K n) j p)) ∧ pm_C K V (sk_f K n) n E D N S (it_f (sk_f K n) c p) := by simp [pm_C]
theorem pm_C56 {g x st : Nat} {S : List (Nat × Nat × Nat)} {p : Nat} (hg : g = 5 ∨ g = 6) : pm_C K V (sk_f K n) n E D N ((g, x, st) :: S) p ↔ ∃ c, 0 < x + c ∧ (c = 0 ∨ x + c ≤ 4) ∧ ls_C K (sk_f K n) p c ∧ (∀ j, j < c → gr_BS K V (sk_f K n) (g + 3) st (it_f (sk_f K n) j p) ∧ N (it_f (sk_f K n) j p + 1) ∧ E (it_f (sk_f K n) j p + 2)) ∧ pm_C K V (sk_f K n) n E D N S (it_f (sk_f K n) c p + 1) := by
  rcases hg with rfl | rfl <;> simp [pm_C]
theorem pm_C7 {x st : Nat} {S : List (Nat × Nat × Nat)} {p : Nat} : pm_C K V (sk_f K n) n E D N ((7, x, st) :: S) p ↔ K p = 1 ∧ K (p + 1) = 7 ∧ E p ∧ pm_C K V (sk_f K n) n E D N S (sk_f K n p) := by simp [pm_C]
theorem pm_Cr {S : List (Nat × Nat × Nat)} : ∀ {m p : Nat}, pm_C K V (sk_f K n) n E D N (List.replicate m (1, 0, 0) ++ S) p ↔ (∀ j, j < m → E (it_f (sk_f K n) j p)) ∧ pm_C K V (sk_f K n) n E D N S (it_f (sk_f K n) m p)
  | 0, p => by
    constructor
    · intro h; exact ⟨fun j hj => by omega, h⟩
    · intro h; exact h.2
  | m + 1, p => by
    show pm_C K V (sk_f K n) n E D N ((1, 0, 0) :: (List.replicate m (1, 0, 0) ++ S)) p ↔ _
    rw [pm_C1, pm_Cr]
    constructor
    · rintro ⟨h1, h2, h3⟩
      refine ⟨fun j hj => ?_, h3⟩
      cases j with
      | zero => exact h1
      | succ j => exact h2 j (by omega)
    · rintro ⟨h1, h2⟩
      exact ⟨h1 0 (by omega), fun j hj => h1 (j + 1) (by omega), h2⟩
theorem pm_Cm {E' D' : Nat → Prop} (hE : ∀ c, E c → E' c) (hD : ∀ c, D c → D' c) : ∀ (S : List (Nat × Nat × Nat)) (p : Nat), pm_C K V (sk_f K n) n E D N S p → pm_C K V (sk_f K n) n E' D' N S p
  | [], p, h => h
  | (g, x, st) :: S, p, h => by
    rcases h with ⟨e, h1, h2⟩ | ⟨e, h1, h2⟩ | ⟨e, c, h0, h1, h2⟩ | ⟨e, h1, h2⟩ | ⟨e, c, hx, h0, h1, h2⟩ | ⟨e, c, hx, hy, h0, h1, h2⟩ | ⟨e, h0, h3, h1, h2⟩
    · exact Or.inl ⟨e, hE _ h1, pm_Cm hE hD S _ h2⟩
    · exact Or.inr (Or.inl ⟨e, hD _ h1, pm_Cm hE hD S _ h2⟩)
    · exact Or.inr (Or.inr (Or.inl ⟨e, c, h0, fun j hj => hD _ (h1 j hj), pm_Cm hE hD S _ h2⟩))
    · exact Or.inr (Or.inr (Or.inr (Or.inl ⟨e, h1, pm_Cm hE hD S _ h2⟩)))
    · exact Or.inr (Or.inr (Or.inr (Or.inr (Or.inl ⟨e, c, hx, h0, fun j hj => hE _ (h1 j hj), pm_Cm hE hD S _ h2⟩))))
    · exact Or.inr (Or.inr (Or.inr (Or.inr (Or.inr (Or.inl ⟨e, c, hx, hy, h0, fun j hj => ⟨(h1 j hj).1, (h1 j hj).2.1, hE _ (h1 j hj).2.2⟩, pm_Cm hE hD S _ h2⟩)))))
    · exact Or.inr (Or.inr (Or.inr (Or.inr (Or.inr (Or.inr ⟨e, h0, h3, hE _ h1, pm_Cm hE hD S _ h2⟩)))))
end
end
section
section
variable {K : Nat → Nat} {V : Nat → Int32} {n : Nat} {E D N : Nat → Prop}
theorem pm_Flam (hE : ∀ p, E p → gr_EC K V (sk_f K n) E D p) (hEI : ∀ c, E c → dp_I K c (sk_f K n c)) {S : List (Nat × Nat × Nat)} {p : Nat} (h1 : K p = 1) (h7 : K (p + 1) = 7) (hp : E p) (h : pm_C K V (sk_f K n) n E D N S (sk_f K n p)) :
    K (p + 2) = 1 ∧ ∃ c, gr_P K V (p + 2) c ∧ pm_C K V (sk_f K n) n E D N ([(1, 0, 0), (4, 0, 0)] ++ S) (p + 4 + c) := by
  obtain ⟨hs, he, hd⟩ := hE p hp
  rcases hs with z | z | z | ⟨_, z⟩
  · omega
  · omega
  · omega
  · rcases z with ⟨k, l⟩ | ⟨k, l, k2, c, q⟩ | ⟨k, l, k2, c, c1, c4, lc, b⟩ | ⟨k, l⟩ | ⟨k, c, c4, l⟩
    · omega
    · refine ⟨k2, c, q, ?_⟩
      have e : sk_f K n (p + 2) = p + 4 + c := (gr_Pa k2 q).trans (by omega)
      have hb : E (p + 4 + c) := by rw [← e]; exact he _ ⟨h1, Or.inr (Or.inr (Or.inl ⟨by omega, by omega, rfl⟩))⟩
      have t := (ls_C_t l).2
      rw [e] at t
      have t2 := (ls_C_t t).2
      show pm_C K V (sk_f K n) n E D N ((1, 0, 0) :: (4, 0, 0) :: S) (p + 4 + c)
      rw [pm_C1, pm_C4]
      refine ⟨hb, t2.2, ?_⟩
      have ea : sk_f K n p = sk_f K n (p + 4 + c) + 1 := sk_I (dp_I_w h1 (dp_L_t (gr_kw (by omega)) (dp_L_t (dp_I_L (gr_PI k2 q)) (by rw [show p + 2 + 2 + c = p + 4 + c from by omega]; exact dp_I_L (hEI _ hb)))) t2.2)
      rw [← ea]; exact h
    · omega
    · omega
    · omega
theorem pm_Flet (hE : ∀ p, E p → gr_EC K V (sk_f K n) E D p) (hN : ∀ p, E p → ∀ c, gr_N K (sk_f K n) p c → N c) (hEI : ∀ c, E c → dp_I K c (sk_f K n c)) {S : List (Nat × Nat × Nat)} {p : Nat} (h1 : K p = 1) (h8 : K (p + 1) = 8 ∨ K (p + 1) = 9) (hp : E p) (h : pm_C K V (sk_f K n) n E D N S (sk_f K n p)) :
    K (p + 2) = 1 ∧ pm_C K V (sk_f K n) n E D N ((K (p + 1) - 3, 0, p + 2) :: (1, 0, 0) :: (4, 0, 0) :: S) (p + 3) := by
  obtain ⟨hs, he, hd⟩ := hE p hp
  rcases hs with z | z | z | ⟨_, z⟩
  · omega
  · omega
  · omega
  · rcases z with ⟨k, l⟩ | ⟨k, l, k2, c, q⟩ | ⟨k, l, k2, c, c1, c4, lc, b⟩ | ⟨k, l⟩ | ⟨k, c, c4, l⟩
    · omega
    · omega
    · refine ⟨k2, ?_⟩
      have hb2 : ∀ j, j < c → E (it_f (sk_f K n) j (p + 3) + 2) := fun j hj => he _ ⟨h1, Or.inr (Or.inr (Or.inr ⟨k, _, (ls_CM lc).mpr ⟨j, hj, rfl⟩, rfl⟩))⟩
      have hI := gr_LI b (fun j hj => hEI _ (hb2 j hj))
      have eI := gr_end (i := p + 2) k2 (dp_L_r _) lc hI
      have e := sk_I (n := n) eI
      have hb : E (sk_f K n (p + 2)) := he _ ⟨h1, Or.inr (Or.inr (Or.inl ⟨by omega, by omega, rfl⟩))⟩
      have t2 := (ls_C_t (ls_C_t l).2).2
      rw [pm_C56 (by omega)]
      refine ⟨c, by omega, by omega, lc, fun j hj => ⟨?_, hN p hp _ ⟨h1, Or.inr ⟨k, _, (ls_CM lc).mpr ⟨j, hj, rfl⟩, rfl⟩⟩, hb2 j hj⟩, ?_⟩
      · rw [show K (p + 1) - 3 + 3 = K (p + 1) from by omega]; exact b j hj
      · rw [← e, pm_C1, pm_C4]
        refine ⟨hb, t2.2, ?_⟩
        have ea : sk_f K n p = sk_f K n (sk_f K n (p + 2)) + 1 := sk_I (dp_I_w h1 (dp_L_t (gr_kw (by omega)) (dp_L_t (dp_I_L (sk_IE eI)) (dp_I_L (hEI _ hb)))) t2.2)
        rw [← ea]; exact h
    · omega
    · omega
theorem pm_F (hE : ∀ p, E p → gr_EC K V (sk_f K n) E D p) (hN : ∀ p, E p → ∀ c, gr_N K (sk_f K n) p c → N c) (hD : ∀ p, D p → gr_DC K (sk_f K n) D p) (hEI : ∀ c, E c → dp_I K c (sk_f K n c)) (hDI : ∀ c, D c → dp_I K c (sk_f K n c))
    {g x st : Nat} {S : List (Nat × Nat × Nat)} {p : Nat} (h : pm_C K V (sk_f K n) n E D N ((g, x, st) :: S) p) :
    K p ≠ 0 ∧ ∃ p' new, pm_T K V (sk_f K n) p g x st p' new ∧ pm_C K V (sk_f K n) n E D N (new ++ S) p' := by
  rcases h with ⟨rfl, h1, h2⟩ | ⟨rfl, h1, h2⟩ | ⟨rfl, c, h0, h1, h2⟩ | ⟨rfl, h1, h2⟩ | ⟨rfl, c, hx, h0, h1, h2⟩ | ⟨e, c, hx, hy, h0, h1, h2⟩ | ⟨rfl, h0, h3, h1, h2⟩
  · have hh := hE p h1
    obtain ⟨hs, he, hd⟩ := hh
    have atom : (K p = 3 ∨ K p = 4 ∨ K p = 5) → K p ≠ 0 ∧ ∃ p' new, pm_T K V (sk_f K n) p 1 x st p' new ∧ pm_C K V (sk_f K n) n E D N (new ++ S) p' := by
      intro z
      refine ⟨by omega, p + 1, [], ?_, ?_⟩
      · simp [pm_T, z]
      · rw [← sk_at (K := K) (n := n) (show K p ≠ 1 by omega)]; exact h2
    rcases hs with z | z | z | ⟨k1, z⟩
    · exact atom (by omega)
    · exact atom (by omega)
    · exact atom (by omega)
    · refine ⟨by omega, ?_⟩
      rcases z with ⟨k, l⟩ | ⟨k, l, k2, c, q⟩ | ⟨k, l, k2, c, c1, c4, lc, b⟩ | ⟨k, l⟩ | ⟨k, c, c4, l⟩
      · have t := ls_C_t l
        have hb : D (p + 2) := hd _ ⟨k1, k, ls_M_0 t.1⟩
        refine ⟨p + 2, [(2, 0, 0), (4, 0, 0)], by simp [pm_T, k1, k], ?_⟩
        show pm_C K V (sk_f K n) n E D N ((2, 0, 0) :: (4, 0, 0) :: S) (p + 2)
        rw [pm_C2, pm_C4]
        refine ⟨hb, t.2.2, ?_⟩
        have ea : sk_f K n p = sk_f K n (p + 2) + 1 := sk_I (dp_I_w k1 (dp_L_t (gr_kw (by omega)) (dp_I_L (hDI _ hb))) t.2.2)
        rw [← ea]; exact h2
      · obtain ⟨_, c, q, w⟩ := pm_Flam hE hEI k1 k h1 h2
        exact ⟨p + 4 + c, [(1, 0, 0), (4, 0, 0)], Or.inr (Or.inr (Or.inr (Or.inr (Or.inr (Or.inr (Or.inr (Or.inr (Or.inr (Or.inl ⟨Or.inr rfl, k1, k, k2, c, q, rfl, rfl⟩))))))))), w⟩
      · obtain ⟨_, w⟩ := pm_Flet hE hN hEI k1 k h1 h2
        refine ⟨p + 3, [(K (p + 1) - 3, 0, p + 2), (1, 0, 0), (4, 0, 0)], ?_, w⟩
        unfold pm_T
        exact Or.inr (Or.inr (Or.inr (Or.inr (Or.inr (Or.inr (Or.inr (Or.inr (Or.inr (Or.inr (Or.inr (Or.inl ⟨rfl, k1, k, k2, rfl, rfl⟩)))))))))))
      · refine ⟨p + 2, List.replicate (gr_n (K (p + 1))) (1, 0, 0) ++ [(4, 0, 0)], ?_, ?_⟩
        · unfold pm_T
          exact Or.inr (Or.inr (Or.inr (Or.inr (Or.inr (Or.inr (Or.inr (Or.inr (Or.inr (Or.inr (Or.inr (Or.inr (Or.inr (Or.inr ⟨rfl, k1, k, rfl, rfl⟩)))))))))))))
        · rw [List.append_assoc, pm_Cr]
          have hc : ∀ j, j < gr_n (K (p + 1)) → E (it_f (sk_f K n) j (p + 2)) := fun j hj => he _ ⟨k1, Or.inl ⟨k, (ls_CM l).mpr ⟨j, hj, rfl⟩⟩⟩
          refine ⟨hc, ?_⟩
          show pm_C K V (sk_f K n) n E D N ((4, 0, 0) :: S) _
          rw [pm_C4]
          refine ⟨l.2, ?_⟩
          rw [← sk_I (n := n) (gr_end k1 (gr_kw (by omega)) l (fun j hj => hEI _ (hc j hj)))]
          exact h2
      · refine ⟨p + 1, [(1, 0, 0), (8, 0, 0), (4, 0, 0)], by simp [pm_T, k1, k], ?_⟩
        have hc : ∀ j, j < c + 1 → E (it_f (sk_f K n) j (p + 1)) := fun j hj => he _ ⟨k1, Or.inr (Or.inl ⟨k, (ls_CM l).mpr ⟨j, hj, rfl⟩⟩)⟩
        show pm_C K V (sk_f K n) n E D N ((1, 0, 0) :: (8, 0, 0) :: (4, 0, 0) :: S) (p + 1)
        rw [pm_C1, pm_C8]
        refine ⟨hc 0 (by omega), c, by omega, (ls_C_t l).2, fun j hj => hc (j + 1) (by omega), ?_⟩
        rw [pm_C4]
        refine ⟨l.2, ?_⟩
        have ea := sk_I (n := n) (gr_end k1 (dp_L_r _) l (fun j hj => hEI _ (hc j hj)))
        show pm_C K V (sk_f K n) n E D N S (it_f (sk_f K n) (c + 1) (p + 1) + 1)
        rw [← ea]
        exact h2
  · obtain ⟨hs, hd⟩ := hD p h1
    rcases hs with z | z | ⟨k1, c, l⟩
    · refine ⟨by omega, p + 1, [], by simp [pm_T, z], ?_⟩
      rw [← sk_at (K := K) (n := n) (show K p ≠ 1 by omega)]; exact h2
    · refine ⟨by omega, p + 1, [], by simp [pm_T, z], ?_⟩
      rw [← sk_at (K := K) (n := n) (show K p ≠ 1 by omega)]; exact h2
    · refine ⟨by omega, p + 1, [(3, 0, 0)], by simp [pm_T, k1], ?_⟩
      have hc : ∀ j, j < c → D (it_f (sk_f K n) j (p + 1)) := fun j hj => hd _ ⟨k1, (ls_CM l).mpr ⟨j, hj, rfl⟩⟩
      show pm_C K V (sk_f K n) n E D N ((3, 0, 0) :: S) (p + 1)
      rw [pm_C3]
      refine ⟨c, l, hc, ?_⟩
      rw [← sk_I (n := n) (gr_end k1 (dp_L_r _) l (fun j hj => hDI _ (hc j hj)))]
      exact h2
  · cases c with
    | zero =>
      have z : K p = 2 := h0.2
      exact ⟨by omega, p + 1, [], by simp [pm_T, z], h2⟩
    | succ c =>
      have t := ls_C_t h0
      have d := h1 0 (by omega)
      have d2 := (hD _ d).1
      have z : K p ≠ 0 := by
        change gr_DS K (sk_f K n) p at d2
        rcases d2 with z | z | ⟨z, _⟩ <;> omega
      refine ⟨z, p, [(2, 0, 0), (3, 0, 0)], by simp [pm_T, t.1], ?_⟩
      show pm_C K V (sk_f K n) n E D N ((2, 0, 0) :: (3, 0, 0) :: S) p
      rw [pm_C2, pm_C3]
      exact ⟨d, c, t.2, fun j hj => h1 (j + 1) (by omega), h2⟩
  · exact ⟨by omega, p + 1, [], by simp [pm_T, h1], h2⟩
  · cases c with
    | zero =>
      have z : K p = 2 := h0.2
      exact ⟨by omega, p, [], by simp [pm_T, z], h2⟩
    | succ c =>
      have t := ls_C_t h0
      have d := h1 0 (by omega)
      have d2 := (hE _ d).1
      have z : K p ≠ 0 := by
        change gr_SH K V (sk_f K n) p at d2
        rcases d2 with z | z | z | ⟨z, _⟩ <;> omega
      have x4 : x < 4 := by omega
      refine ⟨z, p, [(1, 0, 0), (8, x + 1, 0)], by simp [pm_T, t.1, x4], ?_⟩
      show pm_C K V (sk_f K n) n E D N ((1, 0, 0) :: (8, x + 1, 0) :: S) p
      rw [pm_C1, pm_C8]
      exact ⟨d, c, by omega, t.2, fun j hj => h1 (j + 1) (by omega), h2⟩
  · cases c with
    | zero =>
      have z : K p = 2 := h0.2
      have x0 : 0 < x := by omega
      exact ⟨by omega, p + 1, [], by simp [pm_T, z, e, x0], h2⟩
    | succ c =>
      have t := ls_C_t h0
      obtain ⟨b, _, d⟩ := h1 0 (by omega)
      change gr_BS K V (sk_f K n) (g + 3) st p at b
      change E (p + 2) at d
      have b1 := gr_b1 b
      have ba := gr_ba b (hEI _ d)
      have bb := b
      obtain ⟨y1, y2, y3, y4, y5⟩ := bb
      have x4 : x < 4 := by omega
      refine ⟨by omega, p + 2, [(if g = 5 then 1 else 7, 0, 0), (4, 0, 0), (g, x + 1, st)], ?_, ?_⟩
      · unfold pm_T
        exact Or.inr (Or.inr (Or.inr (Or.inr (Or.inr (Or.inr (Or.inr (Or.inr (Or.inl ⟨e, y1, x4, y3, y4, rfl, rfl⟩))))))))
      · have rest : pm_C K V (sk_f K n) n E D N ((4, 0, 0) :: (g, x + 1, st) :: S) (sk_f K n (p + 2)) := by
          rw [pm_C4, pm_C56 e]
          refine ⟨b1.2.2, c, by omega, by omega, ?_, fun j hj => ?_, ?_⟩
          · rw [← ba]; exact t.2
          · rw [← ba]; exact h1 (j + 1) (by omega)
          · rw [← ba]; exact h2
        rcases e with rfl | rfl
        · exact pm_C1.mpr ⟨d, rest⟩
        · exact pm_C7.mpr ⟨(y5 rfl).1, (y5 rfl).2, d, rest⟩
  · obtain ⟨k2, c, q, w⟩ := pm_Flam hE hEI h0 h3 h1 h2
    exact ⟨by omega, p + 4 + c, [(1, 0, 0), (4, 0, 0)], Or.inr (Or.inr (Or.inr (Or.inr (Or.inr (Or.inr (Or.inr (Or.inr (Or.inr (Or.inl ⟨Or.inl rfl, h0, h3, k2, c, q, rfl, rfl⟩))))))))), w⟩
end
end
section
section
variable {K : Nat → Nat} {V : Nat → Int32} {n : Nat} {E D E' D' N : Nat → Prop}
theorem pm_B (hNt : ∀ c, N c) (hE : ∀ p, gr_EC K V (sk_f K n) E D p → E' p) (hD : ∀ p, gr_DC K (sk_f K n) D p → D' p) (hm : ∀ c, E c → E' c) (hn : ∀ c, D c → D' c) (hEI : ∀ c, E c → dp_I K c (sk_f K n c)) (hDI : ∀ c, D c → dp_I K c (sk_f K n c))
    {g x st : Nat} {S : List (Nat × Nat × Nat)} {p p' : Nat} {new : List (Nat × Nat × Nat)} (t : pm_T K V (sk_f K n) p g x st p' new) (h : pm_C K V (sk_f K n) n E D N (new ++ S) p') :
    pm_C K V (sk_f K n) n E' D' N ((g, x, st) :: S) p := by
  have lam : K p = 1 → K (p + 1) = 7 → K (p + 2) = 1 → ∀ c, gr_P K V (p + 2) c → pm_C K V (sk_f K n) n E D N ((1, 0, 0) :: (4, 0, 0) :: S) (p + 4 + c) → E' p ∧ pm_C K V (sk_f K n) n E' D' N S (sk_f K n p) := by
    intro k1 k7 k2 c q w
    rw [pm_C1, pm_C4] at w
    obtain ⟨w1, w2, w3⟩ := w
    have e : sk_f K n (p + 2) = p + 4 + c := (gr_Pa k2 q).trans (by omega)
    have n2 := dp_I_n2 (hEI _ w1)
    constructor
    · refine hE p ⟨Or.inr (Or.inr (Or.inr ⟨k1, Or.inr (Or.inl ⟨k7, ?_, k2, c, q⟩)⟩)), fun y hy => ?_, fun y hy => ?_⟩
      · refine ls_C_s (by omega) ?_
        rw [e]
        exact ls_C_s n2 (ls_C_0 w2)
      · obtain ⟨_, hy⟩ := hy
        rcases hy with ⟨z, _⟩ | ⟨z, _⟩ | ⟨_, _, z⟩ | ⟨z, _⟩
        · omega
        · omega
        · rw [z, e]; exact w1
        · omega
      · have := hy.2.1; omega
    · have ea : sk_f K n p = sk_f K n (p + 4 + c) + 1 := sk_I (dp_I_w k1 (dp_L_t (gr_kw (by omega)) (dp_L_t (dp_I_L (gr_PI k2 q)) (by rw [show p + 2 + 2 + c = p + 4 + c from by omega]; exact dp_I_L (hEI _ w1)))) w2)
      rw [ea]; exact pm_Cm hm hn S _ w3
  rcases t with ⟨rfl, z, rfl, rfl⟩ | ⟨rfl, z, rfl, rfl⟩ | ⟨rfl, z, rfl, rfl⟩ | ⟨rfl, z, rfl, rfl⟩ | ⟨rfl, z, rfl, rfl⟩ | ⟨rfl, z, rfl, rfl⟩ | ⟨rfl, z, x4, rfl, rfl⟩ | ⟨hg, z, x0, rfl, rfl⟩ | ⟨hg, z, x4, z1, nd, rfl, rfl⟩ | ⟨hg, k1, k7, k2, c, q, rfl, rfl⟩ | ⟨rfl, z, rfl, rfl⟩ | ⟨rfl, k1, k, k2, rfl, rfl⟩ | ⟨rfl, k1, k, rfl, rfl⟩ | ⟨rfl, k1, k, rfl, rfl⟩ | ⟨rfl, k1, k, rfl, rfl⟩
  · exact pm_C4.mpr ⟨z, pm_Cm hm hn S _ h⟩
  · exact pm_C3.mpr ⟨0, ls_C_0 z, fun j hj => by omega, pm_Cm hm hn S _ h⟩
  · replace h := pm_C2.mp h
    obtain ⟨h1, h2⟩ := h
    obtain ⟨c, l, hd, h3⟩ := pm_C3.mp h2
    refine pm_C3.mpr ⟨c + 1, ls_C_s z l, fun j hj => ?_, pm_Cm hm hn S _ h3⟩
    cases j with
    | zero => exact hn _ h1
    | succ j => exact hn _ (hd j (by omega))
  · obtain ⟨c, l, hd, h3⟩ := pm_C3.mp h
    refine pm_C2.mpr ⟨hD p ⟨Or.inr (Or.inr ⟨z, c, l⟩), fun y hy => ?_⟩, ?_⟩
    · obtain ⟨j, hj, e⟩ := (ls_CM l).mp hy.2
      rw [e]; exact hd j hj
    · rw [sk_I (n := n) (gr_end z (dp_L_r _) l (fun j hj => hDI _ (hd j hj)))]
      exact pm_Cm hm hn S _ h3
  · refine pm_C2.mpr ⟨hD p ⟨by unfold gr_DS; omega, fun y hy => ?_⟩, ?_⟩
    · have := hy.1; omega
    · rw [sk_at (K := K) (n := n) (by omega)]; exact pm_Cm hm hn S _ h
  · exact pm_C8.mpr ⟨0, Or.inl rfl, ls_C_0 z, fun j hj => by omega, pm_Cm hm hn S _ h⟩
  · replace h := pm_C1.mp h
    obtain ⟨h1, h2⟩ := h
    obtain ⟨c, hx, l, hd, h3⟩ := pm_C8.mp h2
    refine pm_C8.mpr ⟨c + 1, by omega, ls_C_s z l, fun j hj => ?_, pm_Cm hm hn S _ h3⟩
    cases j with
    | zero => exact hm _ h1
    | succ j => exact hm _ (hd j (by omega))
  · exact (pm_C56 hg).mpr ⟨0, by omega, Or.inl rfl, ls_C_0 z, fun j hj => by omega, pm_Cm hm hn S _ h⟩
  · have hh : E (p + 2) ∧ (g = 6 → K (p + 2) = 1 ∧ K (p + 3) = 7) ∧ pm_C K V (sk_f K n) n E D N ((4, 0, 0) :: (g, x + 1, st) :: S) (sk_f K n (p + 2)) := by
      rcases hg with rfl | rfl
      · have w := pm_C1.mp h
        exact ⟨w.1, fun y => by omega, w.2⟩
      · have w := pm_C7.mp h
        exact ⟨w.2.2.1, fun y => ⟨w.1, w.2.1⟩, w.2.2.2⟩
    obtain ⟨h1, h6, h2⟩ := hh
    obtain ⟨h3, h4⟩ := pm_C4.mp h2
    obtain ⟨c, hx, hy, l, hd, h5⟩ := (pm_C56 hg).mp h4
    have e1 : sk_f K n (p + 1) = p + 2 := sk_at (by omega)
    have b : gr_BS K V (sk_f K n) (g + 3) st p := by
      refine ⟨z, ls_C_s (by omega) ?_, z1, nd, fun y => h6 (by omega)⟩
      rw [e1]
      exact ls_C_s (dp_I_n2 (hEI _ h1)) (ls_C_0 h3)
    have ba := gr_ba b (hEI _ h1)
    refine (pm_C56 hg).mpr ⟨c + 1, by omega, by omega, ls_C_s (by omega) (by rw [ba]; exact l), fun j hj => ?_, ?_⟩
    · cases j with
      | zero => exact ⟨b, hNt _, hm _ h1⟩
      | succ j =>
        show gr_BS K V (sk_f K n) (g + 3) st (it_f (sk_f K n) j (sk_f K n p)) ∧ N (it_f (sk_f K n) j (sk_f K n p) + 1) ∧ E' (it_f (sk_f K n) j (sk_f K n p) + 2)
        rw [ba]
        exact ⟨(hd j (by omega)).1, hNt _, hm _ (hd j (by omega)).2.2⟩
    · show pm_C K V (sk_f K n) n E' D' N S (it_f (sk_f K n) c (sk_f K n p) + 1)
      rw [ba]; exact pm_Cm hm hn S _ h5
  · have w := lam k1 k7 k2 c q h
    rcases hg with rfl | rfl
    · exact pm_C7.mpr ⟨k1, k7, w.1, w.2⟩
    · exact pm_C1.mpr ⟨w.1, w.2⟩
  · refine pm_C1.mpr ⟨hE p ⟨by unfold gr_SH; omega, fun y hy => ?_, fun y hy => ?_⟩, ?_⟩
    · have := hy.1; omega
    · have := hy.1; omega
    · rw [sk_at (K := K) (n := n) (by omega)]; exact pm_Cm hm hn S _ h
  · replace h : pm_C K V (sk_f K n) n E D N ((K (p + 1) - 3, 0, p + 2) :: (1, 0, 0) :: (4, 0, 0) :: S) (p + 3) := h
    obtain ⟨c, hx, hy, l, hd, h5⟩ := (pm_C56 (by omega)).mp h
    rw [pm_C1, pm_C4] at h5
    obtain ⟨h6, h7, h8⟩ := h5
    have b : ∀ j, j < c → gr_BS K V (sk_f K n) (K (p + 1)) (p + 2) (it_f (sk_f K n) j (p + 3)) := fun j hj => by
      have := (hd j hj).1
      rw [show K (p + 1) - 3 + 3 = K (p + 1) from by omega] at this
      exact this
    have hI := gr_LI b (fun j hj => hEI _ (hd j hj).2.2)
    have eI := gr_end (i := p + 2) k2 (dp_L_r _) l hI
    have e := sk_I (n := n) eI
    rw [← e] at h6 h7 h8
    refine pm_C1.mpr ⟨hE p ⟨Or.inr (Or.inr (Or.inr ⟨k1, Or.inr (Or.inr (Or.inl ⟨k, ?_, k2, c, by omega, by omega, l, b⟩))⟩)), fun y hy => ?_, fun y hy => ?_⟩, ?_⟩
    · exact ls_C_s (by omega) (ls_C_s (dp_I_n2 (hEI _ h6)) (ls_C_0 h7))
    · obtain ⟨_, hy⟩ := hy
      rcases hy with ⟨z, _⟩ | ⟨z, _⟩ | ⟨_, _, z⟩ | ⟨_, bb, z, z2⟩
      · omega
      · omega
      · rw [z]; exact h6
      · obtain ⟨j, hj, ej⟩ := (ls_CM l).mp z
        rw [z2, ej]; exact (hd j hj).2.2
    · have := hy.2.1; omega
    · rw [sk_I (n := n) (dp_I_w k1 (dp_L_t (gr_kw (by omega)) (dp_L_t (dp_I_L (sk_IE eI)) (dp_I_L (hEI _ h6)))) h7)]
      exact pm_Cm hm hn S _ h8
  · replace h : pm_C K V (sk_f K n) n E D N ((1, 0, 0) :: (8, 0, 0) :: (4, 0, 0) :: S) (p + 1) := h
    rw [pm_C1] at h
    obtain ⟨h1, h2⟩ := h
    obtain ⟨c, hx, l, hd, h3⟩ := pm_C8.mp h2
    rw [pm_C4] at h3
    have l2 : ls_C K (sk_f K n) (p + 1) (c + 1) := ls_C_s (dp_I_n2 (hEI _ h1)) l
    have hc : ∀ j, j < c + 1 → E (it_f (sk_f K n) j (p + 1)) := fun j hj => by
      cases j with
      | zero => exact h1
      | succ j => exact hd j (by omega)
    refine pm_C1.mpr ⟨hE p ⟨Or.inr (Or.inr (Or.inr ⟨k1, Or.inr (Or.inr (Or.inr (Or.inr ⟨k, c, by omega, l2⟩)))⟩)), fun y hy => ?_, fun y hy => ?_⟩, ?_⟩
    · obtain ⟨_, hy⟩ := hy
      rcases hy with ⟨z, _⟩ | ⟨_, z⟩ | ⟨z, _, _⟩ | ⟨z, _⟩
      · omega
      · obtain ⟨j, hj, ej⟩ := (ls_CM l2).mp z
        rw [ej]; exact hc j hj
      · omega
      · omega
    · have := hy.2.1; omega
    · rw [sk_I (n := n) (gr_end k1 (dp_L_r _) l2 (fun j hj => hEI _ (hc j hj)))]
      exact pm_Cm hm hn S _ h3.2
  · replace h : pm_C K V (sk_f K n) n E D N ((2, 0, 0) :: (4, 0, 0) :: S) (p + 2) := h
    rw [pm_C2, pm_C4] at h
    obtain ⟨h1, h2, h3⟩ := h
    have l : ls_C K (sk_f K n) (p + 2) 1 := ls_C_s (dp_I_n2 (hDI _ h1)) (ls_C_0 h2)
    refine pm_C1.mpr ⟨hE p ⟨Or.inr (Or.inr (Or.inr ⟨k1, Or.inl ⟨k, l⟩⟩)), fun y hy => ?_, fun y hy => ?_⟩, ?_⟩
    · obtain ⟨_, hy⟩ := hy
      rcases hy with ⟨z, _⟩ | ⟨z, _⟩ | ⟨z, _, _⟩ | ⟨z, _⟩ <;> omega
    · obtain ⟨j, hj, ej⟩ := (ls_CM l).mp hy.2.2
      have : j = 0 := by omega
      subst this
      rw [ej]; exact h1
    · rw [sk_I (n := n) (dp_I_w k1 (dp_L_t (gr_kw (by omega)) (dp_I_L (hDI _ h1))) h2)]
      exact pm_Cm hm hn S _ h3
  · rw [List.append_assoc] at h
    obtain ⟨h1, h2⟩ := pm_Cr.mp h
    replace h2 := pm_C4.mp h2
    have l : ls_C K (sk_f K n) (p + 2) (gr_n (K (p + 1))) := ⟨fun j hj => dp_I_n2 (hEI _ (h1 j hj)), h2.1⟩
    refine pm_C1.mpr ⟨hE p ⟨Or.inr (Or.inr (Or.inr ⟨k1, Or.inr (Or.inr (Or.inr (Or.inl ⟨k, l⟩)))⟩)), fun y hy => ?_, fun y hy => ?_⟩, ?_⟩
    · obtain ⟨_, hy⟩ := hy
      rcases hy with ⟨_, z⟩ | ⟨z, _⟩ | ⟨_, z, _⟩ | ⟨z, _⟩
      · obtain ⟨j, hj, ej⟩ := (ls_CM l).mp z
        rw [ej]; exact h1 j hj
      · omega
      · omega
      · omega
    · have := hy.2.1; omega
    · rw [sk_I (n := n) (gr_end k1 (gr_kw (by omega)) l (fun j hj => hEI _ (h1 j hj)))]
      exact pm_Cm hm hn S _ h2.2
end
end
section
/-! the component's walk of roles, purely -/
section
variable {K : Nat → Nat} {V : Nat → Int32} {n : Nat}
theorem dp_cst (hn : ∀ i, n ≤ i → K i = 0) : ∀ d, dp_d K (n + d) = dp_d K n
  | 0 => rfl
  | d + 1 => by
    have h := hn (n + d) (by omega)
    rw [show n + (d + 1) = n + d + 1 from rfl, dp_0 (by omega) (by omega)]
    exact dp_cst hn d
theorem dp_le (hn : ∀ i, n ≤ i → K i = 0) {i j : Nat} (h : dp_I K i j) (hi : i < n) : j ≤ n := by
  rcases Nat.lt_or_ge n j with z | z
  · have h1 := h.2.2 n hi z
    have h2 := dp_cst hn (j - n)
    rw [show n + (j - n) = j from by omega, h.2.1] at h2
    omega
  · exact z
/-- a later place of no greater depth lies behind the item -/
theorem dp_aft {c c' j : Nat} (h : dp_I K c j) (hd : dp_d K c' ≤ dp_d K c) (hc : c < c') : j ≤ c' := by
  rcases Nat.lt_or_ge c' j with z | z
  · have := h.2.2 c' hc z; omega
  · exact z
theorem ls_Min {i s p : Nat} (hI : dp_I K i (sk_f K n i)) (h1 : K i = 1) (hL : dp_L K (i + 1) s) (hs : s < sk_f K n i) (hM : ls_M K (sk_f K n) s p) :
    s ≤ p ∧ dp_I K p (sk_f K n p) ∧ sk_f K n p < sk_f K n i ∧ dp_d K p = dp_d K i + 1 := by
  obtain ⟨c, lc, _, _, hx⟩ := ls_ex (n := n) hI h1 _ s (Nat.le_refl _) hL hs
  obtain ⟨j, hj, e⟩ := (ls_CM lc).mp hM
  have hl := ls_L (K := K) (a := sk_f K n) (s := s) (c := j) (fun x hx' => hx x (by omega))
  have d1 := dp_1 h1
  have hpI := hx j hj
  rw [← e] at hl hpI
  have l1 := hl.1
  have l2 := hl.2.1
  have l3 := hL.2.1
  have l4 := hL.1
  refine ⟨l1, hpI, ?_, by omega⟩
  -- the item ends inside
  have hpi : i < p := by omega
  have hpn : p < sk_f K n i := by
    rcases Nat.lt_or_ge p (sk_f K n i) with z | z
    · exact z
    · have q := dp_L_t hL hl
      have := q.2.2 (sk_f K n i) (by have := hI.1; have := dp_I_1 hI h1; omega) z
      have := hI.2.1
      omega
  exact dp_nest hI hpi hpn hpI
theorem gr_FSof {i : Nat} (h : gr_SH K V (sk_f K n) i) (h1 : K i = 1) : gr_FS K V (sk_f K n) i (K (i + 1)) := by
  rcases h with z | z | z | z
  · omega
  · omega
  · omega
  · exact z.2
/-- the parts of a form with a keyword lie behind it -/
theorem gr_s2 {i : Nat} (hI : dp_I K i (sk_f K n i)) (h1 : K i = 1) (h6 : 6 ≤ K (i + 1)) : i + 2 < sk_f K n i ∧ dp_L K (i + 1) (i + 2) := by
  have a := dp_I_1 hI h1
  have b := gr_kw h6
  refine ⟨?_, b⟩
  rcases Nat.lt_or_ge (i + 2) (sk_f K n i) with z | z
  · exact z
  · have e : sk_f K n i = i + 2 := by omega
    have d1 := dp_1 h1
    have := b.2.1
    have := hI.2.1
    rw [e] at this
    omega
def gr_Ch (K a : Nat → Nat) (i c : Nat) : Prop := gr_E K a i c ∨ gr_D K a i c ∨ gr_N K a i c
/-- the shape of a binding form -/
theorem gr_bind {i : Nat} (hI : dp_I K i (sk_f K n i)) (h1 : K i = 1) (h7 : 7 ≤ K (i + 1)) (h9 : K (i + 1) ≤ 9) (hS : gr_SH K V (sk_f K n) i) :
    K (i + 2) = 1 ∧ dp_I K (i + 2) (sk_f K n (i + 2)) ∧ dp_I K (sk_f K n (i + 2)) (sk_f K n (sk_f K n (i + 2))) ∧ sk_f K n (sk_f K n (i + 2)) < sk_f K n i ∧ dp_d K (sk_f K n (i + 2)) = dp_d K i + 1 := by
  have s2 := gr_s2 hI h1 (by omega)
  have key : K (i + 2) = 1 ∧ ls_C K (sk_f K n) (i + 2) 2 := by
    rcases gr_FSof hS h1 with ⟨k, l⟩ | ⟨k, l, k2, c, q⟩ | ⟨k, l, k2, c, c1, c4, lc, b⟩ | ⟨k, l⟩ | ⟨k, c, c4, l⟩
    · omega
    · exact ⟨k2, l⟩
    · exact ⟨k2, l⟩
    · omega
    · omega
  have m0 : ls_M K (sk_f K n) (i + 2) (i + 2) := (ls_CM key.2).mpr ⟨0, by omega, rfl⟩
  have m1 : ls_M K (sk_f K n) (i + 2) (sk_f K n (i + 2)) := (ls_CM key.2).mpr ⟨1, by omega, rfl⟩
  have a0 := ls_Min hI h1 s2.2 s2.1 m0
  have a1 := ls_Min hI h1 s2.2 s2.1 m1
  exact ⟨key.1, a0.2.1, a1.2.1, a1.2.2.1, a1.2.2.2⟩
/-- a bind of a LET, as it lies -/
theorem gr_bnd {i b : Nat} (hI : dp_I K i (sk_f K n i)) (h1 : K i = 1) (h8 : K (i + 1) = 8 ∨ K (i + 1) = 9) (hS : gr_SH K V (sk_f K n) i) (hb : ls_M K (sk_f K n) (i + 3) b) :
    i + 3 ≤ b ∧ K b = 1 ∧ K (b + 1) = 4 ∧ dp_I K b (sk_f K n b) ∧ dp_I K (b + 2) (sk_f K n (b + 2)) ∧ sk_f K n b = sk_f K n (b + 2) + 1 ∧ sk_f K n b < sk_f K n (i + 2) ∧ dp_d K b = dp_d K i + 2 ∧ gr_BS K V (sk_f K n) (K (i + 1)) (i + 2) b := by
  have g := gr_bind hI h1 (by omega) (by omega) hS
  have key : gr_BS K V (sk_f K n) (K (i + 1)) (i + 2) b := by
    rcases gr_FSof hS h1 with ⟨k, l⟩ | ⟨k, l, k2, c, q⟩ | ⟨k, l, k2, c, c1, c4, lc, bb⟩ | ⟨k, l⟩ | ⟨k, c, c4, l⟩
    · omega
    · omega
    · obtain ⟨j, hj, e⟩ := (ls_CM lc).mp hb
      rw [e]; exact bb j hj
    · omega
    · omega
  have m := ls_Min (i := i + 2) g.2.1 g.1 (dp_L_r _) (dp_I_1 g.2.1 g.1) hb
  have d1 := dp_1 h1
  have d2 : dp_d K (i + 2) = dp_d K i + 1 := by rw [show i + 2 = i + 1 + 1 from rfl, dp_0 (by omega) (by omega)]; exact d1
  have b1 := gr_b1 key
  have kb := key.1
  have kb4 := key.2.2.1
  have hl : dp_L K (b + 1) (b + 2) := dp_I_L (dp_I_a (by omega) (by omega))
  have lt : b + 2 < sk_f K n b := by
    have := dp_I_1 m.2.1 kb
    rcases Nat.lt_or_ge (b + 2) (sk_f K n b) with z | z
    · exact z
    · have e : sk_f K n b = b + 2 := by omega
      have := m.2.1.2.1
      have := dp_1 kb
      have := hl.2.1
      rw [e] at *
      omega
  have m2 := ls_Min (i := b) m.2.1 kb hl lt (ls_M_0 b1.2.1)
  refine ⟨m.1, kb, kb4, m.2.1, m2.2.1, gr_ba key m2.2.1, m.2.2.1, by omega, key⟩
theorem gr_in {i c : Nat} (hI : dp_I K i (sk_f K n i)) (hS : gr_SH K V (sk_f K n) i) (h : gr_Ch K (sk_f K n) i c) : i < c ∧ dp_I K c (sk_f K n c) ∧ sk_f K n c < sk_f K n i := by
  have lamN : K i = 1 → K (i + 1) = 7 → ls_M K (sk_f K n) (i + 3) c → i < c ∧ dp_I K c (sk_f K n c) ∧ sk_f K n c < sk_f K n i := by
    intro h1 h7 hm
    have g := gr_bind hI h1 (by omega) (by omega) hS
    have m := ls_Min (i := i + 2) g.2.1 g.1 (dp_L_r _) (dp_I_1 g.2.1 g.1) hm
    have := g.2.2.1.1
    exact ⟨by omega, m.2.1, by omega⟩
  rcases h with ⟨h1, h⟩ | ⟨h1, h6, h⟩ | ⟨h1, h⟩
  · rcases h with ⟨k, hm⟩ | ⟨k, hm⟩ | ⟨k, k', e⟩ | ⟨k, b, hb, e⟩
    · have s2 := gr_s2 hI h1 (by omega)
      have m := ls_Min hI h1 s2.2 s2.1 hm
      exact ⟨by omega, m.2.1, m.2.2.1⟩
    · have m := ls_Min hI h1 (dp_L_r _) (dp_I_1 hI h1) hm
      exact ⟨by omega, m.2.1, m.2.2.1⟩
    · have g := gr_bind hI h1 k k' hS
      subst e
      have := g.2.1.1
      exact ⟨by omega, g.2.2.1, g.2.2.2.1⟩
    · have g := gr_bind hI h1 (by omega) (by omega) hS
      have m := gr_bnd hI h1 k hS hb
      subst e
      obtain ⟨m1, m2, m3, m4, m5, m6, m7, m8, m9⟩ := m
      have := g.2.2.1.1
      have := g.2.2.2.1
      exact ⟨by omega, m5, by omega⟩
  · have s2 := gr_s2 hI h1 (by omega)
    have m := ls_Min hI h1 s2.2 s2.1 h
    exact ⟨by omega, m.2.1, m.2.2.1⟩
  · rcases h with ⟨k, hm⟩ | ⟨k, b, hb, e⟩
    · exact lamN h1 k hm
    · have g := gr_bind hI h1 (by omega) (by omega) hS
      have m := gr_bnd hI h1 k hS hb
      subst e
      obtain ⟨m1, m2, m3, m4, m5, m6, m7, m8, m9⟩ := m
      have := g.2.2.1.1
      have := g.2.2.2.1
      have := m5.1
      have ei : dp_I K (b + 1) (b + 1 + 1) := dp_I_a (by omega) (by omega)
      have es : sk_f K n (b + 1) = b + 1 + 1 := sk_I ei
      refine ⟨by omega, by rw [es]; exact ei, by omega⟩
/-- where a child of a form lies -/
theorem gr_lev {i c : Nat} (hI : dp_I K i (sk_f K n i)) (hS : gr_SH K V (sk_f K n) i) (h : gr_Ch K (sk_f K n) i c) :
    (dp_d K c = dp_d K i + 1 ∧ ((7 ≤ K (i + 1) ∧ K (i + 1) ≤ 9) → c = sk_f K n (i + 2))) ∨
    (7 ≤ K (i + 1) ∧ K (i + 1) ≤ 9 ∧ K i = 1 ∧ c < sk_f K n (i + 2) ∧ (sk_f K n c = c + 1 ∨ ((K (i + 1) = 8 ∨ K (i + 1) = 9) ∧ ∃ b, ls_M K (sk_f K n) (i + 3) b ∧ c = b + 2))) := by
  rcases h with ⟨h1, h⟩ | ⟨h1, h6, h⟩ | ⟨h1, h⟩
  · rcases h with ⟨k, hm⟩ | ⟨k, hm⟩ | ⟨k, k', e⟩ | ⟨k, b, hb, e⟩
    · have s2 := gr_s2 hI h1 (by omega)
      have m := ls_Min hI h1 s2.2 s2.1 hm
      exact Or.inl ⟨m.2.2.2, fun z => by omega⟩
    · have m := ls_Min hI h1 (dp_L_r _) (dp_I_1 hI h1) hm
      exact Or.inl ⟨m.2.2.2, fun z => by omega⟩
    · have g := gr_bind hI h1 k k' hS
      subst e
      exact Or.inl ⟨g.2.2.2.2, fun z => rfl⟩
    · obtain ⟨m1, m2, m3, m4, m5, m6, m7, m8, m9⟩ := gr_bnd hI h1 k hS hb
      have := m5.1
      exact Or.inr ⟨by omega, by omega, h1, by omega, Or.inr ⟨k, b, hb, e⟩⟩
  · have s2 := gr_s2 hI h1 (by omega)
    have m := ls_Min hI h1 s2.2 s2.1 h
    exact Or.inl ⟨m.2.2.2, fun z => by omega⟩
  · rcases h with ⟨k, hm⟩ | ⟨k, b, hb, e⟩
    · have g := gr_bind hI h1 (by omega) (by omega) hS
      have m := ls_Min (i := i + 2) g.2.1 g.1 (dp_L_r _) (dp_I_1 g.2.1 g.1) hm
      have := m.2.1.1
      refine Or.inr ⟨by omega, by omega, h1, by omega, Or.inl ?_⟩
      refine sk_at ?_
      rcases gr_FSof hS h1 with ⟨k, l⟩ | ⟨k, l, k2, c', q⟩ | ⟨k, l, k2, c', c1, c4, lc, bb⟩ | ⟨k, l⟩ | ⟨k, c', c4, l⟩
      · omega
      · obtain ⟨j, hj, e⟩ := (ls_CM (gr_PC (n := n) q)).mp hm
        rw [gr_Pi q (by omega)] at e
        have := q.2.1 j hj
        rw [e]; omega
      · omega
      · omega
      · omega
    · obtain ⟨m1, m2, m3, m4, m5, m6, m7, m8, m9⟩ := gr_bnd hI h1 k hS hb
      have := m5.1
      exact Or.inr ⟨by omega, by omega, h1, by omega, Or.inl (by rw [e]; exact sk_at (by omega))⟩
theorem gr_sep {i c c' : Nat} (hI : dp_I K i (sk_f K n i)) (hS : gr_SH K V (sk_f K n) i) (h : gr_Ch K (sk_f K n) i c) (h' : gr_Ch K (sk_f K n) i c') (hc : c < c') : sk_f K n c ≤ c' := by
  have gi := gr_in hI hS h
  rcases gr_lev hI hS h with ⟨d, e⟩ | ⟨k7, k9, k1, lt, z⟩
  · rcases gr_lev hI hS h' with ⟨d', e'⟩ | ⟨k7, k9, k1, lt, z⟩
    · exact dp_aft gi.2.1 (by omega) hc
    · have := e ⟨k7, k9⟩; omega
  · rcases z with z | ⟨k, b, hb, eb⟩
    · omega
    · obtain ⟨m1, m2, m3, m4, m5, m6, m7, m8, m9⟩ := gr_bnd hI k1 k hS hb
      subst eb
      rcases gr_lev hI hS h' with ⟨d', e'⟩ | ⟨_, _, _, lt', z'⟩
      · have := e' ⟨k7, k9⟩; omega
      · -- another name or bound: its bind lies behind
        have hb' : ∃ b', ls_M K (sk_f K n) (i + 3) b' ∧ (c' = b' + 1 ∨ c' = b' + 2) := by
          rcases h' with ⟨_, h'⟩ | ⟨_, q, _⟩ | ⟨_, h'⟩
          · rcases h' with ⟨q, _⟩ | ⟨q, _⟩ | ⟨_, _, e⟩ | ⟨_, b', hb', e⟩
            · omega
            · omega
            · omega
            · exact ⟨b', hb', Or.inr e⟩
          · omega
          · rcases h' with ⟨q, _⟩ | ⟨_, b', hb', e⟩
            · omega
            · exact ⟨b', hb', Or.inl e⟩
        obtain ⟨b', hb', e'⟩ := hb'
        obtain ⟨w1, w2, w3, w4, w5, w6, w7, w8, w9⟩ := gr_bnd hI k1 k hS hb'
        have := m5.1
        have := w5.1
        rcases Nat.lt_trichotomy b b' with y | y | y
        · have := dp_aft m4 (by omega) y; omega
        · subst y; omega
        · have := dp_aft w4 (by omega) y; omega
end
end
section
/-- the walk of roles at a token: r the roles, par who gave them -/
def rw_W (K : Nat → Nat) (V : Nat → Int32) (a : Nat → Nat) (n at' : Nat) (r : Nat → Int32) (par : Nat → Nat) : Prop :=
  (∀ i, at' ≤ i → i < n → r i ≠ 0 → ∀ m, i < m → m < a i → r m = 0) ∧
  (∀ i, i < at' → r i = 1 → gr_SH K V a i ∧ (∀ c, gr_E K a i c → r c = 1 ∧ par c = i) ∧ (∀ c, gr_D K a i c → r c = 2 ∧ par c = i) ∧ (∀ c, gr_N K a i c → r c = 3 ∧ par c = i)) ∧
  (∀ i, i < at' → r i = 2 → gr_DS K a i ∧ ∀ c, gr_DM K a i c → r c = 2 ∧ par c = i) ∧
  (∀ c, c < n → r c ≠ 0 → c = 0 ∨ (par c < c ∧ par c < at' ∧ c < a (par c) ∧ ((r (par c) = 1 ∧ ((r c = 1 ∧ gr_E K a (par c) c) ∨ (r c = 2 ∧ gr_D K a (par c) c) ∨ (r c = 3 ∧ gr_N K a (par c) c))) ∨ (r (par c) = 2 ∧ r c = 2 ∧ gr_DM K a (par c) c)))) ∧
  r 0 = 1
section
variable {K : Nat → Nat} {V : Nat → Int32} {n : Nat}
theorem rw_gen {at' : Nat} {r r' : Nat → Int32} {par : Nat → Nat} {Ch : Nat → Prop} (hB : ∀ i, i < n → K i ≠ 2 → dp_I K i (sk_f K n i)) (hat : at' < n) (W : rw_W K V (sk_f K n) n at' r par) (h0 : r at' ≠ 0)
    (hin : ∀ c, Ch c → at' < c ∧ dp_I K c (sk_f K n c) ∧ sk_f K n c < sk_f K n at') (hsep : ∀ c c', Ch c → Ch c' → c < c' → sk_f K n c ≤ c') (hr : ∀ c, ¬ Ch c → r' c = r c) :
    (∀ c, c ≤ at' ∨ r c ≠ 0 → ¬ Ch c ∧ r' c = r c) ∧ (∀ i, at' + 1 ≤ i → i < n → r' i ≠ 0 → ∀ m, i < m → m < sk_f K n i → r' m = 0) := by
  have W1 := W.1
  have mono : ∀ c, c ≤ at' ∨ r c ≠ 0 → ¬ Ch c ∧ r' c = r c := by
    intro c hc
    have : ¬ Ch c := by
      intro z
      have i := hin c z
      have i2 := i.2.1.1
      rcases hc with hc | hc
      · omega
      · exact hc (W1 at' (Nat.le_refl _) hat h0 c i.1 (by omega))
    exact ⟨this, hr c this⟩
  refine ⟨mono, ?_⟩
  intro i hi hn hri m hm1 hm2
  by_cases ci : Ch i
  · have ii := hin i ci
    have hm0 : r m = 0 := W1 at' (Nat.le_refl _) hat h0 m (by omega) (by omega)
    have : ¬ Ch m := by
      intro z
      have := hsep i m ci z hm1
      omega
    rw [hr m this]; exact hm0
  · rw [hr i ci] at hri
    have hm0 := W1 i (by omega) hn hri m hm1 hm2
    have : ¬ Ch m := by
      intro z
      have im := hin m z
      have im2 := im.2.1.1
      exact hri (W1 at' (Nat.le_refl _) hat h0 i (by omega) (by omega))
    rw [hr m this]; exact hm0
theorem rw_skip {at' : Nat} {r : Nat → Int32} {par : Nat → Nat} (W : rw_W K V (sk_f K n) n at' r par) (h1 : r at' ≠ 1) (h2 : r at' ≠ 2) : rw_W K V (sk_f K n) n (at' + 1) r par := by
  obtain ⟨W1, W2, W3, W4, W5⟩ := W
  refine ⟨fun i hi => W1 i (by omega), fun i hi hr => ?_, fun i hi hr => ?_, fun c hc hr => ?_, W5⟩
  · by_cases z : i = at'
    · subst z; exact absurd hr h1
    · exact W2 i (by omega) hr
  · by_cases z : i = at'
    · subst z; exact absurd hr h2
    · exact W3 i (by omega) hr
  · rcases W4 c hc hr with z | ⟨z1, z2, z3⟩
    · exact Or.inl z
    · exact Or.inr ⟨z1, by omega, z3⟩
theorem rw_atom {at' : Nat} {r : Nat → Int32} {par : Nat → Nat} (W : rw_W K V (sk_f K n) n at' r par) (h1 : r at' = 1) (hk : K at' = 3 ∨ K at' = 4 ∨ K at' = 5) : rw_W K V (sk_f K n) n (at' + 1) r par := by
  obtain ⟨W1, W2, W3, W4, W5⟩ := W
  refine ⟨fun i hi => W1 i (by omega), fun i hi hr => ?_, fun i hi hr => ?_, fun c hc hr => ?_, W5⟩
  · by_cases z : i = at'
    · subst z
      refine ⟨by unfold gr_SH; omega, fun c hc => ?_, fun c hc => ?_, fun c hc => ?_⟩
      · have := hc.1; omega
      · have := hc.1; omega
      · have := hc.1; omega
    · exact W2 i (by omega) hr
  · by_cases z : i = at'
    · subst z; rw [h1] at hr; exact absurd hr (by decide)
    · exact W3 i (by omega) hr
  · rcases W4 c hc hr with z | ⟨z1, z2, z3⟩
    · exact Or.inl z
    · exact Or.inr ⟨z1, by omega, z3⟩
theorem rw_datom {at' : Nat} {r : Nat → Int32} {par : Nat → Nat} (W : rw_W K V (sk_f K n) n at' r par) (h1 : r at' = 2) (hk : K at' = 3 ∨ K at' = 5) : rw_W K V (sk_f K n) n (at' + 1) r par := by
  obtain ⟨W1, W2, W3, W4, W5⟩ := W
  refine ⟨fun i hi => W1 i (by omega), fun i hi hr => ?_, fun i hi hr => ?_, fun c hc hr => ?_, W5⟩
  · by_cases z : i = at'
    · subst z; rw [h1] at hr; exact absurd hr (by decide)
    · exact W2 i (by omega) hr
  · by_cases z : i = at'
    · subst z
      refine ⟨by unfold gr_DS; omega, fun c hc => ?_⟩
      have := hc.1; omega
    · exact W3 i (by omega) hr
  · rcases W4 c hc hr with z | ⟨z1, z2, z3⟩
    · exact Or.inl z
    · exact Or.inr ⟨z1, by omega, z3⟩
theorem rw_form {at' : Nat} {r r' : Nat → Int32} {par : Nat → Nat} (hB : ∀ i, i < n → K i ≠ 2 → dp_I K i (sk_f K n i)) (hat : at' < n) (W : rw_W K V (sk_f K n) n at' r par) (h1 : r at' = 1) (k1 : K at' = 1) (hS : gr_SH K V (sk_f K n) at')
    (e1 : ∀ c, gr_E K (sk_f K n) at' c → r' c = 1) (e2 : ∀ c, gr_D K (sk_f K n) at' c → r' c = 2) (e3 : ∀ c, gr_N K (sk_f K n) at' c → r' c = 3) (e4 : ∀ c, ¬ gr_Ch K (sk_f K n) at' c → r' c = r c) :
    ∃ par', rw_W K V (sk_f K n) n (at' + 1) r' par' := by
  have hI := hB at' hat (by omega)
  obtain ⟨mono, W1'⟩ := rw_gen (Ch := gr_Ch K (sk_f K n) at') hB hat W (by rw [h1]; decide) (fun c hc => gr_in hI hS hc) (fun c c' hc hc' => gr_sep hI hS hc hc') e4
  obtain ⟨W1, W2, W3, W4, W5⟩ := W
  refine ⟨fun c => @ite _ (gr_Ch K (sk_f K n) at' c) (Classical.propDecidable _) at' (par c), W1', fun i hi hr => ?_, fun i hi hr => ?_, fun c hc hr => ?_, ?_⟩
  · by_cases z : i = at'
    · subst z
      refine ⟨hS, fun c hc => ⟨e1 c hc, ?_⟩, fun c hc => ⟨e2 c hc, ?_⟩, fun c hc => ⟨e3 c hc, ?_⟩⟩
      · exact if_pos (Or.inl hc)
      · exact if_pos (Or.inr (Or.inl hc))
      · exact if_pos (Or.inr (Or.inr hc))
    · rw [(mono i (Or.inl (by omega))).2] at hr
      obtain ⟨a1, a2, a3, a4⟩ := W2 i (by omega) hr
      have key : ∀ c, r c ≠ 0 → r' c = r c ∧ (@ite _ (gr_Ch K (sk_f K n) at' c) (Classical.propDecidable _) at' (par c)) = par c := fun c hc => ⟨(mono c (Or.inr hc)).2, if_neg (mono c (Or.inr hc)).1⟩
      refine ⟨a1, fun c hc => ?_, fun c hc => ?_, fun c hc => ?_⟩
      · have q := a2 c hc
        have w := key c (by rw [q.1]; decide)
        exact ⟨w.1.trans q.1, w.2.trans q.2⟩
      · have q := a3 c hc
        have w := key c (by rw [q.1]; decide)
        exact ⟨w.1.trans q.1, w.2.trans q.2⟩
      · have q := a4 c hc
        have w := key c (by rw [q.1]; decide)
        exact ⟨w.1.trans q.1, w.2.trans q.2⟩
  · rw [(mono i (Or.inl (by omega))).2] at hr
    by_cases z : i = at'
    · subst z; rw [h1] at hr; exact absurd hr (by decide)
    · obtain ⟨a1, a2⟩ := W3 i (by omega) hr
      refine ⟨a1, fun c hc => ?_⟩
      have q := a2 c hc
      have w := mono c (Or.inr (by rw [q.1]; decide))
      exact ⟨w.2.trans q.1, (if_neg w.1).trans q.2⟩
  · by_cases z : gr_Ch K (sk_f K n) at' c
    · have gi := gr_in hI hS z
      have gi2 := gi.2.1.1
      refine Or.inr ?_
      dsimp only
      rw [if_pos z]
      refine ⟨gi.1, by omega, by omega, Or.inl ⟨(mono at' (Or.inl (Nat.le_refl _))).2.trans h1, ?_⟩⟩
      rcases z with z | z | z
      · exact Or.inl ⟨e1 c z, z⟩
      · exact Or.inr (Or.inl ⟨e2 c z, z⟩)
      · exact Or.inr (Or.inr ⟨e3 c z, z⟩)
    · rw [e4 c z] at hr ⊢
      dsimp only
      rw [if_neg z]
      rcases W4 c hc hr with y | ⟨y1, y2, y3, y4⟩
      · exact Or.inl y
      · rw [(mono (par c) (Or.inl (by omega))).2]
        exact Or.inr ⟨y1, by omega, y3, y4⟩
  · exact (mono 0 (Or.inl (by omega))).2.trans W5
theorem rw_dform {at' c0 : Nat} {r r' : Nat → Int32} {par : Nat → Nat} (hB : ∀ i, i < n → K i ≠ 2 → dp_I K i (sk_f K n i)) (hat : at' < n) (W : rw_W K V (sk_f K n) n at' r par) (h1 : r at' = 2) (k1 : K at' = 1) (hS : ls_C K (sk_f K n) (at' + 1) c0)
    (e1 : ∀ c, gr_DM K (sk_f K n) at' c → r' c = 2) (e4 : ∀ c, ¬ gr_DM K (sk_f K n) at' c → r' c = r c) :
    ∃ par', rw_W K V (sk_f K n) n (at' + 1) r' par' := by
  have hI := hB at' hat (by omega)
  have hM : ∀ c, gr_DM K (sk_f K n) at' c → at' + 1 ≤ c ∧ dp_I K c (sk_f K n c) ∧ sk_f K n c < sk_f K n at' ∧ dp_d K c = dp_d K at' + 1 := fun c hc => ls_Min hI k1 (dp_L_r _) (dp_I_1 hI k1) hc.2
  obtain ⟨mono, W1'⟩ := rw_gen (Ch := gr_DM K (sk_f K n) at') hB hat W (by rw [h1]; decide) (fun c hc => ⟨by have := hM c hc; omega, (hM c hc).2.1, (hM c hc).2.2.1⟩) (fun c c' hc hc' z => dp_aft (hM c hc).2.1 (by have := hM c hc; have := hM c' hc'; omega) z) e4
  obtain ⟨W1, W2, W3, W4, W5⟩ := W
  refine ⟨fun c => @ite _ (gr_DM K (sk_f K n) at' c) (Classical.propDecidable _) at' (par c), W1', fun i hi hr => ?_, fun i hi hr => ?_, fun c hc hr => ?_, ?_⟩
  · rw [(mono i (Or.inl (by omega))).2] at hr
    by_cases z : i = at'
    · subst z; rw [h1] at hr; exact absurd hr (by decide)
    · obtain ⟨a1, a2, a3, a4⟩ := W2 i (by omega) hr
      have key : ∀ c, r c ≠ 0 → r' c = r c ∧ (@ite _ (gr_DM K (sk_f K n) at' c) (Classical.propDecidable _) at' (par c)) = par c := fun c hc => ⟨(mono c (Or.inr hc)).2, if_neg (mono c (Or.inr hc)).1⟩
      refine ⟨a1, fun c hc => ?_, fun c hc => ?_, fun c hc => ?_⟩
      · have q := a2 c hc
        have w := key c (by rw [q.1]; decide)
        exact ⟨w.1.trans q.1, w.2.trans q.2⟩
      · have q := a3 c hc
        have w := key c (by rw [q.1]; decide)
        exact ⟨w.1.trans q.1, w.2.trans q.2⟩
      · have q := a4 c hc
        have w := key c (by rw [q.1]; decide)
        exact ⟨w.1.trans q.1, w.2.trans q.2⟩
  · by_cases z : i = at'
    · subst z
      exact ⟨Or.inr (Or.inr ⟨k1, c0, hS⟩), fun c hc => ⟨e1 c hc, if_pos hc⟩⟩
    · rw [(mono i (Or.inl (by omega))).2] at hr
      obtain ⟨a1, a2⟩ := W3 i (by omega) hr
      refine ⟨a1, fun c hc => ?_⟩
      have q := a2 c hc
      have w := mono c (Or.inr (by rw [q.1]; decide))
      exact ⟨w.2.trans q.1, (if_neg w.1).trans q.2⟩
  · by_cases z : gr_DM K (sk_f K n) at' c
    · have gi := hM c z
      have gi2 := gi.2.1.1
      refine Or.inr ?_
      dsimp only
      rw [if_pos z]
      exact ⟨by omega, by omega, by omega, Or.inr ⟨(mono at' (Or.inl (Nat.le_refl _))).2.trans h1, e1 c z, z⟩⟩
    · rw [e4 c z] at hr ⊢
      dsimp only
      rw [if_neg z]
      rcases W4 c hc hr with y | ⟨y1, y2, y3, y4⟩
      · exact Or.inl y
      · rw [(mono (par c) (Or.inl (by omega))).2]
        exact Or.inr ⟨y1, by omega, y3, y4⟩
  · exact (mono 0 (Or.inl (by omega))).2.trans W5
/-- what the grammar says of the root it says of every role -/
theorem rw_X {at' : Nat} {r : Nat → Int32} {par : Nat → Nat} (W : rw_W K V (sk_f K n) n at' r par) {k : Nat} (h : gr_X K V (sk_f K n) k true 0) :
    ∀ d c, c ≤ d → c < n → (r c = 1 → ∃ k', gr_X K V (sk_f K n) k' true c) ∧ (r c = 2 → ∃ k', gr_X K V (sk_f K n) k' false c) := by
  obtain ⟨W1, W2, W3, W4, W5⟩ := W
  have zero : (r 0 = 1 → ∃ k', gr_X K V (sk_f K n) k' true 0) ∧ (r 0 = 2 → ∃ k', gr_X K V (sk_f K n) k' false 0) :=
    ⟨fun _ => ⟨k, h⟩, fun z => by rw [W5] at z; exact absurd z (by decide)⟩
  intro d
  induction d with
  | zero => intro c hc hn; have : c = 0 := by omega
            subst this; exact zero
  | succ d ih =>
    intro c hc hn
    by_cases z : r c = 0
    · rw [z]; exact ⟨fun y => absurd y (by decide), fun y => absurd y (by decide)⟩
    · rcases W4 c hn z with y | ⟨y1, y2, y3, y4⟩
      · subst y; exact zero
      · have ihp := ih (par c) (by omega) (by omega)
        rcases y4 with ⟨p1, q⟩ | ⟨p1, q1, q2⟩
        · obtain ⟨k', hk⟩ := ihp.1 p1
          cases k' with
          | zero => exact False.elim hk
          | succ k' =>
            rcases q with ⟨a, b⟩ | ⟨a, b⟩ | ⟨a, b⟩
            · exact ⟨fun _ => ⟨k', hk.2.1 c b⟩, fun y => by rw [a] at y; exact absurd y (by decide)⟩
            · exact ⟨fun y => by rw [a] at y; exact absurd y (by decide), fun _ => ⟨k', hk.2.2 c b⟩⟩
            · exact ⟨fun y => by rw [a] at y; exact absurd y (by decide), fun y => by rw [a] at y; exact absurd y (by decide)⟩
        · obtain ⟨k', hk⟩ := ihp.2 p1
          cases k' with
          | zero => exact False.elim hk
          | succ k' => exact ⟨fun y => by rw [q1] at y; exact absurd y (by decide), fun _ => ⟨k', hk.2 c q2⟩⟩
theorem rw_no {at' : Nat} {r : Nat → Int32} {par : Nat → Nat} (W : rw_W K V (sk_f K n) n at' r par) (hat : at' < n) (h : (r at' = 1 ∧ ¬ gr_SH K V (sk_f K n) at') ∨ (r at' = 2 ∧ ¬ gr_DS K (sk_f K n) at')) (k : Nat) : ¬ gr_X K V (sk_f K n) k true 0 := by
  intro z
  have q := rw_X W z at' at' (Nat.le_refl _) hat
  rcases h with ⟨a, b⟩ | ⟨a, b⟩
  · obtain ⟨k', hk⟩ := q.1 a
    cases k' with
    | zero => exact hk
    | succ k' => exact b hk.1
  · obtain ⟨k', hk⟩ := q.2 a
    cases k' with
    | zero => exact hk
    | succ k' => exact b hk.1
end
end
section
/-! scope, purely -/
def sc_nm (K a : Nat → Nat) (i j : Nat) : Nat := if K (i + 1) = 7 then i + 3 + j else it_f a j (i + 3) + 1
def sc_ls (K a : Nat → Nat) (sc : Nat → Int32) (i : Nat) : Nat → Int32
  | 0 => sc i
  | j + 1 => nI (sc_nm K a i j)
def sc_L (K a : Nat → Nat) (sc : Nat → Int32) (i : Nat) : Prop :=
  (K (i + 1) ≤ 6 ∨ 10 ≤ K (i + 1) → ∀ c, gr_E K a i c → sc c = sc i) ∧
  (7 ≤ K (i + 1) → K (i + 1) ≤ 9 → ∀ c, ls_C K a (i + 3) c → (∀ j, j < c → sc (sc_nm K a i j) = sc_ls K a sc i j) ∧ sc (a (i + 2)) = sc_ls K a sc i c ∧ (K (i + 1) ≠ 7 → ∀ j, j < c → sc (it_f a j (i + 3) + 2) = if K (i + 1) = 9 then sc_ls K a sc i c else sc i))
def sc_H (n : Nat) (sc : Nat → Int32) : List Nat → Int32 → Prop
  | [], s => s = -1
  | m :: l, s => s = nI m ∧ m < n ∧ sc_H n sc l (sc m)
def sc_B (K : Nat → Nat) (V : Nat → Int32) (a : Nat → Nat) (i : Nat) (x : Int32) : Prop :=
  ∃ j, j < i ∧ K j = 1 ∧ 7 ≤ K (j + 1) ∧ K (j + 1) ≤ 9 ∧ i < a j ∧ (∃ m, gr_N K a j m ∧ V m = x) ∧ (K (j + 1) = 9 ∨ a (j + 2) ≤ i)
def sc_nl (K a : Nat → Nat) (i : Nat) (l : List Nat) : Nat → List Nat
  | 0 => l
  | j + 1 => sc_nm K a i j :: sc_nl K a i l j
/-- the place of a name in a chain -/
def sc_F (V : Nat → Int32) (x : Int32) : List Nat → Nat → Prop
  | [], _ => False
  | m :: l, h => (V m = x ∧ h = 0) ∨ (V m ≠ x ∧ ∃ h', h = h' + 1 ∧ sc_F V x l h')
section
variable {K : Nat → Nat} {V : Nat → Int32} {n : Nat}
theorem sc_nl_len {i : Nat} {l : List Nat} : ∀ c, (sc_nl K (sk_f K n) i l c).length = l.length + c
  | 0 => rfl
  | c + 1 => by simp [sc_nl, sc_nl_len c]; omega
theorem sc_nl_mem {i : Nat} {l : List Nat} {x : Int32} : ∀ c, (∃ m, m ∈ sc_nl K (sk_f K n) i l c ∧ V m = x) ↔ ((∃ j, j < c ∧ V (sc_nm K (sk_f K n) i j) = x) ∨ ∃ m, m ∈ l ∧ V m = x)
  | 0 => by
    constructor
    · intro h; exact Or.inr h
    · rintro (⟨j, hj, _⟩ | h)
      · omega
      · exact h
  | c + 1 => by
    have ih := sc_nl_mem (i := i) (l := l) (x := x) c
    constructor
    · rintro ⟨m, hm, hv⟩
      rcases List.mem_cons.mp hm with e | e
      · exact Or.inl ⟨c, by omega, by rw [← e]; exact hv⟩
      · rcases ih.mp ⟨m, e, hv⟩ with ⟨j, hj, h⟩ | h
        · exact Or.inl ⟨j, by omega, h⟩
        · exact Or.inr h
    · rintro (⟨j, hj, hv⟩ | h)
      · by_cases z : j = c
        · subst z; exact ⟨_, List.mem_cons_self, hv⟩
        · obtain ⟨m, hm, h⟩ := ih.mpr (Or.inl ⟨j, by omega, hv⟩)
          exact ⟨m, List.mem_cons_of_mem _ hm, h⟩
      · obtain ⟨m, hm, h⟩ := ih.mpr (Or.inr h)
        exact ⟨m, List.mem_cons_of_mem _ hm, h⟩
theorem sc_nl_m {i : Nat} {l : List Nat} : ∀ (c m : Nat), m ∈ sc_nl K (sk_f K n) i l c → (∃ j, j < c ∧ m = sc_nm K (sk_f K n) i j) ∨ m ∈ l
  | 0, m, h => Or.inr h
  | c + 1, m, h => by
    rcases List.mem_cons.mp h with e | e
    · exact Or.inl ⟨c, by omega, e⟩
    · rcases sc_nl_m c m e with ⟨j, hj, e⟩ | e
      · exact Or.inl ⟨j, by omega, e⟩
      · exact Or.inr e
theorem sc_nl_H {sc : Nat → Int32} {i : Nat} {l : List Nat} {c : Nat} (hl : sc_H n sc l (sc i)) (hs : ∀ j, j < c → sc (sc_nm K (sk_f K n) i j) = sc_ls K (sk_f K n) sc i j) (hn : ∀ j, j < c → sc_nm K (sk_f K n) i j < n) :
    ∀ d, d ≤ c → sc_H n sc (sc_nl K (sk_f K n) i l d) (sc_ls K (sk_f K n) sc i d)
  | 0, _ => hl
  | d + 1, hd => ⟨rfl, hn d (by omega), by rw [hs d (by omega)]; exact sc_nl_H hl hs hn d (by omega)⟩
theorem sc_Hc {sc sc' : Nat → Int32} : ∀ {l : List Nat} {s : Int32}, (∀ m, m ∈ l → sc' m = sc m) → sc_H n sc l s → sc_H n sc' l s
  | [], _, _, h => h
  | m :: l, _, hm, h => ⟨h.1, h.2.1, by rw [hm m List.mem_cons_self]; exact sc_Hc (fun x hx => hm x (List.mem_cons_of_mem _ hx)) h.2.2⟩
/-- the names of a binding form -/
theorem sc_N {i : Nat} (h1 : K i = 1) (h7 : 7 ≤ K (i + 1)) (h9 : K (i + 1) ≤ 9) (hS : gr_SH K V (sk_f K n) i) :
    ∃ c, c ≤ 4 ∧ ls_C K (sk_f K n) (i + 3) c ∧ (∀ m, gr_N K (sk_f K n) i m ↔ ∃ j, j < c ∧ m = sc_nm K (sk_f K n) i j) ∧ (K (i + 1) = 7 → gr_P K V (i + 2) c) ∧ (K (i + 1) ≠ 7 → 1 ≤ c) := by
  rcases gr_FSof hS h1 with ⟨k, l⟩ | ⟨k, l, k2, c, q⟩ | ⟨k, l, k2, c, c1, c4, lc, bb⟩ | ⟨k, l⟩ | ⟨k, c', c4, l⟩
  · omega
  · have lc : ls_C K (sk_f K n) (i + 3) c := gr_PC (n := n) q
    refine ⟨c, q.1, lc, fun m => ?_, fun _ => q, fun z => absurd k z⟩
    have e : ∀ j, j ≤ c → it_f (sk_f K n) j (i + 3) = i + 3 + j := fun j hj => gr_Pi q hj
    have en : ∀ j, sc_nm K (sk_f K n) i j = i + 3 + j := fun j => if_pos k
    unfold gr_N
    simp only [en]
    constructor
    · rintro ⟨_, ⟨_, hm⟩ | ⟨z, _⟩⟩
      · obtain ⟨j, hj, em⟩ := (ls_CM lc).mp hm
        exact ⟨j, hj, by rw [em, e j (by omega)]⟩
      · omega
    · rintro ⟨j, hj, em⟩
      exact ⟨h1, Or.inl ⟨k, (ls_CM lc).mpr ⟨j, hj, by rw [em, e j (by omega)]⟩⟩⟩
  · refine ⟨c, c4, lc, fun m => ?_, fun z => by omega, fun _ => c1⟩
    have en : ∀ j, sc_nm K (sk_f K n) i j = it_f (sk_f K n) j (i + 3) + 1 := fun j => if_neg (by omega)
    unfold gr_N
    simp only [en]
    constructor
    · rintro ⟨_, ⟨z, _⟩ | ⟨_, b, hb, em⟩⟩
      · omega
      · obtain ⟨j, hj, eb⟩ := (ls_CM lc).mp hb
        exact ⟨j, hj, by rw [em, eb]⟩
    · rintro ⟨j, hj, em⟩
      exact ⟨h1, Or.inr ⟨k, _, (ls_CM lc).mpr ⟨j, hj, rfl⟩, em⟩⟩
  · omega
  · omega
theorem sc_par {r : Nat → Int32} {par : Nat → Nat} (hB : ∀ i, i < n → K i ≠ 2 → dp_I K i (sk_f K n i)) (hn : ∀ i, n ≤ i → K i = 0) (W : rw_W K V (sk_f K n) n n r par) (hC : ∀ j, K j = 1 → 7 ≤ K (j + 1) → K (j + 1) ≤ 9 → r j = 1)
    {f i : Nat} (hf : r f = 1) (hfn : f < n) (hE : gr_E K (sk_f K n) f i) (hin : i < n) (x : Int32) :
    sc_B K V (sk_f K n) i x ↔ sc_B K V (sk_f K n) f x ∨ (7 ≤ K (f + 1) ∧ K (f + 1) ≤ 9 ∧ (∃ m, gr_N K (sk_f K n) f m ∧ V m = x) ∧ (K (f + 1) = 9 ∨ sk_f K n (f + 2) ≤ i)) := by
  have kn : ∀ j, K j ≠ 0 → j < n := fun j hj => by
    rcases Nat.lt_or_ge j n with z | z
    · exact z
    · exact absurd (hn j z) hj
  have hS := (W.2.1 f hfn hf).1
  have k1 := hE.1
  have hI := hB f hfn (by omega)
  have gi := gr_in hI hS (Or.inl hE)
  have gi1 := gi.2.1.1
  constructor
  · rintro ⟨j, hj, kj, k7, k9, hij, hm, hv⟩
    have jn := kn j (by omega)
    have hIj := hB j jn (by omega)
    have rj := hC j kj k7 k9
    have hSj := (W.2.1 j jn rj).1
    have g := gr_bind hIj kj k7 k9 hSj
    rcases Nat.lt_trichotomy j f with z | z | z
    · refine Or.inl ⟨j, z, kj, k7, k9, by omega, hm, ?_⟩
      rcases hv with hv | hv
      · exact Or.inl hv
      · refine Or.inr ?_
        rcases Nat.lt_or_ge f (sk_f K n (j + 2)) with y | y
        · exfalso
          by_cases y1 : f = j + 1
          · rw [← y1] at k7; omega
          · by_cases y2 : f = j + 2
            · rw [← y2] at hv; omega
            · have := dp_nest g.2.1 (show j + 2 < f by omega) y hI
              omega
        · exact y
    · subst z
      exact Or.inr ⟨k7, k9, hm, hv⟩
    · exfalso
      have d1 := hI.2.2 j z (by omega)
      have d2 := hIj.2.2 i hj hij
      obtain ⟨_, hE⟩ := hE
      rcases hE with ⟨q, hM⟩ | ⟨q, hM⟩ | ⟨q, q', e⟩ | ⟨q, b, hb, e⟩
      · have s2 := gr_s2 hI k1 (by omega)
        have := (ls_Min hI k1 s2.2 s2.1 hM).2.2.2
        omega
      · have := (ls_Min hI k1 (dp_L_r _) (dp_I_1 hI k1) hM).2.2.2
        omega
      · have gf := gr_bind hI k1 q q' hS
        have := gf.2.2.2.2
        rw [← e] at this
        omega
      · obtain ⟨m1, m2, m3, m4, m5, m6, m7, m8, m9⟩ := gr_bnd hI k1 q hS hb
        have gf := gr_bind hI k1 (by omega) (by omega) hS
        have b3 : K (f + 3) = 1 := by
          have := gr_bnd hI k1 q hS (ls_M_0 (ls_M_c hb).1)
          exact this.2.1
        by_cases y1 : j = f + 1
        · subst y1; omega
        · by_cases y2 : j = f + 2
          · subst y2
            rw [show f + 2 + 1 = f + 3 from rfl] at k7
            omega
          · by_cases y3 : j = b
            · subst y3; omega
            · by_cases y4 : j = b + 1
              · subst y4; omega
              · have e1 := gf.2.1.2.2 j (by omega) (by have := m4.1; omega)
                have e2 := hIj.2.2 b (by omega) (by omega)
                have e3 := dp_1 k1
                have e4 : dp_d K (f + 1 + 1) = dp_d K (f + 1) := dp_0 (by omega) (by omega)
                rw [show f + 1 + 1 = f + 2 from rfl] at e4
                omega
  · rintro (⟨j, hj, kj, k7, k9, hij, hm, hv⟩ | ⟨k7, k9, hm, hv⟩)
    · have jn := kn j (by omega)
      have hIj := hB j jn (by omega)
      have := dp_nest hIj hj hij hI
      exact ⟨j, by omega, kj, k7, k9, by omega, hm, by omega⟩
    · exact ⟨f, by omega, k1, k7, k9, by omega, hm, hv⟩
theorem sc_ch {at' : Nat} {r sc : Nat → Int32} {par : Nat → Nat} (hB : ∀ i, i < n → K i ≠ 2 → dp_I K i (sk_f K n i)) (hn : ∀ i, n ≤ i → K i = 0) (W : rw_W K V (sk_f K n) n n r par) (hC : ∀ j, K j = 1 → 7 ≤ K (j + 1) → K (j + 1) ≤ 9 → r j = 1)
    (h0 : sc 0 = -1) (hS : ∀ i, i < at' → i < n → r i = 1 → K i = 1 → sc_L K (sk_f K n) sc i) :
    ∀ d i, i ≤ d → i < n → i ≤ at' → r i = 1 → ∃ l, sc_H n sc l (sc i) ∧ l.length ≤ i ∧ (∀ m, m ∈ l → r m = 3 ∧ par m < i) ∧ ∀ x, (∃ m, m ∈ l ∧ V m = x) ↔ sc_B K V (sk_f K n) i x := by
  have zero : ∃ l, sc_H n sc l (sc 0) ∧ l.length ≤ 0 ∧ (∀ m, m ∈ l → r m = 3 ∧ par m < 0) ∧ ∀ x, (∃ m, m ∈ l ∧ V m = x) ↔ sc_B K V (sk_f K n) 0 x := by
    refine ⟨[], h0, Nat.le_refl _, fun m hm => absurd hm List.not_mem_nil, fun x => ⟨?_, ?_⟩⟩
    · rintro ⟨m, hm, _⟩; exact absurd hm List.not_mem_nil
    · rintro ⟨j, hj, _⟩; omega
  intro d
  induction d with
  | zero => intro i hi _ _ _; have : i = 0 := by omega
            subst this; exact zero
  | succ d ih =>
    intro i hi hin hat hr
    rcases W.2.2.2.1 i hin (by rw [hr]; decide) with z | ⟨z1, z2, z3, z4⟩
    · subst z; exact zero
    · have hE : r (par i) = 1 ∧ gr_E K (sk_f K n) (par i) i := by
        rcases z4 with ⟨a, ⟨_, b⟩ | ⟨b, _⟩ | ⟨b, _⟩⟩ | ⟨a, b, _⟩
        · exact ⟨a, b⟩
        · rw [hr] at b; exact absurd b (by decide)
        · rw [hr] at b; exact absurd b (by decide)
        · rw [hr] at b; exact absurd b (by decide)
      generalize hf : par i = f at *
      obtain ⟨l, hl, hlen, hrl, hmem⟩ := ih f (by omega) (by omega) (by omega) hE.1
      have hSf := (W.2.1 f (by omega) hE.1).1
      have k1 := hE.2.1
      have hI := hB f (by omega) (by omega)
      have L := hS f (by omega) (by omega) hE.1 k1
      have key := sc_par hB hn W hC hE.1 (by omega) hE.2 hin
      have bindc : 7 ≤ K (f + 1) → K (f + 1) ≤ 9 → (K (f + 1) = 9 ∨ sk_f K n (f + 2) ≤ i) → (∀ c, ls_C K (sk_f K n) (f + 3) c → sc i = sc_ls K (sk_f K n) sc f c) → ∃ l, sc_H n sc l (sc i) ∧ l.length ≤ i ∧ (∀ m, m ∈ l → r m = 3 ∧ par m < i) ∧ ∀ x, (∃ m, m ∈ l ∧ V m = x) ↔ sc_B K V (sk_f K n) i x := by
        intro k7 k9 hv hsc
        obtain ⟨c, c4, lc, hN, hP, hc1⟩ := sc_N k1 k7 k9 hSf
        have L2 := L.2 k7 k9 c lc
        have gb := gr_bind hI k1 k7 k9 hSf
        have hnm : ∀ j, j < c → sc_nm K (sk_f K n) f j < n := fun j hj => by
          have := gr_in hI hSf (Or.inr (Or.inr ((hN _).mpr ⟨j, hj, rfl⟩)))
          have t := this.2.1.1
          have := dp_le hn hI (by omega)
          omega
        refine ⟨sc_nl K (sk_f K n) f l c, ?_, ?_, fun m hm => ?_, fun x => ?_⟩
        · rw [hsc c lc]
          exact sc_nl_H hl L2.1 hnm c (Nat.le_refl _)
        · rw [sc_nl_len]
          by_cases y : K (f + 1) = 7
          · have q := hP y
            have := gr_Pa (n := n) gb.1 q
            rcases hv with hv | hv <;> omega
          · have : f + 5 ≤ i := by
              have b0 : ls_M K (sk_f K n) (f + 3) (f + 3) := (ls_CM lc).mpr ⟨0, hc1 y, rfl⟩
              obtain ⟨m1, m2, m3, m4, m5, m6, m7, m8, m9⟩ := gr_bnd hI k1 (by omega) hSf b0
              have := m5.1
              obtain ⟨_, q⟩ := hE.2
              rcases q with ⟨q, _⟩ | ⟨q, _⟩ | ⟨q, q', e⟩ | ⟨q, b, hb, e⟩
              · omega
              · omega
              · omega
              · have := (gr_bnd hI k1 q hSf hb).1
                omega
            omega
        · rcases sc_nl_m c m hm with ⟨j, hj, e⟩ | e
          · have q := (W.2.1 f (by omega) hE.1).2.2.2 m (e ▸ (hN _).mpr ⟨j, hj, rfl⟩)
            exact ⟨q.1, by omega⟩
          · have := hrl m e; exact ⟨this.1, by omega⟩
        · rw [sc_nl_mem, key x, hmem x]
          constructor
          · rintro (⟨j, hj, h⟩ | h)
            · exact Or.inr ⟨k7, k9, ⟨_, (hN _).mpr ⟨j, hj, rfl⟩, h⟩, hv⟩
            · exact Or.inl h
          · rintro (h | ⟨_, _, ⟨m, hm, h⟩, _⟩)
            · exact Or.inr h
            · obtain ⟨j, hj, e⟩ := (hN m).mp hm
              exact Or.inl ⟨j, hj, by rw [← e]; exact h⟩
      have same : sc i = sc f → (7 ≤ K (f + 1) → K (f + 1) ≤ 9 → ¬ (K (f + 1) = 9 ∨ sk_f K n (f + 2) ≤ i)) → ∃ l, sc_H n sc l (sc i) ∧ l.length ≤ i ∧ (∀ m, m ∈ l → r m = 3 ∧ par m < i) ∧ ∀ x, (∃ m, m ∈ l ∧ V m = x) ↔ sc_B K V (sk_f K n) i x := by
        intro e no
        refine ⟨l, by rw [e]; exact hl, by omega, fun m hm => ⟨(hrl m hm).1, by have := (hrl m hm).2; omega⟩, fun x => ?_⟩
        rw [key x, hmem x]
        exact ⟨Or.inl, fun h => h.elim id (fun h => absurd h.2.2.2 (no h.1 h.2.1))⟩
      have hE2 := hE.2
      obtain ⟨_, q⟩ := hE.2
      rcases q with ⟨q, _⟩ | ⟨q, _⟩ | ⟨q, q', e⟩ | ⟨q, b, hb, e⟩
      · exact same (L.1 (by omega) i hE2) (fun _ _ => by omega)
      · exact same (L.1 (by omega) i hE2) (fun _ _ => by omega)
      · exact bindc q q' (Or.inr (by omega)) (fun c lc => by rw [e]; exact (L.2 q q' c lc).2.1)
      · obtain ⟨c, c4, lc, hN, hP, hc1⟩ := sc_N k1 (by omega) (by omega) hSf
        have L2 := (L.2 (by omega) (by omega) c lc).2.2 (by omega)
        obtain ⟨j, hj, eb⟩ := (ls_CM lc).mp hb
        have L3 := L2 j hj
        rw [← eb, ← e] at L3
        by_cases y : K (f + 1) = 9
        · rw [if_pos y] at L3
          exact bindc (by omega) (by omega) (Or.inl y) (fun c' lc' => by rw [ls_C_u lc' lc]; exact L3)
        · rw [if_neg y] at L3
          refine same L3 (fun _ _ => ?_)
          obtain ⟨m1, m2, m3, m4, m5, m6, m7, m8, m9⟩ := gr_bnd hI k1 q hSf hb
          have := m5.1
          omega
end
end
section
/-! the machine's measure; every token is spoken of -/
def pm_fl (g : Nat) : Nat := if g = 3 ∨ g = 8 then 1 else 0
def pm_fS : List (Nat × Nat × Nat) → Nat
  | [] => 0
  | (g, _, _) :: _ => pm_fl g
theorem pm_fS1 : ∀ S, pm_fS S ≤ 1
  | [] => by simp [pm_fS]
  | (g, _, _) :: _ => by simp only [pm_fS, pm_fl]; split <;> omega
section
variable {K : Nat → Nat} {V : Nat → Int32} {n : Nat}
theorem gr_n13 (h : Nat) : 1 ≤ gr_n h ∧ gr_n h ≤ 3 := by
  unfold gr_n
  split
  · omega
  · split <;> omega
theorem pm_dec (hn : ∀ i, n ≤ i → K i = 0) {p g x st p' : Nat} {new S : List (Nat × Nat × Nat)} (hp : p < n) (t : pm_T K V (sk_f K n) p g x st p' new) :
    p' ≤ n ∧ 4 * (n - p') + (new ++ S).length + 2 * pm_fS (new ++ S) < 4 * (n - p) + (S.length + 1) + 2 * pm_fl g ∧ (S.length + 1 + pm_fl g ≤ 2 * p + 2 → (new ++ S).length + pm_fS (new ++ S) ≤ 2 * p' + 2) := by
  have kn : ∀ j, K j ≠ 0 → j < n := fun j hj => by
    rcases Nat.lt_or_ge j n with z | z
    · exact z
    · exact absurd (hn j z) hj
  have f1 := pm_fS1 S
  have s1 := kn (p + 1)
  have s2 := kn (p + 2)
  rcases t with ⟨rfl, z, rfl, rfl⟩ | ⟨rfl, z, rfl, rfl⟩ | ⟨rfl, z, rfl, rfl⟩ | ⟨rfl, z, rfl, rfl⟩ | ⟨rfl, z, rfl, rfl⟩ | ⟨rfl, z, rfl, rfl⟩ | ⟨rfl, z, x4, rfl, rfl⟩ | ⟨hg, z, x0, rfl, rfl⟩ | ⟨hg, z, x4, z1, nd, rfl, rfl⟩ | ⟨hg, k1, k7, k2, c, q, rfl, rfl⟩ | ⟨rfl, z, rfl, rfl⟩ | ⟨rfl, k1, k, k2, rfl, rfl⟩ | ⟨rfl, k1, k, rfl, rfl⟩ | ⟨rfl, k1, k, rfl, rfl⟩ | ⟨rfl, k1, k, rfl, rfl⟩
  · simp only [List.nil_append, pm_fl]; simp; omega
  · simp only [List.nil_append, pm_fl]; simp; omega
  · simp [pm_fS, pm_fl]; omega
  · simp [pm_fS, pm_fl]; omega
  · simp only [List.nil_append, pm_fl]; simp; omega
  · simp only [List.nil_append, pm_fl]; simp; omega
  · simp [pm_fS, pm_fl]; omega
  · have e : pm_fl g = 0 := by unfold pm_fl; rw [if_neg (by omega)]
    rw [e]
    simp only [List.nil_append]; omega
  · have e : pm_fl g = 0 := by unfold pm_fl; rw [if_neg (by omega)]
    have e2 : pm_fl (if g = 5 then 1 else 7) = 0 := by unfold pm_fl; rw [if_neg]; split <;> omega
    rw [e]
    simp [pm_fS, e2]; omega
  · have e : pm_fl g = 0 := by unfold pm_fl; rw [if_neg (by omega)]
    have := kn (p + 2 + 1 + c) (by rw [q.2.2.1]; omega)
    rw [e]
    simp [pm_fS, pm_fl]; omega
  · simp only [List.nil_append, pm_fl]; simp; omega
  · have e2 : pm_fl (K (p + 1) - 3) = 0 := by unfold pm_fl; rw [if_neg]; omega
    simp only [List.cons_append, List.nil_append, List.length_cons, pm_fS, e2]
    simp only [pm_fl]; simp; omega
  · simp [pm_fS, pm_fl]; omega
  · simp [pm_fS, pm_fl]; omega
  · have g13 := gr_n13 (K (p + 1))
    obtain ⟨m, hm⟩ : ∃ m, gr_n (K (p + 1)) = m + 1 := ⟨gr_n (K (p + 1)) - 1, by omega⟩
    rw [hm] at g13 ⊢
    simp only [List.replicate_succ, List.cons_append, List.length_cons, List.length_append, List.length_replicate, List.length_nil, pm_fS]
    simp only [pm_fl]; simp; omega
theorem pm_cov {r : Nat → Int32} {par : Nat → Nat} (hn : ∀ i, n ≤ i → K i = 0) (W : rw_W K V (sk_f K n) n n r par)
    {g x st : Nat} {S : List (Nat × Nat × Nat)} {p p' : Nat} {new : List (Nat × Nat × Nat)} (h : pm_C K V (sk_f K n) n (fun c => r c = 1) (fun c => r c = 2) (fun c => r c = 3) ((g, x, st) :: S) p) (t : pm_T K V (sk_f K n) p g x st p' new) :
    ∀ t, p ≤ t → t < p' → (K t = 4 → (r t = 1 ∧ g = 1 ∧ t = p ∧ p' = p + 1 ∧ new = []) ∨ r t = 3) ∧ (K t = 1 → 7 ≤ K (t + 1) → K (t + 1) ≤ 9 → r t = 1) := by
  have kn : ∀ j, K j ≠ 0 → j < n := fun j hj => by
    rcases Nat.lt_or_ge j n with z | z
    · exact z
    · exact absurd (hn j z) hj
  intro u hu1 hu2
  rcases t with ⟨rfl, z, rfl, rfl⟩ | ⟨rfl, z, rfl, rfl⟩ | ⟨rfl, z, rfl, rfl⟩ | ⟨rfl, z, rfl, rfl⟩ | ⟨rfl, z, rfl, rfl⟩ | ⟨rfl, z, rfl, rfl⟩ | ⟨rfl, z, x4, rfl, rfl⟩ | ⟨hg, z, x0, rfl, rfl⟩ | ⟨hg, z, x4, z1, nd, rfl, rfl⟩ | ⟨hg, k1, k7, k2, c, q, rfl, rfl⟩ | ⟨rfl, z, rfl, rfl⟩ | ⟨rfl, k1, k, k2, rfl, rfl⟩ | ⟨rfl, k1, k, rfl, rfl⟩ | ⟨rfl, k1, k, rfl, rfl⟩ | ⟨rfl, k1, k, rfl, rfl⟩
  · have : u = p := by omega
    subst this; exact ⟨fun y => by omega, fun y => by omega⟩
  · have : u = p := by omega
    subst this; exact ⟨fun y => by omega, fun y => by omega⟩
  · omega
  · have : u = p := by omega
    subst this
    refine ⟨fun y => by omega, fun y y7 y9 => ?_⟩
    exfalso
    obtain ⟨hd, _⟩ := pm_C2.mp h
    obtain ⟨a1, a2⟩ := W.2.2.1 u (kn u (by omega)) hd
    have m := a2 (u + 1) ⟨z, ls_M_0 (by omega)⟩
    have b1 := (W.2.2.1 (u + 1) (kn (u + 1) (by omega)) m.1).1
    rcases b1 with b | b | ⟨b, _⟩ <;> omega
  · have : u = p := by omega
    subst this; exact ⟨fun y => by omega, fun y => by omega⟩
  · omega
  · omega
  · have : u = p := by omega
    subst this; exact ⟨fun y => by omega, fun y => by omega⟩
  · by_cases y : u = p
    · subst y; exact ⟨fun y => by omega, fun y => by omega⟩
    · have : u = p + 1 := by omega
      subst this
      refine ⟨fun _ => Or.inr ?_, fun y => by omega⟩
      obtain ⟨c, c0, c1, lc, hb, _⟩ := (pm_C56 hg).mp h
      cases c with
      | zero => have := ls_C_z lc; omega
      | succ c => exact (hb 0 (by omega)).2.1
  · have hp : r p = 1 := by
      rcases hg with rfl | rfl
      · exact (pm_C7.mp h).2.2.1
      · exact (pm_C1.mp h).1
    by_cases y : u = p
    · subst y; exact ⟨fun y => by omega, fun _ _ _ => hp⟩
    · by_cases y1 : u = p + 1
      · subst y1; exact ⟨fun y => by omega, fun y => by omega⟩
      · by_cases y2 : u = p + 2
        · subst y2
          refine ⟨fun y => by omega, fun _ y7 y9 => ?_⟩
          exfalso
          have q1 := q.2.2.1
          have q2 := q.2.1 0
          by_cases c0 : c = 0
          · subst c0
            change K (p + 2 + 1) = 2 at q1
            omega
          · have := q2 (by omega)
            change K (p + 2 + 1) = 4 at this
            omega
        · by_cases y3 : u = p + 3 + c
          · have q1 := q.2.2.1
            rw [show p + 2 + 1 + c = u from by omega] at q1
            exact ⟨fun y => by omega, fun y => by omega⟩
          · have e : u = p + 2 + 1 + (u - (p + 3)) := by omega
            have q2 := q.2.1 (u - (p + 3)) (by omega)
            rw [← e] at q2
            refine ⟨fun _ => Or.inr ?_, fun y => by omega⟩
            refine ((W.2.1 p (kn p (by omega)) hp).2.2.2 u ⟨k1, Or.inl ⟨k7, ?_⟩⟩).1
            exact (ls_CM (gr_PC (n := n) q)).mpr ⟨u - (p + 3), by omega, by rw [gr_Pi q (by omega)]; omega⟩
  · have : u = p := by omega
    subst this
    exact ⟨fun _ => Or.inl ⟨(pm_C1.mp h).1, rfl, rfl, rfl, rfl⟩, fun y => by omega⟩
  · have hp : r p = 1 := (pm_C1.mp h).1
    by_cases y : u = p
    · subst y; exact ⟨fun y => by omega, fun _ _ _ => hp⟩
    · by_cases y1 : u = p + 1
      · subst y1; exact ⟨fun y => by omega, fun y => by omega⟩
      · have : u = p + 2 := by omega
        subst this
        refine ⟨fun y => by omega, fun _ y7 y9 => ?_⟩
        exfalso
        rcases gr_FSof (W.2.1 p (kn p (by omega)) hp).1 k1 with ⟨k', l⟩ | ⟨k', l, k2', c, q⟩ | ⟨k', l, k2', c, c1, c4, lc, bb⟩ | ⟨k', l⟩ | ⟨k', c', c4, l⟩
        · omega
        · omega
        · have := (bb 0 (by omega)).1
          change K (p + 3) = 1 at this
          change 7 ≤ K (p + 3) at y7
          omega
        · omega
        · omega
  · have : u = p := by omega
    subst this; exact ⟨fun y => by omega, fun y => by omega⟩
  · by_cases y : u = p
    · subst y; exact ⟨fun y => by omega, fun y => by omega⟩
    · have : u = p + 1 := by omega
      subst this; exact ⟨fun y => by omega, fun y => by omega⟩
  · by_cases y : u = p
    · subst y; exact ⟨fun y => by omega, fun y => by omega⟩
    · have : u = p + 1 := by omega
      subst this; exact ⟨fun y => by omega, fun y => by omega⟩
/-- the roles are the machine's -/
theorem rw_EC {r : Nat → Int32} {par : Nat → Nat} (hrn : ∀ c, r c ≠ 0 → c < n) (W : rw_W K V (sk_f K n) n n r par) : (∀ p, r p = 1 → gr_EC K V (sk_f K n) (fun c => r c = 1) (fun c => r c = 2) p) ∧ (∀ p, r p = 1 → ∀ c, gr_N K (sk_f K n) p c → r c = 3) ∧ (∀ p, r p = 2 → gr_DC K (sk_f K n) (fun c => r c = 2) p) := by
  refine ⟨fun p hp => ?_, fun p hp c hc => ?_, fun p hp => ?_⟩
  · obtain ⟨a, b, c, d⟩ := W.2.1 p (hrn p (by rw [hp]; decide)) hp
    exact ⟨a, fun x hx => (b x hx).1, fun x hx => (c x hx).1⟩
  · exact ((W.2.1 p (hrn p (by rw [hp]; decide)) hp).2.2.2 c hc).1
  · obtain ⟨a, b⟩ := W.2.2.1 p (hrn p (by rw [hp]; decide)) hp
    exact ⟨a, fun x hx => (b x hx).1⟩
theorem pm_kc {r : Nat → Int32} {par : Nat → Nat} (hB : ∀ i, i < n → K i ≠ 2 → dp_I K i (sk_f K n i)) (hn : ∀ i, n ≤ i → K i = 0) (hrn : ∀ c, r c ≠ 0 → c < n) (hK2 : ∀ c, r c = 1 ∨ r c = 2 → K c ≠ 2) (W : rw_W K V (sk_f K n) n n r par) :
    ∀ (M : Nat) (S : List (Nat × Nat × Nat)) (p : Nat), 4 * (n - p) + S.length + 2 * pm_fS S ≤ M → p ≤ n → pm_C K V (sk_f K n) n (fun c => r c = 1) (fun c => r c = 2) (fun c => r c = 3) S p →
      (∀ t, t < p → K t = 1 → 7 ≤ K (t + 1) → K (t + 1) ≤ 9 → r t = 1) → ∀ t, K t = 1 → 7 ≤ K (t + 1) → K (t + 1) ≤ 9 → r t = 1 := by
  obtain ⟨hE, hN, hD⟩ := rw_EC hrn W
  have hEI : ∀ c, r c = 1 → dp_I K c (sk_f K n c) := fun c hc => hB c (hrn c (by rw [hc]; decide)) (hK2 c (Or.inl hc))
  have hDI : ∀ c, r c = 2 → dp_I K c (sk_f K n c) := fun c hc => hB c (hrn c (by rw [hc]; decide)) (hK2 c (Or.inr hc))
  intro M
  induction M with
  | zero =>
    intro S p hM hp hC hc t
    cases S with
    | nil =>
      intro h1 h7 h9
      refine hc t ?_ h1 h7 h9
      change p = n at hC
      rcases Nat.lt_or_ge t n with z | z
      · omega
      · have := hn t z; omega
    | cons a S => simp at hM
  | succ M ih =>
    intro S p hM hp hC hc t
    cases S with
    | nil =>
      intro h1 h7 h9
      refine hc t ?_ h1 h7 h9
      change p = n at hC
      rcases Nat.lt_or_ge t n with z | z
      · omega
      · have := hn t z; omega
    | cons a S =>
      obtain ⟨g, x, st⟩ := a
      obtain ⟨kp, p', new, T, C⟩ := pm_F hE hN hD hEI hDI hC
      have pn : p < n := by
        rcases Nat.lt_or_ge p n with z | z
        · exact z
        · exact absurd (hn p z) kp
      have d := pm_dec (S := S) hn pn T
      refine ih (new ++ S) p' ?_ d.1 C (fun u hu => ?_) t
      · have e : pm_fS ((g, x, st) :: S) = pm_fl g := rfl
        rw [e] at hM
        simp only [List.length_cons] at hM
        omega
      · rcases Nat.lt_or_ge u p with z | z
        · exact hc u z
        · exact (pm_cov hn W hC T u z hu).2
end
end
section
/-! the tokens as both sides hold them -/
def tk_K (tk : Nat → Int32) (n i : Nat) : Nat := if i < n then (tk i).toNatClampNeg else 0
def tk_ok (tk : Nat → Int32) (n : Nat) : Prop := n ≤ 64 ∧ ∀ i, i < n → ∃ k : Nat, 1 ≤ k ∧ k ≤ 20 ∧ tk i = nI k
section
variable {tk : Nat → Int32} {n : Nat}
theorem tk_v (H : tk_ok tk n) {i : Nat} (hi : i < n) : tk i = nI (tk_K tk n i) ∧ 1 ≤ tk_K tk n i ∧ tk_K tk n i ≤ 20 := by
  obtain ⟨k, h1, h2, e⟩ := H.2 i hi
  have : tk_K tk n i = k := by unfold tk_K; rw [if_pos hi, e, nI_clamp (by omega)]
  rw [this]; exact ⟨e, h1, h2⟩
theorem tk_0 {i : Nat} (hi : n ≤ i) : tk_K tk n i = 0 := if_neg (by omega)
theorem tk_lt {i : Nat} (h : tk_K tk n i ≠ 0) : i < n := by
  rcases Nat.lt_or_ge i n with z | z
  · exact z
  · exact absurd (tk_0 z) h
theorem tk_20 (H : tk_ok tk n) (i : Nat) : tk_K tk n i ≤ 20 := by
  rcases Nat.lt_or_ge i n with z | z
  · exact (tk_v H z).2.2
  · rw [tk_0 z]; omega
theorem tk_c (H : tk_ok tk n) {i : Nat} (hi : i < n) : tk (nI i).toNatClampNeg = nI (tk_K tk n i) := by
  have := H.1
  rw [nI_clamp (by omega)]; exact (tk_v H hi).1
theorem tk_in (H : tk_ok tk n) {i : Nat} (hi : i < n) : vp_in (nI i) 64 := vp_in_nI (by have := H.1; omega) (by omega)
/-- a branch on a token's kind -/
theorem tk_b (H : tk_ok tk n) {i : Nat} (hi : i < n) (c : Nat) {A B : Prop} (f : tk_K tk n i = c → A) (g : tk_K tk n i ≠ c → B) {y : Int32} (hy : y = nI c := by rfl) (hc : c < 2 ^ 31 := by omega) : (tk (nI i).toNatClampNeg = y → A) ∧ (¬ tk (nI i).toNatClampNeg = y → B) := by
  have h := tk_v H hi
  exact pk_eq (tk_K tk n i) c f g (tk_c H hi) hy (by omega) hc
end
theorem ni_2 (a : Nat) : nI a + 2 = nI (a + 2) := nI_add a 2
theorem ni_3 (a : Nat) : nI a + 3 = nI (a + 3) := nI_add a 3
theorem ni_4 (a : Nat) : nI a + 4 = nI (a + 4) := nI_add a 4
theorem ni_5 (a : Nat) : nI a + 5 = nI (a + 5) := nI_add a 5
theorem ni_m {a : Nat} (h : 1 ≤ a) : nI a - 1 = nI (a - 1) := pk_sub (b := 1) h
theorem ni_nm1 {a : Nat} (h : a < 2 ^ 31) : ¬ nI a = -1 := by
  intro e
  have h1 := nI_toInt h
  rw [e] at h1
  have h2 : (-1 : Int32).toInt = -1 := by decide
  omega
/-- the skip function moves on -/
theorem sk_gt {K : Nat → Nat} {n : Nat} (hn : ∀ i, n ≤ i → K i = 0) (p : Nat) : p < sk_f K n p := by
  by_cases h : ∃ j, dp_I K p j
  · obtain ⟨j, h⟩ := h
    rw [sk_I h]; exact h.1
  · by_cases h1 : K p = 1
    · rw [sk_no h h1]
      rcases Nat.lt_or_ge p n with z | z
      · exact z
      · have := hn p z; omega
    · rw [sk_at h1]; omega
theorem it_gt {K : Nat → Nat} {n : Nat} (hn : ∀ i, n ≤ i → K i = 0) (s x : Nat) : ∀ d, it_f (sk_f K n) x s + d ≤ it_f (sk_f K n) (x + d) s
  | 0 => Nat.le_refl _
  | d + 1 => by
    have h := it_gt hn s x d
    have g := sk_gt hn (it_f (sk_f K n) (x + d) s)
    rw [show x + (d + 1) = x + d + 1 from rfl, it_s]
    omega
theorem ls_bd {K : Nat → Nat} {n s c : Nat} (hn : ∀ i, n ≤ i → K i = 0) (lc : ls_C K (sk_f K n) s c) : (∀ x, x ≤ c → it_f (sk_f K n) x s < n ∧ s + x ≤ it_f (sk_f K n) x s) ∧ s + c < n := by
  have e : it_f (sk_f K n) c s < n := by
    rcases Nat.lt_or_ge (it_f (sk_f K n) c s) n with z | z
    · exact z
    · have := hn _ z; have := lc.2; omega
  have h0 := it_gt hn s 0
  refine ⟨fun x hx => ⟨?_, ?_⟩, ?_⟩
  · have := it_gt hn s x (c - x)
    rw [show x + (c - x) = c from by omega] at this
    omega
  · have := h0 x
    rw [Nat.zero_add] at this
    exact this
  · have := h0 c
    rw [Nat.zero_add] at this
    have e2 : it_f (sk_f K n) 0 s = s := rfl
    omega
/-- the component's table of ends -/
def xb_A (K : Nat → Nat) (n : Nat) (af : Nat → Int32) : Prop := ∀ i, i < n → K i ≠ 2 → dp_I K i (sk_f K n i) ∧ af i = nI (sk_f K n i)
end
section
/-! the component's parens, item by item -/
def xo_O (K : Nat → Nat) (af : Nat → Int32) (m : Nat) : List Nat → Int32 → Int → Prop
  | [], o, d => o = -1 ∧ d = 0
  | a :: l, o, d => o = nI a ∧ a < m ∧ K a = 1 ∧ dp_d K a = d - 1 ∧ (∀ x, a < x → x ≤ m → dp_d K a < dp_d K x) ∧ xo_O K af m l (af a) (d - 1)
section
variable {K : Nat → Nat}
theorem xo_len {af : Nat → Int32} {m : Nat} : ∀ {l : List Nat} {o : Int32} {d : Int}, xo_O K af m l o d → d = l.length
  | [], _, _, h => h.2
  | a :: l, _, _, h => by
    have := xo_len h.2.2.2.2.2
    simp only [List.length_cons]; omega
theorem xo_mem {af : Nat → Int32} {m b : Nat} : ∀ {l : List Nat} {o : Int32} {d : Int}, xo_O K af m l o d → b ∈ l → b < m ∧ dp_d K b < d
  | [], _, _, _, hb => absurd hb List.not_mem_nil
  | a :: l, _, _, h, hb => by
    rcases List.mem_cons.mp hb with e | e
    · subst e; exact ⟨h.2.1, by have := h.2.2.2.1; omega⟩
    · have := xo_mem h.2.2.2.2.2 e; exact ⟨this.1, by omega⟩
theorem xo_up {af af' : Nat → Int32} {m : Nat} : ∀ {l : List Nat} {o : Int32} {d : Int}, xo_O K af m l o d → (∀ b, b ∈ l → af' b = af b) → d ≤ dp_d K (m + 1) → xo_O K af' (m + 1) l o d
  | [], _, _, h, _, _ => h
  | a :: l, _, _, h, ha, hd => by
    obtain ⟨h1, h2, h3, h4, h5, h6⟩ := h
    refine ⟨h1, by omega, h3, h4, fun x x1 x2 => ?_, ?_⟩
    · by_cases z : x = m + 1
      · subst z; omega
      · exact h5 x x1 (by omega)
    · rw [ha a List.mem_cons_self]
      exact xo_up h6 (fun b hb => ha b (List.mem_cons_of_mem _ hb)) (by omega)
end
section
variable {xdl xtn xpp xvc xcc xfc xoc xag xan xex xen xfl xac xst xsp xmd xrt xcu : Int32} {xtk xtv xaf xro xsc xho xvk xvf xvs xcv xco xff xfp xfe xfb xop : Nat → Int32} {n : Nat}
theorem xo_loop (H : tk_ok xtk n) {post : Int32 → SX → Prop}
    (h1 : ∀ af', xb_A (tk_K xtk n) n af' → (0 < n → tk_K xtk n 0 ≠ 2) → post 1 (xdl, nI n, xpp, xvc, xcc, xfc, xoc, xag, xan, xex, xen, xfl, xac, xst, xsp, xmd, xrt, xcu, xtk, xtv, af', xro, xsc, xho, xvk, xvf, xvs, xcv, xco, xff, xfp, xfe, xfb, xop))
    (h0 : ∀ af', ¬ dp_I (tk_K xtk n) 0 n → post 0 (xdl, nI n, xpp, xvc, xcc, xfc, xoc, xag, xan, xex, xen, xfl, xac, xst, xsp, xmd, xrt, xcu, xtk, xtv, af', xro, xsc, xho, xvk, xvf, xvs, xcv, xco, xff, xfp, xfe, xfb, xop)) :
    ∀ (d m : Nat) (l : List Nat) (o : Int32) (af : Nat → Int32), m + d = n → xo_O (tk_K xtk n) af m l o (dp_d (tk_K xtk n) m) → (∀ i, i < m → tk_K xtk n i ≠ 2 → i ∈ l ∨ ∃ j, dp_I (tk_K xtk n) i j ∧ af i = nI j) → (0 < m → tk_K xtk n 0 ≠ 2) →
      wX_parensMatch_4 post xdl (nI n) xpp xvc xcc xfc xoc xag xan xex xen xfl xac xst xsp xmd xrt xcu (d + 1) o (nI m) xtk xtv af xro xsc xho xvk xvf xvs xcv xco xff xfp xfe xfb xop := by
  have H1 := H.1
  intro d
  induction d with
  | zero =>
    intro m l o af e hO hD hZ
    refine pk_le n m (fun _ => ?_) (fun z => by omega)
    cases l with
    | nil =>
      refine br_t hO.1 (h1 af (fun i hi hk => ?_) (fun z => hZ (by omega)))
      rcases hD i (by omega) hk with z | ⟨j, z, z2⟩
      · exact absurd z List.not_mem_nil
      · rw [sk_I z]; exact ⟨z, z2⟩
    | cons a l =>
      have la := hO.2.1
      refine br_f (by rw [hO.1]; exact ni_nm1 (by omega)) (h0 af (fun z => ?_))
      have e1 := xo_len hO
      have e2 := z.2.1
      rw [show n = m from by omega] at e2
      have e3 : dp_d (tk_K xtk m) 0 = 0 := rfl
      simp only [List.length_cons] at e1
      rw [show n = m from by omega] at e1
      omega
  | succ d ih =>
    intro m l o af e hO hD hZ
    have hm : m < n := by omega
    have hc : (nI m).toNatClampNeg = m := nI_clamp (by omega)
    refine pk_le n m (fun z => by omega) (fun _ => ⟨tk_in H hm, fun af4 e4 => ⟨tk_in H hm, tk_b H hm 1 (fun k => ?_) (fun k => ?_)⟩⟩)
    · refine ⟨tk_in H hm, fun a17 e17 => nm_r (nI_1 m) ?_⟩
      rw [hc] at e4 e17
      have f1 : a17 m = o := by rw [e17]; exact pk_us
      have f2 : ∀ j, j ≠ m → a17 j = af j := fun j hj => by rw [e17, pk_un hj, e4, pk_un hj]
      have d1 := dp_1 k
      refine ih (m + 1) (m :: l) (nI m) a17 (by omega) ⟨rfl, by omega, k, by omega, fun x x1 x2 => ?_, ?_⟩ (fun i hi hk => ?_) (fun z => ?_)
      · have : x = m + 1 := by omega
        subst this; omega
      · rw [f1, d1, show dp_d (tk_K xtk n) m + 1 - 1 = dp_d (tk_K xtk n) m from by omega]
        exact xo_up hO (fun b hb => f2 b (by have := (xo_mem hO hb).1; omega)) (by omega)
      · by_cases z : i = m
        · subst z; exact Or.inl List.mem_cons_self
        · rcases hD i (by omega) hk with y | y
          · exact Or.inl (List.mem_cons_of_mem _ y)
          · rw [f2 i z]; exact Or.inr y
      · by_cases y : m = 0
        · subst y; omega
        · exact hZ (by omega)
    · refine ⟨tk_in H hm, tk_b H hm 2 (fun k2 => ?_) (fun k2 => ?_)⟩
      · rw [hc] at e4
        have d2 := dp_2 k2
        cases l with
        | nil =>
          have hz := hO.2
          refine br_t hO.1 (h0 af4 (fun z => ?_))
          have e3 : dp_d (tk_K xtk n) 0 = 0 := rfl
          by_cases y : m + 1 = n
          · have := z.2.1; rw [← y] at this
            rw [← y] at e3 d2 hz; omega
          · have := z.2.2 (m + 1) (by omega) (by omega); omega
        | cons a l =>
          obtain ⟨o1, o2, o3, o4, o5, o6⟩ := hO
          have ca : o.toNatClampNeg = a := by rw [o1]; exact nI_clamp (by omega)
          have ia : vp_in o 64 := by rw [o1]; exact tk_in H (by omega)
          refine br_f (by rw [o1]; exact ni_nm1 (by omega)) ⟨ia, fun x3 e3 => ⟨ia, fun a14 e14 => nm_r (nI_1 m) ?_⟩⟩
          rw [ca] at e3 e14
          have f0 : x3 = af a := by rw [e3, e4, pk_un (by omega)]
          have f1 : a14 a = nI (m + 1) := by rw [e14, pk_us, nI_1]
          have f2 : ∀ j, j ≠ m → j ≠ a → a14 j = af j := fun j hj hj2 => by rw [e14, pk_un hj2, e4, pk_un hj]
          have nm : ∀ b, b ∈ l → b ≠ a ∧ b < m := fun b hb => by
            have := xo_mem o6 hb
            refine ⟨fun z => ?_, this.1⟩
            subst z; omega
          refine ih (m + 1) l x3 a14 (by omega) ?_ (fun i hi hk => ?_) (fun _ => hZ (by omega))
          · rw [f0, d2]
            exact xo_up o6 (fun b hb => f2 b (by have := (nm b hb).2; omega) (nm b hb).1) (by omega)
          · by_cases z : i = m
            · subst z; exact absurd k2 hk
            · by_cases z2 : i = a
              · subst z2
                refine Or.inr ⟨m + 1, ⟨by omega, by omega, fun x x1 x2 => o5 x x1 (by omega)⟩, f1⟩
              · rw [f2 i z z2]
                rcases hD i (by omega) hk with y | y
                · exact Or.inl ((List.mem_cons.mp y).resolve_left z2)
                · exact Or.inr y
      · rw [hc] at e4
        have f1 : af4 m = nI (m + 1) := by rw [e4, pk_us, nI_1]
        have f2 : ∀ j, j ≠ m → af4 j = af j := fun j hj => by rw [e4, pk_un hj]
        have d0 := dp_0 k k2
        refine nm_r (nI_1 m) (ih (m + 1) l o af4 (by omega) ?_ (fun i hi hk => ?_) (fun _ => ?_))
        · rw [d0]
          exact xo_up hO (fun b hb => f2 b (by have := (xo_mem hO hb).1; omega)) (by omega)
        · by_cases z : i = m
          · subst z; exact Or.inr ⟨i + 1, dp_I_a k k2, f1⟩
          · rw [f2 i z]; exact hD i (by omega) hk
        · by_cases y : m = 0
          · subst y; exact k2
          · exact hZ (by omega)
theorem xo_parens (H : tk_ok xtk n) {post : Int32 → SX → Prop}
    (h1 : ∀ af', xb_A (tk_K xtk n) n af' → (0 < n → tk_K xtk n 0 ≠ 2) → post 1 (xdl, nI n, xpp, xvc, xcc, xfc, xoc, xag, xan, xex, xen, xfl, xac, xst, xsp, xmd, xrt, xcu, xtk, xtv, af', xro, xsc, xho, xvk, xvf, xvs, xcv, xco, xff, xfp, xfe, xfb, xop))
    (h0 : ∀ af', ¬ dp_I (tk_K xtk n) 0 n → post 0 (xdl, nI n, xpp, xvc, xcc, xfc, xoc, xag, xan, xex, xen, xfl, xac, xst, xsp, xmd, xrt, xcu, xtk, xtv, af', xro, xsc, xho, xvk, xvf, xvs, xcv, xco, xff, xfp, xfe, xfb, xop)) : wpX_parensMatch post (xdl, nI n, xpp, xvc, xcc, xfc, xoc, xag, xan, xex, xen, xfl, xac, xst, xsp, xmd, xrt, xcu, xtk, xtv, xaf, xro, xsc, xho, xvk, xvf, xvs, xcv, xco, xff, xfp, xfe, xfb, xop) :=
  ⟨n + 1, xo_loop H h1 h0 n 0 [] (-1) xaf (by omega) ⟨rfl, rfl⟩ (fun i hi => by omega) (fun z => by omega)⟩
theorem xi_loop (H : tk_ok xtk n) (A : xb_A (tk_K xtk n) n xaf) {s c : Nat} (lc : ls_C (tk_K xtk n) (sk_f (tk_K xtk n) n) s c) {post : Int32 → Prop} (hp : post (nI c)) :
    ∀ d x, x + d = c → wX_itemCount_6 post xdl xtn xpp xvc xcc xfc xoc xag xan xex xen xfl xac xst xsp xmd xrt xcu xtk xtv xaf xro xsc xho xvk xvf xvs xcv xco xff xfp xfe xfb xop (d + 1) (nI (it_f (sk_f (tk_K xtk n) n) x s)) (nI x) := by
  have H1 := H.1
  have bd := ls_bd (K := (tk_K xtk n)) (n := n) (fun i => tk_0) lc
  have b2 := bd.2
  intro d
  induction d with
  | zero =>
    intro x e
    have ec : x = c := by omega
    subst ec
    have hx := (bd.1 x (Nat.le_refl _)).1
    exact pk_le 64 x (fun z => by omega) (fun _ => ⟨tk_in H hx, tk_b H hx 2 (fun _ => hp) (fun z => absurd lc.2 z)⟩)
  | succ d ih =>
    intro x e
    have hx := (bd.1 x (by omega)).1
    have k := lc.1 x (by omega)
    refine pk_le 64 x (fun z => by omega) (fun _ => ⟨tk_in H hx, tk_b H hx 2 (fun z => absurd z k) (fun _ => ⟨tk_in H hx, nm_r ?_ (nm_r (nI_1 x) (ih (x + 1) (by omega)))⟩)⟩)
    rw [nI_clamp (by omega), (A _ hx k).2, it_s]
theorem xi_items (H : tk_ok xtk n) (A : xb_A (tk_K xtk n) n xaf) {i c : Nat} (lc : ls_C (tk_K xtk n) (sk_f (tk_K xtk n) n) (i + 1) c) {post : Int32 → Prop} (hp : post (nI c)) : wpX_itemCount post (xdl, xtn, xpp, xvc, xcc, xfc, xoc, xag, xan, xex, xen, xfl, xac, xst, xsp, xmd, xrt, xcu, xtk, xtv, xaf, xro, xsc, xho, xvk, xvf, xvs, xcv, xco, xff, xfp, xfe, xfb, xop) (nI i) :=
  nm_r (nI_1 i) ⟨c + 1, xi_loop H A lc hp c 0 (by omega)⟩
theorem xg_loop (H : tk_ok xtk n) (A : xb_A (tk_K xtk n) n xaf) {s c : Nat} (lc : ls_C (tk_K xtk n) (sk_f (tk_K xtk n) n) s c) {ρ : Int32} {post : SX → Prop}
    (hp : ∀ r', (∀ q, ls_M (tk_K xtk n) (sk_f (tk_K xtk n) n) s q → r' q = ρ) → (∀ q, ¬ ls_M (tk_K xtk n) (sk_f (tk_K xtk n) n) s q → r' q = xro q) → post (xdl, xtn, xpp, xvc, xcc, xfc, xoc, xag, xan, xex, xen, xfl, xac, xst, xsp, xmd, xrt, xcu, xtk, xtv, xaf, r', xsc, xho, xvk, xvf, xvs, xcv, xco, xff, xfp, xfe, xfb, xop)) :
    ∀ d x (r' : Nat → Int32), x + d = c → (∀ q, (∃ y, y < x ∧ q = it_f (sk_f (tk_K xtk n) n) y s) → r' q = ρ) → (∀ q, ¬ (∃ y, y < x ∧ q = it_f (sk_f (tk_K xtk n) n) y s) → r' q = xro q) →
      wX_giveRole_5 post ρ xdl xtn xpp xvc xcc xfc xoc xag xan xex xen xfl xac xst xsp xmd xrt xcu (d + 1) (nI (it_f (sk_f (tk_K xtk n) n) x s)) (nI x) xtk xtv xaf r' xsc xho xvk xvf xvs xcv xco xff xfp xfe xfb xop := by
  have H1 := H.1
  have bd := ls_bd (K := (tk_K xtk n)) (n := n) (fun i => tk_0) lc
  have b2 := bd.2
  intro d
  induction d with
  | zero =>
    intro x r' e r1 r2
    have ec : x = c := by omega
    subst ec
    have hx := (bd.1 x (Nat.le_refl _)).1
    exact pk_le 64 x (fun z => by omega) (fun _ => ⟨tk_in H hx, tk_b H hx 2 (fun _ => hp r' (fun q hq => r1 q ((ls_CM lc).mp hq)) (fun q hq => r2 q (fun z => hq ((ls_CM lc).mpr z)))) (fun z => absurd lc.2 z)⟩)
  | succ d ih =>
    intro x r' e r1 r2
    have hx := (bd.1 x (by omega)).1
    have k := lc.1 x (by omega)
    have hc : (nI (it_f (sk_f (tk_K xtk n) n) x s)).toNatClampNeg = it_f (sk_f (tk_K xtk n) n) x s := nI_clamp (by omega)
    refine pk_le 64 x (fun z => by omega) (fun _ => ⟨tk_in H hx, tk_b H hx 2 (fun z => absurd z k) (fun _ => ⟨tk_in H hx, fun r5 e5 => ⟨tk_in H hx, nm_r ?_ (nm_r (nI_1 x) (ih (x + 1) r5 (by omega) ?_ ?_))⟩⟩)⟩)
    · rw [hc, (A _ hx k).2, it_s]
    · rintro q ⟨y, hy, eq⟩
      rw [e5, hc]
      by_cases z : q = it_f (sk_f (tk_K xtk n) n) x s
      · rw [z]; exact pk_us
      · rw [pk_un z]
        refine r1 q ⟨y, ?_, eq⟩
        by_cases y2 : y = x
        · subst y2; exact absurd eq z
        · omega
    · intro q hq
      rw [e5, hc, pk_un (fun z => hq ⟨x, by omega, z⟩)]
      exact r2 q (fun ⟨y, hy, eq⟩ => hq ⟨y, by omega, eq⟩)
theorem xg_give (H : tk_ok xtk n) (A : xb_A (tk_K xtk n) n xaf) {s c : Nat} (lc : ls_C (tk_K xtk n) (sk_f (tk_K xtk n) n) s c) {ρ : Int32} {post : SX → Prop}
    (hp : ∀ r', (∀ q, ls_M (tk_K xtk n) (sk_f (tk_K xtk n) n) s q → r' q = ρ) → (∀ q, ¬ ls_M (tk_K xtk n) (sk_f (tk_K xtk n) n) s q → r' q = xro q) → post (xdl, xtn, xpp, xvc, xcc, xfc, xoc, xag, xan, xex, xen, xfl, xac, xst, xsp, xmd, xrt, xcu, xtk, xtv, xaf, r', xsc, xho, xvk, xvf, xvs, xcv, xco, xff, xfp, xfe, xfb, xop)) : wpX_giveRole post (xdl, xtn, xpp, xvc, xcc, xfc, xoc, xag, xan, xex, xen, xfl, xac, xst, xsp, xmd, xrt, xcu, xtk, xtv, xaf, xro, xsc, xho, xvk, xvf, xvs, xcv, xco, xff, xfp, xfe, xfb, xop) (nI s) ρ :=
  ⟨c + 1, xg_loop H A lc hp c 0 xro (by omega) (fun q ⟨y, hy, _⟩ => by omega) (fun q _ => rfl)⟩
theorem xn_loop (H : tk_ok xtk n) {L q : Nat} (hq : q < n) {post : Int32 → SX → Prop}
    (h1 : (∀ x, L < x → x < q → xro x = 3 → xtv x ≠ xtv q) → post 1 (xdl, xtn, xpp, xvc, xcc, xfc, xoc, xag, xan, xex, xen, xfl, xac, xst, xsp, xmd, xrt, xcu, xtk, xtv, xaf, upd xro q 3, xsc, xho, xvk, xvf, xvs, xcv, xco, xff, xfp, xfe, xfb, xop))
    (h0 : (∃ x, L < x ∧ x < q ∧ xro x = 3 ∧ xtv x = xtv q) → post 0 (xdl, xtn, xpp, xvc, xcc, xfc, xoc, xag, xan, xex, xen, xfl, xac, xst, xsp, xmd, xrt, xcu, xtk, xtv, xaf, xro, xsc, xho, xvk, xvf, xvs, xcv, xco, xff, xfp, xfe, xfb, xop)) :
    ∀ d m, m + d = q → L < m → (∀ x, L < x → x < m → xro x = 3 → xtv x ≠ xtv q) → wX_takeName_16 post (nI q) xdl xtn xpp xvc xcc xfc xoc xag xan xex xen xfl xac xst xsp xmd xrt xcu xtk xtv xaf xro xsc xho xvk xvf xvs xcv xco xff xfp xfe xfb xop (d + 1) (nI m) := by
  have H1 := H.1
  have hcq : (nI q).toNatClampNeg = q := nI_clamp (by omega)
  intro d
  induction d with
  | zero =>
    intro m e hL hx
    have ec : m = q := by omega
    subst ec
    refine pk_le m m (fun _ => ⟨tk_in H hq, fun r6 e6 => ?_⟩) (fun z => by omega)
    rw [e6, hcq]; exact h1 hx
  | succ d ih =>
    intro m e hL hx
    have hm : m < n := by omega
    have hc : (nI m).toNatClampNeg = m := nI_clamp (by omega)
    refine pk_le q m (fun z => by omega) (fun _ => ⟨tk_in H hm, ?_⟩)
    rw [hc, hcq]
    by_cases r3 : xro m = 3
    · refine br_t r3 ⟨tk_in H hm, tk_in H hq, ?_⟩
      by_cases ev : xtv m = xtv q
      · exact br_t ev (h0 ⟨m, hL, by omega, r3, ev⟩)
      · refine br_f ev (nm_r (nI_1 m) (ih (m + 1) (by omega) (by omega) (fun x x1 x2 x3 => ?_)))
        by_cases z : x = m
        · subst z; exact ev
        · exact hx x x1 (by omega) x3
    · refine br_f r3 (nm_r (nI_1 m) (ih (m + 1) (by omega) (by omega) (fun x x1 x2 x3 => ?_)))
      by_cases z : x = m
      · subst z; exact absurd x3 r3
      · exact hx x x1 (by omega) x3
theorem xn_take (H : tk_ok xtk n) {L q : Nat} (hL : L < q) (hq : q < n) {post : Int32 → SX → Prop}
    (h1 : tk_K xtk n q = 4 → (∀ x, L < x → x < q → xro x = 3 → xtv x ≠ xtv q) → post 1 (xdl, xtn, xpp, xvc, xcc, xfc, xoc, xag, xan, xex, xen, xfl, xac, xst, xsp, xmd, xrt, xcu, xtk, xtv, xaf, upd xro q 3, xsc, xho, xvk, xvf, xvs, xcv, xco, xff, xfp, xfe, xfb, xop))
    (h0 : (tk_K xtk n q ≠ 4 ∨ ∃ x, L < x ∧ x < q ∧ xro x = 3 ∧ xtv x = xtv q) → post 0 (xdl, xtn, xpp, xvc, xcc, xfc, xoc, xag, xan, xex, xen, xfl, xac, xst, xsp, xmd, xrt, xcu, xtk, xtv, xaf, xro, xsc, xho, xvk, xvf, xvs, xcv, xco, xff, xfp, xfe, xfb, xop)) : wpX_takeName post (xdl, xtn, xpp, xvc, xcc, xfc, xoc, xag, xan, xex, xen, xfl, xac, xst, xsp, xmd, xrt, xcu, xtk, xtv, xaf, xro, xsc, xho, xvk, xvf, xvs, xcv, xco, xff, xfp, xfe, xfb, xop) (nI L) (nI q) :=
  ⟨tk_in H hq, tk_b H hq 4 (fun k => nm_r (nI_1 L) ⟨_, xn_loop H hq (h1 k) (fun z => h0 (Or.inr z)) (q - (L + 1)) (L + 1) (by omega) (by omega) (fun x x1 x2 => by omega)⟩) (fun k => h0 (Or.inl k))⟩
end
end
section
section
variable {xdl xtn xpp xvc xcc xfc xoc xag xan xex xen xfl xac xst xsp xmd xrt xcu : Int32} {xtk xtv xaf xro xsc xho xvk xvf xvs xcv xco xff xfp xfe xfb xop : Nat → Int32} {n : Nat}
/-- the number of a list's items, for a matched paren -/
theorem xl_cnt (H : tk_ok xtk n) (A : xb_A (tk_K xtk n) n xaf) {i : Nat} (hi : i < n) (k1 : tk_K xtk n i = 1) : ∃ c, ls_C (tk_K xtk n) (sk_f (tk_K xtk n) n) (i + 1) c ∧ it_f (sk_f (tk_K xtk n) n) c (i + 1) + 1 = sk_f (tk_K xtk n) n i ∧ c + (i + 1) < sk_f (tk_K xtk n) n i ∧ sk_f (tk_K xtk n) n i ≤ n := by
  have hI := (A i hi (by omega)).1
  obtain ⟨c, a, b, d, _⟩ := ls_in (n := n) hI k1
  exact ⟨c, a, b, d, dp_le (K := (tk_K xtk n)) (n := n) (fun i => tk_0) hI hi⟩
/-- names so far: no list of names ends before them -/
theorem xl_Px {q x c : Nat} (h : ∀ j, j < x → tk_K xtk n (q + 1 + j) = 4) (p : gr_P (tk_K xtk n) xtv q c) : x ≤ c := by
  rcases Nat.lt_or_ge c x with z | z
  · have := h c z; have := p.2.2.1; omega
  · exact z
theorem xl_59 (H : tk_ok xtk n) (A : xb_A (tk_K xtk n) n xaf) {i x : Nat} {r' : Nat → Int32} (k1 : tk_K xtk n i = 1) (k7 : tk_K xtk n (i + 1) = 7) (l2 : ls_C (tk_K xtk n) (sk_f (tk_K xtk n) n) (i + 2) 2) (k2 : tk_K xtk n (i + 2) = 1) {post : Int32 → SX → Prop}
    (h1 : ∀ r', gr_FS (tk_K xtk n) xtv (sk_f (tk_K xtk n) n) i 7 → (∀ c, gr_E (tk_K xtk n) (sk_f (tk_K xtk n) n) i c → r' c = 1) → (∀ c, gr_N (tk_K xtk n) (sk_f (tk_K xtk n) n) i c → r' c = 3) → (∀ c, ¬ gr_Ch (tk_K xtk n) (sk_f (tk_K xtk n) n) i c → r' c = xro c) → post 1 (xdl, xtn, xpp, xvc, xcc, xfc, xoc, xag, xan, xex, xen, xfl, xac, xst, xsp, xmd, xrt, xcu, xtk, xtv, xaf, r', xsc, xho, xvk, xvf, xvs, xcv, xco, xff, xfp, xfe, xfb, xop))
    (h0 : ∀ r', ¬ gr_FS (tk_K xtk n) xtv (sk_f (tk_K xtk n) n) i 7 → post 0 (xdl, xtn, xpp, xvc, xcc, xfc, xoc, xag, xan, xex, xen, xfl, xac, xst, xsp, xmd, xrt, xcu, xtk, xtv, xaf, r', xsc, xho, xvk, xvf, xvs, xcv, xco, xff, xfp, xfe, xfb, xop))
    (hx : x ≤ 4) (hp : i + 2 + 1 + x < n) (hk : ∀ j, j < x → tk_K xtk n (i + 2 + 1 + j) = 4) (hd : ∀ j j', j < j' → j' < x → xtv (i + 2 + 1 + j) ≠ xtv (i + 2 + 1 + j')) (hr : ∀ j, j < x → r' (i + 2 + 1 + j) = 3) (hn : ∀ q, (∀ j, j < x → q ≠ i + 2 + 1 + j) → r' q = xro q)
    (hend : tk_K xtk n (i + 2 + 1 + x) ≠ 2 → x = 4) : wX_lambdaFits_59 post (nI (i + 2)) (nI (i + 2 + 1 + x)) xdl xtn xpp xvc xcc xfc xoc xag xan xex xen xfl xac xst xsp xmd xrt xcu xtk xtv xaf r' xsc xho xvk xvf xvs xcv xco xff xfp xfe xfb xop := by
  have H1 := H.1
  have i2 : i + 2 < n := tk_lt (tk := xtk) (by omega)
  have e2 : xaf (nI (i + 2)).toNatClampNeg = nI (sk_f (tk_K xtk n) n (i + 2)) := by rw [nI_clamp (by omega)]; exact (A _ i2 (by omega)).2
  have b1 : sk_f (tk_K xtk n) n (i + 2) < n := ((ls_bd (K := (tk_K xtk n)) (n := n) (fun i => tk_0) l2).1 1 (by omega)).1
  refine ⟨tk_in H i2, ?_, fun r8 e8 => ⟨tk_in H hp, tk_b H hp 2 (fun k => ?_) (fun k => ?_)⟩⟩
  · rw [e2]; exact tk_in H b1
  · rw [e2, nI_clamp (by omega)] at e8
    have P : gr_P (tk_K xtk n) xtv (i + 2) x := ⟨hx, hk, k, hd⟩
    have ea : sk_f (tk_K xtk n) n (i + 2) = i + 2 + 2 + x := gr_Pa k2 P
    have lc := gr_PC (n := n) P
    refine h1 r8 (Or.inr (Or.inl ⟨rfl, l2, k2, x, P⟩)) (fun c hc => ?_) (fun c hc => ?_) (fun c hc => ?_)
    · obtain ⟨_, hc⟩ := hc
      rcases hc with ⟨z, _⟩ | ⟨z, _⟩ | ⟨_, _, z⟩ | ⟨z, _⟩
      · omega
      · omega
      · rw [e8, z]; exact pk_us
      · omega
    · obtain ⟨_, hc⟩ := hc
      rcases hc with ⟨_, hc⟩ | ⟨z, _⟩
      · obtain ⟨j, hj, e⟩ := (ls_CM lc).mp hc
        rw [gr_Pi P (by omega)] at e
        rw [e8, pk_un (by omega), e]; exact hr j hj
      · omega
    · have n1 : c ≠ sk_f (tk_K xtk n) n (i + 2) := fun z => hc (Or.inl ⟨k1, Or.inr (Or.inr (Or.inl ⟨by omega, by omega, z⟩))⟩)
      rw [e8, pk_un n1]
      refine hn c (fun j hj z => hc (Or.inr (Or.inr ⟨k1, Or.inl ⟨k7, ?_⟩⟩)))
      exact (ls_CM lc).mpr ⟨j, hj, by rw [gr_Pi P (by omega)]; exact z⟩
  · have x4 := hend k
    refine h0 r8 (fun z => ?_)
    rcases z with ⟨z, _⟩ | ⟨_, _, _, c, P⟩ | ⟨z, _⟩ | ⟨z, _⟩ | ⟨z, _⟩
    · omega
    · have := xl_Px hk P
      have := P.1
      have e : c = x := by omega
      subst e
      exact k P.2.2.1
    · omega
    · omega
    · omega
theorem xl_lamL (H : tk_ok xtk n) (A : xb_A (tk_K xtk n) n xaf) {i : Nat} (k1 : tk_K xtk n i = 1) (k7 : tk_K xtk n (i + 1) = 7) (l2 : ls_C (tk_K xtk n) (sk_f (tk_K xtk n) n) (i + 2) 2) (k2 : tk_K xtk n (i + 2) = 1) (hz : ∀ m, i < m → m < sk_f (tk_K xtk n) n i → xro m = 0) {post : Int32 → SX → Prop}
    (h1 : ∀ r', gr_FS (tk_K xtk n) xtv (sk_f (tk_K xtk n) n) i 7 → (∀ c, gr_E (tk_K xtk n) (sk_f (tk_K xtk n) n) i c → r' c = 1) → (∀ c, gr_N (tk_K xtk n) (sk_f (tk_K xtk n) n) i c → r' c = 3) → (∀ c, ¬ gr_Ch (tk_K xtk n) (sk_f (tk_K xtk n) n) i c → r' c = xro c) → post 1 (xdl, xtn, xpp, xvc, xcc, xfc, xoc, xag, xan, xex, xen, xfl, xac, xst, xsp, xmd, xrt, xcu, xtk, xtv, xaf, r', xsc, xho, xvk, xvf, xvs, xcv, xco, xff, xfp, xfe, xfb, xop))
    (h0 : ∀ r', ¬ gr_FS (tk_K xtk n) xtv (sk_f (tk_K xtk n) n) i 7 → post 0 (xdl, xtn, xpp, xvc, xcc, xfc, xoc, xag, xan, xex, xen, xfl, xac, xst, xsp, xmd, xrt, xcu, xtk, xtv, xaf, r', xsc, xho, xvk, xvf, xvs, xcv, xco, xff, xfp, xfe, xfb, xop)) :
    ∀ d x (r' : Nat → Int32), x + d = 4 → (∀ j, j < x → tk_K xtk n (i + 2 + 1 + j) = 4) → (∀ j j', j < j' → j' < x → xtv (i + 2 + 1 + j) ≠ xtv (i + 2 + 1 + j')) → (∀ j, j < x → r' (i + 2 + 1 + j) = 3) → (∀ q, (∀ j, j < x → q ≠ i + 2 + 1 + j) → r' q = xro q) →
      wX_lambdaFits_23 post (nI (i + 2)) (d + 1) (nI (i + 2 + 1 + x)) (nI x) xdl xtn xpp xvc xcc xfc xoc xag xan xex xen xfl xac xst xsp xmd xrt xcu xtk xtv xaf r' xsc xho xvk xvf xvs xcv xco xff xfp xfe xfb xop := by
  have H1 := H.1
  have i2 : i + 2 < n := tk_lt (tk := xtk) (by omega)
  obtain ⟨c', lc', _, _, _⟩ := xl_cnt H A i2 k2
  have hpos : ∀ x, (∀ j, j < x → tk_K xtk n (i + 2 + 1 + j) = 4) → i + 2 + 1 + x < n := by
    intro x hk
    have e : ∀ j, j ≤ x → it_f (sk_f (tk_K xtk n) n) j (i + 2 + 1) = i + 2 + 1 + j := fun j hj => it_at (fun y hy => by have := hk y (by omega); omega)
    have hc : x ≤ c' := by
      rcases Nat.lt_or_ge c' x with z | z
      · have := lc'.2; rw [e c' (by omega)] at this; have := hk c' z; omega
      · exact z
    have := ((ls_bd (K := (tk_K xtk n)) (n := n) (fun i => tk_0) lc').1 x hc).1
    rw [e x (Nat.le_refl _)] at this
    exact this
  intro d
  induction d with
  | zero =>
    intro x r' e hk hd hr hn
    exact pk_le 4 x (fun _ => xl_59 H A k1 k7 l2 k2 h1 h0 (by omega) (hpos x hk) hk hd hr hn (fun _ => by omega)) (fun z => by omega)
  | succ d ih =>
    intro x r' e hk hd hr hn
    have hp := hpos x hk
    refine pk_le 4 x (fun z => by omega) (fun _ => ⟨tk_in H hp, tk_b H hp 2 (fun k => xl_59 H A k1 k7 l2 k2 h1 h0 (by omega) hp hk hd hr hn (fun z => absurd k z)) (fun k => ?_)⟩)
    refine xn_take (xro := r') H (by omega) hp (fun k4 hq => ?_) (fun z => ?_)
    · refine br_f (by decide) (nm_r (nI_1 _) (nm_r (nI_1 x) (ih (x + 1) _ (by omega) (fun j hj => ?_) (fun j j' h1 h2 => ?_) (fun j hj => ?_) (fun q hq2 => ?_))))
      · by_cases z : j = x
        · subst z; exact k4
        · exact hk j (by omega)
      · by_cases z : j' = x
        · subst z
          exact hq (i + 2 + 1 + j) (by omega) (by omega) (hr j h1)
        · exact hd j j' h1 (by omega)
      · by_cases z : j = x
        · subst z; exact pk_us
        · rw [pk_un (by omega)]; exact hr j (by omega)
      · rw [pk_un (hq2 x (by omega))]
        exact hn q (fun j hj => hq2 j (by omega))
    · refine br_t rfl (h0 r' (fun w => ?_))
      rcases w with ⟨w, _⟩ | ⟨_, _, _, c, P⟩ | ⟨w, _⟩ | ⟨w, _⟩ | ⟨w, _⟩
      · omega
      · have hxc := xl_Px hk P
        have hxc2 : x < c := by
          rcases Nat.lt_or_ge x c with y | y
          · exact y
          · have : c = x := by omega
            subst this; exact absurd P.2.2.1 k
        rcases z with z | ⟨y, y1, y2, y3, y4⟩
        · exact z (P.2.1 x hxc2)
        · have ey : y = i + 2 + 1 + (y - (i + 2 + 1)) := by omega
          rw [ey] at y4
          exact P.2.2.2 (y - (i + 2 + 1)) x (by omega) hxc2 y4
      · omega
      · omega
      · omega
theorem xl_lam (H : tk_ok xtk n) (A : xb_A (tk_K xtk n) n xaf) {i : Nat} (k1 : tk_K xtk n i = 1) (k7 : tk_K xtk n (i + 1) = 7) (l2 : ls_C (tk_K xtk n) (sk_f (tk_K xtk n) n) (i + 2) 2) (hz : ∀ m, i < m → m < sk_f (tk_K xtk n) n i → xro m = 0) {post : Int32 → SX → Prop}
    (h1 : ∀ r', gr_FS (tk_K xtk n) xtv (sk_f (tk_K xtk n) n) i 7 → (∀ c, gr_E (tk_K xtk n) (sk_f (tk_K xtk n) n) i c → r' c = 1) → (∀ c, gr_N (tk_K xtk n) (sk_f (tk_K xtk n) n) i c → r' c = 3) → (∀ c, ¬ gr_Ch (tk_K xtk n) (sk_f (tk_K xtk n) n) i c → r' c = xro c) → post 1 (xdl, xtn, xpp, xvc, xcc, xfc, xoc, xag, xan, xex, xen, xfl, xac, xst, xsp, xmd, xrt, xcu, xtk, xtv, xaf, r', xsc, xho, xvk, xvf, xvs, xcv, xco, xff, xfp, xfe, xfb, xop))
    (h0 : ∀ r', ¬ gr_FS (tk_K xtk n) xtv (sk_f (tk_K xtk n) n) i 7 → post 0 (xdl, xtn, xpp, xvc, xcc, xfc, xoc, xag, xan, xex, xen, xfl, xac, xst, xsp, xmd, xrt, xcu, xtk, xtv, xaf, r', xsc, xho, xvk, xvf, xvs, xcv, xco, xff, xfp, xfe, xfb, xop)) : wpX_lambdaFits post (xdl, xtn, xpp, xvc, xcc, xfc, xoc, xag, xan, xex, xen, xfl, xac, xst, xsp, xmd, xrt, xcu, xtk, xtv, xaf, xro, xsc, xho, xvk, xvf, xvs, xcv, xco, xff, xfp, xfe, xfb, xop) (nI i) := by
  have i2 : i + 2 < n := by have := (ls_bd (K := (tk_K xtk n)) (n := n) (fun i => tk_0) l2).2; omega
  refine nm_r (ni_2 i) ⟨tk_in H i2, tk_b H i2 1 (fun k2 => nm_r (nI_1 (i + 2)) ⟨5, ?_⟩) (fun k2 => h0 xro (fun w => ?_))⟩
  · rcases w with ⟨w, _⟩ | ⟨_, _, w, c, P⟩ | ⟨w, _⟩ | ⟨w, _⟩ | ⟨w, _⟩
    · omega
    · exact k2 w
    · omega
    · omega
    · omega
  · exact xl_lamL H A k1 k7 l2 k2 hz h1 h0 4 0 xro (by omega) (fun j hj => by omega) (fun j j' _ hj => by omega) (fun j hj => by omega) (fun q _ => rfl)
end
end
section
section
variable {xdl xtn xpp xvc xcc xfc xoc xag xan xex xen xfl xac xst xsp xmd xrt xcu : Int32} {xtk xtv xaf xro xsc xho xvk xvf xvs xcv xco xff xfp xfe xfb xop : Nat → Int32} {n : Nat}
theorem xl_dup {K : Nat → Nat} {V : Nat → Int32} {n L x : Nat} (hn : ∀ i, n ≤ i → K i = 0) (hx : x ≤ 4) : gr_dup V (sk_f K n) L (it_f (sk_f K n) x (L + 1) + 1) ↔ ∃ k, k < x ∧ V (it_f (sk_f K n) k (L + 1) + 1) = V (it_f (sk_f K n) x (L + 1) + 1) := by
  constructor
  · rintro ⟨k, k4, kl, kv⟩
    refine ⟨k, ?_, kv⟩
    rcases Nat.lt_or_ge k x with z | z
    · exact z
    · have := kl x z; omega
  · rintro ⟨k, hk, kv⟩
    refine ⟨k, by omega, fun k' h' => ?_, kv⟩
    have := it_gt hn (L + 1) k' (x - k')
    rw [show k' + (x - k') = x from by omega] at this
    omega
theorem xl_bind (H : tk_ok xtk n) (A : xb_A (tk_K xtk n) n xaf) {L b : Nat} {ol : Int32} (hL : L < b) (hb : b < n) {post : Int32 → SX → Prop}
    (h1 : tk_K xtk n b = 1 → ls_C (tk_K xtk n) (sk_f (tk_K xtk n) n) (b + 1) 2 → tk_K xtk n (b + 1) = 4 → (∀ x, L < x → x < b + 1 → xro x = 3 → xtv x ≠ xtv (b + 1)) → (ol ≠ 0 → tk_K xtk n (b + 2) = 1 ∧ tk_K xtk n (b + 3) = 7) → post 1 (xdl, xtn, xpp, xvc, xcc, xfc, xoc, xag, xan, xex, xen, xfl, xac, xst, xsp, xmd, xrt, xcu, xtk, xtv, xaf, upd (upd xro (b + 1) 3) (b + 2) 1, xsc, xho, xvk, xvf, xvs, xcv, xco, xff, xfp, xfe, xfb, xop))
    (h0 : ∀ r', ¬ (tk_K xtk n b = 1 ∧ ls_C (tk_K xtk n) (sk_f (tk_K xtk n) n) (b + 1) 2 ∧ tk_K xtk n (b + 1) = 4 ∧ (∀ x, L < x → x < b + 1 → xro x = 3 → xtv x ≠ xtv (b + 1)) ∧ (ol ≠ 0 → tk_K xtk n (b + 2) = 1 ∧ tk_K xtk n (b + 3) = 7)) → post 0 (xdl, xtn, xpp, xvc, xcc, xfc, xoc, xag, xan, xex, xen, xfl, xac, xst, xsp, xmd, xrt, xcu, xtk, xtv, xaf, r', xsc, xho, xvk, xvf, xvs, xcv, xco, xff, xfp, xfe, xfb, xop)) :
    wpX_bindFits post (xdl, xtn, xpp, xvc, xcc, xfc, xoc, xag, xan, xex, xen, xfl, xac, xst, xsp, xmd, xrt, xcu, xtk, xtv, xaf, xro, xsc, xho, xvk, xvf, xvs, xcv, xco, xff, xfp, xfe, xfb, xop) (nI L) (nI b) ol := by
  have H1 := H.1
  refine ⟨tk_in H hb, tk_b H hb 1 (fun k1 => ?_) (fun k1 => h0 xro (fun w => k1 w.1))⟩
  obtain ⟨c, lc, e1, e2, e3⟩ := xl_cnt H A hb k1
  refine xi_items H A lc (pk_eq c 2 (fun c2 => ?_) (fun c2 => h0 xro (fun w => c2 (ls_C_u lc w.2.1))))
  subst c2
  rw [nI_1 b]
  refine xn_take H (by omega) (by omega) (fun k4 hq => ?_) (fun z => br_t rfl (h0 xro (fun w => ?_)))
  · refine br_f (by decide) (nm_r (ni_2 b) ⟨tk_in H (by omega), fun r7 e7 => ?_⟩)
    rw [nI_clamp (by omega)] at e7
    subst e7
    by_cases o : ol = 0
    · exact br_t o (h1 k1 lc k4 hq (fun z => absurd o z))
    · refine br_f o ⟨tk_in H (by omega), tk_b H (by omega) 1 (fun kk => ?_) (fun kk => h0 _ (fun w => kk (w.2.2.2.2 o).1))⟩
      rw [nI_1 (b + 2)]
      exact ⟨tk_in H (by omega), tk_b H (by omega) 7 (fun k7 => h1 k1 lc k4 hq (fun _ => ⟨kk, k7⟩)) (fun k7 => h0 _ (fun w => k7 (w.2.2.2.2 o).2))⟩
  · rcases z with z | ⟨y, y1, y2, y3, y4⟩
    · exact z w.2.2.1
    · exact w.2.2.2.1 y y1 y2 y3 y4
/-- binds lie apart -/
theorem xl_ap {K : Nat → Nat} {V : Nat → Int32} {n h L s x : Nat} (hn : ∀ i, n ≤ i → K i = 0) (hB : ∀ i, i < n → K i ≠ 2 → dp_I K i (sk_f K n i)) (hb : ∀ j, j < x → gr_BS K V (sk_f K n) h L (it_f (sk_f K n) j s)) {j : Nat} (hj : j < x) : it_f (sk_f K n) j s + 4 ≤ it_f (sk_f K n) x s := by
  have b := hb j hj
  have kb := b.1
  have bn : it_f (sk_f K n) j s < n := by
    rcases Nat.lt_or_ge (it_f (sk_f K n) j s) n with z | z
    · exact z
    · have := hn _ z; omega
  obtain ⟨c, lc, e1, e2, _⟩ := ls_in (n := n) (hB _ bn (by omega)) kb
  have := ls_C_u lc b.2.1
  subst this
  have g := it_gt hn s (j + 1) (x - (j + 1))
  rw [show j + 1 + (x - (j + 1)) = x from by omega, it_s] at g
  omega
theorem xl_100 (H : tk_ok xtk n) (A : xb_A (tk_K xtk n) n xaf) {i x : Nat} {r' : Nat → Int32} (hi : i < n) (k1 : tk_K xtk n i = 1) (k8 : tk_K xtk n (i + 1) = 8 ∨ tk_K xtk n (i + 1) = 9) (l2 : ls_C (tk_K xtk n) (sk_f (tk_K xtk n) n) (i + 2) 2) (k2 : tk_K xtk n (i + 2) = 1) (k3 : tk_K xtk n (i + 2 + 1) ≠ 2) {post : Int32 → SX → Prop}
    (h1 : ∀ r', gr_FS (tk_K xtk n) xtv (sk_f (tk_K xtk n) n) i (tk_K xtk n (i + 1)) → (∀ c, gr_E (tk_K xtk n) (sk_f (tk_K xtk n) n) i c → r' c = 1) → (∀ c, gr_N (tk_K xtk n) (sk_f (tk_K xtk n) n) i c → r' c = 3) → (∀ c, ¬ gr_Ch (tk_K xtk n) (sk_f (tk_K xtk n) n) i c → r' c = xro c) → post 1 (xdl, xtn, xpp, xvc, xcc, xfc, xoc, xag, xan, xex, xen, xfl, xac, xst, xsp, xmd, xrt, xcu, xtk, xtv, xaf, r', xsc, xho, xvk, xvf, xvs, xcv, xco, xff, xfp, xfe, xfb, xop))
    (h0 : ∀ r', ¬ gr_FS (tk_K xtk n) xtv (sk_f (tk_K xtk n) n) i (tk_K xtk n (i + 1)) → post 0 (xdl, xtn, xpp, xvc, xcc, xfc, xoc, xag, xan, xex, xen, xfl, xac, xst, xsp, xmd, xrt, xcu, xtk, xtv, xaf, r', xsc, xho, xvk, xvf, xvs, xcv, xco, xff, xfp, xfe, xfb, xop))
    (hx : x ≤ 4) (hp : it_f (sk_f (tk_K xtk n) n) x (i + 2 + 1) < n) (hk : ∀ j, j < x → tk_K xtk n (it_f (sk_f (tk_K xtk n) n) j (i + 2 + 1)) ≠ 2) (hb : ∀ j, j < x → gr_BS (tk_K xtk n) xtv (sk_f (tk_K xtk n) n) (tk_K xtk n (i + 1)) (i + 2) (it_f (sk_f (tk_K xtk n) n) j (i + 2 + 1))) (hr : ∀ j, j < x → r' (it_f (sk_f (tk_K xtk n) n) j (i + 2 + 1) + 1) = 3 ∧ r' (it_f (sk_f (tk_K xtk n) n) j (i + 2 + 1) + 2) = 1) (hn : ∀ q, (∀ j, j < x → q ≠ it_f (sk_f (tk_K xtk n) n) j (i + 2 + 1) + 1 ∧ q ≠ it_f (sk_f (tk_K xtk n) n) j (i + 2 + 1) + 2) → r' q = xro q)
    (hend : tk_K xtk n (it_f (sk_f (tk_K xtk n) n) x (i + 2 + 1)) ≠ 2 → x = 4) : wX_letFits_100 post (nI (i + 2)) (nI (it_f (sk_f (tk_K xtk n) n) x (i + 2 + 1))) xdl xtn xpp xvc xcc xfc xoc xag xan xex xen xfl xac xst xsp xmd xrt xcu xtk xtv xaf r' xsc xho xvk xvf xvs xcv xco xff xfp xfe xfb xop := by
  have H1 := H.1
  have hB : ∀ i, i < n → tk_K xtk n i ≠ 2 → dp_I (tk_K xtk n) i (sk_f (tk_K xtk n) n i) := fun i hi hk => (A i hi hk).1
  have i2 : i + 2 < n := tk_lt (tk := xtk) (by omega)
  have e2 : xaf (nI (i + 2)).toNatClampNeg = nI (sk_f (tk_K xtk n) n (i + 2)) := by rw [nI_clamp (by omega)]; exact (A _ i2 (by omega)).2
  have b1 : sk_f (tk_K xtk n) n (i + 2) < n := ((ls_bd (K := (tk_K xtk n)) (n := n) (fun i => tk_0) l2).1 1 (by omega)).1
  refine ⟨tk_in H i2, ?_, fun r8 e8 => ⟨tk_in H hp, tk_b H hp 2 (fun k => ?_) (fun k => ?_)⟩⟩
  · rw [e2]; exact tk_in H b1
  · rw [e2, nI_clamp (by omega)] at e8
    have lc : ls_C (tk_K xtk n) (sk_f (tk_K xtk n) n) (i + 3) x := ⟨hk, k⟩
    have x1 : 1 ≤ x := by
      rcases Nat.lt_or_ge x 1 with z | z
      · have : x = 0 := by omega
        subst this; exact absurd k k3
      · exact z
    have F : gr_FS (tk_K xtk n) xtv (sk_f (tk_K xtk n) n) i (tk_K xtk n (i + 1)) := Or.inr (Or.inr (Or.inl ⟨k8, l2, k2, x, x1, hx, lc, hb⟩))
    have S : gr_SH (tk_K xtk n) xtv (sk_f (tk_K xtk n) n) i := Or.inr (Or.inr (Or.inr ⟨k1, F⟩))
    have hI := hB i hi (by omega)
    refine h1 r8 F (fun c hc => ?_) (fun c hc => ?_) (fun c hc => ?_)
    · obtain ⟨_, hc⟩ := hc
      rcases hc with ⟨z, _⟩ | ⟨z, _⟩ | ⟨_, _, z⟩ | ⟨_, b, z, z2⟩
      · omega
      · omega
      · rw [e8, z]; exact pk_us
      · obtain ⟨j, hj, e⟩ := (ls_CM lc).mp z
        by_cases y : c = sk_f (tk_K xtk n) n (i + 2)
        · rw [e8, y]; exact pk_us
        · rw [e8, pk_un y, z2, e]; exact (hr j hj).2
    · have hc0 := hc
      obtain ⟨_, hc⟩ := hc
      rcases hc with ⟨z, _⟩ | ⟨_, b, z, z2⟩
      · omega
      · obtain ⟨j, hj, e⟩ := (ls_CM lc).mp z
        obtain ⟨m1, m2, m3, m4, m5, m6, m7, m8, m9⟩ := gr_bnd hI k1 k8 S z
        have := m5.1
        rw [e8, pk_un (by omega), z2, e]; exact (hr j hj).1
    · have n1 : c ≠ sk_f (tk_K xtk n) n (i + 2) := fun z => hc (Or.inl ⟨k1, Or.inr (Or.inr (Or.inl ⟨by omega, by omega, z⟩))⟩)
      rw [e8, pk_un n1]
      refine hn c (fun j hj => ⟨fun z => hc (Or.inr (Or.inr ⟨k1, Or.inr ⟨k8, _, (ls_CM lc).mpr ⟨j, hj, rfl⟩, z⟩⟩)), fun z => hc (Or.inl ⟨k1, Or.inr (Or.inr (Or.inr ⟨k8, _, (ls_CM lc).mpr ⟨j, hj, rfl⟩, z⟩))⟩)⟩)
  · have x4 := hend k
    refine h0 r8 (fun z => ?_)
    rcases z with ⟨z, _⟩ | ⟨z, _⟩ | ⟨_, _, _, c, c1, c4, lc, b⟩ | ⟨z, _⟩ | ⟨z, _⟩
    · omega
    · omega
    · have e : c = 4 := by
        rcases Nat.lt_or_ge c 4 with y | y
        · exact absurd lc.2 (hk c (by omega))
        · omega
      rw [x4, ← e] at k
      exact k lc.2
    · omega
    · omega
theorem xl_letL (H : tk_ok xtk n) (A : xb_A (tk_K xtk n) n xaf) {i : Nat} {ol : Int32} (hi : i < n) (k1 : tk_K xtk n i = 1) (k8 : tk_K xtk n (i + 1) = 8 ∨ tk_K xtk n (i + 1) = 9) (ho : ol ≠ 0 ↔ tk_K xtk n (i + 1) = 9) (l2 : ls_C (tk_K xtk n) (sk_f (tk_K xtk n) n) (i + 2) 2) (k2 : tk_K xtk n (i + 2) = 1) (k3 : tk_K xtk n (i + 2 + 1) ≠ 2) (hz : ∀ m, i < m → m < sk_f (tk_K xtk n) n i → xro m = 0) {post : Int32 → SX → Prop}
    (h1 : ∀ r', gr_FS (tk_K xtk n) xtv (sk_f (tk_K xtk n) n) i (tk_K xtk n (i + 1)) → (∀ c, gr_E (tk_K xtk n) (sk_f (tk_K xtk n) n) i c → r' c = 1) → (∀ c, gr_N (tk_K xtk n) (sk_f (tk_K xtk n) n) i c → r' c = 3) → (∀ c, ¬ gr_Ch (tk_K xtk n) (sk_f (tk_K xtk n) n) i c → r' c = xro c) → post 1 (xdl, xtn, xpp, xvc, xcc, xfc, xoc, xag, xan, xex, xen, xfl, xac, xst, xsp, xmd, xrt, xcu, xtk, xtv, xaf, r', xsc, xho, xvk, xvf, xvs, xcv, xco, xff, xfp, xfe, xfb, xop))
    (h0 : ∀ r', ¬ gr_FS (tk_K xtk n) xtv (sk_f (tk_K xtk n) n) i (tk_K xtk n (i + 1)) → post 0 (xdl, xtn, xpp, xvc, xcc, xfc, xoc, xag, xan, xex, xen, xfl, xac, xst, xsp, xmd, xrt, xcu, xtk, xtv, xaf, r', xsc, xho, xvk, xvf, xvs, xcv, xco, xff, xfp, xfe, xfb, xop)) :
    ∀ d x (r' : Nat → Int32), x + d = 4 → (∀ j, j < x → tk_K xtk n (it_f (sk_f (tk_K xtk n) n) j (i + 2 + 1)) ≠ 2) → (∀ j, j < x → gr_BS (tk_K xtk n) xtv (sk_f (tk_K xtk n) n) (tk_K xtk n (i + 1)) (i + 2) (it_f (sk_f (tk_K xtk n) n) j (i + 2 + 1))) → (∀ j, j < x → r' (it_f (sk_f (tk_K xtk n) n) j (i + 2 + 1) + 1) = 3 ∧ r' (it_f (sk_f (tk_K xtk n) n) j (i + 2 + 1) + 2) = 1) → (∀ q, (∀ j, j < x → q ≠ it_f (sk_f (tk_K xtk n) n) j (i + 2 + 1) + 1 ∧ q ≠ it_f (sk_f (tk_K xtk n) n) j (i + 2 + 1) + 2) → r' q = xro q) →
      wX_letFits_55 post (nI (i + 2)) ol (d + 1) (nI (it_f (sk_f (tk_K xtk n) n) x (i + 2 + 1))) (nI x) xdl xtn xpp xvc xcc xfc xoc xag xan xex xen xfl xac xst xsp xmd xrt xcu xtk xtv xaf r' xsc xho xvk xvf xvs xcv xco xff xfp xfe xfb xop := by
  have H1 := H.1
  have hB : ∀ i, i < n → tk_K xtk n i ≠ 2 → dp_I (tk_K xtk n) i (sk_f (tk_K xtk n) n i) := fun i hi hk => (A i hi hk).1
  have i2 : i + 2 < n := tk_lt (tk := xtk) (by omega)
  obtain ⟨c', lc', q1, q2, q3⟩ := xl_cnt H A i2 k2
  obtain ⟨c0, lc0, p1, p2, p3⟩ := xl_cnt H A hi k1
  have hI := hB i hi (by omega)
  have hlt : sk_f (tk_K xtk n) n (i + 2) < sk_f (tk_K xtk n) n i := dp_nest hI (by omega) (by
    have s2 := gr_s2 hI k1 (by omega)
    omega) (hB _ i2 (by omega))
  have hpos : ∀ x, (∀ j, j < x → tk_K xtk n (it_f (sk_f (tk_K xtk n) n) j (i + 2 + 1)) ≠ 2) → it_f (sk_f (tk_K xtk n) n) x (i + 2 + 1) < n ∧ x ≤ c' ∧ i + 2 + 1 ≤ it_f (sk_f (tk_K xtk n) n) x (i + 2 + 1) ∧ it_f (sk_f (tk_K xtk n) n) x (i + 2 + 1) < sk_f (tk_K xtk n) n (i + 2) := by
    intro x hk
    have hc : x ≤ c' := by
      rcases Nat.lt_or_ge c' x with z | z
      · exact absurd lc'.2 (hk c' z)
      · exact z
    have := (ls_bd (K := (tk_K xtk n)) (n := n) (fun i => tk_0) lc').1 x hc
    have g := it_gt (K := (tk_K xtk n)) (n := n) (fun i => tk_0) (i + 2 + 1) x (c' - x)
    rw [show x + (c' - x) = c' from by omega] at g
    exact ⟨this.1, hc, by omega, by omega⟩
  intro d
  induction d with
  | zero =>
    intro x r' e hk hb hr hn
    exact pk_le 4 x (fun _ => xl_100 H A hi k1 k8 l2 k2 k3 h1 h0 (by omega) (hpos x hk).1 hk hb hr hn (fun _ => by omega)) (fun z => by omega)
  | succ d ih =>
    intro x r' e hk hb hr hn
    obtain ⟨hp, hxc, hge, hltx⟩ := hpos x hk
    refine pk_le 4 x (fun z => by omega) (fun _ => ⟨tk_in H hp, tk_b H hp 2 (fun k => xl_100 H A hi k1 k8 l2 k2 k3 h1 h0 (by omega) hp hk hb hr hn (fun z => absurd k z)) (fun k => ?_)⟩)
    have ap : ∀ j, j < x → it_f (sk_f (tk_K xtk n) n) j (i + 2 + 1) + 4 ≤ it_f (sk_f (tk_K xtk n) n) x (i + 2 + 1) := fun j hj => xl_ap (K := (tk_K xtk n)) (n := n) (fun i => tk_0) hB hb hj
    have hdup : (∀ q, i + 2 < q → q < it_f (sk_f (tk_K xtk n) n) x (i + 2 + 1) + 1 → r' q = 3 → xtv q ≠ xtv (it_f (sk_f (tk_K xtk n) n) x (i + 2 + 1) + 1)) ↔ ¬ gr_dup xtv (sk_f (tk_K xtk n) n) (i + 2) (it_f (sk_f (tk_K xtk n) n) x (i + 2 + 1) + 1) := by
      rw [xl_dup (K := (tk_K xtk n)) (n := n) (fun i => tk_0) (by omega)]
      constructor
      · rintro w ⟨j, hj, ev⟩
        have := ap j hj
        exact w _ (by have := (hpos j (fun y hy => hk y (by omega))).2.2.1; omega) (by omega) (hr j hj).1 ev
      · intro w q w1 w2 w3 ev
        by_cases z : ∀ j, j < x → q ≠ it_f (sk_f (tk_K xtk n) n) j (i + 2 + 1) + 1 ∧ q ≠ it_f (sk_f (tk_K xtk n) n) j (i + 2 + 1) + 2
        · rw [hn q z, hz q (by omega) (by omega)] at w3
          exact absurd w3 (by decide)
        · refine w ?_
          refine Classical.byContradiction (fun no => z (fun j hj => ⟨fun e1 => no ⟨j, hj, by rw [← e1]; exact ev⟩, fun e1 => ?_⟩))
          rw [e1, (hr j hj).2] at w3
          exact absurd w3 (by decide)
    refine xl_bind (xro := r') H A (by omega) hp (fun b1 b2 b3 b4 b5 => ?_) (fun r2 w => br_t rfl (h0 r2 (fun F => ?_)))
    · have bs : gr_BS (tk_K xtk n) xtv (sk_f (tk_K xtk n) n) (tk_K xtk n (i + 1)) (i + 2) (it_f (sk_f (tk_K xtk n) n) x (i + 2 + 1)) := ⟨b1, b2, b3, hdup.mp b4, fun z => b5 (ho.mpr z)⟩
      refine br_f (by decide) ⟨tk_in H hp, nm_r ?_ (nm_r (nI_1 x) (ih (x + 1) _ (by omega) (fun j hj => ?_) (fun j hj => ?_) (fun j hj => ?_) (fun q hq => ?_)))⟩
      · rw [nI_clamp (by omega), (A _ hp k).2, it_s]
      · by_cases z : j = x
        · subst z; exact k
        · exact hk j (by omega)
      · by_cases z : j = x
        · subst z; exact bs
        · exact hb j (by omega)
      · by_cases z : j = x
        · subst z
          exact ⟨by rw [pk_un (by omega)]; exact pk_us, pk_us⟩
        · have := ap j (by omega)
          rw [pk_un (by omega), pk_un (by omega), pk_un (by omega), pk_un (by omega)]
          exact hr j (by omega)
      · have w := hq x (by omega)
        rw [pk_un w.2, pk_un w.1]
        exact hn q (fun j hj => hq j (by omega))
    · rcases F with ⟨z, _⟩ | ⟨z, _⟩ | ⟨_, _, _, c, c1, c4, lc, b⟩ | ⟨z, _⟩ | ⟨z, _⟩
      · omega
      · omega
      · have hxc2 : x < c := by
          rcases Nat.lt_or_ge x c with y | y
          · exact y
          · have ec : c = c' := ls_C_u lc lc'
            have : x = c := by omega
            subst this; exact absurd lc.2 k
        obtain ⟨y1, y2, y3, y4, y5⟩ := b x hxc2
        exact w ⟨y1, y2, y3, hdup.mpr y4, fun z => y5 (ho.mp z)⟩
      · omega
      · omega
theorem xl_let (H : tk_ok xtk n) (A : xb_A (tk_K xtk n) n xaf) {i : Nat} (hi : i < n) (k1 : tk_K xtk n i = 1) (k8 : tk_K xtk n (i + 1) = 8 ∨ tk_K xtk n (i + 1) = 9) (l2 : ls_C (tk_K xtk n) (sk_f (tk_K xtk n) n) (i + 2) 2) (hz : ∀ m, i < m → m < sk_f (tk_K xtk n) n i → xro m = 0) {post : Int32 → SX → Prop}
    (h1 : ∀ r', gr_FS (tk_K xtk n) xtv (sk_f (tk_K xtk n) n) i (tk_K xtk n (i + 1)) → (∀ c, gr_E (tk_K xtk n) (sk_f (tk_K xtk n) n) i c → r' c = 1) → (∀ c, gr_N (tk_K xtk n) (sk_f (tk_K xtk n) n) i c → r' c = 3) → (∀ c, ¬ gr_Ch (tk_K xtk n) (sk_f (tk_K xtk n) n) i c → r' c = xro c) → post 1 (xdl, xtn, xpp, xvc, xcc, xfc, xoc, xag, xan, xex, xen, xfl, xac, xst, xsp, xmd, xrt, xcu, xtk, xtv, xaf, r', xsc, xho, xvk, xvf, xvs, xcv, xco, xff, xfp, xfe, xfb, xop))
    (h0 : ∀ r', ¬ gr_FS (tk_K xtk n) xtv (sk_f (tk_K xtk n) n) i (tk_K xtk n (i + 1)) → post 0 (xdl, xtn, xpp, xvc, xcc, xfc, xoc, xag, xan, xex, xen, xfl, xac, xst, xsp, xmd, xrt, xcu, xtk, xtv, xaf, r', xsc, xho, xvk, xvf, xvs, xcv, xco, xff, xfp, xfe, xfb, xop)) : wpX_letFits post (xdl, xtn, xpp, xvc, xcc, xfc, xoc, xag, xan, xex, xen, xfl, xac, xst, xsp, xmd, xrt, xcu, xtk, xtv, xaf, xro, xsc, xho, xvk, xvf, xvs, xcv, xco, xff, xfp, xfe, xfb, xop) (nI i) := by
  have i2 : i + 2 < n := by have := (ls_bd (K := (tk_K xtk n)) (n := n) (fun i => tk_0) l2).2; omega
  have F2 : ∀ {k : Prop}, (gr_FS (tk_K xtk n) xtv (sk_f (tk_K xtk n) n) i (tk_K xtk n (i + 1)) → tk_K xtk n (i + 2) = 1 ∧ tk_K xtk n (i + 2 + 1) ≠ 2) := by
    intro _ w
    rcases w with ⟨z, _⟩ | ⟨z, _⟩ | ⟨_, _, z, c, c1, c4, lc, b⟩ | ⟨z, _⟩ | ⟨z, _⟩
    · omega
    · omega
    · exact ⟨z, lc.1 0 (by omega)⟩
    · omega
    · omega
  have H1 := H.1
  refine nm_r (ni_2 i) ⟨tk_in H i2, tk_b H i2 1 (fun k2 => ?_) (fun k2 => h0 xro (fun w => k2 (F2 (k := True) w).1))⟩
  obtain ⟨c', lc', q1, q2, q3⟩ := xl_cnt H A i2 k2
  have i3 : i + 2 + 1 < n := by omega
  rw [nI_1 (i + 2), nI_1 i]
  refine ⟨tk_in H i3, tk_b H i3 2 (fun k3 => h0 xro (fun w => (F2 (k := True) w).2 k3)) (fun k3 => ⟨tk_in H (by omega), tk_b H (by omega) 9 (fun k9 => nm_e ⟨5, ?_⟩) (fun k9 => nm_e ⟨5, ?_⟩)⟩)⟩
  · exact xl_letL H A hi k1 k8 ⟨fun _ => k9, fun _ => by decide⟩ l2 k2 k3 hz h1 h0 4 0 xro (by omega) (fun j hj => by omega) (fun j hj => by omega) (fun j hj => by omega) (fun q _ => rfl)
  · exact xl_letL H A hi k1 k8 ⟨fun z => absurd rfl z, fun z => absurd z k9⟩ l2 k2 k3 hz h1 h0 4 0 xro (by omega) (fun j hj => by omega) (fun j hj => by omega) (fun j hj => by omega) (fun q _ => rfl)
end
end
section
section
variable {xdl xtn xpp xvc xcc xfc xoc xag xan xex xen xfl xac xst xsp xmd xrt xcu : Int32} {xtk xtv xaf xro xsc xho xvk xvf xvs xcv xco xff xfp xfe xfb xop : Nat → Int32} {n : Nat}
theorem xf_form (H : tk_ok xtk n) (A : xb_A (tk_K xtk n) n xaf) {i : Nat} (hi : i < n) (k1 : tk_K xtk n i = 1) (hz : ∀ m, i < m → m < sk_f (tk_K xtk n) n i → xro m = 0) {post : Int32 → SX → Prop}
    (h1 : ∀ r', gr_SH (tk_K xtk n) xtv (sk_f (tk_K xtk n) n) i → (∀ c, gr_E (tk_K xtk n) (sk_f (tk_K xtk n) n) i c → r' c = 1) → (∀ c, gr_D (tk_K xtk n) (sk_f (tk_K xtk n) n) i c → r' c = 2) → (∀ c, gr_N (tk_K xtk n) (sk_f (tk_K xtk n) n) i c → r' c = 3) → (∀ c, ¬ gr_Ch (tk_K xtk n) (sk_f (tk_K xtk n) n) i c → r' c = xro c) → post 1 (xdl, xtn, xpp, xvc, xcc, xfc, xoc, xag, xan, xex, xen, xfl, xac, xst, xsp, xmd, xrt, xcu, xtk, xtv, xaf, r', xsc, xho, xvk, xvf, xvs, xcv, xco, xff, xfp, xfe, xfb, xop))
    (h0 : ∀ r', ¬ gr_SH (tk_K xtk n) xtv (sk_f (tk_K xtk n) n) i → post 0 (xdl, xtn, xpp, xvc, xcc, xfc, xoc, xag, xan, xex, xen, xfl, xac, xst, xsp, xmd, xrt, xcu, xtk, xtv, xaf, r', xsc, xho, xvk, xvf, xvs, xcv, xco, xff, xfp, xfe, xfb, xop)) : wpX_formFits post (xdl, xtn, xpp, xvc, xcc, xfc, xoc, xag, xan, xex, xen, xfl, xac, xst, xsp, xmd, xrt, xcu, xtk, xtv, xaf, xro, xsc, xho, xvk, xvf, xvs, xcv, xco, xff, xfp, xfe, xfb, xop) (nI i) := by
  have H1 := H.1
  obtain ⟨c0, lc0, p1, p2, p3⟩ := xl_cnt H A hi k1
  have i1 : i + 1 < n := by omega
  have k20 := tk_20 H (i + 1)
  have noS : (gr_FS (tk_K xtk n) xtv (sk_f (tk_K xtk n) n) i (tk_K xtk n (i + 1)) → False) → ¬ gr_SH (tk_K xtk n) xtv (sk_f (tk_K xtk n) n) i := fun w S => w (gr_FSof S k1)
  -- an application
  have app : tk_K xtk n (i + 1) < 6 → ∀ r', (∀ q, ls_M (tk_K xtk n) (sk_f (tk_K xtk n) n) (i + 1) q → r' q = 1) → (∀ q, ¬ ls_M (tk_K xtk n) (sk_f (tk_K xtk n) n) (i + 1) q → r' q = xro q) → ((1 ≤ c0 ∧ c0 ≤ 5) → post 1 (xdl, xtn, xpp, xvc, xcc, xfc, xoc, xag, xan, xex, xen, xfl, xac, xst, xsp, xmd, xrt, xcu, xtk, xtv, xaf, r', xsc, xho, xvk, xvf, xvs, xcv, xco, xff, xfp, xfe, xfb, xop)) ∧ (¬ (1 ≤ c0 ∧ c0 ≤ 5) → post 0 (xdl, xtn, xpp, xvc, xcc, xfc, xoc, xag, xan, xex, xen, xfl, xac, xst, xsp, xmd, xrt, xcu, xtk, xtv, xaf, r', xsc, xho, xvk, xvf, xvs, xcv, xco, xff, xfp, xfe, xfb, xop)) := by
    intro k r' e1 e2
    refine ⟨fun z => h1 r' ?_ (fun q hq => ?_) (fun q hq => ?_) (fun q hq => ?_) (fun q hq => e2 q (fun w => hq (Or.inl ⟨k1, Or.inr (Or.inl ⟨k, w⟩)⟩))), fun z => h0 r' (noS (fun F => ?_))⟩
    · refine Or.inr (Or.inr (Or.inr ⟨k1, Or.inr (Or.inr (Or.inr (Or.inr ⟨k, c0 - 1, by omega, ?_⟩)))⟩))
      rw [show c0 - 1 + 1 = c0 from by omega]; exact lc0
    · rcases hq.2 with ⟨w, _⟩ | ⟨_, w⟩ | ⟨w, _⟩ | ⟨w, _⟩
      · omega
      · exact e1 q w
      · omega
      · omega
    · have := hq.2.1; omega
    · rcases hq.2 with ⟨w, _⟩ | ⟨w, _⟩ <;> omega
    · rcases F with ⟨w, _⟩ | ⟨w, _⟩ | ⟨w, _⟩ | ⟨w, _⟩ | ⟨_, c, c4, lc⟩
      · omega
      · omega
      · omega
      · omega
      · have := ls_C_u lc0 lc; omega
  -- the forms with a keyword: their items behind it
  have kw : 6 ≤ tk_K xtk n (i + 1) → ∃ c, c0 = c + 1 ∧ ls_C (tk_K xtk n) (sk_f (tk_K xtk n) n) (i + 2) c := by
    intro k
    cases c0 with
    | zero => have := ls_C_z lc0; omega
    | succ c =>
      have t := (ls_C_t lc0).2
      rw [sk_at (K := (tk_K xtk n)) (n := n) (i := i + 1) (by omega)] at t
      exact ⟨c, rfl, t⟩
  have ops : 10 ≤ tk_K xtk n (i + 1) → ∀ m, gr_n (tk_K xtk n (i + 1)) = m → ∀ c, ls_C (tk_K xtk n) (sk_f (tk_K xtk n) n) (i + 2) c → ∀ r', (∀ q, ls_M (tk_K xtk n) (sk_f (tk_K xtk n) n) (i + 2) q → r' q = 1) → (∀ q, ¬ ls_M (tk_K xtk n) (sk_f (tk_K xtk n) n) (i + 2) q → r' q = xro q) → (c = m → post 1 (xdl, xtn, xpp, xvc, xcc, xfc, xoc, xag, xan, xex, xen, xfl, xac, xst, xsp, xmd, xrt, xcu, xtk, xtv, xaf, r', xsc, xho, xvk, xvf, xvs, xcv, xco, xff, xfp, xfe, xfb, xop)) ∧ (c ≠ m → post 0 (xdl, xtn, xpp, xvc, xcc, xfc, xoc, xag, xan, xex, xen, xfl, xac, xst, xsp, xmd, xrt, xcu, xtk, xtv, xaf, r', xsc, xho, xvk, xvf, xvs, xcv, xco, xff, xfp, xfe, xfb, xop)) := by
    intro k m em c lc r' e1 e2
    refine ⟨fun z => h1 r' ?_ (fun q hq => ?_) (fun q hq => ?_) (fun q hq => ?_) (fun q hq => e2 q (fun w => hq (Or.inl ⟨k1, Or.inl ⟨k, w⟩⟩))), fun z => h0 r' (noS (fun F => ?_))⟩
    · refine Or.inr (Or.inr (Or.inr ⟨k1, Or.inr (Or.inr (Or.inr (Or.inl ⟨k, ?_⟩)))⟩))
      rw [em, ← z]; exact lc
    · rcases hq.2 with ⟨_, w⟩ | ⟨w, _⟩ | ⟨_, w, _⟩ | ⟨w, _⟩
      · exact e1 q w
      · omega
      · omega
      · omega
    · have := hq.2.1; omega
    · rcases hq.2 with ⟨w, _⟩ | ⟨w, _⟩ <;> omega
    · rcases F with ⟨w, _⟩ | ⟨w, _⟩ | ⟨w, _⟩ | ⟨_, l⟩ | ⟨w, _⟩
      · omega
      · omega
      · omega
      · rw [em] at l
        exact z (ls_C_u lc l)
      · omega
  have f183 : 10 ≤ tk_K xtk n (i + 1) → gr_n (tk_K xtk n (i + 1)) = 2 → wX_formFits_183 post (nI i) (nI c0) xdl xtn xpp xvc xcc xfc xoc xag xan xex xen xfl xac xst xsp xmd xrt xcu xtk xtv xaf xro xsc xho xvk xvf xvs xcv xco xff xfp xfe xfb xop := by
    intro k em
    obtain ⟨c, ec, lc⟩ := kw (by omega)
    have : wpX_giveRole (fun u => match u with | (xdl, xtn, xpp, xvc, xcc, xfc, xoc, xag, xan, xex, xen, xfl, xac, xst, xsp, xmd, xrt, xcu, xtk, xtv, xaf, xro, xsc, xho, xvk, xvf, xvs, xcv, xco, xff, xfp, xfe, xfb, xop) => ((nI c0 = 3 → post 1 (xdl, xtn, xpp, xvc, xcc, xfc, xoc, xag, xan, xex, xen, xfl, xac, xst, xsp, xmd, xrt, xcu, xtk, xtv, xaf, xro, xsc, xho, xvk, xvf, xvs, xcv, xco, xff, xfp, xfe, xfb, xop)) ∧ (¬ nI c0 = 3 → post 0 (xdl, xtn, xpp, xvc, xcc, xfc, xoc, xag, xan, xex, xen, xfl, xac, xst, xsp, xmd, xrt, xcu, xtk, xtv, xaf, xro, xsc, xho, xvk, xvf, xvs, xcv, xco, xff, xfp, xfe, xfb, xop)))) (xdl, xtn, xpp, xvc, xcc, xfc, xoc, xag, xan, xex, xen, xfl, xac, xst, xsp, xmd, xrt, xcu, xtk, xtv, xaf, xro, xsc, xho, xvk, xvf, xvs, xcv, xco, xff, xfp, xfe, xfb, xop) (nI (i + 2)) 1 :=
      xg_give H A lc (fun r' e1 e2 => pk_eq c0 3 (fun z => (ops k 2 em c lc r' e1 e2).1 (by omega)) (fun z => (ops k 2 em c lc r' e1 e2).2 (by omega)))
    rw [← ni_2 i] at this
    exact this
  have f164 : 10 ≤ tk_K xtk n (i + 1) → gr_n (tk_K xtk n (i + 1)) = 1 → wX_formFits_164 post (nI i) (nI c0) xdl xtn xpp xvc xcc xfc xoc xag xan xex xen xfl xac xst xsp xmd xrt xcu xtk xtv xaf xro xsc xho xvk xvf xvs xcv xco xff xfp xfe xfb xop := by
    intro k em
    obtain ⟨c, ec, lc⟩ := kw (by omega)
    have : wpX_giveRole (fun u => match u with | (xdl, xtn, xpp, xvc, xcc, xfc, xoc, xag, xan, xex, xen, xfl, xac, xst, xsp, xmd, xrt, xcu, xtk, xtv, xaf, xro, xsc, xho, xvk, xvf, xvs, xcv, xco, xff, xfp, xfe, xfb, xop) => ((nI c0 = 2 → post 1 (xdl, xtn, xpp, xvc, xcc, xfc, xoc, xag, xan, xex, xen, xfl, xac, xst, xsp, xmd, xrt, xcu, xtk, xtv, xaf, xro, xsc, xho, xvk, xvf, xvs, xcv, xco, xff, xfp, xfe, xfb, xop)) ∧ (¬ nI c0 = 2 → post 0 (xdl, xtn, xpp, xvc, xcc, xfc, xoc, xag, xan, xex, xen, xfl, xac, xst, xsp, xmd, xrt, xcu, xtk, xtv, xaf, xro, xsc, xho, xvk, xvf, xvs, xcv, xco, xff, xfp, xfe, xfb, xop)))) (xdl, xtn, xpp, xvc, xcc, xfc, xoc, xag, xan, xex, xen, xfl, xac, xst, xsp, xmd, xrt, xcu, xtk, xtv, xaf, xro, xsc, xho, xvk, xvf, xvs, xcv, xco, xff, xfp, xfe, xfb, xop) (nI (i + 2)) 1 :=
      xg_give H A lc (fun r' e1 e2 => pk_eq c0 2 (fun z => (ops k 1 em c lc r' e1 e2).1 (by omega)) (fun z => (ops k 1 em c lc r' e1 e2).2 (by omega)))
    rw [← ni_2 i] at this
    exact this
  have f126 : (tk_K xtk n (i + 1) = 8 ∨ tk_K xtk n (i + 1) = 9) → wX_formFits_126 post (nI i) (nI c0) xdl xtn xpp xvc xcc xfc xoc xag xan xex xen xfl xac xst xsp xmd xrt xcu xtk xtv xaf xro xsc xho xvk xvf xvs xcv xco xff xfp xfe xfb xop := by
    intro k
    obtain ⟨c, ec, lc⟩ := kw (by omega)
    refine pk_eq c0 3 (fun z => ?_) (fun z => h0 xro (noS (fun F => ?_)))
    · have : c = 2 := by omega
      subst this
      refine xl_let H A hi k1 k lc hz (fun r' F e1 e3 e4 => br_f (by decide) (h1 r' (Or.inr (Or.inr (Or.inr ⟨k1, F⟩))) e1 (fun q hq => by have := hq.2.1; omega) e3 e4)) (fun r' F => br_t rfl (h0 r' (noS F)))
    · rcases F with ⟨w, _⟩ | ⟨w, _⟩ | ⟨_, l, _⟩ | ⟨w, _⟩ | ⟨w, _⟩
      · omega
      · omega
      · have := ls_C_u lc l; omega
      · omega
      · omega
  refine xi_items H A lc0 ⟨by rw [nI_1]; exact tk_in H i1, nm_r (show xtk (nI i + 1).toNatClampNeg = nI (tk_K xtk n (i + 1)) from by rw [nI_1]; exact tk_c H i1) (pk_lt (tk_K xtk n (i + 1)) 6 (fun k => ?_) (fun k => pk_lt 20 (tk_K xtk n (i + 1)) (fun z => by omega) (fun _ => ?_)))⟩
  · rw [nI_1]
    exact xg_give H A lc0 (fun r' e1 e2 => pk_lt c0 1 (fun z => (app k r' e1 e2).2 (by omega)) (fun z => pk_lt 5 c0 (fun z2 => (app k r' e1 e2).2 (by omega)) (fun z2 => (app k r' e1 e2).1 (by omega))))
  · refine pk_eq (tk_K xtk n (i + 1)) 6 (fun k6 => ?_) (fun k6 => pk_eq (tk_K xtk n (i + 1)) 7 (fun k7 => ?_) (fun k7 => pk_eq (tk_K xtk n (i + 1)) 8 (fun k8 => f126 (Or.inl k8)) (fun k8 => pk_eq (tk_K xtk n (i + 1)) 9 (fun k9 => f126 (Or.inr k9)) (fun k9 => pk_eq (tk_K xtk n (i + 1)) 10 (fun k10 => ?_) (fun k10 => pk_eq (tk_K xtk n (i + 1)) 11 (fun z => f183 (by omega) (by rw [z]; rfl)) (fun k11 => pk_eq (tk_K xtk n (i + 1)) 12 (fun z => f164 (by omega) (by rw [z]; rfl)) (fun k12 => pk_eq (tk_K xtk n (i + 1)) 13 (fun z => f164 (by omega) (by rw [z]; rfl)) (fun k13 => pk_eq (tk_K xtk n (i + 1)) 14 (fun z => f164 (by omega) (by rw [z]; rfl)) (fun k14 => pk_eq (tk_K xtk n (i + 1)) 15 (fun z => f183 (by omega) (by rw [z]; rfl)) (fun k15 => pk_eq (tk_K xtk n (i + 1)) 16 (fun z => f183 (by omega) (by rw [z]; rfl)) (fun k16 => pk_eq (tk_K xtk n (i + 1)) 17 (fun z => f183 (by omega) (by rw [z]; rfl)) (fun k17 => pk_eq (tk_K xtk n (i + 1)) 18 (fun z => f183 (by omega) (by rw [z]; rfl)) (fun k18 => pk_eq (tk_K xtk n (i + 1)) 19 (fun z => f183 (by omega) (by rw [z]; rfl)) (fun k19 => pk_eq (tk_K xtk n (i + 1)) 20 (fun z => f183 (by omega) (by rw [z]; rfl)) (fun k20 => trivial)))))))))))))))
    · obtain ⟨c, ec, lc⟩ := kw (by omega)
      rw [ni_2]
      refine xg_give H A lc (fun r' e1 e2 => pk_eq c0 2 (fun z => h1 r' ?_ (fun q hq => ?_) (fun q hq => e1 q hq.2.2) (fun q hq => ?_) (fun q hq => e2 q (fun w => hq (Or.inr (Or.inl ⟨k1, k6, w⟩))))) (fun z => h0 r' (noS (fun F => ?_))))
      · have : c = 1 := by omega
        subst this
        exact Or.inr (Or.inr (Or.inr ⟨k1, Or.inl ⟨k6, lc⟩⟩))
      · rcases hq.2 with ⟨w, _⟩ | ⟨w, _⟩ | ⟨w, _⟩ | ⟨w, _⟩ <;> omega
      · rcases hq.2 with ⟨w, _⟩ | ⟨w, _⟩ <;> omega
      · rcases F with ⟨_, l⟩ | ⟨w, _⟩ | ⟨w, _⟩ | ⟨w, _⟩ | ⟨w, _⟩
        · have := ls_C_u lc l; omega
        · omega
        · omega
        · omega
        · omega
    · obtain ⟨c, ec, lc⟩ := kw (by omega)
      refine pk_eq c0 3 (fun z => ?_) (fun z => h0 xro (noS (fun F => ?_)))
      · have : c = 2 := by omega
        subst this
        refine xl_lam H A k1 k7 lc hz (fun r' F e1 e3 e4 => br_f (by decide) (h1 r' (Or.inr (Or.inr (Or.inr ⟨k1, by rw [k7]; exact F⟩))) e1 (fun q hq => by have := hq.2.1; omega) e3 e4)) (fun r' F => br_t rfl (h0 r' (noS (by rw [k7]; exact F))))
      · rcases F with ⟨w, _⟩ | ⟨_, l, _⟩ | ⟨w, _⟩ | ⟨w, _⟩ | ⟨w, _⟩
        · omega
        · have := ls_C_u lc l; omega
        · omega
        · omega
        · omega
    · obtain ⟨c, ec, lc⟩ := kw (by omega)
      rw [ni_2]
      exact xg_give H A lc (fun r' e1 e2 => pk_eq c0 4 (fun z => (ops (by omega) 3 (by rw [k10]; rfl) c lc r' e1 e2).1 (by omega)) (fun z => (ops (by omega) 3 (by rw [k10]; rfl) c lc r' e1 e2).2 (by omega)))
theorem xf_datum (H : tk_ok xtk n) (A : xb_A (tk_K xtk n) n xaf) {i : Nat} (hi : i < n) {post : Int32 → SX → Prop}
    (h1 : tk_K xtk n i = 3 ∨ tk_K xtk n i = 5 → post 1 (xdl, xtn, xpp, xvc, xcc, xfc, xoc, xag, xan, xex, xen, xfl, xac, xst, xsp, xmd, xrt, xcu, xtk, xtv, xaf, xro, xsc, xho, xvk, xvf, xvs, xcv, xco, xff, xfp, xfe, xfb, xop))
    (h2 : ∀ r' c, tk_K xtk n i = 1 → ls_C (tk_K xtk n) (sk_f (tk_K xtk n) n) (i + 1) c → (∀ c, gr_DM (tk_K xtk n) (sk_f (tk_K xtk n) n) i c → r' c = 2) → (∀ c, ¬ gr_DM (tk_K xtk n) (sk_f (tk_K xtk n) n) i c → r' c = xro c) → post 1 (xdl, xtn, xpp, xvc, xcc, xfc, xoc, xag, xan, xex, xen, xfl, xac, xst, xsp, xmd, xrt, xcu, xtk, xtv, xaf, r', xsc, xho, xvk, xvf, xvs, xcv, xco, xff, xfp, xfe, xfb, xop))
    (h0 : ¬ gr_DS (tk_K xtk n) (sk_f (tk_K xtk n) n) i → post 0 (xdl, xtn, xpp, xvc, xcc, xfc, xoc, xag, xan, xex, xen, xfl, xac, xst, xsp, xmd, xrt, xcu, xtk, xtv, xaf, xro, xsc, xho, xvk, xvf, xvs, xcv, xco, xff, xfp, xfe, xfb, xop)) : wpX_datumFits post (xdl, xtn, xpp, xvc, xcc, xfc, xoc, xag, xan, xex, xen, xfl, xac, xst, xsp, xmd, xrt, xcu, xtk, xtv, xaf, xro, xsc, xho, xvk, xvf, xvs, xcv, xco, xff, xfp, xfe, xfb, xop) (nI i) := by
  refine ⟨tk_in H hi, tk_b H hi 1 (fun k1 => ?_) (fun k1 => ⟨tk_in H hi, tk_b H hi 3 (fun k3 => h1 (Or.inl k3)) (fun k3 => ⟨tk_in H hi, tk_b H hi 5 (fun k5 => h1 (Or.inr k5)) (fun k5 => h0 (fun w => ?_))⟩)⟩)⟩
  · obtain ⟨c0, lc0, p1, p2, p3⟩ := xl_cnt H A hi k1
    rw [nI_1]
    exact xg_give H A lc0 (fun r' e1 e2 => h2 r' c0 k1 lc0 (fun c hc => e1 c hc.2) (fun c hc => e2 c (fun w => hc ⟨k1, w⟩)))
  · rcases w with w | w | ⟨w, _⟩
    · exact k3 w
    · exact k5 w
    · exact k1 w
def xr_c (n : Nat) (r : Nat → Int32) : Nat → Int32 := fun c => if c < n then r c else 0
theorem xr_in {n c : Nat} {r : Nat → Int32} (h : c < n) : xr_c n r c = r c := if_pos h
theorem xr_out {n c : Nat} {r : Nat → Int32} (h : n ≤ c) : xr_c n r c = 0 := if_neg (by omega)
theorem xw_loop (H : tk_ok xtk n) (A : xb_A (tk_K xtk n) n xaf) {post : Int32 → SX → Prop}
    (h1 : ∀ r' par, rw_W (tk_K xtk n) xtv (sk_f (tk_K xtk n) n) n n (xr_c n r') par → post 1 (xdl, nI n, xpp, xvc, xcc, xfc, xoc, xag, xan, xex, xen, xfl, xac, xst, xsp, xmd, xrt, xcu, xtk, xtv, xaf, r', xsc, xho, xvk, xvf, xvs, xcv, xco, xff, xfp, xfe, xfb, xop))
    (h0 : ∀ r', (∀ k, ¬ gr_X (tk_K xtk n) xtv (sk_f (tk_K xtk n) n) k true 0) → post 0 (xdl, nI n, xpp, xvc, xcc, xfc, xoc, xag, xan, xex, xen, xfl, xac, xst, xsp, xmd, xrt, xcu, xtk, xtv, xaf, r', xsc, xho, xvk, xvf, xvs, xcv, xco, xff, xfp, xfe, xfb, xop)) :
    ∀ d m (r' : Nat → Int32) (par : Nat → Nat), m + d = n → rw_W (tk_K xtk n) xtv (sk_f (tk_K xtk n) n) n m (xr_c n r') par → wX_grammarFits_54 post (d + 1) (nI m) xdl (nI n) xpp xvc xcc xfc xoc xag xan xex xen xfl xac xst xsp xmd xrt xcu xtk xtv xaf r' xsc xho xvk xvf xvs xcv xco xff xfp xfe xfb xop := by
  have H1 := H.1
  have hB : ∀ i, i < n → tk_K xtk n i ≠ 2 → dp_I (tk_K xtk n) i (sk_f (tk_K xtk n) n i) := fun i hi hk => (A i hi hk).1
  have hn0 : ∀ i, n ≤ i → tk_K xtk n i = 0 := fun i => tk_0
  intro d
  induction d with
  | zero =>
    intro m r' par e W
    have em : m = n := by omega
    subst em
    exact pk_le m m (fun _ => h1 r' par W) (fun z => by omega)
  | succ d ih =>
    intro m r' par e W
    have hm : m < n := by omega
    have hc : (nI m).toNatClampNeg = m := nI_clamp (by omega)
    have inn : ∀ q c, gr_Ch (tk_K xtk n) (sk_f (tk_K xtk n) n) q c → q < n → tk_K xtk n q = 1 → gr_SH (tk_K xtk n) xtv (sk_f (tk_K xtk n) n) q → c < n := fun q c hq hqn hk hS => by
      have g := gr_in (hB q hqn (by omega)) hS hq
      have g2 := g.2.1.1
      have := dp_le hn0 (hB q hqn (by omega)) hqn
      omega
    refine pk_le n m (fun z => by omega) (fun _ => ⟨tk_in H hm, ?_⟩)
    rw [hc]
    by_cases r2 : r' m = 2
    · have r2' : xr_c n r' m = 2 := (xr_in hm).trans r2
      refine br_t r2 (xf_datum (xro := r') (xtn := nI n) H A hm (fun k => ?_) (fun r3 c k1 lc e1 e4 => ?_) (fun w => ?_))
      · exact br_f (by decide) (nm_r (nI_1 m) (ih (m + 1) r' par (by omega) (rw_datom W r2' k)))
      · have ex : ∃ par', rw_W (tk_K xtk n) xtv (sk_f (tk_K xtk n) n) n (m + 1) (xr_c n r3) par' := by
          refine rw_dform hB hm W r2' k1 lc (fun c hc => ?_) (fun c hc => ?_)
          · have g := ls_Min (hB m hm (by omega)) k1 (dp_L_r _) (dp_I_1 (hB m hm (by omega)) k1) hc.2
            have g2 := g.2.1.1
            have := dp_le hn0 (hB m hm (by omega)) hm
            exact (xr_in (by omega)).trans (e1 c hc)
          · unfold xr_c
            rw [e4 c hc]
        obtain ⟨par', W'⟩ := ex
        exact br_f (by decide) (nm_r (nI_1 m) (ih (m + 1) r3 par' (by omega) W'))
      · exact br_t rfl (h0 r' (rw_no W hm (Or.inr ⟨r2', w⟩)))
    · refine br_f r2 ⟨tk_in H hm, ?_⟩
      by_cases r1 : r' m = 1
      · have r1' : xr_c n r' m = 1 := (xr_in hm).trans r1
        have r2' : xr_c n r' m ≠ 2 := by rw [r1']; decide
        refine br_t r1 ⟨tk_in H hm, ?_⟩
        have hb := tk_b H hm 1 (A := wpX_formFits (fun r_50 u => match u with | (xdl, xtn, xpp, xvc, xcc, xfc, xoc, xag, xan, xex, xen, xfl, xac, xst, xsp, xmd, xrt, xcu, xtk, xtv, xaf, xro, xsc, xho, xvk, xvf, xvs, xcv, xco, xff, xfp, xfe, xfb, xop) => (wX_grammarFits_116 post (wX_grammarFits_54 post (d + 1)) (nI m) r_50 xdl xtn xpp xvc xcc xfc xoc xag xan xex xen xfl xac xst xsp xmd xrt xcu xtk xtv xaf xro xsc xho xvk xvf xvs xcv xco xff xfp xfe xfb xop)) (xdl, nI n, xpp, xvc, xcc, xfc, xoc, xag, xan, xex, xen, xfl, xac, xst, xsp, xmd, xrt, xcu, xtk, xtv, xaf, r', xsc, xho, xvk, xvf, xvs, xcv, xco, xff, xfp, xfe, xfb, xop) (nI m)) (B := wpX_atomFits (fun r_15 => (wX_grammarFits_116 post (wX_grammarFits_54 post (d + 1)) (nI m) r_15 xdl (nI n) xpp xvc xcc xfc xoc xag xan xex xen xfl xac xst xsp xmd xrt xcu xtk xtv xaf r' xsc xho xvk xvf xvs xcv xco xff xfp xfe xfb xop)) (xdl, nI n, xpp, xvc, xcc, xfc, xoc, xag, xan, xex, xen, xfl, xac, xst, xsp, xmd, xrt, xcu, xtk, xtv, xaf, r', xsc, xho, xvk, xvf, xvs, xcv, xco, xff, xfp, xfe, xfb, xop) (nI m)) (fun k1 => ?_) (fun k1 => ?_)
        · rw [hc] at hb; exact hb
        · refine xf_form (xro := r') (xtn := nI n) H A hm k1 (fun q q1 q2 => ?_) (fun r3 hS e1 e2 e3 e4 => ?_) (fun r3 w => ?_)
          · have := W.1 m (Nat.le_refl _) hm (by rw [r1']; decide) q q1 q2
            have l := dp_le hn0 (hB m hm (by omega)) hm
            rw [xr_in (by omega)] at this
            exact this
          · have ex : ∃ par', rw_W (tk_K xtk n) xtv (sk_f (tk_K xtk n) n) n (m + 1) (xr_c n r3) par' := by
              refine rw_form hB hm W r1' k1 hS (fun c hc => ?_) (fun c hc => ?_) (fun c hc => ?_) (fun c hc => ?_)
              · exact (xr_in (inn m c (Or.inl hc) hm k1 hS)).trans (e1 c hc)
              · exact (xr_in (inn m c (Or.inr (Or.inl hc)) hm k1 hS)).trans (e2 c hc)
              · exact (xr_in (inn m c (Or.inr (Or.inr hc)) hm k1 hS)).trans (e3 c hc)
              · unfold xr_c
                rw [e4 c hc]
            obtain ⟨par', W'⟩ := ex
            exact br_f (by decide) (nm_r (nI_1 m) (ih (m + 1) r3 par' (by omega) W'))
          · exact br_t rfl (h0 r3 (rw_no W hm (Or.inl ⟨r1', w⟩)))
        · have atom : (tk_K xtk n m = 3 ∨ tk_K xtk n m = 4 ∨ tk_K xtk n m = 5) → wX_grammarFits_116 post (wX_grammarFits_54 post (d + 1)) (nI m) 1 xdl (nI n) xpp xvc xcc xfc xoc xag xan xex xen xfl xac xst xsp xmd xrt xcu xtk xtv xaf r' xsc xho xvk xvf xvs xcv xco xff xfp xfe xfb xop := fun k => br_f (by decide) (nm_r (nI_1 m) (ih (m + 1) r' par (by omega) (rw_atom W r1' k)))
          refine ⟨tk_in H hm, tk_b H hm 3 (fun k3 => atom (by omega)) (fun k3 => ⟨tk_in H hm, tk_b H hm 5 (fun k5 => atom (by omega)) (fun k5 => ⟨tk_in H hm, tk_b H hm 4 (fun k4 => atom (by omega)) (fun k4 => br_t rfl (h0 r' (rw_no W hm (Or.inl ⟨r1', fun w => ?_⟩))))⟩)⟩)⟩
          rcases w with w | w | w | w
          · exact k3 w
          · exact k4 w
          · exact k5 w
          · exact k1 w.1
      · exact br_f r1 (br_f (by decide) (nm_r (nI_1 m) (ih (m + 1) r' par (by omega) (rw_skip W (fun z => r1 ((xr_in hm).symm.trans z)) (fun z => r2 ((xr_in hm).symm.trans z))))))
theorem xw_init (H : tk_ok xtk n) (h0n : 0 < n) {post : Int32 → SX → Prop} (h : ∀ r', (∀ c, c < n → r' c = 0) → ∃ f, wX_grammarFits_54 post f 0 xdl (nI n) xpp xvc xcc xfc xoc xag xan xex xen xfl xac xst xsp xmd xrt xcu xtk xtv xaf (upd r' 0 1) xsc xho xvk xvf xvs xcv xco xff xfp xfe xfb xop) :
    ∀ d m (r' : Nat → Int32), m + d = n → (∀ c, c < m → r' c = 0) → wX_grammarFits_24 post xdl (nI n) xpp xvc xcc xfc xoc xag xan xex xen xfl xac xst xsp xmd xrt xcu (d + 1) (nI m) xtk xtv xaf r' xsc xho xvk xvf xvs xcv xco xff xfp xfe xfb xop := by
  have H1 := H.1
  intro d
  induction d with
  | zero =>
    intro m r' e hr
    have em : m = n := by omega
    subst em
    exact pk_le m m (fun _ => nm_e (h r' hr)) (fun z => by omega)
  | succ d ih =>
    intro m r' e hr
    have hm : m < n := by omega
    have hc : (nI m).toNatClampNeg = m := nI_clamp (by omega)
    refine pk_le n m (fun z => by omega) (fun _ => ⟨tk_in H hm, fun r1 e1 => nm_r (nI_1 m) (ih (m + 1) r1 (by omega) (fun c hc' => ?_))⟩)
    rw [e1, hc]
    by_cases z : c = m
    · rw [z]; exact pk_us
    · rw [pk_un z]; exact hr c (by omega)
theorem xw_gram (H : tk_ok xtk n) (A : xb_A (tk_K xtk n) n xaf) (hK0 : 0 < n → tk_K xtk n 0 ≠ 2) {post : Int32 → SX → Prop}
    (h1 : ∀ r' par, 0 < n → dp_I (tk_K xtk n) 0 n → rw_W (tk_K xtk n) xtv (sk_f (tk_K xtk n) n) n n (xr_c n r') par → post 1 (xdl, nI n, xpp, xvc, xcc, xfc, xoc, xag, xan, xex, xen, xfl, xac, xst, xsp, xmd, xrt, xcu, xtk, xtv, xaf, r', xsc, xho, xvk, xvf, xvs, xcv, xco, xff, xfp, xfe, xfb, xop))
    (h0 : ∀ r', (∀ k, ¬ (0 < n ∧ sk_f (tk_K xtk n) n 0 = n ∧ gr_X (tk_K xtk n) xtv (sk_f (tk_K xtk n) n) k true 0)) → post 0 (xdl, nI n, xpp, xvc, xcc, xfc, xoc, xag, xan, xex, xen, xfl, xac, xst, xsp, xmd, xrt, xcu, xtk, xtv, xaf, r', xsc, xho, xvk, xvf, xvs, xcv, xco, xff, xfp, xfe, xfb, xop)) : wpX_grammarFits post (xdl, nI n, xpp, xvc, xcc, xfc, xoc, xag, xan, xex, xen, xfl, xac, xst, xsp, xmd, xrt, xcu, xtk, xtv, xaf, xro, xsc, xho, xvk, xvf, xvs, xcv, xco, xff, xfp, xfe, xfb, xop) := by
  have H1 := H.1
  refine pk_eq n 0 (fun z => h0 xro (fun k w => by omega)) (fun z => ?_)
  have n0 : 0 < n := by omega
  have A0 := A 0 n0 (hK0 n0)
  have l0 := dp_le (K := (tk_K xtk n)) (n := n) (fun i => tk_0) A0.1 n0
  refine pk_eq (sk_f (tk_K xtk n) n 0) n (fun e => ?_) (fun e => h0 xro (fun k w => e w.2.1)) A0.2
  have I0 : dp_I (tk_K xtk n) 0 n := by have := A0.1; rw [e] at this; exact this
  refine ⟨n + 1, xw_init H n0 (fun r' hr => ⟨n + 1, ?_⟩) n 0 xro (by omega) (fun c hc => by omega)⟩
  refine xw_loop H A (fun r2 par W => h1 r2 par n0 I0 W) (fun r2 w => h0 r2 (fun k z => w k z.2.2)) n 0 (upd r' 0 1) (fun _ => 0) (by omega) ?_
  have r0 : ∀ c, c ≠ 0 → xr_c n (upd r' 0 1) c = 0 := fun c hc => by
    rcases Nat.lt_or_ge c n with y | y
    · rw [xr_in y, pk_un hc]; exact hr c y
    · exact xr_out y
  refine ⟨fun i _ hi hri m m1 m2 => r0 m (by omega), fun i hi => by omega, fun i hi => by omega, fun c hc hrc => ?_, (xr_in n0).trans pk_us⟩
  by_cases y : c = 0
  · exact Or.inl y
  · exact absurd (r0 c y) hrc
end
end
section
section
variable {xdl xtn xpp xvc xcc xfc xoc xag xan xex xen xfl xac xst xsp xmd xrt xcu : Int32} {xtk xtv xaf xro xsc xho xvk xvf xvs xcv xco xff xfp xfe xfb xop : Nat → Int32} {n : Nat}
/-! the component's scopes -/
theorem xs_itL (H : tk_ok xtk n) (A : xb_A (tk_K xtk n) n xaf) {m s c : Nat} (hms : m < s) (lc : ls_C (tk_K xtk n) (sk_f (tk_K xtk n) n) s c) {post : SX → Prop}
    (hp : ∀ sc', (∀ q, ls_M (tk_K xtk n) (sk_f (tk_K xtk n) n) s q → sc' q = xsc m) → (∀ q, ¬ ls_M (tk_K xtk n) (sk_f (tk_K xtk n) n) s q → sc' q = xsc q) → post (xdl, xtn, xpp, xvc, xcc, xfc, xoc, xag, xan, xex, xen, xfl, xac, xst, xsp, xmd, xrt, xcu, xtk, xtv, xaf, xro, sc', xho, xvk, xvf, xvs, xcv, xco, xff, xfp, xfe, xfb, xop)) :
    ∀ d x (sc' : Nat → Int32), x + d = c → (∀ q, (∃ y, y < x ∧ q = it_f (sk_f (tk_K xtk n) n) y s) → sc' q = xsc m) → (∀ q, ¬ (∃ y, y < x ∧ q = it_f (sk_f (tk_K xtk n) n) y s) → sc' q = xsc q) →
      wX_scopeItems_6 post (nI m) xdl xtn xpp xvc xcc xfc xoc xag xan xex xen xfl xac xst xsp xmd xrt xcu (d + 1) (nI (it_f (sk_f (tk_K xtk n) n) x s)) (nI x) xtk xtv xaf xro sc' xho xvk xvf xvs xcv xco xff xfp xfe xfb xop := by
  have H1 := H.1
  have bd := ls_bd (K := (tk_K xtk n)) (n := n) (fun i => tk_0) lc
  have b2 := bd.2
  intro d
  induction d with
  | zero =>
    intro x r' e r1 r2
    have ec : x = c := by omega
    subst ec
    have hx := (bd.1 x (Nat.le_refl _)).1
    exact pk_le 64 x (fun z => by omega) (fun _ => ⟨tk_in H hx, tk_b H hx 2 (fun _ => hp r' (fun q hq => r1 q ((ls_CM lc).mp hq)) (fun q hq => r2 q (fun z => hq ((ls_CM lc).mpr z)))) (fun z => absurd lc.2 z)⟩)
  | succ d ih =>
    intro x r' e r1 r2
    have hx := (bd.1 x (by omega)).1
    have k := lc.1 x (by omega)
    have hc : (nI (it_f (sk_f (tk_K xtk n) n) x s)).toNatClampNeg = it_f (sk_f (tk_K xtk n) n) x s := nI_clamp (by omega)
    have hcm : (nI m).toNatClampNeg = m := nI_clamp (by omega)
    refine pk_le 64 x (fun z => by omega) (fun _ => ⟨tk_in H hx, tk_b H hx 2 (fun z => absurd z k) (fun _ => ⟨tk_in H (by omega), tk_in H hx, fun r5 e5 => ⟨tk_in H hx, nm_r ?_ (nm_r (nI_1 x) (ih (x + 1) r5 (by omega) ?_ ?_))⟩⟩)⟩)
    · rw [hc, (A _ hx k).2, it_s]
    · rintro q ⟨y, hy, eq⟩
      rw [e5, hc, hcm]
      by_cases z : q = it_f (sk_f (tk_K xtk n) n) x s
      · rw [z, pk_us]
        refine r2 m (fun ⟨y, hy, em⟩ => ?_)
        have := (bd.1 y (by omega)).2
        omega
      · rw [pk_un z]
        refine r1 q ⟨y, ?_, eq⟩
        by_cases y2 : y = x
        · subst y2; exact absurd eq z
        · omega
    · intro q hq
      rw [e5, hc, pk_un (fun z => hq ⟨x, by omega, z⟩)]
      exact r2 q (fun ⟨y, hy, eq⟩ => hq ⟨y, by omega, eq⟩)
theorem xs_items (H : tk_ok xtk n) (A : xb_A (tk_K xtk n) n xaf) {m c : Nat} (lc : ls_C (tk_K xtk n) (sk_f (tk_K xtk n) n) (m + 1) c) {post : SX → Prop}
    (hp : ∀ sc', (∀ q, ls_M (tk_K xtk n) (sk_f (tk_K xtk n) n) (m + 1) q → sc' q = xsc m) → (∀ q, ¬ ls_M (tk_K xtk n) (sk_f (tk_K xtk n) n) (m + 1) q → sc' q = xsc q) → post (xdl, xtn, xpp, xvc, xcc, xfc, xoc, xag, xan, xex, xen, xfl, xac, xst, xsp, xmd, xrt, xcu, xtk, xtv, xaf, xro, sc', xho, xvk, xvf, xvs, xcv, xco, xff, xfp, xfe, xfb, xop)) : wpX_scopeItems post (xdl, xtn, xpp, xvc, xcc, xfc, xoc, xag, xan, xex, xen, xfl, xac, xst, xsp, xmd, xrt, xcu, xtk, xtv, xaf, xro, xsc, xho, xvk, xvf, xvs, xcv, xco, xff, xfp, xfe, xfb, xop) (nI m) :=
  nm_r (nI_1 m) ⟨c + 1, xs_itL H A (by omega) lc hp c 0 xsc (by omega) (fun q ⟨y, hy, _⟩ => by omega) (fun q _ => rfl)⟩
theorem xs_body (H : tk_ok xtk n) (A : xb_A (tk_K xtk n) n xaf) {m : Nat} (h2 : m + 2 < n) (k2 : tk_K xtk n (m + 2) ≠ 2) {post : Int32 → Prop} (hp : post (nI (sk_f (tk_K xtk n) n (m + 2)))) : wpX_body post (xdl, xtn, xpp, xvc, xcc, xfc, xoc, xag, xan, xex, xen, xfl, xac, xst, xsp, xmd, xrt, xcu, xtk, xtv, xaf, xro, xsc, xho, xvk, xvf, xvs, xcv, xco, xff, xfp, xfe, xfb, xop) (nI m) := by
  have H1 := H.1
  refine ⟨by rw [ni_2]; exact tk_in H h2, ?_⟩
  rw [ni_2, nI_clamp (by omega), (A _ h2 k2).2]
  exact hp
theorem xs_lamL (H : tk_ok xtk n) (A : xb_A (tk_K xtk n) n xaf) {m c : Nat} (P : gr_P (tk_K xtk n) xtv (m + 2) c) (k2 : tk_K xtk n (m + 2) = 1) (hb : sk_f (tk_K xtk n) n (m + 2) < n) {post : SX → Prop}
    (hp : ∀ sc', (∀ j, j < c → sc' (m + 3 + j) = sc_ls (tk_K xtk n) (sk_f (tk_K xtk n) n) xsc m j) → (∀ q, (∀ j, j < c → q ≠ m + 3 + j) → sc' q = xsc q) → post (xdl, xtn, xpp, xvc, xcc, xfc, xoc, xag, xan, xex, xen, xfl, xac, xst, xsp, xmd, xrt, xcu, xtk, xtv, xaf, xro, upd sc' (sk_f (tk_K xtk n) n (m + 2)) (sc_ls (tk_K xtk n) (sk_f (tk_K xtk n) n) xsc m c), xho, xvk, xvf, xvs, xcv, xco, xff, xfp, xfe, xfb, xop)) (k7 : tk_K xtk n (m + 1) = 7) :
    ∀ d x (sc' : Nat → Int32), x + d = c → (∀ j, j < x → sc' (m + 3 + j) = sc_ls (tk_K xtk n) (sk_f (tk_K xtk n) n) xsc m j) → (∀ q, (∀ j, j < x → q ≠ m + 3 + j) → sc' q = xsc q) →
      wX_scopeLambda_14 post (nI m) xdl xtn xpp xvc xcc xfc xoc xag xan xex xen xfl xac xst xsp xmd xrt xcu (d + 1) (sc_ls (tk_K xtk n) (sk_f (tk_K xtk n) n) xsc m x) (nI (m + 3 + x)) (nI x) xtk xtv xaf xro sc' xho xvk xvf xvs xcv xco xff xfp xfe xfb xop := by
  have H1 := H.1
  have c4 := P.1
  have lc : ls_C (tk_K xtk n) (sk_f (tk_K xtk n) n) (m + 2 + 1) c := gr_PC (n := n) P
  have bd := ls_bd (K := (tk_K xtk n)) (n := n) (fun i => tk_0) lc
  have m2 : m + 2 < n := tk_lt (tk := xtk) (by omega)
  have fin : ∀ sc', (∀ j, j < c → sc' (m + 3 + j) = sc_ls (tk_K xtk n) (sk_f (tk_K xtk n) n) xsc m j) → (∀ q, (∀ j, j < c → q ≠ m + 3 + j) → sc' q = xsc q) → wX_scopeLambda_48 post (nI m) (sc_ls (tk_K xtk n) (sk_f (tk_K xtk n) n) xsc m c) xdl xtn xpp xvc xcc xfc xoc xag xan xex xen xfl xac xst xsp xmd xrt xcu xtk xtv xaf xro sc' xho xvk xvf xvs xcv xco xff xfp xfe xfb xop := by
    intro sc' r1 r2
    refine xs_body (xsc := sc') H A m2 (by omega) ⟨tk_in H hb, fun s4 e4 => ?_⟩
    rw [nI_clamp (by omega)] at e4
    rw [e4]; exact hp sc' r1 r2
  intro d
  induction d with
  | zero =>
    intro x sc' e r1 r2
    have ec : x = c := by omega
    subst ec
    have hx : m + 3 + x < n := by have := bd.2; omega
    exact pk_le 4 x (fun _ => fin sc' r1 r2) (fun _ => ⟨tk_in H hx, tk_b H hx 2 (fun _ => fin sc' r1 r2) (fun z => absurd P.2.2.1 z)⟩)
  | succ d ih =>
    intro x sc' e r1 r2
    have hx : m + 3 + x < n := by have := bd.2; omega
    have k4 : tk_K xtk n (m + 3 + x) = 4 := P.2.1 x (by omega)
    have hc : (nI (m + 3 + x)).toNatClampNeg = m + 3 + x := nI_clamp (by omega)
    have en : nI (m + 3 + x) = sc_ls (tk_K xtk n) (sk_f (tk_K xtk n) n) xsc m (x + 1) := congrArg nI (show m + 3 + x = sc_nm (tk_K xtk n) (sk_f (tk_K xtk n) n) m x from (if_pos k7).symm)
    refine pk_le 4 x (fun z => by omega) (fun _ => ⟨tk_in H hx, tk_b H hx 2 (fun z => by omega) (fun _ => ⟨tk_in H hx, fun s5 e5 => nm_r (nI_1 (m + 3 + x)) (nm_r (nI_1 x) ?_)⟩)⟩)
    rw [hc] at e5
    have := ih (x + 1) s5 (by omega) (fun j hj => ?_) (fun q hq => ?_)
    · rw [← en] at this; exact this
    · rw [e5]
      by_cases z : j = x
      · rw [z]; exact pk_us
      · rw [pk_un (by omega)]; exact r1 j (by omega)
    · rw [e5, pk_un (hq x (by omega))]
      exact r2 q (fun j hj => hq j (by omega))
theorem xs_lam (H : tk_ok xtk n) (A : xb_A (tk_K xtk n) n xaf) {m c : Nat} (P : gr_P (tk_K xtk n) xtv (m + 2) c) (k7 : tk_K xtk n (m + 1) = 7) (k2 : tk_K xtk n (m + 2) = 1) (hb : sk_f (tk_K xtk n) n (m + 2) < n) {post : SX → Prop}
    (hp : ∀ sc', (∀ j, j < c → sc' (m + 3 + j) = sc_ls (tk_K xtk n) (sk_f (tk_K xtk n) n) xsc m j) → (∀ q, (∀ j, j < c → q ≠ m + 3 + j) → sc' q = xsc q) → post (xdl, xtn, xpp, xvc, xcc, xfc, xoc, xag, xan, xex, xen, xfl, xac, xst, xsp, xmd, xrt, xcu, xtk, xtv, xaf, xro, upd sc' (sk_f (tk_K xtk n) n (m + 2)) (sc_ls (tk_K xtk n) (sk_f (tk_K xtk n) n) xsc m c), xho, xvk, xvf, xvs, xcv, xco, xff, xfp, xfe, xfb, xop)) : wpX_scopeLambda post (xdl, xtn, xpp, xvc, xcc, xfc, xoc, xag, xan, xex, xen, xfl, xac, xst, xsp, xmd, xrt, xcu, xtk, xtv, xaf, xro, xsc, xho, xvk, xvf, xvs, xcv, xco, xff, xfp, xfe, xfb, xop) (nI m) := by
  have H1 := H.1
  have m2 : m + 2 < n := tk_lt (tk := xtk) (by omega)
  refine ⟨tk_in H (by omega), nm_r (show xsc (nI m).toNatClampNeg = sc_ls (tk_K xtk n) (sk_f (tk_K xtk n) n) xsc m 0 from by rw [nI_clamp (by omega)]; rfl) (nm_r (ni_3 m) ⟨c + 1, ?_⟩)⟩
  exact xs_lamL H A P k2 hb hp k7 c 0 xsc (by omega) (fun j hj => by omega) (fun q _ => rfl)
/-- the places of a LET's binds -/
theorem xs_bp {K : Nat → Nat} {V : Nat → Int32} {n m c : Nat} (hn : ∀ i, n ≤ i → K i = 0) (hB : ∀ i, i < n → K i ≠ 2 → dp_I K i (sk_f K n i)) (hm : m < n) (k1 : K m = 1) (k8 : K (m + 1) = 8 ∨ K (m + 1) = 9) (hS : gr_SH K V (sk_f K n) m) (lc : ls_C K (sk_f K n) (m + 3) c) :
    (∀ j, j < c → it_f (sk_f K n) j (m + 3) + 4 ≤ it_f (sk_f K n) (j + 1) (m + 3) ∧ K (it_f (sk_f K n) j (m + 3)) = 1) ∧ it_f (sk_f K n) c (m + 3) < n ∧ (∀ j, j ≤ c → m + 3 ≤ it_f (sk_f K n) j (m + 3)) ∧ it_f (sk_f K n) c (m + 3) + 1 = sk_f K n (m + 2) ∧ sk_f K n (m + 2) < n := by
  have hI := hB m hm (by omega)
  have g := gr_bind hI k1 (by omega) (by omega) hS
  have bd := ls_bd hn lc
  obtain ⟨c', lc', q1, _, _⟩ := ls_in (n := n) g.2.1 g.1
  have ec : c' = c := ls_C_u lc' lc
  subst ec
  have hl := dp_le hn hI hm
  have g4 := g.2.2.1.1
  have g5 := g.2.2.2.1
  refine ⟨fun j hj => ?_, (bd.1 c' (Nat.le_refl _)).1, fun j hj => ?_, q1, by omega⟩
  · obtain ⟨m1, m2, m3, m4, m5, m6, m7, m8, m9⟩ := gr_bnd hI k1 k8 hS ((ls_CM lc).mpr ⟨j, hj, rfl⟩)
    have := m5.1
    rw [it_s]
    exact ⟨by omega, m2⟩
  · have := (bd.1 j hj).2; omega
theorem xs_lamsL (H : tk_ok xtk n) (A : xb_A (tk_K xtk n) n xaf) {m c : Nat} {v : Int32} (hc4 : c ≤ 4) (lc : ls_C (tk_K xtk n) (sk_f (tk_K xtk n) n) (m + 3) c) (bp : ∀ j, j < c → it_f (sk_f (tk_K xtk n) n) j (m + 3) + 4 ≤ it_f (sk_f (tk_K xtk n) n) (j + 1) (m + 3)) {post : SX → Prop}
    (hp : ∀ sc', (∀ j, j < c → sc' (it_f (sk_f (tk_K xtk n) n) j (m + 3) + 2) = v) → (∀ q, (∀ j, j < c → q ≠ it_f (sk_f (tk_K xtk n) n) j (m + 3) + 2) → sc' q = xsc q) → post (xdl, xtn, xpp, xvc, xcc, xfc, xoc, xag, xan, xex, xen, xfl, xac, xst, xsp, xmd, xrt, xcu, xtk, xtv, xaf, xro, sc', xho, xvk, xvf, xvs, xcv, xco, xff, xfp, xfe, xfb, xop)) :
    ∀ d x (sc' : Nat → Int32), x + d = c → (∀ j, j < x → sc' (it_f (sk_f (tk_K xtk n) n) j (m + 3) + 2) = v) → (∀ q, (∀ j, j < x → q ≠ it_f (sk_f (tk_K xtk n) n) j (m + 3) + 2) → sc' q = xsc q) →
      wX_scopeLams_7 post v xdl xtn xpp xvc xcc xfc xoc xag xan xex xen xfl xac xst xsp xmd xrt xcu (d + 1) (nI (it_f (sk_f (tk_K xtk n) n) x (m + 3))) (nI x) xtk xtv xaf xro sc' xho xvk xvf xvs xcv xco xff xfp xfe xfb xop := by
  have H1 := H.1
  have bd := ls_bd (K := (tk_K xtk n)) (n := n) (fun i => tk_0) lc
  have b2 := bd.2
  intro d
  induction d with
  | zero =>
    intro x r' e r1 r2
    have ec : x = c := by omega
    subst ec
    have hx := (bd.1 x (Nat.le_refl _)).1
    exact pk_le 4 x (fun z => hp r' r1 r2) (fun _ => ⟨tk_in H hx, tk_b H hx 2 (fun _ => hp r' r1 r2) (fun z => absurd lc.2 z)⟩)
  | succ d ih =>
    intro x r' e r1 r2
    have hx := (bd.1 x (by omega)).1
    have k := lc.1 x (by omega)
    have hx2 := (bd.1 (x + 1) (by omega)).1
    have ap := bp x (by omega)
    have hc : (nI (it_f (sk_f (tk_K xtk n) n) x (m + 3))).toNatClampNeg = it_f (sk_f (tk_K xtk n) n) x (m + 3) := nI_clamp (by omega)
    refine pk_le 4 x (fun z => by omega) (fun _ => ⟨tk_in H hx, tk_b H hx 2 (fun z => absurd z k) (fun _ => ?_)⟩)
    rw [ni_2]
    refine ⟨tk_in H (by omega), fun r5 e5 => ⟨tk_in H hx, nm_r ?_ (nm_r (nI_1 x) (ih (x + 1) r5 (by omega) (fun j hj => ?_) (fun q hq => ?_)))⟩⟩
    · rw [hc, (A _ hx k).2, it_s]
    · rw [e5, nI_clamp (by omega)]
      by_cases z : j = x
      · rw [z]; exact pk_us
      · have g := it_gt (K := (tk_K xtk n)) (n := n) (fun i => tk_0) (m + 3) j (x - j)
        rw [show j + (x - j) = x from by omega] at g
        rw [pk_un (by omega)]; exact r1 j (by omega)
    · rw [e5, nI_clamp (by omega), pk_un (hq x (by omega))]
      exact r2 q (fun j hj => hq j (by omega))
end
end
section
section
variable {xdl xtn xpp xvc xcc xfc xoc xag xan xex xen xfl xac xst xsp xmd xrt xcu : Int32} {xtk xtv xaf xro xsc xho xvk xvf xvs xcv xco xff xfp xfe xfb xop : Nat → Int32} {n : Nat}
theorem xs_70 (H : tk_ok xtk n) (A : xb_A (tk_K xtk n) n xaf) {m c : Nat} (hm : m < n) (k1 : tk_K xtk n m = 1) (k8 : tk_K xtk n (m + 1) = 8 ∨ tk_K xtk n (m + 1) = 9) (hS : gr_SH (tk_K xtk n) xtv (sk_f (tk_K xtk n) n) m) (hc4 : c ≤ 4) (lc : ls_C (tk_K xtk n) (sk_f (tk_K xtk n) n) (m + 3) c) {post : SX → Prop}
    (hp : ∀ sF, (∀ j, j < c → sF (it_f (sk_f (tk_K xtk n) n) j (m + 3) + 1) = sc_ls (tk_K xtk n) (sk_f (tk_K xtk n) n) xsc m j) → sF (sk_f (tk_K xtk n) n (m + 2)) = sc_ls (tk_K xtk n) (sk_f (tk_K xtk n) n) xsc m c → (∀ j, j < c → sF (it_f (sk_f (tk_K xtk n) n) j (m + 3) + 2) = if tk_K xtk n (m + 1) = 9 then sc_ls (tk_K xtk n) (sk_f (tk_K xtk n) n) xsc m c else xsc m) → (∀ q, (∀ j, j < c → q ≠ it_f (sk_f (tk_K xtk n) n) j (m + 3) + 1 ∧ q ≠ it_f (sk_f (tk_K xtk n) n) j (m + 3) + 2) → q ≠ sk_f (tk_K xtk n) n (m + 2) → sF q = xsc q) → post (xdl, xtn, xpp, xvc, xcc, xfc, xoc, xag, xan, xex, xen, xfl, xac, xst, xsp, xmd, xrt, xcu, xtk, xtv, xaf, xro, sF, xho, xvk, xvf, xvs, xcv, xco, xff, xfp, xfe, xfb, xop)) :
    ∀ (sc' : Nat → Int32), (∀ j, j < c → sc' (it_f (sk_f (tk_K xtk n) n) j (m + 3) + 1) = sc_ls (tk_K xtk n) (sk_f (tk_K xtk n) n) xsc m j ∧ sc' (it_f (sk_f (tk_K xtk n) n) j (m + 3) + 2) = xsc m) → (∀ q, (∀ j, j < c → q ≠ it_f (sk_f (tk_K xtk n) n) j (m + 3) + 1 ∧ q ≠ it_f (sk_f (tk_K xtk n) n) j (m + 3) + 2) → sc' q = xsc q) → wX_scopeLet_70 post (nI m) (sc_ls (tk_K xtk n) (sk_f (tk_K xtk n) n) xsc m c) xdl xtn xpp xvc xcc xfc xoc xag xan xex xen xfl xac xst xsp xmd xrt xcu xtk xtv xaf xro sc' xho xvk xvf xvs xcv xco xff xfp xfe xfb xop := by
  have H1 := H.1
  have hB : ∀ i, i < n → tk_K xtk n i ≠ 2 → dp_I (tk_K xtk n) i (sk_f (tk_K xtk n) n i) := fun i hi hk => (A i hi hk).1
  obtain ⟨bp1, bp2, bp3, bp4, bp5⟩ := xs_bp (V := xtv) (K := (tk_K xtk n)) (n := n) (fun i => tk_0) hB hm k1 k8 hS lc
  have g := gr_bind (hB m hm (by omega)) k1 (by omega) (by omega) hS
  have m2 : m + 2 < n := tk_lt (tk := xtk) (by omega)
  have far : ∀ j, j < c → it_f (sk_f (tk_K xtk n) n) j (m + 3) + 4 ≤ it_f (sk_f (tk_K xtk n) n) c (m + 3) := fun j hj => by
    have a := (bp1 j hj).1
    have g := it_gt (K := (tk_K xtk n)) (n := n) (fun i => tk_0) (m + 3) (j + 1) (c - (j + 1))
    rw [show j + 1 + (c - (j + 1)) = c from by omega] at g
    omega
  have far2 : ∀ j j', j < c → j' < c → j ≠ j' → it_f (sk_f (tk_K xtk n) n) j (m + 3) + 4 ≤ it_f (sk_f (tk_K xtk n) n) j' (m + 3) ∨ it_f (sk_f (tk_K xtk n) n) j' (m + 3) + 4 ≤ it_f (sk_f (tk_K xtk n) n) j (m + 3) := fun j j' hj hj' ne => by
    rcases Nat.lt_or_ge j j' with z | z
    · have a := (bp1 j hj).1
      have g := it_gt (K := (tk_K xtk n)) (n := n) (fun i => tk_0) (m + 3) (j + 1) (j' - (j + 1))
      rw [show j + 1 + (j' - (j + 1)) = j' from by omega] at g
      exact Or.inl (by omega)
    · have a := (bp1 j' hj').1
      have g := it_gt (K := (tk_K xtk n)) (n := n) (fun i => tk_0) (m + 3) (j' + 1) (j - (j' + 1))
      rw [show j' + 1 + (j - (j' + 1)) = j from by omega] at g
      exact Or.inr (by omega)
  intro sc' r1 r2
  refine xs_body (xsc := sc') H A m2 (by omega) ⟨tk_in H bp5, fun s4 e4 => ?_⟩
  rw [nI_clamp (by omega)] at e4
  rw [nI_1 m]
  refine ⟨tk_in H (by omega), tk_b H (by omega) 9 (fun k9 => ?_) (fun k9 => ?_)⟩
  · refine nm_r (ni_3 m) ⟨c + 1, ?_⟩
    refine xs_lamsL (xsc := s4) H A hc4 lc (fun j hj => (bp1 j hj).1) (fun sF f1 f2 => ?_) c 0 s4 (by omega) (fun j hj => by omega) (fun q _ => rfl)
    refine hp sF (fun j hj => ?_) ?_ (fun j hj => ?_) (fun q hq hq2 => ?_)
    · have fj := far j hj
      rw [f2 _ (fun j' hj' => by
        by_cases z : j = j'
        · subst z; omega
        · have := far2 j j' hj hj' z; omega), e4, pk_un (by omega)]
      exact (r1 j hj).1
    · rw [f2 _ (fun j hj => by have := far j hj; omega), e4]; exact pk_us
    · rw [if_pos k9]; exact f1 j hj
    · rw [f2 q (fun j hj => (hq j hj).2), e4, pk_un hq2]
      exact r2 q hq
  · refine hp s4 (fun j hj => ?_) (by rw [e4]; exact pk_us) (fun j hj => ?_) (fun q hq hq2 => ?_)
    · have fj := far j hj
      rw [e4, pk_un (by omega)]; exact (r1 j hj).1
    · have fj := far j hj
      rw [if_neg k9, e4, pk_un (by omega)]; exact (r1 j hj).2
    · rw [e4, pk_un hq2]; exact r2 q hq
theorem xs_letL (H : tk_ok xtk n) (A : xb_A (tk_K xtk n) n xaf) {m c : Nat} (hm : m < n) (k1 : tk_K xtk n m = 1) (k8 : tk_K xtk n (m + 1) = 8 ∨ tk_K xtk n (m + 1) = 9) (hS : gr_SH (tk_K xtk n) xtv (sk_f (tk_K xtk n) n) m) (hc4 : c ≤ 4) (lc : ls_C (tk_K xtk n) (sk_f (tk_K xtk n) n) (m + 3) c) {post : SX → Prop}
    (hp : ∀ (sc' : Nat → Int32), (∀ j, j < c → sc' (it_f (sk_f (tk_K xtk n) n) j (m + 3) + 1) = sc_ls (tk_K xtk n) (sk_f (tk_K xtk n) n) xsc m j ∧ sc' (it_f (sk_f (tk_K xtk n) n) j (m + 3) + 2) = xsc m) → (∀ q, (∀ j, j < c → q ≠ it_f (sk_f (tk_K xtk n) n) j (m + 3) + 1 ∧ q ≠ it_f (sk_f (tk_K xtk n) n) j (m + 3) + 2) → sc' q = xsc q) → wX_scopeLet_70 post (nI m) (sc_ls (tk_K xtk n) (sk_f (tk_K xtk n) n) xsc m c) xdl xtn xpp xvc xcc xfc xoc xag xan xex xen xfl xac xst xsp xmd xrt xcu xtk xtv xaf xro sc' xho xvk xvf xvs xcv xco xff xfp xfe xfb xop) :
    ∀ d x (sc' : Nat → Int32), x + d = c → (∀ j, j < x → sc' (it_f (sk_f (tk_K xtk n) n) j (m + 3) + 1) = sc_ls (tk_K xtk n) (sk_f (tk_K xtk n) n) xsc m j ∧ sc' (it_f (sk_f (tk_K xtk n) n) j (m + 3) + 2) = xsc m) → (∀ q, (∀ j, j < x → q ≠ it_f (sk_f (tk_K xtk n) n) j (m + 3) + 1 ∧ q ≠ it_f (sk_f (tk_K xtk n) n) j (m + 3) + 2) → sc' q = xsc q) →
      wX_scopeLet_14 post (nI m) xdl xtn xpp xvc xcc xfc xoc xag xan xex xen xfl xac xst xsp xmd xrt xcu (d + 1) (sc_ls (tk_K xtk n) (sk_f (tk_K xtk n) n) xsc m x) (nI (it_f (sk_f (tk_K xtk n) n) x (m + 3))) (nI x) xtk xtv xaf xro sc' xho xvk xvf xvs xcv xco xff xfp xfe xfb xop := by
  have H1 := H.1
  have hB : ∀ i, i < n → tk_K xtk n i ≠ 2 → dp_I (tk_K xtk n) i (sk_f (tk_K xtk n) n i) := fun i hi hk => (A i hi hk).1
  obtain ⟨bp1, bp2, bp3, bp4, bp5⟩ := xs_bp (V := xtv) (K := (tk_K xtk n)) (n := n) (fun i => tk_0) hB hm k1 k8 hS lc
  have bd := ls_bd (K := (tk_K xtk n)) (n := n) (fun i => tk_0) lc
  intro d
  induction d with
  | zero =>
    intro x sc' e r1 r2
    have ec : x = c := by omega
    subst ec
    have hx := (bd.1 x (Nat.le_refl _)).1
    exact pk_le 4 x (fun _ => hp sc' r1 r2) (fun _ => ⟨tk_in H hx, tk_b H hx 2 (fun _ => hp sc' r1 r2) (fun z => absurd lc.2 z)⟩)
  | succ d ih =>
    intro x sc' e r1 r2
    have hx := (bd.1 x (by omega)).1
    have k := lc.1 x (by omega)
    have hx2 := (bd.1 (x + 1) (by omega)).1
    have ap := (bp1 x (by omega)).1
    have ge := bp3 x (by omega)
    have hc : (nI (it_f (sk_f (tk_K xtk n) n) x (m + 3))).toNatClampNeg = it_f (sk_f (tk_K xtk n) n) x (m + 3) := nI_clamp (by omega)
    have hcm : (nI m).toNatClampNeg = m := nI_clamp (by omega)
    have hc1 : (nI (it_f (sk_f (tk_K xtk n) n) x (m + 3) + 1)).toNatClampNeg = it_f (sk_f (tk_K xtk n) n) x (m + 3) + 1 := nI_clamp (by omega)
    have hc2 : (nI (it_f (sk_f (tk_K xtk n) n) x (m + 3) + 2)).toNatClampNeg = it_f (sk_f (tk_K xtk n) n) x (m + 3) + 2 := nI_clamp (by omega)
    have en : nI (it_f (sk_f (tk_K xtk n) n) x (m + 3) + 1) = sc_ls (tk_K xtk n) (sk_f (tk_K xtk n) n) xsc m (x + 1) := congrArg nI (show it_f (sk_f (tk_K xtk n) n) x (m + 3) + 1 = sc_nm (tk_K xtk n) (sk_f (tk_K xtk n) n) m x from (if_neg (by omega)).symm)
    refine pk_le 4 x (fun z => by omega) (fun _ => ⟨tk_in H hx, tk_b H hx 2 (fun z => absurd z k) (fun _ => ?_)⟩)
    rw [nI_1 (it_f (sk_f (tk_K xtk n) n) x (m + 3)), ni_2 (it_f (sk_f (tk_K xtk n) n) x (m + 3)), hc1, hc2, hcm]
    refine ⟨tk_in H (by omega), fun s2 e2 => ⟨tk_in H hm, tk_in H (by omega), fun s5 e5 => nm_r en ⟨tk_in H hx, nm_r ?_ (nm_r (nI_1 x) (ih (x + 1) s5 (by omega) (fun j hj => ?_) (fun q hq => ?_)))⟩⟩⟩
    · rw [hc, (A _ hx k).2, it_s]
    · have sm : s2 m = xsc m := by
        rw [e2, pk_un (by omega)]
        exact r2 m (fun j hj => by have := bp3 j (by omega); omega)
      by_cases z : j = x
      · rw [z]
        refine ⟨by rw [e5, pk_un (by omega), e2]; exact pk_us, by rw [e5, pk_us]; exact sm⟩
      · have g := it_gt (K := (tk_K xtk n)) (n := n) (fun i => tk_0) (m + 3) (j + 1) (x - (j + 1))
        rw [show j + 1 + (x - (j + 1)) = x from by omega] at g
        have a := (bp1 j (by omega)).1
        rw [e5, pk_un (by omega), pk_un (by omega), e2, pk_un (by omega), pk_un (by omega)]
        exact r1 j (by omega)
    · have q2 := hq x (by omega)
      rw [e5, pk_un q2.2, e2, pk_un q2.1]
      exact r2 q (fun j hj => hq j (by omega))
theorem xs_form (H : tk_ok xtk n) (A : xb_A (tk_K xtk n) n xaf) {m : Nat} (hm : m < n) (k1 : tk_K xtk n m = 1) (hS : gr_SH (tk_K xtk n) xtv (sk_f (tk_K xtk n) n) m) {post : SX → Prop}
    (hp : ∀ sF, sc_L (tk_K xtk n) (sk_f (tk_K xtk n) n) sF m → (∀ q, ¬ gr_Ch (tk_K xtk n) (sk_f (tk_K xtk n) n) m q → q ≠ m + 1 → sF q = xsc q) → post (xdl, xtn, xpp, xvc, xcc, xfc, xoc, xag, xan, xex, xen, xfl, xac, xst, xsp, xmd, xrt, xcu, xtk, xtv, xaf, xro, sF, xho, xvk, xvf, xvs, xcv, xco, xff, xfp, xfe, xfb, xop)) : wpX_scopeForm post (xdl, xtn, xpp, xvc, xcc, xfc, xoc, xag, xan, xex, xen, xfl, xac, xst, xsp, xmd, xrt, xcu, xtk, xtv, xaf, xro, xsc, xho, xvk, xvf, xvs, xcv, xco, xff, xfp, xfe, xfb, xop) (nI m) := by
  have H1 := H.1
  have hB : ∀ i, i < n → tk_K xtk n i ≠ 2 → dp_I (tk_K xtk n) i (sk_f (tk_K xtk n) n i) := fun i hi hk => (A i hi hk).1
  have hI := hB m hm (by omega)
  obtain ⟨c0, lc0, p1, p2, p3⟩ := xl_cnt H A hm k1
  have m1 : m + 1 < n := by omega
  have k20 := tk_20 H (m + 1)
  have dflt : (tk_K xtk n (m + 1) < 7 ∨ 9 < tk_K xtk n (m + 1)) → wpX_scopeItems post (xdl, xtn, xpp, xvc, xcc, xfc, xoc, xag, xan, xex, xen, xfl, xac, xst, xsp, xmd, xrt, xcu, xtk, xtv, xaf, xro, xsc, xho, xvk, xvf, xvs, xcv, xco, xff, xfp, xfe, xfb, xop) (nI m) := by
    intro k
    refine xs_items H A lc0 (fun sc' e1 e2 => hp sc' ⟨fun _ c hc => ?_, fun z z' => by omega⟩ (fun q hq hq1 => e2 q (fun w => ?_)))
    · have nm : ¬ ls_M (tk_K xtk n) (sk_f (tk_K xtk n) n) (m + 1) m := fun w => by
        have := (ls_Min hI k1 (dp_L_r _) (dp_I_1 hI k1) w).1
        omega
      rw [e2 m nm]
      refine e1 c ?_
      rcases hc.2 with ⟨_, w⟩ | ⟨_, w⟩ | ⟨w, w', _⟩ | ⟨w, _⟩
      · refine ls_M_s (by omega) ?_
        rw [sk_at (K := (tk_K xtk n)) (n := n) (i := m + 1) (by omega)]; exact w
      · exact w
      · omega
      · omega
    · by_cases k6 : tk_K xtk n (m + 1) < 6
      · exact hq (Or.inl ⟨k1, Or.inr (Or.inl ⟨k6, w⟩)⟩)
      · rcases (ls_M_c w).2 with e | w2
        · exact hq1 e
        · rw [sk_at (K := (tk_K xtk n)) (n := n) (i := m + 1) (by omega)] at w2
          by_cases k7 : tk_K xtk n (m + 1) = 6
          · exact hq (Or.inr (Or.inl ⟨k1, k7, w2⟩))
          · exact hq (Or.inl ⟨k1, Or.inl ⟨by omega, w2⟩⟩)
  have hlet : (tk_K xtk n (m + 1) = 8 ∨ tk_K xtk n (m + 1) = 9) → wpX_scopeLet post (xdl, xtn, xpp, xvc, xcc, xfc, xoc, xag, xan, xex, xen, xfl, xac, xst, xsp, xmd, xrt, xcu, xtk, xtv, xaf, xro, xsc, xho, xvk, xvf, xvs, xcv, xco, xff, xfp, xfe, xfb, xop) (nI m) := by
    intro k8
    obtain ⟨c, c4, lc, hN, hP, hc1⟩ := sc_N k1 (by omega) (by omega) hS
    obtain ⟨bp1, bp2, bp3, bp4, bp5⟩ := xs_bp (V := xtv) (K := (tk_K xtk n)) (n := n) (fun i => tk_0) hB hm k1 k8 hS lc
    have en : ∀ j, sc_nm (tk_K xtk n) (sk_f (tk_K xtk n) n) m j = it_f (sk_f (tk_K xtk n) n) j (m + 3) + 1 := fun j => if_neg (by omega)
    refine ⟨tk_in H hm, nm_r (show xsc (nI m).toNatClampNeg = sc_ls (tk_K xtk n) (sk_f (tk_K xtk n) n) xsc m 0 from by rw [nI_clamp (by omega)]; rfl) (nm_r (ni_3 m) ⟨c + 1, ?_⟩)⟩
    refine xs_letL H A hm k1 k8 hS c4 lc (xs_70 H A hm k1 k8 hS c4 lc (fun sF f1 f2 f3 f4 => hp sF ⟨fun z => by omega, fun _ _ c' lc' => ?_⟩ (fun q hq hq1 => f4 q (fun j hj => ⟨fun e => hq (Or.inr (Or.inr ((hN q).mpr ⟨j, hj, by rw [en]; exact e⟩))), fun e => hq (Or.inl ⟨k1, Or.inr (Or.inr (Or.inr ⟨k8, _, (ls_CM lc).mpr ⟨j, hj, rfl⟩, e⟩))⟩)⟩) (fun e => hq (Or.inl ⟨k1, Or.inr (Or.inr (Or.inl ⟨by omega, by omega, e⟩))⟩))))) c 0 xsc (by omega) (fun j hj => by omega) (fun q _ => rfl)
    have ec := ls_C_u lc' lc
    subst ec
    have sm : sF m = xsc m := f4 m (fun j hj => by have := bp3 j (by omega); omega) (by have := bp3 0 (by omega); have := (ls_bd (K := (tk_K xtk n)) (n := n) (fun i => tk_0) lc).1 c' (Nat.le_refl _); omega)
    have el : ∀ j, sc_ls (tk_K xtk n) (sk_f (tk_K xtk n) n) sF m j = sc_ls (tk_K xtk n) (sk_f (tk_K xtk n) n) xsc m j := fun j => by
      cases j with
      | zero => exact sm
      | succ j => rfl
    refine ⟨fun j hj => ?_, ?_, fun _ j hj => ?_⟩
    · rw [el, en]; exact f1 j hj
    · rw [el]; exact f2
    · rw [el, sm]; exact f3 j hj
  rw [show wpX_scopeForm post (xdl, xtn, xpp, xvc, xcc, xfc, xoc, xag, xan, xex, xen, xfl, xac, xst, xsp, xmd, xrt, xcu, xtk, xtv, xaf, xro, xsc, xho, xvk, xvf, xvs, xcv, xco, xff, xfp, xfe, xfb, xop) (nI m) = _ from rfl]
  refine ⟨by rw [nI_1]; exact tk_in H m1, nm_r (show xtk (nI m + 1).toNatClampNeg = nI (tk_K xtk n (m + 1)) from by rw [nI_1]; exact tk_c H m1) (pk_lt (tk_K xtk n (m + 1)) 7 (fun k => dflt (Or.inl k)) (fun k => pk_lt 9 (tk_K xtk n (m + 1)) (fun k' => dflt (Or.inr k')) (fun k' => pk_eq (tk_K xtk n (m + 1)) 7 (fun k7 => ?_) (fun k7 => pk_eq (tk_K xtk n (m + 1)) 8 (fun k8 => hlet (Or.inl k8)) (fun k8 => pk_eq (tk_K xtk n (m + 1)) 9 (fun k9 => hlet (Or.inr k9)) (fun k9 => trivial))))))⟩
  obtain ⟨c, c4, lc, hN, hP, hc1⟩ := sc_N k1 (by omega) (by omega) hS
  have P := hP k7
  have g := gr_bind hI k1 (by omega) (by omega) hS
  have en : ∀ j, sc_nm (tk_K xtk n) (sk_f (tk_K xtk n) n) m j = m + 3 + j := fun j => if_pos k7
  have ea : sk_f (tk_K xtk n) n (m + 2) = m + 2 + 2 + c := gr_Pa g.1 P
  have hb : sk_f (tk_K xtk n) n (m + 2) < n := by have := g.2.2.1.1; have := g.2.2.2.1; omega
  refine xs_lam H A P k7 g.1 hb (fun sc' f1 f2 => hp _ ⟨fun z => by omega, fun _ _ c' lc' => ?_⟩ (fun q hq hq1 => ?_))
  · have ec := ls_C_u lc' lc
    subst ec
    have sm : upd sc' (sk_f (tk_K xtk n) n (m + 2)) (sc_ls (tk_K xtk n) (sk_f (tk_K xtk n) n) xsc m c') m = xsc m := by
      rw [pk_un (by omega)]; exact f2 m (fun j hj => by omega)
    have el : ∀ j, sc_ls (tk_K xtk n) (sk_f (tk_K xtk n) n) (upd sc' (sk_f (tk_K xtk n) n (m + 2)) (sc_ls (tk_K xtk n) (sk_f (tk_K xtk n) n) xsc m c')) m j = sc_ls (tk_K xtk n) (sk_f (tk_K xtk n) n) xsc m j := fun j => by
      cases j with
      | zero => exact sm
      | succ j => rfl
    refine ⟨fun j hj => ?_, ?_, fun z => absurd k7 z⟩
    · rw [el, en, pk_un (by omega)]; exact f1 j hj
    · rw [el]; exact pk_us
  · rw [pk_un (fun e => hq (Or.inl ⟨k1, Or.inr (Or.inr (Or.inl ⟨by omega, by omega, e⟩))⟩))]
    exact f2 q (fun j hj e => hq (Or.inr (Or.inr ((hN q).mpr ⟨j, hj, by rw [en]; exact e⟩))))
theorem xs_findL (H : tk_ok xtk n) {i : Nat} (hi : i < n) {post : Int32 → SX → Prop} :
    ∀ (l : List Nat) (s : Int32) (x : Nat), sc_H n xsc l s → x + l.length ≤ i →
      (∀ h, sc_F xtv (xtv i) l h → post 1 (xdl, xtn, xpp, xvc, xcc, xfc, xoc, xag, xan, xex, xen, xfl, xac, xst, xsp, xmd, xrt, xcu, xtk, xtv, xaf, xro, xsc, upd xho i (nI (x + h)), xvk, xvf, xvs, xcv, xco, xff, xfp, xfe, xfb, xop)) → ((∀ m, m ∈ l → xtv m ≠ xtv i) → ∀ ho', post 0 (xdl, xtn, xpp, xvc, xcc, xfc, xoc, xag, xan, xex, xen, xfl, xac, xst, xsp, xmd, xrt, xcu, xtk, xtv, xaf, xro, xsc, ho', xvk, xvf, xvs, xcv, xco, xff, xfp, xfe, xfb, xop)) →
      wX_findBinding_9 post (nI i) xdl xtn xpp xvc xcc xfc xoc xag xan xex xen xfl xac xst xsp xmd xrt xcu xtk xtv xaf xro xsc xho xvk xvf xvs xcv xco xff xfp xfe xfb xop (l.length + 1) s (nI x) := by
  have H1 := H.1
  have hci : (nI i).toNatClampNeg = i := nI_clamp (by omega)
  intro l
  induction l with
  | nil =>
    intro s x hH hx h1 h0
    have x64 : x < 64 := by simp at hx; omega
    refine pk_le 64 x (fun z => by omega) (fun _ => br_t hH ⟨tk_in H hi, fun ho' _ => br_t hH (h0 (fun m hm => absurd hm List.not_mem_nil) ho')⟩)
  | cons m l ih =>
    intro s x hH hx h1 h0
    obtain ⟨e, hm, hH⟩ := hH
    simp only [List.length_cons] at hx ⊢
    have hcm : s.toNatClampNeg = m := by rw [e]; exact nI_clamp (by omega)
    have ne : ¬ s = -1 := by rw [e]; exact ni_nm1 (by omega)
    have im : vp_in s 64 := by rw [e]; exact tk_in H hm
    refine pk_le 64 x (fun z => by omega) (fun _ => br_f ne ⟨im, tk_in H hi, ?_⟩)
    rw [hcm, hci]
    by_cases ev : xtv m = xtv i
    · refine br_t ev ⟨tk_in H hi, fun ho' eh => br_f ne ?_⟩
      rw [eh, hci]
      exact h1 0 (Or.inl ⟨ev, rfl⟩)
    · refine br_f ev ⟨im, nm_e (nm_r (nI_1 x) (ih (xsc m) (x + 1) hH (by omega) (fun h hh => ?_) (fun hh => h0 (fun q hq => ?_))))⟩
      · have := h1 (h + 1) (Or.inr ⟨ev, h, rfl, hh⟩)
        rw [show x + (h + 1) = x + 1 + h from by omega] at this
        exact this
      · rcases List.mem_cons.mp hq with z | z
        · rw [z]; exact ev
        · exact hh q z
end
end
section
section
variable {K : Nat → Nat} {V : Nat → Int32} {n : Nat}
theorem rw_K {r : Nat → Int32} {par : Nat → Nat} (W : rw_W K V (sk_f K n) n n r par) {q : Nat} (hq : q < n) (h : r q ≠ 0) : (K q = 1 ∨ K q = 3 ∨ K q = 4 ∨ K q = 5) ∧ (r q = 3 → K q = 4) := by
  have one : r q = 1 → (K q = 1 ∨ K q = 3 ∨ K q = 4 ∨ K q = 5) := fun z => by
    rcases (W.2.1 q hq z).1 with w | w | w | w
    · omega
    · omega
    · omega
    · exact Or.inl w.1
  have two : r q = 2 → (K q = 1 ∨ K q = 3 ∨ K q = 4 ∨ K q = 5) := fun z => by
    rcases (W.2.2.1 q hq z).1 with w | w | w
    · omega
    · omega
    · exact Or.inl w.1
  rcases W.2.2.2.1 q hq h with z | ⟨z1, z2, z3, z4⟩
  · have := W.2.2.2.2
    rw [← z] at this
    exact ⟨one this, fun w => by rw [this] at w; exact absurd w (by decide)⟩
  · rcases z4 with ⟨a, ⟨b, _⟩ | ⟨b, _⟩ | ⟨b, c⟩⟩ | ⟨a, b, _⟩
    · exact ⟨one b, fun w => by rw [b] at w; exact absurd w (by decide)⟩
    · exact ⟨two b, fun w => by rw [b] at w; exact absurd w (by decide)⟩
    · have k4 : K q = 4 := by
        have hS := (W.2.1 (par q) z2 a).1
        obtain ⟨k1, c⟩ := c
        rcases c with ⟨k7, c⟩ | ⟨k8, b', hb, e⟩
        · obtain ⟨c', c4, lc, hN, hP, _⟩ := sc_N k1 (by omega) (by omega) hS
          have P := hP k7
          obtain ⟨j, hj, e⟩ := (ls_CM lc).mp c
          rw [e, show par q + 3 = par q + 2 + 1 from rfl, gr_Pi P (by omega)]
          exact P.2.1 j hj
        · rcases gr_FSof hS k1 with ⟨k, l⟩ | ⟨k, l, k2, c', q'⟩ | ⟨k, l, k2, c', c1, c4, lc, bb⟩ | ⟨k, l⟩ | ⟨k, c', c4, l⟩
          · omega
          · omega
          · obtain ⟨j, hj, e2⟩ := (ls_CM lc).mp hb
            rw [e, e2]; exact (bb j hj).2.2.1
          · omega
          · omega
      exact ⟨by omega, fun _ => k4⟩
    · exact ⟨two b, fun w => by rw [b] at w; exact absurd w (by decide)⟩
theorem sc_Lc {sc sF : Nat → Int32} {i : Nat} (k1 : K i = 1) (hS : gr_SH K V (sk_f K n) i) (hi : sF i = sc i) (hc : ∀ c, gr_Ch K (sk_f K n) i c → sF c = sc c) (h : sc_L K (sk_f K n) sc i) : sc_L K (sk_f K n) sF i := by
  have el : ∀ j, sc_ls K (sk_f K n) sF i j = sc_ls K (sk_f K n) sc i j := fun j => by
    cases j with
    | zero => exact hi
    | succ j => rfl
  refine ⟨fun z c h' => by rw [hc c (Or.inl h'), hi]; exact h.1 z c h', fun z7 z9 c lc => ?_⟩
  obtain ⟨a1, a2, a3⟩ := h.2 z7 z9 c lc
  obtain ⟨c', c4, lc', hN, hP, _⟩ := sc_N k1 z7 z9 hS
  have ec := ls_C_u lc' lc
  subst ec
  refine ⟨fun j hj => ?_, ?_, fun z j hj => ?_⟩
  · rw [el, hc _ (Or.inr (Or.inr ((hN _).mpr ⟨j, hj, rfl⟩)))]; exact a1 j hj
  · rw [el, hc _ (Or.inl ⟨k1, Or.inr (Or.inr (Or.inl ⟨z7, z9, rfl⟩))⟩)]; exact a2
  · rw [el, hi, hc _ (Or.inl ⟨k1, Or.inr (Or.inr (Or.inr ⟨by omega, _, (ls_CM lc').mpr ⟨j, hj, rfl⟩, rfl⟩))⟩)]; exact a3 z j hj
end
/-- a used name's place -/
def xs_P (n : Nat) (V : Nat → Int32) (r : Nat → Int32) (par : Nat → Nat) (sc ho : Nat → Int32) (i : Nat) : Prop := ∃ l h, sc_H n sc l (sc i) ∧ (∀ m, m ∈ l → r m = 3 ∧ par m < i) ∧ ho i = nI h ∧ sc_F V (V i) l h ∧ l.length ≤ i
def lt_P (K : Nat → Nat) (vk vf vs : Nat → Int32) (v e : Nat) : Prop := (K e = 2 → vk v = 2) ∧ (K e ≠ 2 → vk v = 3 ∧ vf v = nI e ∧ vs v = nI (64 + e))
def lt_L (K : Nat → Nat) (V : Nat → Int32) (a : Nat → Nat) (r vk vf vs : Nat → Int32) (m : Nat) : Prop := ∀ i, i < m → (K i = 3 → vk i = 1 ∧ vf i = V i) ∧ (K i = 5 → vk i = 2) ∧ (r i = 2 → K i = 1 → lt_P K vk vf vs i (i + 1)) ∧ (r i = 2 → lt_P K vk vf vs (64 + i) (a i))
theorem sc_Fm {V : Nat → Int32} {x : Int32} : ∀ {l : List Nat} {h : Nat}, sc_F V x l h → ∃ m, m ∈ l ∧ V m = x
  | [], _, h => False.elim h
  | m :: l, _, h => by
    rcases h with ⟨a, _⟩ | ⟨_, h', _, b⟩
    · exact ⟨m, List.mem_cons_self, a⟩
    · obtain ⟨q, hq, e⟩ := sc_Fm b
      exact ⟨q, List.mem_cons_of_mem _ hq, e⟩
section
variable {xdl xtn xpp xvc xcc xfc xoc xag xan xex xen xfl xac xst xsp xmd xrt xcu : Int32} {xtk xtv xaf xro xsc xho xvk xvf xvs xcv xco xff xfp xfe xfb xop : Nat → Int32} {n : Nat}
theorem xs_loop (H : tk_ok xtk n) (A : xb_A (tk_K xtk n) n xaf) {par : Nat → Nat} (W : rw_W (tk_K xtk n) xtv (sk_f (tk_K xtk n) n) n n (xr_c n xro) par) (hC : ∀ j, tk_K xtk n j = 1 → 7 ≤ tk_K xtk n (j + 1) → tk_K xtk n (j + 1) ≤ 9 → xr_c n xro j = 1) {post : Int32 → SX → Prop}
    (h1 : ∀ sc' ho', sc' 0 = -1 → (∀ i, i < n → xr_c n xro i = 1 → tk_K xtk n i = 1 → sc_L (tk_K xtk n) (sk_f (tk_K xtk n) n) sc' i) → (∀ i, i < n → xr_c n xro i = 1 → tk_K xtk n i = 4 → xs_P n xtv (xr_c n xro) par sc' ho' i ∧ sc_B (tk_K xtk n) xtv (sk_f (tk_K xtk n) n) i (xtv i)) → post 1 (xdl, nI n, xpp, xvc, xcc, xfc, xoc, xag, xan, xex, xen, xfl, xac, xst, xsp, xmd, xrt, xcu, xtk, xtv, xaf, xro, sc', ho', xvk, xvf, xvs, xcv, xco, xff, xfp, xfe, xfb, xop))
    (h0 : ∀ sc' ho', (∃ i, i < n ∧ xr_c n xro i = 1 ∧ tk_K xtk n i = 4 ∧ ¬ sc_B (tk_K xtk n) xtv (sk_f (tk_K xtk n) n) i (xtv i)) → post 0 (xdl, nI n, xpp, xvc, xcc, xfc, xoc, xag, xan, xex, xen, xfl, xac, xst, xsp, xmd, xrt, xcu, xtk, xtv, xaf, xro, sc', ho', xvk, xvf, xvs, xcv, xco, xff, xfp, xfe, xfb, xop)) :
    ∀ d m (sc' ho' : Nat → Int32), m + d = n → sc' 0 = -1 → (∀ i, i < m → i < n → xr_c n xro i = 1 → tk_K xtk n i = 1 → sc_L (tk_K xtk n) (sk_f (tk_K xtk n) n) sc' i) → (∀ i, i < m → xr_c n xro i = 1 → tk_K xtk n i = 4 → xs_P n xtv (xr_c n xro) par sc' ho' i ∧ sc_B (tk_K xtk n) xtv (sk_f (tk_K xtk n) n) i (xtv i)) →
      wX_namesAreBound_9 post (d + 1) (nI m) xdl (nI n) xpp xvc xcc xfc xoc xag xan xex xen xfl xac xst xsp xmd xrt xcu xtk xtv xaf xro sc' ho' xvk xvf xvs xcv xco xff xfp xfe xfb xop := by
  have H1 := H.1
  have hB : ∀ i, i < n → tk_K xtk n i ≠ 2 → dp_I (tk_K xtk n) i (sk_f (tk_K xtk n) n i) := fun i hi hk => (A i hi hk).1
  have hn0 : ∀ i, n ≤ i → tk_K xtk n i = 0 := fun i => tk_0
  intro d
  induction d with
  | zero =>
    intro m sc' ho' e s0 s1 s2
    have em : m = n := by omega
    subst em
    exact pk_le m m (fun _ => h1 sc' ho' s0 (fun i hi => s1 i hi hi) s2) (fun z => by omega)
  | succ d ih =>
    intro m sc' ho' e s0 s1 s2
    have hm : m < n := by omega
    have hc : (nI m).toNatClampNeg = m := nI_clamp (by omega)
    refine pk_le n m (fun z => by omega) (fun _ => ⟨tk_in H hm, ?_⟩)
    have skipS : ∀ sc'', (tk_K xtk n m ≠ 4 ∨ xro m ≠ 1) → sc'' 0 = -1 → (∀ i, i < m + 1 → i < n → xr_c n xro i = 1 → tk_K xtk n i = 1 → sc_L (tk_K xtk n) (sk_f (tk_K xtk n) n) sc'' i) → (∀ i, i < m → xr_c n xro i = 1 → tk_K xtk n i = 4 → xs_P n xtv (xr_c n xro) par sc'' ho' i ∧ sc_B (tk_K xtk n) xtv (sk_f (tk_K xtk n) n) i (xtv i)) → wX_namesAreBound_42 post (wX_namesAreBound_9 post (d + 1)) (nI m) xdl (nI n) xpp xvc xcc xfc xoc xag xan xex xen xfl xac xst xsp xmd xrt xcu xtk xtv xaf xro sc'' ho' xvk xvf xvs xcv xco xff xfp xfe xfb xop := by
      intro sc'' hk t0 t1 t2
      have go : wX_namesAreBound_9 post (d + 1) (nI (m + 1)) xdl (nI n) xpp xvc xcc xfc xoc xag xan xex xen xfl xac xst xsp xmd xrt xcu xtk xtv xaf xro sc'' ho' xvk xvf xvs xcv xco xff xfp xfe xfb xop := ih (m + 1) sc'' ho' (by omega) t0 t1 (fun i hi hr hk4 => by
        by_cases z : i = m
        · subst z
          rw [xr_in hm] at hr
          rcases hk with hk | hk
          · exact absurd hk4 hk
          · exact absurd hr hk
        · exact t2 i (by omega) hr hk4)
      refine ⟨tk_in H hm, ?_⟩
      rw [hc]
      by_cases r1 : xro m = 1
      · have k4 : tk_K xtk n m ≠ 4 := by
          rcases hk with hk | hk
          · exact hk
          · exact absurd r1 hk
        have hb := tk_b H hm 4 (A := wpX_findBinding (fun r_12 u => match u with | (xdl, xtn, xpp, xvc, xcc, xfc, xoc, xag, xan, xex, xen, xfl, xac, xst, xsp, xmd, xrt, xcu, xtk, xtv, xaf, xro, xsc, xho, xvk, xvf, xvs, xcv, xco, xff, xfp, xfe, xfb, xop) => (((r_12 = 0 → (post 0 (xdl, xtn, xpp, xvc, xcc, xfc, xoc, xag, xan, xex, xen, xfl, xac, xst, xsp, xmd, xrt, xcu, xtk, xtv, xaf, xro, xsc, xho, xvk, xvf, xvs, xcv, xco, xff, xfp, xfe, xfb, xop))) ∧ (¬ r_12 = 0 → (∀ x1_48 : Int32, x1_48 = nI m + 1 → (wX_namesAreBound_9 post (d + 1) x1_48 xdl xtn xpp xvc xcc xfc xoc xag xan xex xen xfl xac xst xsp xmd xrt xcu xtk xtv xaf xro xsc xho xvk xvf xvs xcv xco xff xfp xfe xfb xop)))))) (xdl, nI n, xpp, xvc, xcc, xfc, xoc, xag, xan, xex, xen, xfl, xac, xst, xsp, xmd, xrt, xcu, xtk, xtv, xaf, xro, sc'', ho', xvk, xvf, xvs, xcv, xco, xff, xfp, xfe, xfb, xop) (nI m)) (B := ∀ x1_11 : Int32, x1_11 = nI m + 1 → wX_namesAreBound_9 post (d + 1) x1_11 xdl (nI n) xpp xvc xcc xfc xoc xag xan xex xen xfl xac xst xsp xmd xrt xcu xtk xtv xaf xro sc'' ho' xvk xvf xvs xcv xco xff xfp xfe xfb xop) (fun z => absurd z k4) (fun _ => nm_r (nI_1 m) go)
        rw [hc] at hb
        exact br_t r1 ⟨tk_in H hm, hb⟩
      · exact br_f r1 (nm_r (nI_1 m) go)
    have upS : ∀ i, (i < m → xr_c n xro i = 1 → tk_K xtk n i = 1 → i < n → sc_L (tk_K xtk n) (sk_f (tk_K xtk n) n) sc' i) := fun i hi hr hk hn' => s1 i hi hn' hr hk
    rw [hc]
    by_cases r1 : xro m = 1
    · have R1 : xr_c n xro m = 1 := (xr_in hm).trans r1
      refine br_t r1 ⟨tk_in H hm, ?_⟩
      have hb := tk_b H hm 1 (A := wpX_scopeForm (fun u => match u with | (xdl, xtn, xpp, xvc, xcc, xfc, xoc, xag, xan, xex, xen, xfl, xac, xst, xsp, xmd, xrt, xcu, xtk, xtv, xaf, xro, xsc, xho, xvk, xvf, xvs, xcv, xco, xff, xfp, xfe, xfb, xop) => (wX_namesAreBound_42 post (wX_namesAreBound_9 post (d + 1)) (nI m) xdl xtn xpp xvc xcc xfc xoc xag xan xex xen xfl xac xst xsp xmd xrt xcu xtk xtv xaf xro xsc xho xvk xvf xvs xcv xco xff xfp xfe xfb xop)) (xdl, nI n, xpp, xvc, xcc, xfc, xoc, xag, xan, xex, xen, xfl, xac, xst, xsp, xmd, xrt, xcu, xtk, xtv, xaf, xro, sc', ho', xvk, xvf, xvs, xcv, xco, xff, xfp, xfe, xfb, xop) (nI m)) (B := wX_namesAreBound_42 post (wX_namesAreBound_9 post (d + 1)) (nI m) xdl (nI n) xpp xvc xcc xfc xoc xag xan xex xen xfl xac xst xsp xmd xrt xcu xtk xtv xaf xro sc' ho' xvk xvf xvs xcv xco xff xfp xfe xfb xop) (fun k1 => ?_) (fun k1 => ?_)
      · rw [hc] at hb; exact hb
      · have hS := (W.2.1 m hm R1).1
        refine xs_form (xtn := nI n) (xsc := sc') (xho := ho') H A hm k1 hS (fun sF f1 f2 => ?_)
        have ag : ∀ q, q < n → xr_c n xro q ≠ 0 → (q ≤ m ∨ par q ≠ m) → sF q = sc' q := by
          intro q hq hr hpq
          have nch : ¬ gr_Ch (tk_K xtk n) (sk_f (tk_K xtk n) n) m q := by
            intro z
            have gi := gr_in (hB m hm (by omega)) hS z
            have pq : par q = m := by
              rcases z with z | z | z
              · exact ((W.2.1 m hm R1).2.1 q z).2
              · exact ((W.2.1 m hm R1).2.2.1 q z).2
              · exact ((W.2.1 m hm R1).2.2.2 q z).2
            rcases hpq with w | w
            · omega
            · exact w pq
          refine f2 q nch (fun z => ?_)
          have kq := (rw_K W hq hr).1
          refine nch (Or.inl ⟨k1, Or.inr (Or.inl ⟨?_, ?_⟩)⟩)
          · rw [← z]; omega
          · rw [z]; rw [z] at kq; exact ls_M_0 (by omega)
        refine skipS sF (Or.inl (by omega)) ?_ (fun i hi hin hr hk => ?_) (fun i hi hr hk => ?_)
        · rw [ag 0 (by omega) (by rw [W.2.2.2.2]; decide) (Or.inl (by omega))]; exact s0
        · by_cases z : i = m
          · subst z; exact f1
          · have hSi := (W.2.1 i hin hr).1
            have hIi := hB i hin (by omega)
            refine sc_Lc hk hSi (ag i hin (by rw [hr]; decide) (Or.inl (by omega))) (fun c hc' => ?_) (s1 i (by omega) hin hr hk)
            have gi := gr_in hIi hSi hc'
            have g2 := gi.2.1.1
            have lim := dp_le hn0 hIi hin
            rcases hc' with w | w | w
            · have q := (W.2.1 i hin hr).2.1 c w
              exact ag c (by omega) (by rw [q.1]; decide) (Or.inr (by rw [q.2]; exact z))
            · have q := (W.2.1 i hin hr).2.2.1 c w
              exact ag c (by omega) (by rw [q.1]; decide) (Or.inr (by rw [q.2]; exact z))
            · have q := (W.2.1 i hin hr).2.2.2 c w
              exact ag c (by omega) (by rw [q.1]; decide) (Or.inr (by rw [q.2]; exact z))
        · obtain ⟨⟨l, h, q1, q2, q3, q4, q5⟩, q6⟩ := s2 i hi hr hk
          refine ⟨⟨l, h, ?_, q2, q3, q4, q5⟩, q6⟩
          rw [ag i (by omega) (by rw [hr]; decide) (Or.inl (by omega))]
          refine sc_Hc (fun x hx => ?_) q1
          have w := q2 x hx
          have xn : x < n := by
            rcases Nat.lt_or_ge x n with y | y
            · exact y
            · rw [xr_out y] at w; exact absurd w.1 (by decide)
          exact ag x xn (by rw [w.1]; decide) (Or.inr (by omega))
      · by_cases k4 : tk_K xtk n m = 4
        · obtain ⟨l, c1, c2, c3, c4⟩ := sc_ch (at' := m) hB hn0 W hC s0 s1 m m (Nat.le_refl _) hm (Nat.le_refl _) R1
          refine ⟨tk_in H hm, ?_⟩
          rw [hc]
          have hb := tk_b H hm 4 (A := wpX_findBinding (fun r_12 u => match u with | (xdl, xtn, xpp, xvc, xcc, xfc, xoc, xag, xan, xex, xen, xfl, xac, xst, xsp, xmd, xrt, xcu, xtk, xtv, xaf, xro, xsc, xho, xvk, xvf, xvs, xcv, xco, xff, xfp, xfe, xfb, xop) => (((r_12 = 0 → (post 0 (xdl, xtn, xpp, xvc, xcc, xfc, xoc, xag, xan, xex, xen, xfl, xac, xst, xsp, xmd, xrt, xcu, xtk, xtv, xaf, xro, xsc, xho, xvk, xvf, xvs, xcv, xco, xff, xfp, xfe, xfb, xop))) ∧ (¬ r_12 = 0 → (∀ x1_48 : Int32, x1_48 = nI m + 1 → (wX_namesAreBound_9 post (d + 1) x1_48 xdl xtn xpp xvc xcc xfc xoc xag xan xex xen xfl xac xst xsp xmd xrt xcu xtk xtv xaf xro xsc xho xvk xvf xvs xcv xco xff xfp xfe xfb xop)))))) (xdl, nI n, xpp, xvc, xcc, xfc, xoc, xag, xan, xex, xen, xfl, xac, xst, xsp, xmd, xrt, xcu, xtk, xtv, xaf, xro, sc', ho', xvk, xvf, xvs, xcv, xco, xff, xfp, xfe, xfb, xop) (nI m)) (B := ∀ x1_11 : Int32, x1_11 = nI m + 1 → wX_namesAreBound_9 post (d + 1) x1_11 xdl (nI n) xpp xvc xcc xfc xoc xag xan xex xen xfl xac xst xsp xmd xrt xcu xtk xtv xaf xro sc' ho' xvk xvf xvs xcv xco xff xfp xfe xfb xop) (fun _ => ?_) (fun z => absurd k4 z)
          · rw [hc] at hb; exact br_t r1 ⟨tk_in H hm, hb⟩
          · refine ⟨tk_in H hm, nm_r (show sc' (nI m).toNatClampNeg = sc' m from by rw [hc]) ⟨l.length + 1, xs_findL (xtn := nI n) (xsc := sc') (xho := ho') H hm l (sc' m) 0 c1 (by omega) (fun h hh => br_f (by decide) (nm_r (nI_1 m) (ih (m + 1) sc' _ (by omega) s0 (fun i hi hin hr hk => ?_) (fun i hi hr hk => ?_)))) (fun w ho2 => br_t rfl (h0 sc' ho2 ⟨m, hm, R1, k4, fun z => ?_⟩))⟩⟩
            · refine s1 i ?_ hin hr hk
              by_cases z : i = m
              · subst z; omega
              · omega
            · by_cases z : i = m
              · subst z
                exact ⟨⟨l, h, c1, c3, by rw [pk_us, Nat.zero_add], hh, c2⟩, (c4 _).mp (sc_Fm hh)⟩
              · obtain ⟨⟨l, h, q1, q2, q3, q4, q5⟩, q6⟩ := s2 i (by omega) hr hk
                exact ⟨⟨l, h, q1, q2, by rw [pk_un z]; exact q3, q4, q5⟩, q6⟩
            · obtain ⟨q, hq, ev⟩ := (c4 _).mpr z
              exact w q hq ev
        · exact skipS sc' (Or.inl k4) s0 (fun i hi hin hr hk => s1 i (by
            by_cases z : i = m
            · subst z; exact absurd hk k1
            · omega) hin hr hk) s2
    · refine br_f r1 (skipS sc' (Or.inr r1) s0 (fun i hi hin hr hk => s1 i (by
        by_cases z : i = m
        · subst z; rw [xr_in hm] at hr; exact absurd hr r1
        · omega) hin hr hk) s2)
end
end
section
/-- a compiled program -/
def cp_P (tk tv : Nat → Int32) (n : Nat) (af ro sc ho vk vf vs : Nat → Int32) : Prop :=
  ∃ par : Nat → Nat, 0 < n ∧ dp_I (tk_K tk n) 0 n ∧ xb_A (tk_K tk n) n af ∧ rw_W (tk_K tk n) tv (sk_f (tk_K tk n) n) n n (xr_c n ro) par ∧
    (∀ j, tk_K tk n j = 1 → 7 ≤ tk_K tk n (j + 1) → tk_K tk n (j + 1) ≤ 9 → xr_c n ro j = 1) ∧ sc 0 = -1 ∧
    (∀ i, i < n → xr_c n ro i = 1 → tk_K tk n i = 1 → sc_L (tk_K tk n) (sk_f (tk_K tk n) n) sc i) ∧
    (∀ i, i < n → xr_c n ro i = 1 → tk_K tk n i = 4 → xs_P n tv (xr_c n ro) par sc ho i ∧ sc_B (tk_K tk n) tv (sk_f (tk_K tk n) n) i (tv i)) ∧
    lt_L (tk_K tk n) tv (sk_f (tk_K tk n) n) (xr_c n ro) vk vf vs n
section
variable {xdl xtn xpp xvc xcc xfc xoc xag xan xex xen xfl xac xst xsp xmd xrt xcu : Int32} {xtk xtv xaf xro xsc xho xvk xvf xvs xcv xco xff xfp xfe xfb xop : Nat → Int32} {n : Nat}
theorem xv_set {v : Nat} (hv : v < 528) {k f s : Int32} {post : SX → Prop} (hp : post (xdl, xtn, xpp, xvc, xcc, xfc, xoc, xag, xan, xex, xen, xfl, xac, xst, xsp, xmd, xrt, xcu, xtk, xtv, xaf, xro, xsc, xho, upd xvk v k, upd xvf v f, upd xvs v s, xcv, xco, xff, xfp, xfe, xfb, xop)) : wpX_setValue post (xdl, xtn, xpp, xvc, xcc, xfc, xoc, xag, xan, xex, xen, xfl, xac, xst, xsp, xmd, xrt, xcu, xtk, xtv, xaf, xro, xsc, xho, xvk, xvf, xvs, xcv, xco, xff, xfp, xfe, xfb, xop) (nI v) k f s := by
  have hi : vp_in (nI v) 528 := vp_in_nI hv (by omega)
  have hc : (nI v).toNatClampNeg = v := nI_clamp (by omega)
  refine ⟨hi, nm_r (by rw [hc]) ⟨hi, nm_r (by rw [hc]) ⟨hi, nm_r (by rw [hc]) hp⟩⟩⟩
theorem xv_list (H : tk_ok xtk n) {v e : Nat} (hv : v < 528) (he : e < n) {post : SX → Prop}
    (hp : ∀ vk' vf' vs', lt_P (tk_K xtk n) vk' vf' vs' v e → (∀ q, q ≠ v → vk' q = xvk q ∧ vf' q = xvf q ∧ vs' q = xvs q) → post (xdl, xtn, xpp, xvc, xcc, xfc, xoc, xag, xan, xex, xen, xfl, xac, xst, xsp, xmd, xrt, xcu, xtk, xtv, xaf, xro, xsc, xho, vk', vf', vs', xcv, xco, xff, xfp, xfe, xfb, xop)) : wpX_placeList post (xdl, xtn, xpp, xvc, xcc, xfc, xoc, xag, xan, xex, xen, xfl, xac, xst, xsp, xmd, xrt, xcu, xtk, xtv, xaf, xro, xsc, xho, xvk, xvf, xvs, xcv, xco, xff, xfp, xfe, xfb, xop) (nI v) (nI e) := by
  refine ⟨tk_in H he, tk_b H he 2 (fun k => ?_) (fun k => ?_)⟩
  · exact xv_set hv (hp _ _ _ ⟨fun _ => pk_us, fun z => absurd k z⟩ (fun q hq => ⟨pk_un hq, pk_un hq, pk_un hq⟩))
  · refine xv_set hv (hp _ _ _ ⟨fun z => absurd z k, fun _ => ⟨pk_us, pk_us, ?_⟩⟩ (fun q hq => ⟨pk_un hq, pk_un hq, pk_un hq⟩))
    rw [pk_us]; exact nI_add 64 e
theorem lt_Pk {K : Nat → Nat} {vk vf vs vk' vf' vs' : Nat → Int32} {v e : Nat} (h : lt_P K vk vf vs v e) (hq : vk' v = vk v ∧ vf' v = vf v ∧ vs' v = vs v) : lt_P K vk' vf' vs' v e :=
  ⟨fun z => hq.1.trans (h.1 z), fun z => ⟨hq.1.trans (h.2 z).1, hq.2.1.trans (h.2 z).2.1, hq.2.2.trans (h.2 z).2.2⟩⟩
theorem lt_Lk {K : Nat → Nat} {V : Nat → Int32} {a : Nat → Nat} {r vk vf vs vk' vf' vs' : Nat → Int32} {m : Nat} (h : lt_L K V a r vk vf vs m) (hq : ∀ i, i < m → (vk' i = vk i ∧ vf' i = vf i ∧ vs' i = vs i) ∧ (vk' (64 + i) = vk (64 + i) ∧ vf' (64 + i) = vf (64 + i) ∧ vs' (64 + i) = vs (64 + i))) : lt_L K V a r vk' vf' vs' m := by
  intro i hi
  obtain ⟨a1, a2, a3, a4⟩ := h i hi
  have q := hq i hi
  exact ⟨fun z => ⟨q.1.1.trans (a1 z).1, q.1.2.1.trans (a1 z).2⟩, fun z => q.1.1.trans (a2 z), fun z z' => lt_Pk (a3 z z') q.1, fun z => lt_Pk (a4 z) q.2⟩
theorem xv_loop (H : tk_ok xtk n) (A : xb_A (tk_K xtk n) n xaf) {par : Nat → Nat} (W : rw_W (tk_K xtk n) xtv (sk_f (tk_K xtk n) n) n n (xr_c n xro) par) {post : SX → Prop}
    (hp : ∀ vk' vf' vs', lt_L (tk_K xtk n) xtv (sk_f (tk_K xtk n) n) (xr_c n xro) vk' vf' vs' n → post (xdl, nI n, xpp, xvc, xcc, xfc, xoc, xag, xan, xex, xen, xfl, xac, xst, xsp, xmd, xrt, xcu, xtk, xtv, xaf, xro, xsc, xho, vk', vf', vs', xcv, xco, xff, xfp, xfe, xfb, xop)) :
    ∀ d m (vk' vf' vs' : Nat → Int32), m + d = n → lt_L (tk_K xtk n) xtv (sk_f (tk_K xtk n) n) (xr_c n xro) vk' vf' vs' m → wX_placeLiterals_2 post (d + 1) (nI m) xdl (nI n) xpp xvc xcc xfc xoc xag xan xex xen xfl xac xst xsp xmd xrt xcu xtk xtv xaf xro xsc xho vk' vf' vs' xcv xco xff xfp xfe xfb xop := by
  have H1 := H.1
  have hB : ∀ i, i < n → tk_K xtk n i ≠ 2 → dp_I (tk_K xtk n) i (sk_f (tk_K xtk n) n i) := fun i hi hk => (A i hi hk).1
  have hn0 : ∀ i, n ≤ i → tk_K xtk n i = 0 := fun i => tk_0
  intro d
  induction d with
  | zero =>
    intro m vk' vf' vs' e L
    have em : m = n := by omega
    subst em
    exact pk_le m m (fun _ => hp vk' vf' vs' L) (fun z => by omega)
  | succ d ih =>
    intro m vk' vf' vs' e L
    have hm : m < n := by omega
    have hc : (nI m).toNatClampNeg = m := nI_clamp (by omega)
    -- a datum ends before the last token
    have dat : xro m = 2 → sk_f (tk_K xtk n) n m < n ∧ (tk_K xtk n m = 3 ∨ tk_K xtk n m = 5 ∨ tk_K xtk n m = 1) := by
      intro r2
      have R2 : xr_c n xro m = 2 := (xr_in hm).trans r2
      constructor
      · rcases W.2.2.2.1 m hm (by rw [R2]; decide) with z | ⟨z1, z2, z3, z4⟩
        · rw [z] at R2; rw [W.2.2.2.2] at R2; exact absurd R2 (by decide)
        · rcases z4 with ⟨a, ⟨b, _⟩ | ⟨_, b⟩ | ⟨b, _⟩⟩ | ⟨a, _, b⟩
          · rw [R2] at b; exact absurd b (by decide)
          · have k1 := b.1
            have hI := hB (par m) (by omega) (by omega)
            have := gr_in hI (W.2.1 (par m) z2 a).1 (Or.inr (Or.inl b))
            have := dp_le hn0 hI (by omega)
            omega
          · rw [R2] at b; exact absurd b (by decide)
          · have k1 := b.1
            have hI := hB (par m) (by omega) (by omega)
            have := ls_Min hI k1 (dp_L_r _) (dp_I_1 hI k1) b.2
            have := dp_le hn0 hI (by omega)
            omega
      · rcases (W.2.2.1 m hm R2).1 with w | w | w
        · exact Or.inl w
        · exact Or.inr (Or.inl w)
        · exact Or.inr (Or.inr w.1)
    have f75 : ∀ vk2 vf2 vs2, lt_L (tk_K xtk n) xtv (sk_f (tk_K xtk n) n) (xr_c n xro) vk2 vf2 vs2 m → (tk_K xtk n m = 3 → vk2 m = 1 ∧ vf2 m = xtv m) → (tk_K xtk n m = 5 → vk2 m = 2) → (xro m = 2 → tk_K xtk n m = 1 → lt_P (tk_K xtk n) vk2 vf2 vs2 m (m + 1)) → wX_placeLiterals_75 post (wX_placeLiterals_2 post (d + 1)) (nI m) xdl (nI n) xpp xvc xcc xfc xoc xag xan xex xen xfl xac xst xsp xmd xrt xcu xtk xtv xaf xro xsc xho vk2 vf2 vs2 xcv xco xff xfp xfe xfb xop := by
      intro vk2 vf2 vs2 L2 b1 b2 b3
      refine ⟨tk_in H hm, ?_⟩
      rw [hc]
      by_cases r2 : xro m = 2
      · have D := dat r2
        have ns : tk_K xtk n m ≠ 2 := by omega
        refine br_t r2 ⟨tk_in H hm, ?_⟩
        rw [(A m hm ns).2, show (64 : Int32) + nI m = nI (64 + m) from nI_add 64 m]
        refine xv_list (xtn := nI n) (xvk := vk2) (xvf := vf2) (xvs := vs2) H (by omega) D.1 (fun vk3 vf3 vs3 p1 p2 => nm_r (nI_1 m) (ih (m + 1) vk3 vf3 vs3 (by omega) (fun i hi => ?_)))
        have same : ∀ q, q ≠ 64 + m → vk3 q = vk2 q ∧ vf3 q = vf2 q ∧ vs3 q = vs2 q := p2
        by_cases z : i = m
        · subst z
          have s := same i (by omega)
          exact ⟨fun y => ⟨s.1.trans (b1 y).1, s.2.1.trans (b1 y).2⟩, fun y => s.1.trans (b2 y), fun _ y => lt_Pk (b3 r2 y) s, fun _ => p1⟩
        · exact lt_Lk L2 (fun j hj => ⟨same j (by omega), same (64 + j) (by omega)⟩) i (by omega)
      · refine br_f r2 (nm_r (nI_1 m) (ih (m + 1) vk2 vf2 vs2 (by omega) (fun i hi => ?_)))
        by_cases z : i = m
        · subst z
          rw [xr_in hm]
          exact ⟨b1, b2, fun y => absurd y r2, fun y => absurd y r2⟩
        · exact L2 i (by omega)
    have keep : ∀ vk2 vf2 vs2, (∀ q, q ≠ m → vk2 q = vk' q ∧ vf2 q = vf' q ∧ vs2 q = vs' q) → lt_L (tk_K xtk n) xtv (sk_f (tk_K xtk n) n) (xr_c n xro) vk2 vf2 vs2 m := fun vk2 vf2 vs2 hq => lt_Lk L (fun j hj => ⟨hq j (by omega), hq (64 + j) (by omega)⟩)
    refine pk_le n m (fun z => by omega) (fun _ => ⟨tk_in H hm, tk_b H hm 3 (fun k3 => ⟨tk_in H hm, ?_⟩) (fun k3 => ⟨tk_in H hm, tk_b H hm 5 (fun k5 => ?_) (fun k5 => ⟨tk_in H hm, ?_⟩)⟩)⟩)
    · rw [hc]
      exact xv_set (xtn := nI n) (xvk := vk') (xvf := vf') (xvs := vs') (by omega) (f75 _ _ _ (keep _ _ _ (fun q hq => ⟨pk_un hq, pk_un hq, pk_un hq⟩)) (fun _ => ⟨pk_us, pk_us⟩) (fun z => by omega) (fun _ z => by omega))
    · exact xv_set (xtn := nI n) (xvk := vk') (xvf := vf') (xvs := vs') (by omega) (f75 _ _ _ (keep _ _ _ (fun q hq => ⟨pk_un hq, pk_un hq, pk_un hq⟩)) (fun z => by omega) (fun _ => pk_us) (fun _ z => by omega))
    · rw [hc]
      by_cases r2 : xro m = 2
      · have D := dat r2
        have k1 : tk_K xtk n m = 1 := by omega
        obtain ⟨c0, lc0, p1, p2, p3⟩ := xl_cnt H A hm k1
        refine br_t r2 ?_
        rw [nI_1]
        exact xv_list (xtn := nI n) (xvk := vk') (xvf := vf') (xvs := vs') H (by omega) (by omega) (fun vk3 vf3 vs3 q1 q2 => f75 _ _ _ (keep _ _ _ q2) (fun z => by omega) (fun z => by omega) (fun _ _ => q1))
      · exact br_f r2 (f75 _ _ _ L (fun z => by omega) (fun z => by omega) (fun z => absurd z r2))
theorem xv_place (H : tk_ok xtk n) (A : xb_A (tk_K xtk n) n xaf) {par : Nat → Nat} (W : rw_W (tk_K xtk n) xtv (sk_f (tk_K xtk n) n) n n (xr_c n xro) par) {post : SX → Prop}
    (hp : ∀ vk' vf' vs', lt_L (tk_K xtk n) xtv (sk_f (tk_K xtk n) n) (xr_c n xro) vk' vf' vs' n → post (xdl, nI n, xpp, xvc, xcc, xfc, xoc, xag, xan, xex, xen, xfl, xac, xst, xsp, xmd, xrt, xcu, xtk, xtv, xaf, xro, xsc, xho, vk', vf', vs', xcv, xco, xff, xfp, xfe, xfb, xop)) : wpX_placeLiterals post (xdl, nI n, xpp, xvc, xcc, xfc, xoc, xag, xan, xex, xen, xfl, xac, xst, xsp, xmd, xrt, xcu, xtk, xtv, xaf, xro, xsc, xho, xvk, xvf, xvs, xcv, xco, xff, xfp, xfe, xfb, xop) :=
  ⟨n + 1, xv_loop H A W hp n 0 xvk xvf xvs (by omega) (fun i hi => by omega)⟩
theorem xs_bound (H : tk_ok xtk n) (A : xb_A (tk_K xtk n) n xaf) {par : Nat → Nat} (W : rw_W (tk_K xtk n) xtv (sk_f (tk_K xtk n) n) n n (xr_c n xro) par) (hC : ∀ j, tk_K xtk n j = 1 → 7 ≤ tk_K xtk n (j + 1) → tk_K xtk n (j + 1) ≤ 9 → xr_c n xro j = 1) {post : Int32 → SX → Prop}
    (h1 : ∀ sc' ho', sc' 0 = -1 → (∀ i, i < n → xr_c n xro i = 1 → tk_K xtk n i = 1 → sc_L (tk_K xtk n) (sk_f (tk_K xtk n) n) sc' i) → (∀ i, i < n → xr_c n xro i = 1 → tk_K xtk n i = 4 → xs_P n xtv (xr_c n xro) par sc' ho' i ∧ sc_B (tk_K xtk n) xtv (sk_f (tk_K xtk n) n) i (xtv i)) → post 1 (xdl, nI n, xpp, xvc, xcc, xfc, xoc, xag, xan, xex, xen, xfl, xac, xst, xsp, xmd, xrt, xcu, xtk, xtv, xaf, xro, sc', ho', xvk, xvf, xvs, xcv, xco, xff, xfp, xfe, xfb, xop))
    (h0 : ∀ sc' ho', (∃ i, i < n ∧ xr_c n xro i = 1 ∧ tk_K xtk n i = 4 ∧ ¬ sc_B (tk_K xtk n) xtv (sk_f (tk_K xtk n) n) i (xtv i)) → post 0 (xdl, nI n, xpp, xvc, xcc, xfc, xoc, xag, xan, xex, xen, xfl, xac, xst, xsp, xmd, xrt, xcu, xtk, xtv, xaf, xro, sc', ho', xvk, xvf, xvs, xcv, xco, xff, xfp, xfe, xfb, xop)) : wpX_namesAreBound post (xdl, nI n, xpp, xvc, xcc, xfc, xoc, xag, xan, xex, xen, xfl, xac, xst, xsp, xmd, xrt, xcu, xtk, xtv, xaf, xro, xsc, xho, xvk, xvf, xvs, xcv, xco, xff, xfp, xfe, xfb, xop) :=
  nm_e ⟨n + 1, xs_loop H A W hC h1 h0 n 0 (upd xsc 0 (-1)) xho (by omega) pk_us (fun i hi => by omega) (fun i hi => by omega)⟩
theorem xc_comp (H : tk_ok xtk n) {post : Int32 → SX → Prop}
    (h1 : ∀ af ro, (∀ k, ¬ (0 < n ∧ sk_f (tk_K xtk n) n 0 = n ∧ gr_X (tk_K xtk n) xtv (sk_f (tk_K xtk n) n) k true 0)) → post 1 (xdl, nI n, 0, xvc, xcc, xfc, xoc, xag, xan, xex, xen, xfl, xac, -1, 0, 0, -1, -1, xtk, xtv, af, ro, xsc, xho, xvk, xvf, xvs, xcv, xco, xff, xfp, xfe, xfb, xop))
    (h2 : ∀ af ro sc ho par, 0 < n → dp_I (tk_K xtk n) 0 n → xb_A (tk_K xtk n) n af → rw_W (tk_K xtk n) xtv (sk_f (tk_K xtk n) n) n n (xr_c n ro) par → (∀ j, tk_K xtk n j = 1 → 7 ≤ tk_K xtk n (j + 1) → tk_K xtk n (j + 1) ≤ 9 → xr_c n ro j = 1) → (∃ i, i < n ∧ xr_c n ro i = 1 ∧ tk_K xtk n i = 4 ∧ ¬ sc_B (tk_K xtk n) xtv (sk_f (tk_K xtk n) n) i (xtv i)) → post 2 (xdl, nI n, 0, xvc, xcc, xfc, xoc, xag, xan, xex, xen, xfl, xac, -1, 0, 0, -1, -1, xtk, xtv, af, ro, sc, ho, xvk, xvf, xvs, xcv, xco, xff, xfp, xfe, xfb, xop))
    (h3 : ∀ af ro sc ho vk vf vs, cp_P xtk xtv n af ro sc ho vk vf vs → post 0 (xdl, nI n, 1, xvc, xcc, xfc, xoc, xag, xan, xex, xen, xfl, xac, -1, 0, 0, -1, -1, xtk, xtv, af, ro, sc, ho, vk, vf, vs, xcv, xco, xff, xfp, xfe, xfb, xop)) :
    wpX_compile post (xdl, nI n, xpp, xvc, xcc, xfc, xoc, xag, xan, xex, xen, xfl, xac, xst, xsp, xmd, xrt, xcu, xtk, xtv, xaf, xro, xsc, xho, xvk, xvf, xvs, xcv, xco, xff, xfp, xfe, xfb, xop) := by
  have H1 := H.1
  have hn0 : ∀ i, n ≤ i → tk_K xtk n i = 0 := fun i => tk_0
  unfold wpX_compile wpX_forgetResult
  dsimp only
  refine xo_parens H (fun af A hK0 => br_f (by decide) ?_) (fun af w => br_t rfl (h1 af xro (fun k z => w ?_)))
  · refine xw_gram (xaf := af) H A hK0 (fun ro par n0 I0 W => br_f (by decide) ?_) (fun ro w => br_t rfl (h1 af ro w))
    have hrn : ∀ c, xr_c n ro c ≠ 0 → c < n := fun c hc => by
      rcases Nat.lt_or_ge c n with z | z
      · exact z
      · exact absurd (xr_out z) hc
    have hC := pm_kc (fun i hi hk => (A i hi hk).1) hn0 hrn (fun c hc => by
      have := (rw_K W (hrn c (by rcases hc with hc | hc <;> rw [hc] <;> decide)) (by rcases hc with hc | hc <;> rw [hc] <;> decide)).1
      omega) W _ [(1, 0, 0)] 0 (Nat.le_refl _) (by omega) (pm_C1.mpr ⟨W.2.2.2.2, sk_I I0⟩) (fun t ht => by omega)
    refine xs_bound (xaf := af) (xro := ro) H A W hC (fun sc ho s0 s1 s2 => br_f (by decide) ?_) (fun sc ho w => br_t rfl (h2 af ro sc ho par n0 I0 A W hC w))
    exact xv_place (xaf := af) (xro := ro) (xsc := sc) (xho := ho) H A W (fun vk vf vs L => h3 af ro sc ho vk vf vs ⟨par, n0, I0, A, W, hC, s0, s1, s2, L⟩)
  · have := gr_XI k true 0 z.2.2
    rw [z.2.1] at this
    exact this
end
end
section
section
variable {yli yn ypr ygs ypo yhp yfs yvp yfu ysp ymd yac yst yrt ycu yhv : Int32} {ytk ytv yus ygk yga ygb yck yca ycb ycc yfp yfe yfS yfn yfb yvs yds : Nat → Int32} {ynk yna ynb ync : Nat} {n : Nat}
/-! the reference's small readers -/
theorem yt_t (H : tk_ok ytk n) {i : Nat} (hi : i < 2 ^ 31) {post : Int32 → Prop} (hp : post (nI (tk_K ytk n i))) : wpY_t post (yli, nI n, ypr, ygs, ypo, yhp, yfs, yvp, yfu, ysp, ymd, yac, yst, yrt, ycu, yhv, ytk, ytv, yus, ygk, yga, ygb, yck, yca, ycb, ycc, yfp, yfe, yfS, yfn, yfb, yvs, yds, ynk, yna, ynb, ync) (nI i) := by
  have H1 := H.1
  refine br_f (nI_pos hi) (pk_le n i (fun z => ?_) (fun z => ⟨tk_in H z, ?_⟩))
  · rw [tk_0 z] at hp; exact hp
  · rw [tk_c H z]; exact hp
theorem yt_v (H : tk_ok ytk n) {i : Nat} (hi : i < n) {post : Int32 → Prop} (hp : post (ytv i)) : wpY_v post (yli, nI n, ypr, ygs, ypo, yhp, yfs, yvp, yfu, ysp, ymd, yac, yst, yrt, ycu, yhv, ytk, ytv, yus, ygk, yga, ygb, yck, yca, ycb, ycc, yfp, yfe, yfS, yfn, yfb, yvs, yds, ynk, yna, ynb, ync) (nI i) := by
  have H1 := H.1
  refine br_f (nI_pos (by omega)) (pk_le n i (fun z => by omega) (fun z => ⟨tk_in H z, ?_⟩))
  rw [nI_clamp (by omega)]; exact hp
/-- a value read past the end is 0 -/
theorem yt_vv (H : tk_ok ytk n) {i : Nat} (hi : i < 2 ^ 31) {post : Int32 → Prop} (hp : ∀ x, (i < n → x = ytv i) → post x) : wpY_v post (yli, nI n, ypr, ygs, ypo, yhp, yfs, yvp, yfu, ysp, ymd, yac, yst, yrt, ycu, yhv, ytk, ytv, yus, ygk, yga, ygb, yck, yca, ycb, ycc, yfp, yfe, yfS, yfn, yfb, yvs, yds, ynk, yna, ynb, ync) (nI i) := by
  have H1 := H.1
  refine br_f (nI_pos (by omega)) (pk_le n i (fun z => hp 0 (fun w => by omega)) (fun z => ⟨tk_in H z, ?_⟩))
  rw [nI_clamp (by omega)]; exact hp _ (fun _ => rfl)
theorem yk_loop (H : tk_ok ytk n) {i : Nat} (hi : i < n) (k1 : tk_K ytk n i = 1) {post : Int32 → Prop} (hp : post (nI (sk_f (tk_K ytk n) n i))) :
    ∀ (d j e : Nat), j + d = n → i ≤ j → (e : Int) = dp_d (tk_K ytk n) j - dp_d (tk_K ytk n) i → (∀ m, i < m → m ≤ j → dp_d (tk_K ytk n) i < dp_d (tk_K ytk n) m) → wY_skip_17 post yli (nI n) ypr ygs ypo yhp yfs yvp yfu ysp ymd yac yst yrt ycu yhv ytk ytv yus ygk yga ygb yck yca ycb ycc yfp yfe yfS yfn yfb yvs yds ynk yna ynb ync (d + 1) (nI e) (nI j) := by
  have H1 := H.1
  intro d
  induction d with
  | zero =>
    intro j e ej hij he hm
    have en : j = n := by omega
    subst en
    refine pk_le j j (fun _ => ?_) (fun z => by omega)
    have no : ¬ ∃ j', dp_I (tk_K ytk j) i j' := by
      rintro ⟨j', h⟩
      have l := dp_le (K := tk_K ytk j) (n := j) (fun i => tk_0) h hi
      have := hm j' h.1 l
      have := h.2.1
      omega
    rw [sk_no no k1] at hp
    exact hp
  | succ d ih =>
    intro j e ej hij he hm
    have hj : j < n := by omega
    refine pk_le n j (fun z => by omega) (fun _ => ⟨tk_in H hj, tk_b H hj 1 (fun k => nm_r (nI_1 e) ⟨tk_in H hj, tk_b H hj 2 (fun z => by omega) (fun _ => nm_r (nI_1 j) (ih (j + 1) (e + 1) (by omega) (by omega) ?_ ?_))⟩) (fun k => ⟨tk_in H hj, tk_b H hj 2 (fun k2 => ?_) (fun k2 => nm_r (nI_1 j) (ih (j + 1) e (by omega) (by omega) ?_ ?_))⟩)⟩)
    · have := dp_1 k; omega
    · intro m m1 m2
      by_cases z : m = j + 1
      · have := dp_1 k; subst z; omega
      · exact hm m m1 (by omega)
    · have d2 := dp_2 k2
      have ne : i ≠ j := fun z => by subst z; omega
      have hjj := hm j (by omega) (by omega)
      cases e with
      | zero => omega
      | succ e =>
        refine nm_r (pk_m1 e) (pk_eq e 0 (fun z => ?_) (fun z => nm_r (nI_1 j) (ih (j + 1) e (by omega) (by omega) (by omega) (fun m m1 m2 => ?_))) rfl rfl ?_)
        · rw [nI_1]
          have I : dp_I (tk_K ytk n) i (j + 1) := ⟨by omega, by omega, fun m m1 m2 => hm m m1 (by omega)⟩
          rw [sk_I I] at hp
          exact hp
        · by_cases y : m = j + 1
          · subst y; omega
          · exact hm m m1 (by omega)
        · have b : ∀ j, dp_d (tk_K ytk n) j ≤ j := by
            intro j
            induction j with
            | zero => exact Int.le_refl _
            | succ j ih => have := (dp_s (K := (tk_K ytk n)) j).2; omega
          have b2 : ∀ j : Nat, -(j : Int) ≤ dp_d (tk_K ytk n) j := by
            intro j
            induction j with
            | zero => exact Int.le_refl _
            | succ j ih => have := (dp_s (K := (tk_K ytk n)) j).1; omega
          have := b j
          have := b2 i
          omega
    · have := dp_0 k k2; omega
    · intro m m1 m2
      by_cases z : m = j + 1
      · have := dp_0 k k2
        subst z
        by_cases y : j = i
        · subst y; omega
        · have := hm j (by omega) (by omega); omega
      · exact hm m m1 (by omega)
theorem yk_skip (H : tk_ok ytk n) {i : Nat} (hi : i < 2 ^ 30) {post : Int32 → Prop} (hp : post (nI (sk_f (tk_K ytk n) n i))) : wpY_skip post (yli, nI n, ypr, ygs, ypo, yhp, yfs, yvp, yfu, ysp, ymd, yac, yst, yrt, ycu, yhv, ytk, ytv, yus, ygk, yga, ygb, yck, yca, ycb, ycc, yfp, yfe, yfS, yfn, yfb, yvs, yds, ynk, yna, ynb, ync) (nI i) := by
  have H1 := H.1
  have k20 := tk_20 H i
  unfold wpY_skip
  dsimp only
  refine yt_t (i := i) H (by omega) (pk_eq (tk_K ytk n i) 1 (fun k => ?_) (fun k => ?_))
  · have hn : i < n := tk_lt (tk := ytk) (by omega)
    exact ⟨_, yk_loop H hn k hp (n - i) i 0 (by omega) (Nat.le_refl _) (by omega) (fun m m1 m2 => by omega)⟩
  · rw [nI_1]
    rw [sk_at k] at hp
    exact hp
theorem yd_loop (H : tk_ok ytk n) {st s : Nat} (hs : s < n) (hs0 : 1 ≤ s) (hst : st < 2 ^ 20) {post : Int32 → Prop} (h1 : gr_dup ytv (sk_f (tk_K ytk n) n) st s → post 1) (h0 : ¬ gr_dup ytv (sk_f (tk_K ytk n) n) st s → post 0) :
    ∀ d k, k + d = 4 → (∀ k', k' < k → it_f (sk_f (tk_K ytk n) n) k' (st + 1) < s - 1 ∧ ytv (it_f (sk_f (tk_K ytk n) n) k' (st + 1) + 1) ≠ ytv s) → it_f (sk_f (tk_K ytk n) n) k (st + 1) < 2 ^ 25 → wY_dupBind_7 post (nI s) yli (nI n) ypr ygs ypo yhp yfs yvp yfu ysp ymd yac yst yrt ycu yhv ytk ytv yus ygk yga ygb yck yca ycb ycc yfp yfe yfS yfn yfb yvs yds ynk yna ynb ync (d + 1) (nI (it_f (sk_f (tk_K ytk n) n) k (st + 1))) (nI k) := by
  have H1 := H.1
  intro d
  induction d with
  | zero =>
    intro k e hk hb
    refine pk_le 4 k (fun _ => h0 ?_) (fun z => by omega)
    rintro ⟨k0, a, b, c⟩
    exact (hk k0 (by omega)).2 c
  | succ d ih =>
    intro k e hk hb
    refine pk_le 4 k (fun z => by omega) (fun _ => ?_)
    rw [ni_m hs0]
    refine pk_le (s - 1) (it_f (sk_f (tk_K ytk n) n) k (st + 1)) (fun z => h0 ?_) (fun z => ?_)
    · rintro ⟨k0, a, b, c⟩
      rcases Nat.lt_or_ge k0 k with y | y
      · exact (hk k0 y).2 c
      · have := b k y; omega
    · rw [nI_1 (it_f (sk_f (tk_K ytk n) n) k (st + 1))]
      refine yt_v (i := it_f (sk_f (tk_K ytk n) n) k (st + 1) + 1) H (by omega) (yt_v (i := s) H hs ?_)
      by_cases ev : ytv (it_f (sk_f (tk_K ytk n) n) k (st + 1) + 1) = ytv s
      · refine br_t ev (h1 ⟨k, by omega, fun k' h' => ?_, ev⟩)
        by_cases y : k' = k
        · subst y; exact z
        · exact (hk k' (by omega)).1
      · refine br_f ev (yk_skip (i := it_f (sk_f (tk_K ytk n) n) k (st + 1)) H (by omega) (nm_r (nI_1 k) ?_))
        have nx : sk_f (tk_K ytk n) n (it_f (sk_f (tk_K ytk n) n) k (st + 1)) < 2 ^ 25 := by
          by_cases ex : ∃ j, dp_I (tk_K ytk n) (it_f (sk_f (tk_K ytk n) n) k (st + 1)) j
          · obtain ⟨j, hj⟩ := ex
            rw [sk_I hj]
            have := dp_le (K := (tk_K ytk n)) (n := n) (fun i => tk_0) hj (by omega)
            omega
          · by_cases k1 : tk_K ytk n (it_f (sk_f (tk_K ytk n) n) k (st + 1)) = 1
            · rw [sk_no ex k1]; omega
            · rw [sk_at k1]; omega
        have := ih (k + 1) (by omega) (fun k' h' => ?_) (by rw [it_s]; exact nx)
        · rw [it_s] at this; exact this
        · by_cases y : k' = k
          · subst y; exact ⟨z, ev⟩
          · exact hk k' (by omega)
theorem yd_dup (H : tk_ok ytk n) {st s : Nat} (hs : s < n) (hs0 : 1 ≤ s) (hst : st < 2 ^ 20) {post : Int32 → Prop} (h1 : gr_dup ytv (sk_f (tk_K ytk n) n) st s → post 1) (h0 : ¬ gr_dup ytv (sk_f (tk_K ytk n) n) st s → post 0) : wpY_dupBind post (yli, nI n, ypr, ygs, ypo, yhp, yfs, yvp, yfu, ysp, ymd, yac, yst, yrt, ycu, yhv, ytk, ytv, yus, ygk, yga, ygb, yck, yca, ycb, ycc, yfp, yfe, yfS, yfn, yfb, yvs, yds, ynk, yna, ynb, ync) (nI st) (nI s) :=
  nm_r (nI_1 st) ⟨5, yd_loop H hs hs0 hst h1 h0 4 0 (by omega) (fun k hk => by omega) (show st + 1 < 2 ^ 25 by omega)⟩
theorem yq_in (H : tk_ok ytk n) {q x : Nat} (hx : q + 1 + x < n) {post : Int32 → Prop} {J : Int32 → Prop} (hJ : (∀ j, j < x → ytv (q + 1 + j) ≠ ytv (q + 1 + x)) → J (nI (q + 1 + x + 1))) (h0 : (∃ j, j < x ∧ ytv (q + 1 + j) = ytv (q + 1 + x)) → post (-1)) :
    ∀ d m, m + d = x → (∀ j, j < m → ytv (q + 1 + j) ≠ ytv (q + 1 + x)) → wY_params_50 post J (nI q) (nI (q + 1 + x)) yli (nI n) ypr ygs ypo yhp yfs yvp yfu ysp ymd yac yst yrt ycu yhv ytk ytv yus ygk yga ygb yck yca ycb ycc yfp yfe yfS yfn yfb yvs yds ynk yna ynb ync (d + 1) (nI (q + 1 + m)) := by
  have H1 := H.1
  intro d
  induction d with
  | zero =>
    intro m e hm
    have ex : m = x := by omega
    subst ex
    exact pk_le (q + 1 + m) (q + 1 + m) (fun _ => nm_r (nI_1 _) (hJ hm)) (fun z => by omega)
  | succ d ih =>
    intro m e hm
    refine pk_le (q + 1 + x) (q + 1 + m) (fun z => by omega) (fun _ => ⟨tk_in H (by omega), tk_in H hx, ?_⟩)
    rw [nI_clamp (by omega), nI_clamp (by omega)]
    by_cases ev : ytv (q + 1 + m) = ytv (q + 1 + x)
    · exact br_t ev (h0 ⟨m, by omega, ev⟩)
    · refine br_f ev (nm_r (nI_1 _) (ih (m + 1) (by omega) (fun j hj => ?_)))
      by_cases z : j = m
      · subst z; exact ev
      · exact hm j (by omega)
theorem yq_loop (H : tk_ok ytk n) {q : Nat} (hq : q < 2 ^ 20) {post : Int32 → Prop} (h1 : ∀ c, gr_P (tk_K ytk n) ytv q c → post (nI (q + 2 + c))) (h0 : (¬ ∃ c, gr_P (tk_K ytk n) ytv q c) → post (-1)) :
    ∀ d x, x + d = 5 → (∀ j, j < x → tk_K ytk n (q + 1 + j) = 4) → (∀ j j', j < j' → j' < x → ytv (q + 1 + j) ≠ ytv (q + 1 + j')) → wY_params_15 post (nI q) yli (nI n) ypr ygs ypo yhp yfs yvp yfu ysp ymd yac yst yrt ycu yhv ytk ytv yus ygk yga ygb yck yca ycb ycc yfp yfe yfS yfn yfb yvs yds ynk yna ynb ync (d + 1) (nI (q + 1 + x)) := by
  have H1 := H.1
  intro d
  induction d with
  | zero =>
    intro x e hk hd
    refine pk_lt (q + 5) (q + 1 + x) (fun _ => h0 ?_) (fun z => by omega) (ni_5 q)
    rintro ⟨c, P⟩
    have := P.1
    have := hk c (by omega)
    have := P.2.2.1
    omega
  | succ d ih =>
    intro x e hk hd
    have k20 := tk_20 H (q + 1 + x)
    have ge : ∀ c, gr_P (tk_K ytk n) ytv q c → x ≤ c := fun c P => by
      rcases Nat.lt_or_ge c x with z | z
      · have := hk c z; have := P.2.2.1; omega
      · exact z
    refine pk_lt (q + 5) (q + 1 + x) (fun z => by omega) (fun _ => yt_t (i := q + 1 + x) H (by omega) (pk_eq (tk_K ytk n (q + 1 + x)) 2 (fun k2 => ?_) (fun k2 => yt_t (i := q + 1 + x) H (by omega) (pk_eq (tk_K ytk n (q + 1 + x)) 4 (fun k4 => nm_r (nI_1 q) ⟨x + 1, ?_⟩) (fun k4 => h0 ?_))))) (ni_5 q)
    · rw [nI_1]
      have := h1 x ⟨by omega, hk, k2, hd⟩
      rw [show q + 2 + x = q + 1 + x + 1 from by omega] at this
      exact this
    · have hx : q + 1 + x < n := tk_lt (tk := ytk) (by omega)
      refine yq_in H hx (fun w => ih (x + 1) (by omega) (fun j hj => ?_) (fun j j' a b => ?_)) (fun w => h0 ?_) x 0 (by omega) (fun j hj => by omega)
      · by_cases z : j = x
        · subst z; exact k4
        · exact hk j (by omega)
      · by_cases z : j' = x
        · subst z; exact w j a
        · exact hd j j' a (by omega)
      · rintro ⟨c, P⟩
        obtain ⟨j, hj, ev⟩ := w
        have := ge c P
        have hc : x < c := by
          rcases Nat.lt_or_ge x c with y | y
          · exact y
          · have : c = x := by omega
            subst this; exact absurd P.2.2.1 k2
        exact P.2.2.2 j x hj hc ev
    · rintro ⟨c, P⟩
      have := ge c P
      have hc : x < c := by
        rcases Nat.lt_or_ge x c with y | y
        · exact y
        · have : c = x := by omega
          subst this; exact absurd P.2.2.1 k2
      exact k4 (P.2.1 x hc)
theorem yq_params (H : tk_ok ytk n) {q : Nat} (hq : q < 2 ^ 20) {post : Int32 → Prop} (h1 : ∀ c, tk_K ytk n q = 1 → gr_P (tk_K ytk n) ytv q c → post (nI (q + 2 + c))) (h0 : (¬ (tk_K ytk n q = 1 ∧ ∃ c, gr_P (tk_K ytk n) ytv q c)) → post (-1)) : wpY_params post (yli, nI n, ypr, ygs, ypo, yhp, yfs, yvp, yfu, ysp, ymd, yac, yst, yrt, ycu, yhv, ytk, ytv, yus, ygk, yga, ygb, yck, yca, ycb, ycc, yfp, yfe, yfS, yfn, yfb, yvs, yds, ynk, yna, ynb, ync) (nI q) := by
  have k20 := tk_20 H q
  unfold wpY_params
  dsimp only
  refine yt_t (i := q) H (by omega) (pk_eq (tk_K ytk n q) 1 (fun k => nm_r (nI_1 q) ⟨6, ?_⟩) (fun k => h0 (fun w => k w.1)))
  exact yq_loop H hq (fun c P => h1 c k P) (fun w => h0 (fun z => w z.2)) 5 0 (by omega) (fun j hj => by omega) (fun j j' _ hj => by omega)
end
end
section
/-! the reference's stack of goals -/
def ys_R (gk ga gb : Nat → Int32) : List (Nat × Nat × Nat) → Prop
  | [] => True
  | (g, x, st) :: S => gk S.length = nI g ∧ ga S.length = nI x ∧ gb S.length = nI st ∧ (1 ≤ g ∧ g ≤ 8 ∧ x ≤ 5 ∧ st ≤ 100) ∧ ys_R gk ga gb S
theorem ys_k {gk ga gb gk' ga' gb' : Nat → Int32} : ∀ {S : List (Nat × Nat × Nat)}, (∀ i, i < S.length → gk' i = gk i ∧ ga' i = ga i ∧ gb' i = gb i) → ys_R gk ga gb S → ys_R gk' ga' gb' S
  | [], _, _ => trivial
  | (g, x, st) :: S, h, r => by
    have q := h S.length (by simp)
    exact ⟨q.1.trans r.1, q.2.1.trans r.2.1, q.2.2.trans r.2.2.1, r.2.2.2.1, ys_k (fun i hi => h i (by simp; omega)) r.2.2.2.2⟩
theorem pm_D {K : Nat → Nat} {V : Nat → Int32} {a : Nat → Nat} {p g x st p' p2 : Nat} {new new2 : List (Nat × Nat × Nat)} (t : pm_T K V a p g x st p' new) (t' : pm_T K V a p g x st p2 new2) : p2 = p' ∧ new2 = new := by
  have lam : ∀ c c', gr_P K V (p + 2) c → gr_P K V (p + 2) c' → c' = c := fun c c' P P' => by
    rcases Nat.lt_trichotomy c c' with z | z | z
    · have := P'.2.1 c z; have := P.2.2.1; omega
    · exact z.symm
    · have := P.2.1 c' z; have := P'.2.2.1; omega
  unfold pm_T at t t'
  rcases t with ⟨g1, k, e1, e2⟩ | ⟨g1, k, e1, e2⟩ | ⟨g1, k, e1, e2⟩ | ⟨g1, k, e1, e2⟩ | ⟨g1, k, e1, e2⟩ | ⟨g1, k, e1, e2⟩ | ⟨g1, k, k2, e1, e2⟩ | ⟨g1, k, k2, e1, e2⟩ | ⟨g1, k, k2, k3, k4, e1, e2⟩ | ⟨g1, k, k2, k3, c, P, e1, e2⟩ | ⟨g1, k, e1, e2⟩ | ⟨g1, k, k2, k3, e1, e2⟩ | ⟨g1, k, k2, e1, e2⟩ | ⟨g1, k, k2, e1, e2⟩ | ⟨g1, k, k2, e1, e2⟩ <;>
  rcases t' with ⟨f1, l, d1, d2⟩ | ⟨f1, l, d1, d2⟩ | ⟨f1, l, d1, d2⟩ | ⟨f1, l, d1, d2⟩ | ⟨f1, l, d1, d2⟩ | ⟨f1, l, d1, d2⟩ | ⟨f1, l, l2, d1, d2⟩ | ⟨f1, l, l2, d1, d2⟩ | ⟨f1, l, l2, l3, l4, d1, d2⟩ | ⟨f1, l, l2, l3, c', P', d1, d2⟩ | ⟨f1, l, d1, d2⟩ | ⟨f1, l, l2, l3, d1, d2⟩ | ⟨f1, l, l2, d1, d2⟩ | ⟨f1, l, l2, d1, d2⟩ | ⟨f1, l, l2, d1, d2⟩ <;>
  first
  | (exfalso; omega)
  | exact ⟨d1.trans e1.symm, d2.trans e2.symm⟩
  | (have := lam c c' P P'; subst this; exact ⟨d1.trans e1.symm, d2.trans e2.symm⟩)
theorem pm_F2 {K : Nat → Nat} {V : Nat → Int32} {n : Nat} {E D N : Nat → Prop} (hE : ∀ p, E p → gr_EC K V (sk_f K n) E D p) (hN : ∀ p, E p → ∀ c, gr_N K (sk_f K n) p c → N c) (hD : ∀ p, D p → gr_DC K (sk_f K n) D p) (hEI : ∀ c, E c → dp_I K c (sk_f K n c)) (hDI : ∀ c, D c → dp_I K c (sk_f K n c))
    {g x st : Nat} {S : List (Nat × Nat × Nat)} {p p' : Nat} {new : List (Nat × Nat × Nat)} (h : pm_C K V (sk_f K n) n E D N ((g, x, st) :: S) p) (t : pm_T K V (sk_f K n) p g x st p' new) : pm_C K V (sk_f K n) n E D N (new ++ S) p' := by
  obtain ⟨_, p2, new2, t2, c2⟩ := pm_F hE hN hD hEI hDI h
  obtain ⟨e1, e2⟩ := pm_D t t2
  rw [← e1, ← e2]; exact c2
def yu_S (K : Nat → Nat) (p g : Nat) (us us' : Nat → Int32) : Prop := (g = 1 ∧ (K p = 3 ∨ K p = 4 ∨ K p = 5) → us' p = (if K p = 4 then 1 else 0) ∧ ∀ q, q ≠ p → us' q = us q) ∧ (¬ (g = 1 ∧ (K p = 3 ∨ K p = 4 ∨ K p = 5)) → us' = us)
section
variable {yli yn ypr ygs ypo yhp yfs yvp yfu ysp ymd yac yst yrt ycu yhv : Int32} {ytk ytv yus ygk yga ygb yck yca ycb ycc yfp yfe yfS yfn yfb yvs yds : Nat → Int32} {ynk yna ynb ync : Nat} {n : Nat}
theorem yg_goal {S : List (Nat × Nat × Nat)} (g x st : Nat) (hS : S.length < 256) (R : ys_R ygk yga ygb S) (hb : 1 ≤ g ∧ g ≤ 8 ∧ x ≤ 5 ∧ st ≤ 100) {post : SY → Prop}
    (hp : ∀ gk' ga' gb', ys_R gk' ga' gb' ((g, x, st) :: S) → post (yli, yn, ypr, nI (S.length + 1), ypo, yhp, yfs, yvp, yfu, ysp, ymd, yac, yst, yrt, ycu, yhv, ytk, ytv, yus, gk', ga', gb', yck, yca, ycb, ycc, yfp, yfe, yfS, yfn, yfb, yvs, yds, ynk, yna, ynb, ync)) : wpY_goal post (yli, yn, ypr, nI S.length, ypo, yhp, yfs, yvp, yfu, ysp, ymd, yac, yst, yrt, ycu, yhv, ytk, ytv, yus, ygk, yga, ygb, yck, yca, ycb, ycc, yfp, yfe, yfS, yfn, yfb, yvs, yds, ynk, yna, ynb, ync) (nI g) (nI x) (nI st) := by
  have hi : vp_in (nI S.length) 256 := vp_in_nI hS (by omega)
  have hc : (nI S.length).toNatClampNeg = S.length := nI_clamp (by omega)
  refine pk_le 256 S.length (fun z => by omega) (fun _ => ⟨hi, fun gk' e1 => ⟨hi, fun ga' e2 => ⟨hi, fun gb' e3 => nm_r (nI_1 _) (hp gk' ga' gb' ⟨?_, ?_, ?_, hb, ys_k (fun i hi => ⟨?_, ?_, ?_⟩) R⟩)⟩⟩⟩)
  · rw [e1, hc]; exact pk_us
  · rw [e2, hc]; exact pk_us
  · rw [e3, hc]; exact pk_us
  · rw [e1, hc]; exact pk_un (by omega)
  · rw [e2, hc]; exact pk_un (by omega)
  · rw [e3, hc]; exact pk_un (by omega)
theorem yl_lam (H : tk_ok ytk n) {S : List (Nat × Nat × Nat)} {p : Nat} (hp : p < n) (R : ys_R ygk yga ygb S) (hS : S.length + 2 ≤ 256) {post : Int32 → SY → Prop}
    (h1 : ∀ c gk' ga' gb', tk_K ytk n (p + 2) = 1 → gr_P (tk_K ytk n) ytv (p + 2) c → ys_R gk' ga' gb' ((1, 0, 0) :: (4, 0, 0) :: S) → post 1 (yli, nI n, ypr, nI (S.length + 2), nI (p + 4 + c), yhp, yfs, yvp, yfu, ysp, ymd, yac, yst, yrt, ycu, yhv, ytk, ytv, yus, gk', ga', gb', yck, yca, ycb, ycc, yfp, yfe, yfS, yfn, yfb, yvs, yds, ynk, yna, ynb, ync))
    (h0 : ¬ (tk_K ytk n (p + 2) = 1 ∧ ∃ c, gr_P (tk_K ytk n) ytv (p + 2) c) → post 0 (yli, nI n, ypr, nI S.length, nI p, yhp, yfs, yvp, yfu, ysp, ymd, yac, yst, yrt, ycu, yhv, ytk, ytv, yus, ygk, yga, ygb, yck, yca, ycb, ycc, yfp, yfe, yfS, yfn, yfb, yvs, yds, ynk, yna, ynb, ync)) : wpY_lambda post (yli, nI n, ypr, nI S.length, nI p, yhp, yfs, yvp, yfu, ysp, ymd, yac, yst, yrt, ycu, yhv, ytk, ytv, yus, ygk, yga, ygb, yck, yca, ycb, ycc, yfp, yfe, yfS, yfn, yfb, yvs, yds, ynk, yna, ynb, ync) := by
  have H1 := H.1
  unfold wpY_lambda
  dsimp only
  rw [ni_2 p]
  refine yq_params (q := p + 2) H (by omega) (fun c k P => ?_) (fun w => br_f (by decide) (h0 w))
  have := P.1
  refine br_t (nI_pos' (by omega)) ?_
  refine yg_goal (S := S) 4 0 0 (by omega) R (by omega) (fun gk1 ga1 gb1 R1 => ?_)
  refine yg_goal (S := (4, 0, 0) :: S) 1 0 0 (by simp; omega) R1 (by omega) (fun gk2 ga2 gb2 R2 => ?_)
  have := h1 c gk2 ga2 gb2 k P R2
  rw [show p + 4 + c = p + 2 + 2 + c from by omega] at this
  exact this
theorem ye_rep {d : Nat} {S : List (Nat × Nat × Nat)} : List.replicate d ((1, 0, 0) : Nat × Nat × Nat) ++ (1, 0, 0) :: S = List.replicate (d + 1) (1, 0, 0) ++ S := by
  rw [List.replicate_succ', List.append_assoc]; rfl
theorem ye_255 {S0 : List (Nat × Nat × Nat)} {m : Nat} (hm : m ≤ 3) {post : Int32 → SY → Prop} (hp : ∀ gk' ga' gb', ys_R gk' ga' gb' (List.replicate m (1, 0, 0) ++ S0) → post 1 (yli, yn, ypr, nI (m + S0.length), ypo, yhp, yfs, yvp, yfu, ysp, ymd, yac, yst, yrt, ycu, yhv, ytk, ytv, yus, gk', ga', gb', yck, yca, ycb, ycc, yfp, yfe, yfS, yfn, yfb, yvs, yds, ynk, yna, ynb, ync)) (h0 : S0.length + 4 ≤ 256) :
    ∀ d j (gk ga gb : Nat → Int32), j + d = m → ys_R gk ga gb (List.replicate j (1, 0, 0) ++ S0) → wY_expr_255 post (nI m) (d + 1) (nI j) yli yn ypr (nI (j + S0.length)) ypo yhp yfs yvp yfu ysp ymd yac yst yrt ycu yhv ytk ytv yus gk ga gb yck yca ycb ycc yfp yfe yfS yfn yfb yvs yds ynk yna ynb ync := by
  intro d
  induction d with
  | zero =>
    intro j gk ga gb e R
    have ej : j = m := by omega
    subst ej
    exact pk_le j j (fun _ => hp gk ga gb R) (fun z => by omega)
  | succ d ih =>
    intro j gk ga gb e R
    refine pk_le m j (fun z => by omega) (fun _ => ?_)
    have el : (List.replicate j ((1, 0, 0) : Nat × Nat × Nat) ++ S0).length = j + S0.length := by simp
    have key : wpY_goal (fun u => match u with | (yli, yn, ypr, ygs, ypo, yhp, yfs, yvp, yfu, ysp, ymd, yac, yst, yrt, ycu, yhv, ytk, ytv, yus, ygk, yga, ygb, yck, yca, ycb, ycc, yfp, yfe, yfS, yfn, yfb, yvs, yds, ynk, yna, ynb, ync) => (∀ x4_327 : Int32, x4_327 = nI j + 1 → (wY_expr_255 post (nI m) (d + 1) x4_327 yli yn ypr ygs ypo yhp yfs yvp yfu ysp ymd yac yst yrt ycu yhv ytk ytv yus ygk yga ygb yck yca ycb ycc yfp yfe yfS yfn yfb yvs yds ynk yna ynb ync))) (yli, yn, ypr, nI (List.replicate j ((1, 0, 0) : Nat × Nat × Nat) ++ S0).length, ypo, yhp, yfs, yvp, yfu, ysp, ymd, yac, yst, yrt, ycu, yhv, ytk, ytv, yus, gk, ga, gb, yck, yca, ycb, ycc, yfp, yfe, yfS, yfn, yfb, yvs, yds, ynk, yna, ynb, ync) (nI 1) (nI 0) (nI 0) := by
      refine yg_goal (ygk := gk) (yga := ga) (ygb := gb) (S := List.replicate j (1, 0, 0) ++ S0) 1 0 0 (by rw [el]; omega) R (by omega) (fun gk1 ga1 gb1 R1 => nm_r (nI_1 j) ?_)
      rw [el, show j + S0.length + 1 = j + 1 + S0.length from by omega]
      refine ih (j + 1) gk1 ga1 gb1 (by omega) ?_
      rw [List.replicate_succ]
      exact R1
    rw [el] at key
    exact key
theorem yb_nar0 : vp_nar .boolean 0 = 0 := rfl
theorem yb_nar1 : vp_nar .boolean 1 = 1 := rfl
end
end
section
section
variable {yli yn ypr ygs ypo yhp yfs yvp yfu ysp ymd yac yst yrt ycu yhv : Int32} {ytk ytv yus ygk yga ygb yck yca ycb ycc yfp yfe yfS yfn yfb yvs yds : Nat → Int32} {ynk yna ynb ync : Nat} {n : Nat}
theorem ye_33 (H : tk_ok ytk n) {S : List (Nat × Nat × Nat)} {p x st : Nat} (hp : p < n) (R : ys_R ygk yga ygb S) {post : Int32 → SY → Prop}
    (h1 : ∀ p' new us' gk' ga' gb', pm_T (tk_K ytk n) ytv (sk_f (tk_K ytk n) n) p 1 x st p' new → ys_R gk' ga' gb' (new ++ S) → yu_S (tk_K ytk n) p 1 yus us' → post 1 (yli, nI n, ypr, nI (new ++ S).length, nI p', yhp, yfs, yvp, yfu, ysp, ymd, yac, yst, yrt, ycu, yhv, ytk, ytv, us', gk', ga', gb', yck, yca, ycb, ycc, yfp, yfe, yfS, yfn, yfb, yvs, yds, ynk, yna, ynb, ync))
    (k : tk_K ytk n p = 3 ∨ tk_K ytk n p = 4 ∨ tk_K ytk n p = 5) : wY_expr_15 post (nI (tk_K ytk n p)) yli (nI n) ypr (nI S.length) (nI p) yhp yfs yvp yfu ysp ymd yac yst yrt ycu yhv ytk ytv yus ygk yga ygb yck yca ycb ycc yfp yfe yfS yfn yfb yvs yds ynk yna ynb ync := by
  have H1 := H.1
  have hc : (nI p).toNatClampNeg = p := nI_clamp (by omega)
  have T : pm_T (tk_K ytk n) ytv (sk_f (tk_K ytk n) n) p 1 x st (p + 1) [] := Or.inr (Or.inr (Or.inr (Or.inr (Or.inr (Or.inr (Or.inr (Or.inr (Or.inr (Or.inr (Or.inl ⟨rfl, k, rfl, rfl⟩))))))))))
  refine pk_eq (tk_K ytk n p) 4 (fun k4 => ⟨tk_in H hp, fun us' eu => nm_r (nI_1 p) (h1 (p + 1) [] us' _ _ _ T R ⟨fun _ => ⟨?_, fun q hq => ?_⟩, fun z => absurd ⟨rfl, k⟩ z⟩)⟩) (fun k4 => ⟨tk_in H hp, fun us' eu => nm_r (nI_1 p) (h1 (p + 1) [] us' _ _ _ T R ⟨fun _ => ⟨?_, fun q hq => ?_⟩, fun z => absurd ⟨rfl, k⟩ z⟩)⟩)
  · rw [eu, hc, pk_us, if_pos k4]; exact yb_nar1
  · rw [eu, hc, pk_un hq]
  · rw [eu, hc, pk_us, if_neg k4]; exact yb_nar0
  · rw [eu, hc, pk_un hq]
theorem ye_expr (H : tk_ok ytk n) {S : List (Nat × Nat × Nat)} {p x st : Nat} (hp : p < n) (R : ys_R ygk yga ygb S) (hS : S.length + 5 ≤ 256) {post : Int32 → SY → Prop}
    (h1 : ∀ p' new us' gk' ga' gb', pm_T (tk_K ytk n) ytv (sk_f (tk_K ytk n) n) p 1 x st p' new → ys_R gk' ga' gb' (new ++ S) → yu_S (tk_K ytk n) p 1 yus us' → post 1 (yli, nI n, ypr, nI (new ++ S).length, nI p', yhp, yfs, yvp, yfu, ysp, ymd, yac, yst, yrt, ycu, yhv, ytk, ytv, us', gk', ga', gb', yck, yca, ycb, ycc, yfp, yfe, yfS, yfn, yfb, yvs, yds, ynk, yna, ynb, ync))
    (h0 : (¬ ∃ p' new, pm_T (tk_K ytk n) ytv (sk_f (tk_K ytk n) n) p 1 x st p' new) → ∀ gs' po' gk' ga' gb', post 0 (yli, nI n, ypr, gs', po', yhp, yfs, yvp, yfu, ysp, ymd, yac, yst, yrt, ycu, yhv, ytk, ytv, yus, gk', ga', gb', yck, yca, ycb, ycc, yfp, yfe, yfS, yfn, yfb, yvs, yds, ynk, yna, ynb, ync)) : wpY_expr post (yli, nI n, ypr, nI S.length, nI p, yhp, yfs, yvp, yfu, ysp, ymd, yac, yst, yrt, ycu, yhv, ytk, ytv, yus, ygk, yga, ygb, yck, yca, ycb, ycc, yfp, yfe, yfS, yfn, yfb, yvs, yds, ynk, yna, ynb, ync) (nI (tk_K ytk n p)) := by
  have H1 := H.1
  have k20 := tk_20 H p
  have k21 := tk_20 H (p + 1)
  have keep : tk_K ytk n p = 1 → yu_S (tk_K ytk n) p 1 yus yus := fun k => ⟨fun z => by omega, fun _ => rfl⟩
  unfold wpY_expr
  dsimp only
  refine pk_eq (tk_K ytk n p) 3 (fun k => ye_33 H hp R h1 (by omega)) (fun k3 => pk_eq (tk_K ytk n p) 5 (fun k => ye_33 H hp R h1 (by omega)) (fun k5 => pk_eq (tk_K ytk n p) 4 (fun k => ye_33 H hp R h1 (by omega)) (fun k4 => pk_eq (tk_K ytk n p) 1 (fun k1 => ?_) (fun k1 => h0 ?_ _ _ _ _ _))))
  · rw [nI_1 p]
    refine yt_t (i := p + 1) H (by omega) (pk_eq (tk_K ytk n (p + 1)) 7 (fun k7 => ?_) (fun k7 => ?_))
    · refine yl_lam H hp R (by omega) (fun c gk' ga' gb' k P R' => ⟨rfl, ?_⟩) (fun w => ⟨rfl, h0 ?_ _ _ _ _ _⟩)
      · exact h1 (p + 4 + c) [(1, 0, 0), (4, 0, 0)] yus gk' ga' gb' (Or.inr (Or.inr (Or.inr (Or.inr (Or.inr (Or.inr (Or.inr (Or.inr (Or.inr (Or.inl ⟨Or.inr rfl, k1, k7, k, c, P, rfl, rfl⟩)))))))))) R' (keep k1)
      · rintro ⟨p', new, t⟩
        rcases t with ⟨g1, _⟩ | ⟨g1, _⟩ | ⟨g1, _⟩ | ⟨g1, _⟩ | ⟨g1, _⟩ | ⟨g1, _⟩ | ⟨g1, _⟩ | ⟨g1, _⟩ | ⟨g1, _⟩ | ⟨g1, k, k2, k3, c, P, e1, e2⟩ | ⟨g1, k, _⟩ | ⟨g1, k, k2, _⟩ | ⟨g1, k, k2, _⟩ | ⟨g1, k, k2, _⟩ | ⟨g1, k, k2, _⟩
        all_goals first | omega | skip
        exact w ⟨k3, c, P⟩
    · refine yg_goal (S := S) 4 0 0 (by omega) R (by omega) (fun gk1 ga1 gb1 R1 => ?_)
      have f94 : (tk_K ytk n (p + 1) = 8 ∨ tk_K ytk n (p + 1) = 9) → wY_expr_94 post (nI (tk_K ytk n (p + 1))) yli (nI n) ypr (nI (S.length + 1)) (nI p) yhp yfs yvp yfu ysp ymd yac yst yrt ycu yhv ytk ytv yus gk1 ga1 gb1 yck yca ycb ycc yfp yfe yfS yfn yfb yvs yds ynk yna ynb ync := by
        intro k8
        have f114 : ∀ gk2 ga2 gb2, ys_R gk2 ga2 gb2 ((1, 0, 0) :: (4, 0, 0) :: S) → wY_expr_114 post (nI (tk_K ytk n (p + 1) - 3)) yli (nI n) ypr (nI (S.length + 2)) (nI p) yhp yfs yvp yfu ysp ymd yac yst yrt ycu yhv ytk ytv yus gk2 ga2 gb2 yck yca ycb ycc yfp yfe yfS yfn yfb yvs yds ynk yna ynb ync := by
          intro gk2 ga2 gb2 R2
          have : wpY_goal (fun u => match u with | (yli, yn, ypr, ygs, ypo, yhp, yfs, yvp, yfu, ysp, ymd, yac, yst, yrt, ycu, yhv, ytk, ytv, yus, ygk, yga, ygb, yck, yca, ycb, ycc, yfp, yfe, yfS, yfn, yfb, yvs, yds, ynk, yna, ynb, ync) => (∀ f_pos_164 : Int32, f_pos_164 = ypo + 3 → (wpY_t (fun r_165 => (((r_165 = 1 → (post 1 (yli, yn, ypr, ygs, f_pos_164, yhp, yfs, yvp, yfu, ysp, ymd, yac, yst, yrt, ycu, yhv, ytk, ytv, yus, ygk, yga, ygb, yck, yca, ycb, ycc, yfp, yfe, yfS, yfn, yfb, yvs, yds, ynk, yna, ynb, ync))) ∧ (¬ r_165 = 1 → (post 0 (yli, yn, ypr, ygs, f_pos_164, yhp, yfs, yvp, yfu, ysp, ymd, yac, yst, yrt, ycu, yhv, ytk, ytv, yus, ygk, yga, ygb, yck, yca, ycb, ycc, yfp, yfe, yfS, yfn, yfb, yvs, yds, ynk, yna, ynb, ync)))))) (yli, yn, ypr, ygs, f_pos_164, yhp, yfs, yvp, yfu, ysp, ymd, yac, yst, yrt, ycu, yhv, ytk, ytv, yus, ygk, yga, ygb, yck, yca, ycb, ycc, yfp, yfe, yfS, yfn, yfb, yvs, yds, ynk, yna, ynb, ync) (f_pos_164 - 1)))) (yli, nI n, ypr, nI (S.length + 2), nI p, yhp, yfs, yvp, yfu, ysp, ymd, yac, yst, yrt, ycu, yhv, ytk, ytv, yus, gk2, ga2, gb2, yck, yca, ycb, ycc, yfp, yfe, yfS, yfn, yfb, yvs, yds, ynk, yna, ynb, ync) (nI (tk_K ytk n (p + 1) - 3)) (nI 0) (nI (p + 2)) := by
            refine yg_goal (ygk := gk2) (yga := ga2) (ygb := gb2) (S := (1, 0, 0) :: (4, 0, 0) :: S) (tk_K ytk n (p + 1) - 3) 0 (p + 2) (by simp; omega) R2 (by omega) (fun gk3 ga3 gb3 R3 => nm_r (ni_3 p) ?_)
            rw [ni_m (a := p + 3) (by omega), show p + 3 - 1 = p + 2 from by omega]
            have k22 := tk_20 H (p + 2)
            refine yt_t (i := p + 2) H (by omega) (pk_eq (tk_K ytk n (p + 2)) 1 (fun k2 => ?_) (fun k2 => h0 ?_ _ _ _ _ _))
            · exact h1 (p + 3) [(tk_K ytk n (p + 1) - 3, 0, p + 2), (1, 0, 0), (4, 0, 0)] yus gk3 ga3 gb3 (Or.inr (Or.inr (Or.inr (Or.inr (Or.inr (Or.inr (Or.inr (Or.inr (Or.inr (Or.inr (Or.inr (Or.inl ⟨rfl, k1, k8, k2, rfl, rfl⟩)))))))))))) R3 (keep k1)
            · rintro ⟨p', new, t⟩
              rcases t with ⟨g1, _⟩ | ⟨g1, _⟩ | ⟨g1, _⟩ | ⟨g1, _⟩ | ⟨g1, _⟩ | ⟨g1, _⟩ | ⟨g1, _⟩ | ⟨g1, _⟩ | ⟨g1, _⟩ | ⟨g1, k, k3, _⟩ | ⟨g1, k, _⟩ | ⟨g1, k, k3, k4, _⟩ | ⟨g1, k, k3, _⟩ | ⟨g1, k, k3, _⟩ | ⟨g1, k, k3, _⟩ <;> omega
          rw [← ni_2 p] at this
          exact this
        refine yg_goal (ygk := gk1) (yga := ga1) (ygb := gb1) (S := (4, 0, 0) :: S) 1 0 0 (by simp; omega) R1 (by omega) (fun gk2 ga2 gb2 R2 => ?_)
        refine pk_eq (tk_K ytk n (p + 1)) 8 (fun z => ?_) (fun z => ?_)
        · have := f114 gk2 ga2 gb2 R2
          rw [z] at this; exact this
        · have := f114 gk2 ga2 gb2 R2
          rw [show tk_K ytk n (p + 1) = 9 from by omega] at this; exact this
      refine pk_eq (tk_K ytk n (p + 1)) 8 (fun k8 => f94 (Or.inl k8)) (fun k8 => pk_eq (tk_K ytk n (p + 1)) 9 (fun k9 => f94 (Or.inr k9)) (fun k9 => pk_lt (tk_K ytk n (p + 1)) 6 (fun k6 => nm_r (nI_1 p) ?_) (fun k6 => pk_le (tk_K ytk n (p + 1)) 20 (fun _ => nm_r (ni_2 p) ?_) (fun z => by omega))))
      · refine yg_goal (ygk := gk1) (yga := ga1) (ygb := gb1) (S := (4, 0, 0) :: S) 8 0 0 (by simp; omega) R1 (by omega) (fun gk2 ga2 gb2 R2 => ?_)
        refine yg_goal (ygk := gk2) (yga := ga2) (ygb := gb2) (S := (8, 0, 0) :: (4, 0, 0) :: S) 1 0 0 (by simp; omega) R2 (by omega) (fun gk3 ga3 gb3 R3 => ?_)
        exact h1 (p + 1) [(1, 0, 0), (8, 0, 0), (4, 0, 0)] yus gk3 ga3 gb3 (Or.inr (Or.inr (Or.inr (Or.inr (Or.inr (Or.inr (Or.inr (Or.inr (Or.inr (Or.inr (Or.inr (Or.inr (Or.inl ⟨rfl, k1, k6, rfl, rfl⟩))))))))))))) R3 (keep k1)
      · have ops : ∀ m, gr_n (tk_K ytk n (p + 1)) = m → 10 ≤ tk_K ytk n (p + 1) → ∃ n255 : Nat, wY_expr_255 post (nI m) n255 0 yli (nI n) ypr (nI (S.length + 1)) (nI (p + 2)) yhp yfs yvp yfu ysp ymd yac yst yrt ycu yhv ytk ytv yus gk1 ga1 gb1 yck yca ycb ycc yfp yfe yfS yfn yfb yvs yds ynk yna ynb ync := by
          intro m em k10
          have g13 := gr_n13 (tk_K ytk n (p + 1))
          refine ⟨m + 1, ?_⟩
          have : wY_expr_255 post (nI m) (m + 1) (nI 0) yli (nI n) ypr (nI (0 + ((4, 0, 0) :: S : List (Nat × Nat × Nat)).length)) (nI (p + 2)) yhp yfs yvp yfu ysp ymd yac yst yrt ycu yhv ytk ytv yus gk1 ga1 gb1 yck yca ycb ycc yfp yfe yfS yfn yfb yvs yds ynk yna ynb ync := by
            refine ye_255 (S0 := (4, 0, 0) :: S) (m := m) (by omega) (fun gk2 ga2 gb2 R2 => ?_) (by simp; omega) m 0 gk1 ga1 gb1 (by omega) (by rw [List.replicate_zero]; exact R1)
            have q := h1 (p + 2) (List.replicate m (1, 0, 0) ++ [(4, 0, 0)]) yus gk2 ga2 gb2 (Or.inr (Or.inr (Or.inr (Or.inr (Or.inr (Or.inr (Or.inr (Or.inr (Or.inr (Or.inr (Or.inr (Or.inr (Or.inr (Or.inr ⟨rfl, k1, k10, rfl, by rw [em]⟩)))))))))))))) (by rw [List.append_assoc]; exact R2) (keep k1)
            have el : ((List.replicate m ((1, 0, 0) : Nat × Nat × Nat) ++ [((4, 0, 0) : Nat × Nat × Nat)]) ++ S).length = m + (((4, 0, 0) : Nat × Nat × Nat) :: S).length := by simp
            rw [el] at q
            exact q
          rw [show 0 + ((4, 0, 0) :: S : List (Nat × Nat × Nat)).length = S.length + 1 from by simp] at this
          exact this
        refine pk_eq (tk_K ytk n (p + 1)) 6 (fun z => ?_) (fun z6 => pk_eq (tk_K ytk n (p + 1)) 10 (fun z => ops 3 (by rw [z]; rfl) (by omega)) (fun z10 => pk_eq (tk_K ytk n (p + 1)) 12 (fun z => ops 1 (by rw [z]; rfl) (by omega)) (fun z12 => pk_eq (tk_K ytk n (p + 1)) 13 (fun z => ops 1 (by rw [z]; rfl) (by omega)) (fun z13 => pk_eq (tk_K ytk n (p + 1)) 14 (fun z => ops 1 (by rw [z]; rfl) (by omega)) (fun z14 => ops 2 (by unfold gr_n; rw [if_neg z10, if_neg (by omega)]) (by omega))))))
        refine yg_goal (ygk := gk1) (yga := ga1) (ygb := gb1) (S := (4, 0, 0) :: S) 2 0 0 (by simp; omega) R1 (by omega) (fun gk2 ga2 gb2 R2 => ?_)
        exact h1 (p + 2) [(2, 0, 0), (4, 0, 0)] yus gk2 ga2 gb2 (Or.inr (Or.inr (Or.inr (Or.inr (Or.inr (Or.inr (Or.inr (Or.inr (Or.inr (Or.inr (Or.inr (Or.inr (Or.inr (Or.inl ⟨rfl, k1, z, rfl, rfl⟩)))))))))))))) R2 (keep k1)
  · rintro ⟨p', new, t⟩
    rcases t with ⟨g1, _⟩ | ⟨g1, _⟩ | ⟨g1, _⟩ | ⟨g1, _⟩ | ⟨g1, _⟩ | ⟨g1, _⟩ | ⟨g1, _⟩ | ⟨g1, _⟩ | ⟨g1, _⟩ | ⟨g1, k, _⟩ | ⟨g1, k, _⟩ | ⟨g1, k, _⟩ | ⟨g1, k, _⟩ | ⟨g1, k, _⟩ | ⟨g1, k, _⟩ <;> omega
end
end
section
section
variable {yli yn ypr ygs ypo yhp yfs yvp yfu ysp ymd yac yst yrt ycu yhv : Int32} {ytk ytv yus ygk yga ygb yck yca ycb ycc yfp yfe yfS yfn yfb yvs yds : Nat → Int32} {ynk yna ynb ync : Nat} {n : Nat}
theorem yp_bind (H : tk_ok ytk n) {S : List (Nat × Nat × Nat)} {p g x st : Nat} (hp : p < n) (hg : g = 5 ∨ g = 6) (hb : 1 ≤ g ∧ g ≤ 8 ∧ x ≤ 5 ∧ st ≤ 100) (R : ys_R ygk yga ygb S) (hS : S.length + 8 ≤ 256) {post : Int32 → SY → Prop}
    (h1 : ∀ p' new gk' ga' gb', pm_T (tk_K ytk n) ytv (sk_f (tk_K ytk n) n) p g x st p' new → ys_R gk' ga' gb' (new ++ S) → post 1 (yli, nI n, ypr, nI (new ++ S).length, nI p', yhp, yfs, yvp, yfu, ysp, ymd, yac, yst, yrt, ycu, yhv, ytk, ytv, yus, gk', ga', gb', yck, yca, ycb, ycc, yfp, yfe, yfS, yfn, yfb, yvs, yds, ynk, yna, ynb, ync))
    (h0 : (¬ ∃ p' new, pm_T (tk_K ytk n) ytv (sk_f (tk_K ytk n) n) p g x st p' new) → ∀ gs' po' gk' ga' gb', post 0 (yli, nI n, ypr, gs', po', yhp, yfs, yvp, yfu, ysp, ymd, yac, yst, yrt, ycu, yhv, ytk, ytv, yus, gk', ga', gb', yck, yca, ycb, ycc, yfp, yfe, yfS, yfn, yfb, yvs, yds, ynk, yna, ynb, ync)) : wY_parseStep_221 post (nI g) (nI x) (nI st) (nI (tk_K ytk n p)) yli (nI n) ypr (nI S.length) (nI p) yhp yfs yvp yfu ysp ymd yac yst yrt ycu yhv ytk ytv yus ygk yga ygb yck yca ycb ycc yfp yfe yfS yfn yfb yvs yds ynk yna ynb ync := by
  have H1 := H.1
  have k20 := tk_20 H p
  have k21 := tk_20 H (p + 1)
  have f243 : (tk_K ytk n p = 2 → x = 0) → wY_parseStep_243 post (nI g) (nI x) (nI st) (nI (tk_K ytk n p)) yli (nI n) ypr (nI S.length) (nI p) yhp yfs yvp yfu ysp ymd yac yst yrt ycu yhv ytk ytv yus ygk yga ygb yck yca ycb ycc yfp yfe yfS yfn yfb yvs yds ynk yna ynb ync := by
    intro hz
    refine pk_eq (tk_K ytk n p) 1 (fun k1 => pk_le 4 x (fun x4 => h0 ?_ _ _ _ _ _) (fun x4 => ?_)) (fun k1 => h0 ?_ _ _ _ _ _)
    · rintro ⟨p', new, t⟩
      rcases t with ⟨g1, _⟩ | ⟨g1, _⟩ | ⟨g1, _⟩ | ⟨g1, _⟩ | ⟨g1, _⟩ | ⟨g1, _⟩ | ⟨g1, _⟩ | ⟨g1, k, _⟩ | ⟨g1, k, k2, _⟩ | ⟨g1, k, _⟩ | ⟨g1, k, _⟩ | ⟨g1, k, _⟩ | ⟨g1, k, _⟩ | ⟨g1, k, _⟩ | ⟨g1, k, _⟩ <;> omega
    · rw [nI_1 p]
      refine yt_t (i := p + 1) H (by omega) (pk_eq (tk_K ytk n (p + 1)) 4 (fun k4 => ?_) (fun k4 => h0 ?_ _ _ _ _ _))
      · have hp1 : p + 1 < n := tk_lt (tk := ytk) (by omega)
        refine yd_dup (st := st) (s := p + 1) H hp1 (by omega) (by omega) (fun d => br_f (by decide) (h0 ?_ _ _ _ _ _)) (fun d => br_t rfl (nm_r (ni_2 p) ?_))
        · rintro ⟨p', new, t⟩
          rcases t with ⟨g1, _⟩ | ⟨g1, _⟩ | ⟨g1, _⟩ | ⟨g1, _⟩ | ⟨g1, _⟩ | ⟨g1, _⟩ | ⟨g1, _⟩ | ⟨g1, k, _⟩ | ⟨g1, k, k2, k3, k4, _⟩ | ⟨g1, k, _⟩ | ⟨g1, k, _⟩ | ⟨g1, k, _⟩ | ⟨g1, k, _⟩ | ⟨g1, k, _⟩ | ⟨g1, k, _⟩
          all_goals first | omega | skip
          exact k4 d
        · rw [nI_1 x]
          refine yg_goal (S := S) g (x + 1) st (by omega) R (by omega) (fun gk1 ga1 gb1 R1 => ?_)
          refine yg_goal (ygk := gk1) (yga := ga1) (ygb := gb1) (S := (g, x + 1, st) :: S) 4 0 0 (by simp; omega) R1 (by omega) (fun gk2 ga2 gb2 R2 => ?_)
          have fin : ∀ gk3 ga3 gb3, ys_R gk3 ga3 gb3 ((if g = 5 then 1 else 7, 0, 0) :: (4, 0, 0) :: (g, x + 1, st) :: S) → post 1 (yli, nI n, ypr, nI (S.length + 3), nI (p + 2), yhp, yfs, yvp, yfu, ysp, ymd, yac, yst, yrt, ycu, yhv, ytk, ytv, yus, gk3, ga3, gb3, yck, yca, ycb, ycc, yfp, yfe, yfS, yfn, yfb, yvs, yds, ynk, yna, ynb, ync) := fun gk3 ga3 gb3 R3 =>
            h1 (p + 2) [(if g = 5 then 1 else 7, 0, 0), (4, 0, 0), (g, x + 1, st)] gk3 ga3 gb3 (Or.inr (Or.inr (Or.inr (Or.inr (Or.inr (Or.inr (Or.inr (Or.inr (Or.inl ⟨hg, k1, x4, k4, d, rfl, rfl⟩))))))))) R3
          refine pk_eq g 5 (fun g5 => ?_) (fun g5 => ?_)
          · refine yg_goal (ygk := gk2) (yga := ga2) (ygb := gb2) (S := (4, 0, 0) :: (g, x + 1, st) :: S) 1 0 0 (by simp; omega) R2 (by omega) (fun gk3 ga3 gb3 R3 => fin gk3 ga3 gb3 (by rw [if_pos g5]; exact R3))
          · refine yg_goal (ygk := gk2) (yga := ga2) (ygb := gb2) (S := (4, 0, 0) :: (g, x + 1, st) :: S) 7 0 0 (by simp; omega) R2 (by omega) (fun gk3 ga3 gb3 R3 => fin gk3 ga3 gb3 (by rw [if_neg g5]; exact R3))
      · rintro ⟨p', new, t⟩
        rcases t with ⟨g1, _⟩ | ⟨g1, _⟩ | ⟨g1, _⟩ | ⟨g1, _⟩ | ⟨g1, _⟩ | ⟨g1, _⟩ | ⟨g1, _⟩ | ⟨g1, k, _⟩ | ⟨g1, k, k2, k3, _⟩ | ⟨g1, k, _⟩ | ⟨g1, k, _⟩ | ⟨g1, k, _⟩ | ⟨g1, k, _⟩ | ⟨g1, k, _⟩ | ⟨g1, k, _⟩ <;> omega
    · rintro ⟨p', new, t⟩
      rcases t with ⟨g1, _⟩ | ⟨g1, _⟩ | ⟨g1, _⟩ | ⟨g1, _⟩ | ⟨g1, _⟩ | ⟨g1, _⟩ | ⟨g1, _⟩ | ⟨g1, k, k2, _⟩ | ⟨g1, k, k2, _⟩ | ⟨g1, k, _⟩ | ⟨g1, k, _⟩ | ⟨g1, k, _⟩ | ⟨g1, k, _⟩ | ⟨g1, k, _⟩ | ⟨g1, k, _⟩ <;> omega
  refine pk_eq (tk_K ytk n p) 2 (fun k2 => pk_le x 0 (fun x0 => f243 (fun _ => by omega)) (fun x0 => nm_r (nI_1 p) ?_)) (fun k2 => f243 (fun z => absurd z k2))
  exact h1 (p + 1) [] _ _ _ (Or.inr (Or.inr (Or.inr (Or.inr (Or.inr (Or.inr (Or.inr (Or.inl ⟨hg, k2, x0, rfl, rfl⟩)))))))) R
theorem yp_step (H : tk_ok ytk n) {S : List (Nat × Nat × Nat)} {p g x st : Nat} (hp : p < n) (R : ys_R ygk yga ygb ((g, x, st) :: S)) (hS : S.length + 8 ≤ 256) {post : Int32 → SY → Prop}
    (h1 : ∀ p' new us' gk' ga' gb', pm_T (tk_K ytk n) ytv (sk_f (tk_K ytk n) n) p g x st p' new → ys_R gk' ga' gb' (new ++ S) → yu_S (tk_K ytk n) p g yus us' → post 1 (yli, nI n, ypr, nI (new ++ S).length, nI p', yhp, yfs, yvp, yfu, ysp, ymd, yac, yst, yrt, ycu, yhv, ytk, ytv, us', gk', ga', gb', yck, yca, ycb, ycc, yfp, yfe, yfS, yfn, yfb, yvs, yds, ynk, yna, ynb, ync))
    (h0 : (¬ ∃ p' new, pm_T (tk_K ytk n) ytv (sk_f (tk_K ytk n) n) p g x st p' new) → ∀ gs' po' gk' ga' gb', post 0 (yli, nI n, ypr, gs', po', yhp, yfs, yvp, yfu, ysp, ymd, yac, yst, yrt, ycu, yhv, ytk, ytv, yus, gk', ga', gb', yck, yca, ycb, ycc, yfp, yfe, yfS, yfn, yfb, yvs, yds, ynk, yna, ynb, ync)) : wpY_parseStep post (yli, nI n, ypr, nI (S.length + 1), nI p, yhp, yfs, yvp, yfu, ysp, ymd, yac, yst, yrt, ycu, yhv, ytk, ytv, yus, ygk, yga, ygb, yck, yca, ycb, ycc, yfp, yfe, yfS, yfn, yfb, yvs, yds, ynk, yna, ynb, ync) := by
  have H1 := H.1
  have k20 := tk_20 H p
  have k21 := tk_20 H (p + 1)
  obtain ⟨r1, r2, r3, hb, R⟩ := R
  have hi : vp_in (nI S.length) 256 := vp_in_nI (by omega) (by omega)
  have hc : (nI S.length).toNatClampNeg = S.length := nI_clamp (by omega)
  have keep : g ≠ 1 → yu_S (tk_K ytk n) p g yus yus := fun k => ⟨fun z => absurd z.1 k, fun _ => rfl⟩
  have q1 : ygk (nI S.length).toNatClampNeg = nI g := by rw [hc]; exact r1
  have q2 : yga (nI S.length).toNatClampNeg = nI x := by rw [hc]; exact r2
  have q3 : ygb (nI S.length).toNatClampNeg = nI st := by rw [hc]; exact r3
  refine nm_r (nI_pred S.length) ⟨hi, nm_r q1 ⟨hi, nm_r q2 ⟨hi, nm_r q3 ?_⟩⟩⟩
  refine yt_t (i := p) H (by omega) ?_
  refine pk_eq g 4 (fun g4 => nm_r (nI_1 p) (pk_eq (tk_K ytk n p) 2 (fun k => ?_) (fun k => h0 ?_ _ _ _ _ _))) (fun g4 => pk_eq g 3 (fun g3 => pk_eq (tk_K ytk n p) 2 (fun k => nm_r (nI_1 p) ?_) (fun k => ?_)) (fun g3 => pk_eq g 2 (fun g2 => pk_eq (tk_K ytk n p) 1 (fun k => ?_) (fun k => ?_)) (fun g2 => pk_eq g 8 (fun g8 => pk_eq (tk_K ytk n p) 2 (fun k => ?_) (fun k => ?_)) (fun g8 => pk_eq g 5 (fun g5 => ?_) (fun g5 => pk_eq g 6 (fun g6 => ?_) (fun g6 => pk_eq g 7 (fun g7 => ?_) (fun g7 => ?_)))))))
  · exact h1 (p + 1) [] yus _ _ _ (Or.inl ⟨g4, k, rfl, rfl⟩) R (keep (by omega))
  · rintro ⟨p', new, t⟩
    rcases t with ⟨g1, k1, _⟩ | ⟨g1, _⟩ | ⟨g1, _⟩ | ⟨g1, _⟩ | ⟨g1, _⟩ | ⟨g1, _⟩ | ⟨g1, _⟩ | ⟨g1, _⟩ | ⟨g1, _⟩ | ⟨g1, _⟩ | ⟨g1, _⟩ | ⟨g1, _⟩ | ⟨g1, _⟩ | ⟨g1, _⟩ | ⟨g1, _⟩ <;> omega
  · exact h1 (p + 1) [] yus _ _ _ (Or.inr (Or.inl ⟨g3, k, rfl, rfl⟩)) R (keep (by omega))
  · refine yg_goal (S := S) 3 0 0 (by omega) R (by omega) (fun gk1 ga1 gb1 R1 => ?_)
    refine yg_goal (ygk := gk1) (yga := ga1) (ygb := gb1) (S := (3, 0, 0) :: S) 2 0 0 (by simp; omega) R1 (by omega) (fun gk2 ga2 gb2 R2 => ?_)
    exact h1 p [(2, 0, 0), (3, 0, 0)] yus gk2 ga2 gb2 (Or.inr (Or.inr (Or.inl ⟨g3, k, rfl, rfl⟩))) R2 (keep (by omega))
  · refine yg_goal (S := S) 3 0 0 (by omega) R (by omega) (fun gk1 ga1 gb1 R1 => nm_r (nI_1 p) (pk_eq (tk_K ytk n p) 3 (fun z => by omega) (fun _ => pk_eq (tk_K ytk n p) 5 (fun z => by omega) (fun _ => pk_eq (tk_K ytk n p) 1 (fun _ => ?_) (fun z => absurd k z)))))
    exact h1 (p + 1) [(3, 0, 0)] yus gk1 ga1 gb1 (Or.inr (Or.inr (Or.inr (Or.inl ⟨g2, k, rfl, rfl⟩)))) R1 (keep (by omega))
  · have ok : (tk_K ytk n p = 3 ∨ tk_K ytk n p = 5) → post 1 (yli, nI n, ypr, nI S.length, nI (p + 1), yhp, yfs, yvp, yfu, ysp, ymd, yac, yst, yrt, ycu, yhv, ytk, ytv, yus, ygk, yga, ygb, yck, yca, ycb, ycc, yfp, yfe, yfS, yfn, yfb, yvs, yds, ynk, yna, ynb, ync) := fun z => h1 (p + 1) [] yus _ _ _ (Or.inr (Or.inr (Or.inr (Or.inr (Or.inl ⟨g2, z, rfl, rfl⟩))))) R (keep (by omega))
    refine nm_r (nI_1 p) (pk_eq (tk_K ytk n p) 3 (fun z => ok (Or.inl z)) (fun k3 => pk_eq (tk_K ytk n p) 5 (fun z => ok (Or.inr z)) (fun k5 => pk_eq (tk_K ytk n p) 1 (fun z => absurd z k) (fun _ => h0 ?_ _ _ _ _ _))))
    rintro ⟨p', new, t⟩
    rcases t with ⟨g1, _⟩ | ⟨g1, _⟩ | ⟨g1, _⟩ | ⟨g1, k1, _⟩ | ⟨g1, k1, _⟩ | ⟨g1, _⟩ | ⟨g1, _⟩ | ⟨g1, _⟩ | ⟨g1, _⟩ | ⟨g1, _⟩ | ⟨g1, _⟩ | ⟨g1, _⟩ | ⟨g1, _⟩ | ⟨g1, _⟩ | ⟨g1, _⟩ <;> omega
  · exact h1 p [] yus _ _ _ (Or.inr (Or.inr (Or.inr (Or.inr (Or.inr (Or.inl ⟨g8, k, rfl, rfl⟩)))))) R (keep (by omega))
  · by_cases x4 : x < 4
    · rw [nI_1 x]
      refine yg_goal (S := S) 8 (x + 1) 0 (by omega) R (by omega) (fun gk1 ga1 gb1 R1 => ?_)
      refine yg_goal (ygk := gk1) (yga := ga1) (ygb := gb1) (S := (8, x + 1, 0) :: S) 1 0 0 (by simp; omega) R1 (by omega) (fun gk2 ga2 gb2 R2 => pk_le 4 x (fun z => by omega) (fun _ => ?_))
      exact h1 p [(1, 0, 0), (8, x + 1, 0)] yus gk2 ga2 gb2 (Or.inr (Or.inr (Or.inr (Or.inr (Or.inr (Or.inr (Or.inl ⟨g8, k, x4, rfl, rfl⟩))))))) R2 (keep (by omega))
    · have no : ∀ gs' po' gk' ga' gb', post 0 (yli, nI n, ypr, gs', po', yhp, yfs, yvp, yfu, ysp, ymd, yac, yst, yrt, ycu, yhv, ytk, ytv, yus, gk', ga', gb', yck, yca, ycb, ycc, yfp, yfe, yfS, yfn, yfb, yvs, yds, ynk, yna, ynb, ync) := h0 (by
        rintro ⟨p', new, t⟩
        rcases t with ⟨g1, _⟩ | ⟨g1, _⟩ | ⟨g1, _⟩ | ⟨g1, _⟩ | ⟨g1, _⟩ | ⟨g1, k1, _⟩ | ⟨g1, k1, k2, _⟩ | ⟨g1, _⟩ | ⟨g1, _⟩ | ⟨g1, _⟩ | ⟨g1, _⟩ | ⟨g1, _⟩ | ⟨g1, _⟩ | ⟨g1, _⟩ | ⟨g1, _⟩ <;> omega)
      have hgl : ∀ {post : SY → Prop} {gs' : Nat} {gk ga gb : Nat → Int32} (a b c : Int32), gs' < 250 → (∀ gk' ga' gb', post (yli, nI n, ypr, nI (gs' + 1), nI p, yhp, yfs, yvp, yfu, ysp, ymd, yac, yst, yrt, ycu, yhv, ytk, ytv, yus, gk', ga', gb', yck, yca, ycb, ycc, yfp, yfe, yfS, yfn, yfb, yvs, yds, ynk, yna, ynb, ync)) → wpY_goal post (yli, nI n, ypr, nI gs', nI p, yhp, yfs, yvp, yfu, ysp, ymd, yac, yst, yrt, ycu, yhv, ytk, ytv, yus, gk, ga, gb, yck, yca, ycb, ycc, yfp, yfe, yfS, yfn, yfb, yvs, yds, ynk, yna, ynb, ync) a b c := by
        intro post gs' gk ga gb a b c hl hh
        have hi : vp_in (nI gs') 256 := vp_in_nI (by omega) (by omega)
        exact pk_le 256 gs' (fun z => by omega) (fun _ => ⟨hi, fun gk' _ => ⟨hi, fun ga' _ => ⟨hi, fun gb' _ => nm_r (nI_1 _) (hh gk' ga' gb')⟩⟩⟩)
      refine hgl _ _ _ (by omega) (fun gk1 ga1 gb1 => ?_)
      refine hgl _ _ _ (by omega) (fun gk2 ga2 gb2 => pk_le 4 x (fun _ => no _ _ _ _ _) (fun z => by omega))
  · exact yp_bind H hp (Or.inl g5) hb R hS (fun p' new gk' ga' gb' t r => h1 p' new yus gk' ga' gb' t r (keep (by omega))) h0
  · exact yp_bind H hp (Or.inr g6) hb R hS (fun p' new gk' ga' gb' t r => h1 p' new yus gk' ga' gb' t r (keep (by omega))) h0
  · refine pk_eq (tk_K ytk n p) 1 (fun k1 => ?_) (fun k1 => h0 ?_ _ _ _ _ _)
    · rw [nI_1 p]
      refine yt_t (i := p + 1) H (by omega) (pk_eq (tk_K ytk n (p + 1)) 7 (fun k7 => ?_) (fun k7 => h0 ?_ _ _ _ _ _))
      · refine yl_lam H hp R (by omega) (fun c gk' ga' gb' k P R' => br_f (by decide) ?_) (fun w => br_t rfl (h0 ?_ _ _ _ _ _))
        · exact h1 (p + 4 + c) [(1, 0, 0), (4, 0, 0)] yus gk' ga' gb' (Or.inr (Or.inr (Or.inr (Or.inr (Or.inr (Or.inr (Or.inr (Or.inr (Or.inr (Or.inl ⟨Or.inl g7, k1, k7, k, c, P, rfl, rfl⟩)))))))))) R' (keep (by omega))
        · rintro ⟨p', new, t⟩
          rcases t with ⟨g1, _⟩ | ⟨g1, _⟩ | ⟨g1, _⟩ | ⟨g1, _⟩ | ⟨g1, _⟩ | ⟨g1, _⟩ | ⟨g1, _⟩ | ⟨g1, _⟩ | ⟨g1, _⟩ | ⟨g1, k, k2, k3, c, P, e1, e2⟩ | ⟨g1, k, _⟩ | ⟨g1, k, k2, _⟩ | ⟨g1, k, k2, _⟩ | ⟨g1, k, k2, _⟩ | ⟨g1, k, k2, _⟩
          all_goals first | omega | skip
          exact w ⟨k3, c, P⟩
      · rintro ⟨p', new, t⟩
        rcases t with ⟨g1, _⟩ | ⟨g1, _⟩ | ⟨g1, _⟩ | ⟨g1, _⟩ | ⟨g1, _⟩ | ⟨g1, _⟩ | ⟨g1, _⟩ | ⟨g1, _⟩ | ⟨g1, _⟩ | ⟨g1, k, k2, k3, c, P, e1, e2⟩ | ⟨g1, k, _⟩ | ⟨g1, k, k2, _⟩ | ⟨g1, k, k2, _⟩ | ⟨g1, k, k2, _⟩ | ⟨g1, k, k2, _⟩ <;> omega
    · rintro ⟨p', new, t⟩
      rcases t with ⟨g1, _⟩ | ⟨g1, _⟩ | ⟨g1, _⟩ | ⟨g1, _⟩ | ⟨g1, _⟩ | ⟨g1, _⟩ | ⟨g1, _⟩ | ⟨g1, _⟩ | ⟨g1, _⟩ | ⟨g1, k, k2, k3, c, P, e1, e2⟩ | ⟨g1, k, _⟩ | ⟨g1, k, k2, _⟩ | ⟨g1, k, k2, _⟩ | ⟨g1, k, k2, _⟩ | ⟨g1, k, k2, _⟩ <;> omega
  · have eg : g = 1 := by omega
    subst eg
    exact ye_expr (x := x) (st := st) H hp R (by omega) (fun p' new us' gk' ga' gb' t r u => ⟨rfl, h1 p' new us' gk' ga' gb' t r u⟩) (fun w gs' po' gk' ga' gb' => ⟨rfl, h0 w gs' po' gk' ga' gb'⟩)
end
end
section
section
variable {yli yn ypr ygs ypo yhp yfs yvp yfu ysp ymd yac yst yrt ycu yhv : Int32} {ytk ytv yus ygk yga ygb yck yca ycb ycc yfp yfe yfS yfn yfb yvs yds : Nat → Int32} {ynk yna ynb ync : Nat} {n : Nat}
theorem yp_posL (H : tk_ok ytk n) {r : Nat → Int32} {par : Nat → Nat} (hB : ∀ i, i < n → tk_K ytk n i ≠ 2 → dp_I (tk_K ytk n) i (sk_f (tk_K ytk n) n i)) (hrn : ∀ c, r c ≠ 0 → c < n) (W : rw_W (tk_K ytk n) ytv (sk_f (tk_K ytk n) n) n n r par) {post : Int32 → SY → Prop}
    (hp : ∀ us' gs' po' gk' ga' gb', (∀ i, i < n → us' i = if r i = 1 ∧ tk_K ytk n i = 4 then 1 else 0) → post 1 (yli, nI n, ypr, gs', po', yhp, yfs, yvp, yfu, ysp, ymd, yac, yst, yrt, ycu, yhv, ytk, ytv, us', gk', ga', gb', yck, yca, ycb, ycc, yfp, yfe, yfS, yfn, yfb, yvs, yds, ynk, yna, ynb, ync)) :
    ∀ (f : Nat) (S : List (Nat × Nat × Nat)) (p it : Nat) (us gk ga gb : Nat → Int32), 4 * (n - p) + S.length + 2 * pm_fS S ≤ f → it + f < 1024 → p ≤ n → S.length + pm_fS S ≤ 2 * p + 2 → ys_R gk ga gb S →
      pm_C (tk_K ytk n) ytv (sk_f (tk_K ytk n) n) n (fun c => r c = 1) (fun c => r c = 2) (fun c => r c = 3) S p → (∀ i, i < p → us i = if r i = 1 ∧ tk_K ytk n i = 4 then 1 else 0) → (∀ i, p ≤ i → i < n → us i = 0) →
      wY_parse_49 post (f + 1) (nI it) yli (nI n) ypr (nI S.length) (nI p) yhp yfs yvp yfu ysp ymd yac yst yrt ycu yhv ytk ytv us gk ga gb yck yca ycb ycc yfp yfe yfS yfn yfb yvs yds ynk yna ynb ync := by
  have H1 := H.1
  have hn0 : ∀ i, n ≤ i → tk_K ytk n i = 0 := fun i => tk_0
  obtain ⟨hE, hN, hD⟩ := rw_EC hrn W
  have hK2 : ∀ c, r c ≠ 0 → tk_K ytk n c ≠ 2 := fun c hc => by
    have := (rw_K W (hrn c hc) hc).1
    omega
  have hEI : ∀ c, r c = 1 → dp_I (tk_K ytk n) c (sk_f (tk_K ytk n) n c) := fun c hc => hB c (hrn c (by rw [hc]; decide)) (hK2 c (by rw [hc]; decide))
  have hDI : ∀ c, r c = 2 → dp_I (tk_K ytk n) c (sk_f (tk_K ytk n) n c) := fun c hc => hB c (hrn c (by rw [hc]; decide)) (hK2 c (by rw [hc]; decide))
  intro f
  induction f with
  | zero =>
    intro S p it us gk ga gb hM hit hpn hl R C u1 u2
    cases S with
    | nil =>
      change p = n at C
      subst C
      exact pk_le 1024 it (fun z => by omega) (fun _ => br_t (by decide) (br_t rfl (br_t rfl (hp us _ _ gk ga gb (fun i hi => u1 i (by omega))))))
    | cons a S => simp at hM
  | succ f ih =>
    intro S p it us gk ga gb hM hit hpn hl R C u1 u2
    cases S with
    | nil =>
      change p = n at C
      subst C
      exact pk_le 1024 it (fun z => by omega) (fun _ => br_t (by decide) (br_t rfl (br_t rfl (hp us _ _ gk ga gb (fun i hi => u1 i (by omega))))))
    | cons a S =>
      obtain ⟨g, x, st⟩ := a
      have ex := pm_F hE hN hD hEI hDI C
      have pn : p < n := by
        rcases Nat.lt_or_ge p n with z | z
        · exact z
        · exact absurd (hn0 p z) ex.1
      have e0 : pm_fS ((g, x, st) :: S) = pm_fl g := rfl
      rw [e0] at hM hl
      simp only [List.length_cons] at hM hl
      refine pk_le 1024 it (fun z => by omega) (fun _ => pk_le (S.length + 1) 0 (fun z => by omega) (fun _ => pk_le n p (fun z => by omega) (fun _ => ?_)))
      refine yp_step (ygk := gk) (yga := ga) (ygb := gb) (yus := us) H pn R (by omega) (fun p' new us' gk' ga' gb' T R' U => br_f (by decide) (nm_r (nI_1 it) ?_)) (fun w => absurd ex.2 (fun ⟨p', new, T, _⟩ => w ⟨p', new, T⟩))
      have d := pm_dec (S := S) hn0 pn T
      refine ih (new ++ S) p' (it + 1) us' gk' ga' gb' (by omega) (by omega) d.1 (d.2.2 (by omega)) R' (pm_F2 hE hN hD hEI hDI C T) (fun i hi => ?_) (fun i hi1 hi2 => ?_)
      · rcases Nat.lt_or_ge i p with z | z
        · rw [← u1 i z]
          by_cases at' : g = 1 ∧ (tk_K ytk n p = 3 ∨ tk_K ytk n p = 4 ∨ tk_K ytk n p = 5)
          · exact (U.1 at').2 i (by omega)
          · rw [U.2 at']
        · have cov := (pm_cov hn0 W C T i z hi).1
          by_cases at' : g = 1 ∧ (tk_K ytk n p = 3 ∨ tk_K ytk n p = 4 ∨ tk_K ytk n p = 5)
          · have q := U.1 at'
            by_cases y : i = p
            · rw [y, q.1]
              have rp : r p = 1 := by
                have C2 := C
                rw [at'.1] at C2
                exact (pm_C1.mp C2).1
              by_cases k4 : tk_K ytk n p = 4
              · rw [if_pos k4, if_pos ⟨rp, k4⟩]
              · rw [if_neg k4, if_neg (fun w => k4 w.2)]
            · rw [q.2 i y, u2 i z (by omega), if_neg]
              rintro ⟨w1, w2⟩
              rcases cov w2 with ⟨_, _, w3, _⟩ | w3
              · exact y w3
              · rw [w1] at w3; exact absurd w3 (by decide)
          · rw [U.2 at', u2 i z (by omega), if_neg]
            rintro ⟨w1, w2⟩
            rcases cov w2 with ⟨_, w4, w3, _⟩ | w3
            · rw [w3] at w2; exact at' ⟨w4, by omega⟩
            · rw [w1] at w3; exact absurd w3 (by decide)
      · by_cases at' : g = 1 ∧ (tk_K ytk n p = 3 ∨ tk_K ytk n p = 4 ∨ tk_K ytk n p = 5)
        · have q := U.1 at'
          have pp : p < p' := by
            rcases Nat.lt_or_ge p p' with z | z
            · exact z
            · rcases T with ⟨g1, k, e1, _⟩ | ⟨g1, k, e1, _⟩ | ⟨g1, k, e1, _⟩ | ⟨g1, k, e1, _⟩ | ⟨g1, k, e1, _⟩ | ⟨g1, k, e1, _⟩ | ⟨g1, k, k2, e1, _⟩ | ⟨g1, k, k2, e1, _⟩ | ⟨g1, k, k2, k3, k4, e1, _⟩ | ⟨g1, k, k2, k3, c, P, e1, _⟩ | ⟨g1, k, e1, _⟩ | ⟨g1, k, k2, k3, e1, _⟩ | ⟨g1, k, k2, e1, _⟩ | ⟨g1, k, k2, e1, _⟩ | ⟨g1, k, k2, e1, _⟩ <;> omega
          rw [q.2 i (by omega)]
          exact u2 i (by omega) hi2
        · rw [U.2 at']
          refine u2 i ?_ hi2
          rcases T with ⟨g1, k, e1, _⟩ | ⟨g1, k, e1, _⟩ | ⟨g1, k, e1, _⟩ | ⟨g1, k, e1, _⟩ | ⟨g1, k, e1, _⟩ | ⟨g1, k, e1, _⟩ | ⟨g1, k, k2, e1, _⟩ | ⟨g1, k, k2, e1, _⟩ | ⟨g1, k, k2, k3, k4, e1, _⟩ | ⟨g1, k, k2, k3, c, P, e1, _⟩ | ⟨g1, k, e1, _⟩ | ⟨g1, k, k2, k3, e1, _⟩ | ⟨g1, k, k2, e1, _⟩ | ⟨g1, k, k2, e1, _⟩ | ⟨g1, k, k2, e1, _⟩ <;> omega
theorem yp_negL (H : tk_ok ytk n) {post : Int32 → SY → Prop}
    (hp : ∀ us' gs' po' gk' ga' gb', post 0 (yli, nI n, ypr, gs', po', yhp, yfs, yvp, yfu, ysp, ymd, yac, yst, yrt, ycu, yhv, ytk, ytv, us', gk', ga', gb', yck, yca, ycb, ycc, yfp, yfe, yfS, yfn, yfb, yvs, yds, ynk, yna, ynb, ync)) :
    ∀ (f : Nat) (S : List (Nat × Nat × Nat)) (p it : Nat) (us gk ga gb : Nat → Int32), it + f = 1024 → p ≤ n → S.length + pm_fS S ≤ 2 * p + 2 → ys_R gk ga gb S →
      (∀ k, ¬ pm_C (tk_K ytk n) ytv (sk_f (tk_K ytk n) n) n (gr_X (tk_K ytk n) ytv (sk_f (tk_K ytk n) n) k true) (gr_X (tk_K ytk n) ytv (sk_f (tk_K ytk n) n) k false) (fun _ => True) S p) →
      wY_parse_49 post (f + 1) (nI it) yli (nI n) ypr (nI S.length) (nI p) yhp yfs yvp yfu ysp ymd yac yst yrt ycu yhv ytk ytv us gk ga gb yck yca ycb ycc yfp yfe yfS yfn yfb yvs yds ynk yna ynb ync := by
  have H1 := H.1
  have hn0 : ∀ i, n ≤ i → tk_K ytk n i = 0 := fun i => tk_0
  have f89 : ∀ (S : List (Nat × Nat × Nat)) (p : Nat) (us gk ga gb : Nat → Int32), p ≤ n → S.length ≤ 200 → (S = [] → p ≠ n) → wY_parse_89 post yli (nI n) ypr (nI S.length) (nI p) yhp yfs yvp yfu ysp ymd yac yst yrt ycu yhv ytk ytv us gk ga gb yck yca ycb ycc yfp yfe yfS yfn yfb yvs yds ynk yna ynb ync := by
    intro S p us gk ga gb hpn hl hS
    refine pk_eq S.length 0 (fun z => pk_eq p n (fun y => absurd y (hS (List.eq_nil_of_length_eq_zero z))) (fun y => hp _ _ _ _ _ _)) (fun z => hp _ _ _ _ _ _)
  intro f
  induction f with
  | zero =>
    intro S p it us gk ga gb hit hpn hl R C
    exact pk_le 1024 it (fun _ => f89 S p us gk ga gb hpn (by omega) (fun z y => by subst z; exact C 0 y)) (fun z => by omega)
  | succ f ih =>
    intro S p it us gk ga gb hit hpn hl R C
    refine pk_le 1024 it (fun z => by omega) (fun _ => pk_le S.length 0 (fun z => f89 S p us gk ga gb hpn (by omega) (fun z y => by subst z; exact C 0 y)) (fun hpos => pk_le n p (fun z => hp _ _ _ _ _ _) (fun pn => ?_)))
    cases S with
    | nil => simp at hpos
    | cons a S =>
      obtain ⟨g, x, st⟩ := a
      have e0 : pm_fS ((g, x, st) :: S) = pm_fl g := rfl
      rw [e0] at hl
      simp only [List.length_cons] at hl
      refine yp_step (ygk := gk) (yga := ga) (ygb := gb) (yus := us) H pn R (by omega) (fun p' new us' gk' ga' gb' T R' U => br_f (by decide) (nm_r (nI_1 it) ?_)) (fun w _ _ _ _ _ => br_t rfl (hp _ _ _ _ _ _))
      have d := pm_dec (S := S) hn0 pn T
      refine ih (new ++ S) p' (it + 1) us' gk' ga' gb' (by omega) d.1 (d.2.2 (by omega)) R' (fun k C' => C (k + 1) ?_)
      exact pm_B (fun _ => trivial) (fun p h => h) (fun p h => h) (fun c h => gr_X_up k true c h) (fun c h => gr_X_up k false c h) (fun c h => gr_XI k true c h) (fun c h => gr_XI k false c h) T C'
theorem yp_clr {post : Int32 → SY → Prop} (h : ∀ us', (∀ i, i < 64 → us' i = 0) → (yn = 0 → post 0 (yli, yn, ypr, ygs, ypo, yhp, yfs, yvp, yfu, ysp, ymd, yac, yst, yrt, ycu, yhv, ytk, ytv, us', ygk, yga, ygb, yck, yca, ycb, ycc, yfp, yfe, yfS, yfn, yfb, yvs, yds, ynk, yna, ynb, ync)) ∧ (¬ yn = 0 → wpY_goal (fun u => match u with | (yli, yn, ypr, ygs, ypo, yhp, yfs, yvp, yfu, ysp, ymd, yac, yst, yrt, ycu, yhv, ytk, ytv, yus, ygk, yga, ygb, yck, yca, ycb, ycc, yfp, yfe, yfS, yfn, yfb, yvs, yds, ynk, yna, ynb, ync) => (∃ n49 : Nat, wY_parse_49 post n49 0 yli yn ypr ygs ypo yhp yfs yvp yfu ysp ymd yac yst yrt ycu yhv ytk ytv yus ygk yga ygb yck yca ycb ycc yfp yfe yfS yfn yfb yvs yds ynk yna ynb ync)) (yli, yn, ypr, 0, 0, yhp, yfs, yvp, yfu, ysp, ymd, yac, yst, yrt, ycu, yhv, ytk, ytv, us', ygk, yga, ygb, yck, yca, ycb, ycc, yfp, yfe, yfS, yfn, yfb, yvs, yds, ynk, yna, ynb, ync) 1 0 0)) :
    ∀ d m (us' : Nat → Int32), m + d = 64 → (∀ i, i < m → us' i = 0) → wY_parse_2 post yli yn ypr ygs ypo yhp yfs yvp yfu ysp ymd yac yst yrt ycu yhv ynk yna ynb ync (d + 1) (nI m) ytk ytv us' ygk yga ygb yck yca ycb ycc yfp yfe yfS yfn yfb yvs yds := by
  intro d
  induction d with
  | zero =>
    intro m us' e hu
    have em : m = 64 := by omega
    subst em
    exact pk_le 64 64 (fun _ => h us' hu) (fun z => by omega)
  | succ d ih =>
    intro m us' e hu
    have hc : (nI m).toNatClampNeg = m := nI_clamp (by omega)
    refine pk_le 64 m (fun z => by omega) (fun _ => ⟨vp_in_nI (by omega) (by omega), fun u2 e2 => nm_r (nI_1 m) (ih (m + 1) u2 (by omega) (fun i hi => ?_))⟩)
    rw [e2, hc]
    by_cases z : i = m
    · rw [z, pk_us]; exact yb_nar0
    · rw [pk_un z]; exact hu i (by omega)
theorem yp_parse {post : Int32 → SY → Prop} (h : ∀ us', (∀ i, i < 64 → us' i = 0) → (yn = 0 → post 0 (yli, yn, ypr, ygs, ypo, yhp, yfs, yvp, yfu, ysp, ymd, yac, yst, yrt, ycu, yhv, ytk, ytv, us', ygk, yga, ygb, yck, yca, ycb, ycc, yfp, yfe, yfS, yfn, yfb, yvs, yds, ynk, yna, ynb, ync)) ∧ (¬ yn = 0 → wpY_goal (fun u => match u with | (yli, yn, ypr, ygs, ypo, yhp, yfs, yvp, yfu, ysp, ymd, yac, yst, yrt, ycu, yhv, ytk, ytv, yus, ygk, yga, ygb, yck, yca, ycb, ycc, yfp, yfe, yfS, yfn, yfb, yvs, yds, ynk, yna, ynb, ync) => (∃ n49 : Nat, wY_parse_49 post n49 0 yli yn ypr ygs ypo yhp yfs yvp yfu ysp ymd yac yst yrt ycu yhv ytk ytv yus ygk yga ygb yck yca ycb ycc yfp yfe yfS yfn yfb yvs yds ynk yna ynb ync)) (yli, yn, ypr, 0, 0, yhp, yfs, yvp, yfu, ysp, ymd, yac, yst, yrt, ycu, yhv, ytk, ytv, us', ygk, yga, ygb, yck, yca, ycb, ycc, yfp, yfe, yfS, yfn, yfb, yvs, yds, ynk, yna, ynb, ync) 1 0 0)) : wpY_parse post (yli, yn, ypr, ygs, ypo, yhp, yfs, yvp, yfu, ysp, ymd, yac, yst, yrt, ycu, yhv, ytk, ytv, yus, ygk, yga, ygb, yck, yca, ycb, ycc, yfp, yfe, yfS, yfn, yfb, yvs, yds, ynk, yna, ynb, ync) :=
  ⟨65, yp_clr h 64 0 yus (by omega) (fun i hi => by omega)⟩
theorem yp_pos (H : tk_ok ytk n) {r : Nat → Int32} {par : Nat → Nat} (n0 : 0 < n) (I0 : dp_I (tk_K ytk n) 0 n) (hB : ∀ i, i < n → tk_K ytk n i ≠ 2 → dp_I (tk_K ytk n) i (sk_f (tk_K ytk n) n i)) (hrn : ∀ c, r c ≠ 0 → c < n) (W : rw_W (tk_K ytk n) ytv (sk_f (tk_K ytk n) n) n n r par) {post : Int32 → SY → Prop}
    (hp : ∀ us' gs' po' gk' ga' gb', (∀ i, i < n → us' i = if r i = 1 ∧ tk_K ytk n i = 4 then 1 else 0) → post 1 (yli, nI n, ypr, gs', po', yhp, yfs, yvp, yfu, ysp, ymd, yac, yst, yrt, ycu, yhv, ytk, ytv, us', gk', ga', gb', yck, yca, ycb, ycc, yfp, yfe, yfS, yfn, yfb, yvs, yds, ynk, yna, ynb, ync)) : wpY_parse post (yli, nI n, ypr, ygs, ypo, yhp, yfs, yvp, yfu, ysp, ymd, yac, yst, yrt, ycu, yhv, ytk, ytv, yus, ygk, yga, ygb, yck, yca, ycb, ycc, yfp, yfe, yfS, yfn, yfb, yvs, yds, ynk, yna, ynb, ync) := by
  have H1 := H.1
  refine yp_parse (fun us' hu => pk_eq n 0 (fun z => by omega) (fun _ => ?_))
  refine yg_goal (S := []) 1 0 0 (by simp) trivial (by omega) (fun gk' ga' gb' R => ⟨1 + 4 * n + 1, ?_⟩)
  exact yp_posL H hB hrn W hp (1 + 4 * n) [(1, 0, 0)] 0 0 us' gk' ga' gb' (by simp [pm_fS, pm_fl]; omega) (by omega) (by omega) (by simp [pm_fS, pm_fl]) R (pm_C1.mpr ⟨W.2.2.2.2, sk_I I0⟩) (fun i hi => by omega) (fun i _ hi => hu i (by omega))
theorem yp_neg (H : tk_ok ytk n) (no : ∀ k, ¬ (0 < n ∧ sk_f (tk_K ytk n) n 0 = n ∧ gr_X (tk_K ytk n) ytv (sk_f (tk_K ytk n) n) k true 0)) {post : Int32 → SY → Prop}
    (hp : ∀ us' gs' po' gk' ga' gb', post 0 (yli, nI n, ypr, gs', po', yhp, yfs, yvp, yfu, ysp, ymd, yac, yst, yrt, ycu, yhv, ytk, ytv, us', gk', ga', gb', yck, yca, ycb, ycc, yfp, yfe, yfS, yfn, yfb, yvs, yds, ynk, yna, ynb, ync)) : wpY_parse post (yli, nI n, ypr, ygs, ypo, yhp, yfs, yvp, yfu, ysp, ymd, yac, yst, yrt, ycu, yhv, ytk, ytv, yus, ygk, yga, ygb, yck, yca, ycb, ycc, yfp, yfe, yfS, yfn, yfb, yvs, yds, ynk, yna, ynb, ync) := by
  have H1 := H.1
  refine yp_parse (fun us' hu => pk_eq n 0 (fun z => hp _ _ _ _ _ _) (fun z => ?_))
  refine yg_goal (S := []) 1 0 0 (by simp) trivial (by omega) (fun gk' ga' gb' R => ⟨1024 + 1, ?_⟩)
  refine yp_negL H hp 1024 [(1, 0, 0)] 0 0 us' gk' ga' gb' (by omega) (by omega) (by simp [pm_fS, pm_fl]) R (fun k C => no k ⟨by omega, ?_, (pm_C1.mp C).1⟩)
  exact (pm_C1.mp C).2
end
end
section
/-- a binder at j names x for the place i -/
def sc_J (K : Nat → Nat) (V : Nat → Int32) (a : Nat → Nat) (j i : Nat) (x : Int32) : Prop := K j = 1 ∧ 7 ≤ K (j + 1) ∧ K (j + 1) ≤ 9 ∧ i < a j ∧ (∃ m, gr_N K a j m ∧ V m = x) ∧ (K (j + 1) = 9 ∨ a (j + 2) ≤ i)
section
variable {yli yn ypr ygs ypo yhp yfs yvp yfu ysp ymd yac yst yrt ycu yhv : Int32} {ytk ytv yus ygk yga ygb yck yca ycb ycc yfp yfe yfS yfn yfb yvs yds : Nat → Int32} {ynk yna ynb ync : Nat} {n : Nat}
theorem yb_loop (H : tk_ok ytk n) (hB : ∀ i, i < n → tk_K ytk n i ≠ 2 → dp_I (tk_K ytk n) i (sk_f (tk_K ytk n) n i)) {j i : Nat} {x : Int32} (hj : j < n) (hi : i < n) (k1 : tk_K ytk n j = 1) (k7 : 7 ≤ tk_K ytk n (j + 1)) (k9 : tk_K ytk n (j + 1) ≤ 9) (hS : gr_SH (tk_K ytk n) ytv (sk_f (tk_K ytk n) n) j) (hin : i < sk_f (tk_K ytk n) n j) {post : Int32 → Prop}
    (h1 : sc_J (tk_K ytk n) ytv (sk_f (tk_K ytk n) n) j i x → post 1) (h0 : ¬ sc_J (tk_K ytk n) ytv (sk_f (tk_K ytk n) n) j i x → post 0) {c : Nat} (c4 : c ≤ 4) (lc : ls_C (tk_K ytk n) (sk_f (tk_K ytk n) n) (j + 3) c) (hN : ∀ m, gr_N (tk_K ytk n) (sk_f (tk_K ytk n) n) j m ↔ ∃ y, y < c ∧ m = sc_nm (tk_K ytk n) (sk_f (tk_K ytk n) n) j y) (hP : tk_K ytk n (j + 1) = 7 → gr_P (tk_K ytk n) ytv (j + 2) c) :
    ∀ d y (fd : Int32), y + d = c → (fd = 0 ∨ fd = 1) → (fd ≠ 0 ↔ ∃ y', y' < y ∧ ytv (sc_nm (tk_K ytk n) (sk_f (tk_K ytk n) n) j y') = x) → wY_binds_45 post (nI i) x (nI (tk_K ytk n (j + 1))) yli (nI n) ypr ygs ypo yhp yfs yvp yfu ysp ymd yac yst yrt ycu yhv ytk ytv yus ygk yga ygb yck yca ycb ycc yfp yfe yfS yfn yfb yvs yds ynk yna ynb ync (d + 1) fd (nI (it_f (sk_f (tk_K ytk n) n) y (j + 3))) (nI y) := by
  have H1 := H.1
  have hI := hB j hj (by omega)
  have g := gr_bind hI k1 k7 k9 hS
  have bd := ls_bd (K := (tk_K ytk n)) (n := n) (fun i => tk_0) lc
  have q1 : it_f (sk_f (tk_K ytk n) n) c (j + 3) + 1 = sk_f (tk_K ytk n) n (j + 2) := by
    obtain ⟨c', lc', q1, _, _⟩ := ls_in (n := n) g.2.1 g.1
    have ec : c' = c := ls_C_u lc' lc
    subst ec
    exact q1
  intro d
  induction d with
  | zero =>
    intro y fd e hf hfd
    have ec : y = c := by omega
    subst ec
    have hx := (bd.1 y (Nat.le_refl _)).1
    have kc := lc.2
    refine pk_le 5 y (fun z => by omega) (fun _ => pk_le n (it_f (sk_f (tk_K ytk n) n) y (j + 3)) (fun z => by omega) (fun _ => yt_t (i := it_f (sk_f (tk_K ytk n) n) y (j + 3)) H (by omega) (pk_eq (tk_K ytk n (it_f (sk_f (tk_K ytk n) n) y (j + 3))) 2 (fun _ => ?_) (fun z => absurd lc.2 z))))
    have nm : fd ≠ 0 ↔ ∃ m, gr_N (tk_K ytk n) (sk_f (tk_K ytk n) n) j m ∧ ytv m = x := by
      rw [hfd]
      constructor
      · rintro ⟨y', hy, ev⟩
        exact ⟨_, (hN _).mpr ⟨y', hy, rfl⟩, ev⟩
      · rintro ⟨m, hm, ev⟩
        obtain ⟨y', hy, em⟩ := (hN m).mp hm
        exact ⟨y', hy, by rw [← em]; exact ev⟩
    by_cases f0 : fd = 0
    · exact br_t f0 (h0 (fun w => (nm.mpr w.2.2.2.2.1) f0))
    · refine br_f f0 (pk_eq (tk_K ytk n (j + 1)) 9 (fun k => h1 ⟨k1, k7, k9, hin, nm.mp f0, Or.inl k⟩) (fun k => pk_le i (it_f (sk_f (tk_K ytk n) n) y (j + 3)) (fun z => h0 (fun w => ?_)) (fun z => h1 ⟨k1, k7, k9, hin, nm.mp f0, Or.inr (by omega)⟩)))
      rcases w.2.2.2.2.2 with w | w
      · exact k w
      · omega
  | succ d ih =>
    intro y fd e hf hfd
    have hx := (bd.1 y (by omega)).1
    have hx2 := (bd.1 (y + 1) (by omega)).1
    have kc := lc.1 y (by omega)
    have k20 := tk_20 H (it_f (sk_f (tk_K ytk n) n) y (j + 3))
    have nxt : ∀ fd', (fd' = 0 ∨ fd' = 1) → (fd' ≠ 0 ↔ fd ≠ 0 ∨ ytv (sc_nm (tk_K ytk n) (sk_f (tk_K ytk n) n) j y) = x) → wY_binds_45 post (nI i) x (nI (tk_K ytk n (j + 1))) yli (nI n) ypr ygs ypo yhp yfs yvp yfu ysp ymd yac yst yrt ycu yhv ytk ytv yus ygk yga ygb yck yca ycb ycc yfp yfe yfS yfn yfb yvs yds ynk yna ynb ync (d + 1) fd' (nI (it_f (sk_f (tk_K ytk n) n) (y + 1) (j + 3))) (nI (y + 1)) := by
      intro fd' hf' hiff
      refine ih (y + 1) fd' (by omega) hf' ?_
      rw [hiff, hfd]
      constructor
      · rintro (⟨y', hy, ev⟩ | ev)
        · exact ⟨y', by omega, ev⟩
        · exact ⟨y, by omega, ev⟩
      · rintro ⟨y', hy, ev⟩
        by_cases z : y' = y
        · subst z; exact Or.inr ev
        · exact Or.inl ⟨y', by omega, ev⟩
    refine pk_le 5 y (fun z => by omega) (fun _ => pk_le n (it_f (sk_f (tk_K ytk n) n) y (j + 3)) (fun z => by omega) (fun _ => yt_t (i := it_f (sk_f (tk_K ytk n) n) y (j + 3)) H (by omega) (pk_eq (tk_K ytk n (it_f (sk_f (tk_K ytk n) n) y (j + 3))) 2 (fun z => absurd z kc) (fun _ => pk_eq (tk_K ytk n (j + 1)) 7 (fun z7 => ?_) (fun z7 => ?_)))))
    · have P := hP z7
      have e1 : it_f (sk_f (tk_K ytk n) n) y (j + 3) = j + 3 + y := gr_Pi P (by omega)
      have e2 : it_f (sk_f (tk_K ytk n) n) (y + 1) (j + 3) = j + 3 + (y + 1) := gr_Pi P (by omega)
      have en : sc_nm (tk_K ytk n) (sk_f (tk_K ytk n) n) j y = it_f (sk_f (tk_K ytk n) n) y (j + 3) := by rw [e1]; exact if_pos z7
      have e3 : nI (it_f (sk_f (tk_K ytk n) n) y (j + 3)) + 1 = nI (it_f (sk_f (tk_K ytk n) n) (y + 1) (j + 3)) := by rw [nI_1, e1, e2]; rfl
      refine yt_v (i := it_f (sk_f (tk_K ytk n) n) y (j + 3)) H hx ?_
      by_cases ev : ytv (it_f (sk_f (tk_K ytk n) n) y (j + 3)) = x
      · exact br_t ev (nm_r e3 (nm_r (nI_1 y) (nxt 1 (Or.inr rfl) ⟨fun _ => Or.inr (by rw [en]; exact ev), fun _ => by decide⟩)))
      · exact br_f ev (nm_r e3 (nm_r (nI_1 y) (nxt fd hf ⟨Or.inl, fun w => w.elim id (fun w => absurd (by rw [en] at w; exact w) ev)⟩)))
    · have en : sc_nm (tk_K ytk n) (sk_f (tk_K ytk n) n) j y = it_f (sk_f (tk_K ytk n) n) y (j + 3) + 1 := if_neg z7
      obtain ⟨m1, m2, m3, m4, m5, m6, m7, m8, m9⟩ := gr_bnd hI k1 (by omega) hS ((ls_CM lc).mpr ⟨y, by omega, rfl⟩)
      have lim := dp_le (K := (tk_K ytk n)) (n := n) (fun i => tk_0) m4 hx
      have m51 := m5.1
      rw [nI_1 (it_f (sk_f (tk_K ytk n) n) y (j + 3))]
      refine yt_v (i := it_f (sk_f (tk_K ytk n) n) y (j + 3) + 1) H (by omega) ?_
      by_cases ev : ytv (it_f (sk_f (tk_K ytk n) n) y (j + 3) + 1) = x
      · refine br_t ev (yk_skip (i := it_f (sk_f (tk_K ytk n) n) y (j + 3)) H (by omega) (nm_r (nI_1 y) ?_))
        rw [← it_s (sk_f (tk_K ytk n) n) y (j + 3)]
        exact nxt 1 (Or.inr rfl) ⟨fun _ => Or.inr (by rw [en]; exact ev), fun _ => by decide⟩
      · refine br_f ev (yk_skip (i := it_f (sk_f (tk_K ytk n) n) y (j + 3)) H (by omega) (nm_r (nI_1 y) ?_))
        rw [← it_s (sk_f (tk_K ytk n) n) y (j + 3)]
        exact nxt fd hf ⟨Or.inl, fun w => w.elim id (fun w => absurd (by rw [en] at w; exact w) ev)⟩
theorem yb_binds (H : tk_ok ytk n) {r : Nat → Int32} {par : Nat → Nat} (hB : ∀ i, i < n → tk_K ytk n i ≠ 2 → dp_I (tk_K ytk n) i (sk_f (tk_K ytk n) n i)) (W : rw_W (tk_K ytk n) ytv (sk_f (tk_K ytk n) n) n n r par) (hC : ∀ j, tk_K ytk n j = 1 → 7 ≤ tk_K ytk n (j + 1) → tk_K ytk n (j + 1) ≤ 9 → r j = 1) {j i : Nat} {x : Int32} (hj : j < n) (hi : i < n) (k1 : tk_K ytk n j = 1) {post : Int32 → Prop}
    (h1 : sc_J (tk_K ytk n) ytv (sk_f (tk_K ytk n) n) j i x → post 1) (h0 : ¬ sc_J (tk_K ytk n) ytv (sk_f (tk_K ytk n) n) j i x → post 0) : wpY_binds post (yli, nI n, ypr, ygs, ypo, yhp, yfs, yvp, yfu, ysp, ymd, yac, yst, yrt, ycu, yhv, ytk, ytv, yus, ygk, yga, ygb, yck, yca, ycb, ycc, yfp, yfe, yfS, yfn, yfb, yvs, yds, ynk, yna, ynb, ync) (nI j) (nI i) x := by
  have H1 := H.1
  have k20 := tk_20 H (j + 1)
  have lim := dp_le (K := (tk_K ytk n)) (n := n) (fun i => tk_0) (hB j hj (by omega)) hj
  unfold wpY_binds
  dsimp only
  rw [nI_1 j]
  refine yt_t (i := j + 1) H (by omega) (pk_lt (tk_K ytk n (j + 1)) 7 (fun z => h0 (fun w => by have := w.2.1; omega)) (fun k7 => pk_lt 9 (tk_K ytk n (j + 1)) (fun z => h0 (fun w => by have := w.2.2.1; omega)) (fun k9 => yk_skip (i := j) H (by omega) (pk_lt i (sk_f (tk_K ytk n) n j) (fun hin => nm_r (ni_3 j) ?_) (fun z => h0 (fun w => by have := w.2.2.2.1; omega))))))
  have hS := (W.2.1 j hj (hC j k1 k7 k9)).1
  obtain ⟨c, c4, lc, hN, hP, _⟩ := sc_N k1 k7 k9 hS
  exact ⟨c + 1, yb_loop H hB hj hi k1 k7 k9 hS hin h1 h0 c4 lc hN hP c 0 0 (by omega) (Or.inl rfl) ⟨fun z => absurd rfl z, fun ⟨y, hy, _⟩ => by omega⟩⟩
theorem yo_in (H : tk_ok ytk n) {r : Nat → Int32} {par : Nat → Nat} (hB : ∀ i, i < n → tk_K ytk n i ≠ 2 → dp_I (tk_K ytk n) i (sk_f (tk_K ytk n) n i)) (W : rw_W (tk_K ytk n) ytv (sk_f (tk_K ytk n) n) n n r par) (hC : ∀ j, tk_K ytk n j = 1 → 7 ≤ tk_K ytk n (j + 1) → tk_K ytk n (j + 1) ≤ 9 → r j = 1) {i : Nat} (hi : i < n) {post : Int32 → Prop} {J : Int32 → Prop}
    (h1 : sc_B (tk_K ytk n) ytv (sk_f (tk_K ytk n) n) i (ytv i) → J (nI (i + 1))) (h0 : ¬ sc_B (tk_K ytk n) ytv (sk_f (tk_K ytk n) n) i (ytv i) → post 0) :
    ∀ d j (ok : Int32), j + d = i → (ok ≠ 0 ↔ ∃ j', j' < j ∧ sc_J (tk_K ytk n) ytv (sk_f (tk_K ytk n) n) j' i (ytv i)) → wY_scoped_26 post J (nI i) yli (nI n) ypr ygs ypo yhp yfs yvp yfu ysp ymd yac yst yrt ycu yhv ytk ytv yus ygk yga ygb yck yca ycb ycc yfp yfe yfS yfn yfb yvs yds ynk yna ynb ync (d + 1) ok (nI j) := by
  have H1 := H.1
  intro d
  induction d with
  | zero =>
    intro j ok e hok
    have ej : j = i := by omega
    subst ej
    refine pk_le j j (fun _ => ?_) (fun z => by omega)
    by_cases o : ok = 0
    · exact br_t o (h0 (fun ⟨q, a, b⟩ => (hok.mpr ⟨q, a, b⟩) o))
    · obtain ⟨q, a, b⟩ := hok.mp o
      exact br_f o (nm_r (nI_1 j) (h1 ⟨q, a, b⟩))
  | succ d ih =>
    intro j ok e hok
    have hj : j < n := by omega
    have hc : (nI i).toNatClampNeg = i := nI_clamp (by omega)
    have nxt : ∀ ok', (ok' ≠ 0 ↔ ok ≠ 0 ∨ sc_J (tk_K ytk n) ytv (sk_f (tk_K ytk n) n) j i (ytv i)) → wY_scoped_26 post J (nI i) yli (nI n) ypr ygs ypo yhp yfs yvp yfu ysp ymd yac yst yrt ycu yhv ytk ytv yus ygk yga ygb yck yca ycb ycc yfp yfe yfS yfn yfb yvs yds ynk yna ynb ync (d + 1) ok' (nI (j + 1)) := by
      intro ok' hiff
      refine ih (j + 1) ok' (by omega) ?_
      rw [hiff, hok]
      constructor
      · rintro (⟨q, a, b⟩ | b)
        · exact ⟨q, by omega, b⟩
        · exact ⟨j, by omega, b⟩
      · rintro ⟨q, a, b⟩
        by_cases z : q = j
        · subst z; exact Or.inr b
        · exact Or.inl ⟨q, by omega, b⟩
    refine pk_le i j (fun z => by omega) (fun _ => ⟨tk_in H hj, tk_b H hj 1 (fun k1 => ⟨tk_in H hi, ?_⟩) (fun k1 => nm_r (nI_1 j) (nxt ok ⟨Or.inl, fun w => w.elim id (fun w => absurd w.1 k1)⟩))⟩)
    rw [hc]
    refine yb_binds H hB W hC hj hi k1 (fun w => br_f (by decide) (nm_r (nI_1 j) (nxt 1 ⟨fun _ => Or.inr w, fun _ => by decide⟩))) (fun w => br_t rfl (nm_r (nI_1 j) (nxt ok ⟨Or.inl, fun v => v.elim id (fun v => absurd v w)⟩)))
theorem yo_loop (H : tk_ok ytk n) {r : Nat → Int32} {par : Nat → Nat} (hB : ∀ i, i < n → tk_K ytk n i ≠ 2 → dp_I (tk_K ytk n) i (sk_f (tk_K ytk n) n i)) (W : rw_W (tk_K ytk n) ytv (sk_f (tk_K ytk n) n) n n r par) (hC : ∀ j, tk_K ytk n j = 1 → 7 ≤ tk_K ytk n (j + 1) → tk_K ytk n (j + 1) ≤ 9 → r j = 1) (hu : ∀ i, i < n → yus i = if r i = 1 ∧ tk_K ytk n i = 4 then 1 else 0) {post : Int32 → Prop}
    (h1 : (∀ i, i < n → r i = 1 → tk_K ytk n i = 4 → sc_B (tk_K ytk n) ytv (sk_f (tk_K ytk n) n) i (ytv i)) → post 1) (h0 : (∃ i, i < n ∧ r i = 1 ∧ tk_K ytk n i = 4 ∧ ¬ sc_B (tk_K ytk n) ytv (sk_f (tk_K ytk n) n) i (ytv i)) → post 0) :
    ∀ d i, i + d = n → (∀ q, q < i → r q = 1 → tk_K ytk n q = 4 → sc_B (tk_K ytk n) ytv (sk_f (tk_K ytk n) n) q (ytv q)) → wY_scoped_2 post yli (nI n) ypr ygs ypo yhp yfs yvp yfu ysp ymd yac yst yrt ycu yhv ytk ytv yus ygk yga ygb yck yca ycb ycc yfp yfe yfS yfn yfb yvs yds ynk yna ynb ync (d + 1) (nI i) := by
  have H1 := H.1
  intro d
  induction d with
  | zero =>
    intro i e hq
    have ei : i = n := by omega
    subst ei
    exact pk_le i i (fun _ => h1 hq) (fun z => by omega)
  | succ d ih =>
    intro i e hq
    have hi : i < n := by omega
    have hc : (nI i).toNatClampNeg = i := nI_clamp (by omega)
    refine pk_le n i (fun z => by omega) (fun _ => ⟨tk_in H hi, ?_⟩)
    rw [hc, hu i hi]
    by_cases w : r i = 1 ∧ tk_K ytk n i = 4
    · rw [if_pos w]
      refine br_f (by decide) ⟨i + 1, yo_in H hB W hC hi (fun b => ih (i + 1) (by omega) (fun q hq1 hr hk => ?_)) (fun b => h0 ⟨i, hi, w.1, w.2, b⟩) i 0 0 (by omega) ⟨fun z => absurd rfl z, fun ⟨q, a, _⟩ => by omega⟩⟩
      by_cases z : q = i
      · subst z; exact b
      · exact hq q (by omega) hr hk
    · rw [if_neg w]
      refine br_t rfl (nm_r (nI_1 i) (ih (i + 1) (by omega) (fun q hq1 hr hk => ?_)))
      by_cases z : q = i
      · subst z; exact absurd ⟨hr, hk⟩ w
      · exact hq q (by omega) hr hk
theorem yo_scoped (H : tk_ok ytk n) {r : Nat → Int32} {par : Nat → Nat} (hB : ∀ i, i < n → tk_K ytk n i ≠ 2 → dp_I (tk_K ytk n) i (sk_f (tk_K ytk n) n i)) (W : rw_W (tk_K ytk n) ytv (sk_f (tk_K ytk n) n) n n r par) (hC : ∀ j, tk_K ytk n j = 1 → 7 ≤ tk_K ytk n (j + 1) → tk_K ytk n (j + 1) ≤ 9 → r j = 1) (hu : ∀ i, i < n → yus i = if r i = 1 ∧ tk_K ytk n i = 4 then 1 else 0) {post : Int32 → Prop}
    (h1 : (∀ i, i < n → r i = 1 → tk_K ytk n i = 4 → sc_B (tk_K ytk n) ytv (sk_f (tk_K ytk n) n) i (ytv i)) → post 1) (h0 : (∃ i, i < n ∧ r i = 1 ∧ tk_K ytk n i = 4 ∧ ¬ sc_B (tk_K ytk n) ytv (sk_f (tk_K ytk n) n) i (ytv i)) → post 0) : wpY_scoped post (yli, nI n, ypr, ygs, ypo, yhp, yfs, yvp, yfu, ysp, ymd, yac, yst, yrt, ycu, yhv, ytk, ytv, yus, ygk, yga, ygb, yck, yca, ycb, ycc, yfp, yfe, yfS, yfn, yfb, yvs, yds, ynk, yna, ynb, ync) :=
  ⟨n + 1, yo_loop H hB W hC hu h1 h0 n 0 (by omega) (fun q hq => by omega)⟩
/-! the reference's compile -/
theorem yc_neg (H : tk_ok ytk n) (no : ∀ k, ¬ (0 < n ∧ sk_f (tk_K ytk n) n 0 = n ∧ gr_X (tk_K ytk n) ytv (sk_f (tk_K ytk n) n) k true 0)) {post : Int32 → SY → Prop}
    (hp : ∀ us' gs' po' gk' ga' gb', post 1 (yli, nI n, 0, gs', po', yhp, yfs, yvp, yfu, 0, 0, yac, -1, yrt, ycu, 0, ytk, ytv, us', gk', ga', gb', yck, yca, ycb, ycc, yfp, yfe, yfS, yfn, yfb, yvs, yds, ynk, yna, ynb, ync)) : wpY_compile post (yli, nI n, ypr, ygs, ypo, yhp, yfs, yvp, yfu, ysp, ymd, yac, yst, yrt, ycu, yhv, ytk, ytv, yus, ygk, yga, ygb, yck, yca, ycb, ycc, yfp, yfe, yfS, yfn, yfb, yvs, yds, ynk, yna, ynb, ync) := by
  unfold wpY_compile wpY_clearRun
  dsimp only
  exact yp_neg H no (fun us' gs' po' gk' ga' gb' => br_t rfl (hp us' gs' po' gk' ga' gb'))
theorem yc_pos (H : tk_ok ytk n) {r : Nat → Int32} {par : Nat → Nat} (n0 : 0 < n) (I0 : dp_I (tk_K ytk n) 0 n) (hB : ∀ i, i < n → tk_K ytk n i ≠ 2 → dp_I (tk_K ytk n) i (sk_f (tk_K ytk n) n i)) (hrn : ∀ c, r c ≠ 0 → c < n) (W : rw_W (tk_K ytk n) ytv (sk_f (tk_K ytk n) n) n n r par) (hC : ∀ j, tk_K ytk n j = 1 → 7 ≤ tk_K ytk n (j + 1) → tk_K ytk n (j + 1) ≤ 9 → r j = 1) {post : Int32 → SY → Prop}
    (h2 : (∃ i, i < n ∧ r i = 1 ∧ tk_K ytk n i = 4 ∧ ¬ sc_B (tk_K ytk n) ytv (sk_f (tk_K ytk n) n) i (ytv i)) → ∀ us' gs' po' gk' ga' gb', post 2 (yli, nI n, 0, gs', po', yhp, yfs, yvp, yfu, 0, 0, yac, -1, yrt, ycu, 0, ytk, ytv, us', gk', ga', gb', yck, yca, ycb, ycc, yfp, yfe, yfS, yfn, yfb, yvs, yds, ynk, yna, ynb, ync))
    (h3 : (∀ i, i < n → r i = 1 → tk_K ytk n i = 4 → sc_B (tk_K ytk n) ytv (sk_f (tk_K ytk n) n) i (ytv i)) → ∀ us' gs' po' gk' ga' gb', post 0 (yli, nI n, 1, gs', po', yhp, yfs, yvp, yfu, 0, 0, yac, -1, yrt, ycu, 0, ytk, ytv, us', gk', ga', gb', yck, yca, ycb, ycc, yfp, yfe, yfS, yfn, yfb, yvs, yds, ynk, yna, ynb, ync)) : wpY_compile post (yli, nI n, ypr, ygs, ypo, yhp, yfs, yvp, yfu, ysp, ymd, yac, yst, yrt, ycu, yhv, ytk, ytv, yus, ygk, yga, ygb, yck, yca, ycb, ycc, yfp, yfe, yfS, yfn, yfb, yvs, yds, ynk, yna, ynb, ync) := by
  unfold wpY_compile wpY_clearRun
  dsimp only
  refine yp_pos H n0 I0 hB hrn W (fun us' gs' po' gk' ga' gb' hu => br_f (by decide) ?_)
  exact yo_scoped (yus := us') (ygs := gs') (ypo := po') (ygk := gk') (yga := ga') (ygb := gb') H hB W hC hu (fun w => br_f (by decide) (h3 w us' gs' po' gk' ga' gb')) (fun w => br_t rfl (h2 w us' gs' po' gk' ga' gb'))
end
end
section
/-! the two heaps: values, environments -/
def hb_E (g nm : Nat → Nat) (cc : Nat) (c e s : Int32) : Prop := (c = -1 ∧ e = -1 ∧ s = -1) ∨ ∃ i, i < cc ∧ c = nI i ∧ e = nI (g i) ∧ s = nI (nm i)
def hb_V (K : Nat → Nat) (R sc : Nat → Int32) (n : Nat) (VR : Nat → Nat → Prop) (g nm : Nat → Nat) (cc : Nat) (vk vf vs ck ca cb : Nat → Int32) (i j : Nat) : Prop :=
  (vk i = 1 ∧ ck j = 1 ∧ vf i = ca j) ∨
  (vk i = 2 ∧ ck j = 2) ∨
  (vk i = 3 ∧ ck j = 3 ∧ ∃ a b a' b', vf i = nI a ∧ vs i = nI b ∧ ca j = nI a' ∧ cb j = nI b' ∧ VR a a' ∧ VR b b') ∨
  (vk i = 4 ∧ ck j = 4 ∧ ∃ q, q < n ∧ R q = 1 ∧ K q = 1 ∧ K (q + 1) = 7 ∧ vf i = nI q ∧ ca j = nI q ∧ hb_E g nm cc (vs i) (cb j) (sc q))
/-- a cell, filled if it lies below lo -/
def hb_C (V sc : Nat → Int32) (n : Nat) (VR : Nat → Nat → Prop) (g nm : Nat → Nat) (cc hp lo : Nat) (cv co ck ca cb cC : Nat → Int32) (c : Nat) : Prop :=
  g c < hp ∧ nm c < n ∧ ck (g c) = 5 ∧ ca (g c) = V (nm c) ∧ hb_E g nm cc (co c) (cC (g c)) (sc (nm c)) ∧ (c < lo → ∃ a b, cv c = nI a ∧ cb (g c) = nI b ∧ VR a b)
def hb_B (K : Nat → Nat) (V R sc : Nat → Int32) (n : Nat) (VR : Nat → Nat → Prop) (g nm : Nat → Nat) (vc cc hp lo : Nat) (vk vf vs cv co ck ca cb cC : Nat → Int32) : Prop :=
  (∀ i j, VR i j → i < vc ∧ j < hp ∧ hb_V K R sc n VR g nm cc vk vf vs ck ca cb i j) ∧
  (∀ c, c < cc → hb_C V sc n VR g nm cc hp lo cv co ck ca cb cC c) ∧
  (∀ c c', c < c' → c' < cc → g c < g c') ∧ 1 ≤ hp ∧ ck 0 = 2
def hb_u (f : Nat → Nat) (k v : Nat) : Nat → Nat := fun i => if i = k then v else f i
theorem hb_us {f : Nat → Nat} {k v : Nat} : hb_u f k v k = v := if_pos rfl
theorem hb_un {f : Nat → Nat} {k v i : Nat} (h : i ≠ k) : hb_u f k v i = f i := if_neg h
section
variable {K : Nat → Nat} {V R sc : Nat → Int32} {n : Nat} {VR VR' : Nat → Nat → Prop} {g nm g' nm' : Nat → Nat} {vc cc hp lo vc' cc' hp' : Nat} {vk vf vs cv co ck ca cb cC vk' vf' vs' cv' co' ck' ca' cb' cC' : Nat → Int32}
theorem hb_Em {c e s : Int32} (hc : cc ≤ cc') (hg : ∀ i, i < cc → g' i = g i ∧ nm' i = nm i) (h : hb_E g nm cc c e s) : hb_E g' nm' cc' c e s := by
  rcases h with h | ⟨i, hi, a, b, d⟩
  · exact Or.inl h
  · have q := hg i hi
    exact Or.inr ⟨i, by omega, a, by rw [q.1]; exact b, by rw [q.2]; exact d⟩
theorem hb_Vm {i j : Nat} (hVR : ∀ a b, VR a b → VR' a b) (hc : cc ≤ cc') (hg : ∀ i, i < cc → g' i = g i ∧ nm' i = nm i) (hx : vk' i = vk i ∧ vf' i = vf i ∧ vs' i = vs i) (hy : ck' j = ck j ∧ ca' j = ca j ∧ cb' j = cb j)
    (h : hb_V K R sc n VR g nm cc vk vf vs ck ca cb i j) : hb_V K R sc n VR' g' nm' cc' vk' vf' vs' ck' ca' cb' i j := by
  obtain ⟨x1, x2, x3⟩ := hx
  obtain ⟨y1, y2, y3⟩ := hy
  unfold hb_V
  rw [x1, x2, x3, y1, y2, y3]
  rcases h with h | h | ⟨h1, h2, a, b, a', b', h3, h4, h5, h6, h7, h8⟩ | ⟨h1, h2, q, h3, h4, h5, h6, h7, h8, h9⟩
  · exact Or.inl h
  · exact Or.inr (Or.inl h)
  · exact Or.inr (Or.inr (Or.inl ⟨h1, h2, a, b, a', b', h3, h4, h5, h6, hVR _ _ h7, hVR _ _ h8⟩))
  · exact Or.inr (Or.inr (Or.inr ⟨h1, h2, q, h3, h4, h5, h6, h7, h8, hb_Em hc hg h9⟩))
theorem hb_Cm {c : Nat} (hVR : ∀ a b, VR a b → VR' a b) (hc : cc ≤ cc') (hg : ∀ i, i < cc → g' i = g i ∧ nm' i = nm i) (hh : hp ≤ hp') (hcc : c < cc) (hx : cv' c = cv c ∧ co' c = co c) (hy : ∀ j, j < hp → ck' j = ck j ∧ ca' j = ca j ∧ cb' j = cb j ∧ cC' j = cC j)
    (h : hb_C V sc n VR g nm cc hp lo cv co ck ca cb cC c) : hb_C V sc n VR' g' nm' cc' hp' lo cv' co' ck' ca' cb' cC' c := by
  obtain ⟨h1, h2, h3, h4, h5, h6⟩ := h
  have q := hg c hcc
  have y := hy (g c) h1
  unfold hb_C
  rw [q.1, q.2, hx.1, hx.2, y.1, y.2.1, y.2.2.1, y.2.2.2]
  refine ⟨by omega, h2, h3, h4, hb_Em hc hg h5, fun z => ?_⟩
  obtain ⟨a, b, c1, c2, c3⟩ := h6 z
  exact ⟨a, b, c1, c2, hVR _ _ c3⟩
/-- values and pairs of values are added, no cell -/
theorem hb_add (hv : vc ≤ vc') (hh : hp ≤ hp') (hVR : ∀ a b, VR a b → VR' a b) (hx : ∀ i, i < vc → vk' i = vk i ∧ vf' i = vf i ∧ vs' i = vs i) (hy : ∀ j, j < hp → ck' j = ck j ∧ ca' j = ca j ∧ cb' j = cb j ∧ cC' j = cC j)
    (hcl : ∀ c, c < cc → cv' c = cv c ∧ co' c = co c)
    (hnew : ∀ i j, VR' i j → VR i j ∨ (i < vc' ∧ j < hp' ∧ hb_V K R sc n VR' g nm cc vk' vf' vs' ck' ca' cb' i j))
    (h : hb_B K V R sc n VR g nm vc cc hp lo vk vf vs cv co ck ca cb cC) : hb_B K V R sc n VR' g nm vc' cc hp' lo vk' vf' vs' cv' co' ck' ca' cb' cC' := by
  obtain ⟨b1, b2, b3, b4, b5⟩ := h
  refine ⟨fun i j hij => ?_, fun c hc => hb_Cm hVR (Nat.le_refl _) (fun _ _ => ⟨rfl, rfl⟩) hh hc (hcl c hc) hy (b2 c hc), b3, by omega, (hy 0 (by omega)).1.trans b5⟩
  rcases hnew i j hij with z | z
  · obtain ⟨q1, q2, q3⟩ := b1 i j z
    have y := hy j q2
    exact ⟨by omega, by omega, hb_Vm hVR (Nat.le_refl _) (fun _ _ => ⟨rfl, rfl⟩) (hx i q1) ⟨y.1, y.2.1, y.2.2.1⟩ q3⟩
  · exact z
/-- a cell is added on both sides, the arrays hold it already; e is its name's token -/
theorem hb_cell {e : Nat} (he : e < n) (hE : hb_E g nm cc (co cc) (cC hp) (sc e)) (hck : ck hp = 5) (hca : ca hp = V e) (lo' : Nat) (hlo : lo' = lo ∧ lo ≤ cc ∨ (lo' = cc + 1 ∧ lo = cc ∧ ∃ a b, cv cc = nI a ∧ cb hp = nI b ∧ VR a b))
    (h : hb_B K V R sc n VR g nm vc cc hp lo vk vf vs cv co ck ca cb cC) :
    hb_B K V R sc n VR (hb_u g cc hp) (hb_u nm cc e) vc (cc + 1) (hp + 1) lo' vk vf vs cv co ck ca cb cC := by
  obtain ⟨b1, b2, b3, b4, b5⟩ := h
  have hg : ∀ i, i < cc → hb_u g cc hp i = g i ∧ hb_u nm cc e i = nm i := fun i hi => ⟨hb_un (by omega), hb_un (by omega)⟩
  refine ⟨fun i j hij => ?_, fun c hc => ?_, fun c c' h1 h2 => ?_, by omega, b5⟩
  · obtain ⟨q1, q2, q3⟩ := b1 i j hij
    exact ⟨q1, by omega, hb_Vm (fun _ _ z => z) (by omega) hg ⟨rfl, rfl, rfl⟩ ⟨rfl, rfl, rfl⟩ q3⟩
  · by_cases z : c = cc
    · subst z
      unfold hb_C
      rw [hb_us, hb_us]
      refine ⟨by omega, he, hck, hca, hb_Em (by omega) hg hE, fun w => ?_⟩
      rcases hlo with w2 | ⟨_, _, w2⟩
      · omega
      · exact w2
    · have old := b2 c (by omega)
      have q : hb_C V sc n VR (hb_u g cc hp) (hb_u nm cc e) (cc + 1) (hp + 1) lo cv co ck ca cb cC c :=
        hb_Cm (fun _ _ z => z) (by omega) hg (by omega) (by omega) ⟨rfl, rfl⟩ (fun _ _ => ⟨rfl, rfl, rfl, rfl⟩) old
      rcases hlo with w | ⟨w1, w2, _⟩
      · rw [w.1]; exact q
      · exact ⟨q.1, q.2.1, q.2.2.1, q.2.2.2.1, q.2.2.2.2.1, fun _ => q.2.2.2.2.2 (by omega)⟩
  · by_cases z : c' = cc
    · subst z
      rw [hb_us, hb_un (by omega)]
      exact (b2 c (by omega)).1
    · rw [hb_un (by omega), hb_un z]
      exact b3 c c' h1 (by omega)
/-- the innermost cell when j are added to e0 at the place cc -/
def hb_e (e0 : Int32) (cc : Nat) : Nat → Int32
  | 0 => e0
  | j + 1 => nI (cc + j)
/-- the names so far, innermost first -/
def hb_s (s0 : Int32) (t : Nat → Nat) : Nat → Int32
  | 0 => s0
  | j + 1 => nI (t j)
/-- a cell gets its value -/
theorem hb_fill {c a b : Nat} (hc : c < cc) (hv : VR a b) (hx : cv' = upd cv c (nI a)) (hy : cb' = upd cb (g c) (nI b))
    (h : hb_B K V R sc n VR g nm vc cc hp lo vk vf vs cv co ck ca cb cC) (hl : lo ≤ c) :
    hb_B K V R sc n VR g nm vc cc hp lo vk vf vs cv' co ck ca cb' cC ∧ cv' c = nI a ∧ cb' (g c) = nI b ∧ (∀ c', c' < cc → c' ≠ c → cv' c' = cv c' ∧ cb' (g c') = cb (g c')) := by
  obtain ⟨b1, b2, b3, b4, b5⟩ := h
  have inj : ∀ c', c' < cc → c' ≠ c → g c' ≠ g c := fun c' h1 h2 e => by
    rcases Nat.lt_or_ge c' c with z | z
    · have := b3 c' c z hc; omega
    · have := b3 c c' (by omega) h1; omega
  have others : ∀ c', c' < cc → c' ≠ c → cv' c' = cv c' ∧ cb' (g c') = cb (g c') := fun c' h1 h2 => by
    rw [hx, hy]; exact ⟨pk_un h2, pk_un (inj c' h1 h2)⟩
  refine ⟨⟨fun i j hij => ?_, fun c' hc' => ?_, b3, b4, b5⟩, by rw [hx]; exact pk_us, by rw [hy]; exact pk_us, others⟩
  · obtain ⟨q1, q2, q3⟩ := b1 i j hij
    refine ⟨q1, q2, hb_Vm (fun _ _ z => z) (Nat.le_refl _) (fun _ _ => ⟨rfl, rfl⟩) ⟨rfl, rfl, rfl⟩ ⟨rfl, rfl, ?_⟩ q3⟩
    rw [hy]
    refine pk_un (fun e => ?_)
    have k5 := (b2 c hc).2.2.1
    rw [← e] at k5
    rcases q3 with w | w | w | w
    · rw [w.2.1] at k5; exact absurd k5 (by decide)
    · rw [w.2] at k5; exact absurd k5 (by decide)
    · rw [w.2.1] at k5; exact absurd k5 (by decide)
    · rw [w.2.1] at k5; exact absurd k5 (by decide)
  · obtain ⟨h1, h2, h3, h4, h5, h6⟩ := b2 c' hc'
    refine ⟨h1, h2, h3, h4, h5, fun z => ?_⟩
    have o := others c' hc' (by omega)
    rw [o.1, o.2]; exact h6 z
/-- k cells are added on both sides, filled or (fil = false) not -/
theorem hb_cells {c0 e0 s0 : Int32} {t : Nat → Nat} {k : Nat} {fil : Prop} (hE : hb_E g nm cc c0 e0 s0) (ht : ∀ j, j < k → t j < n ∧ sc (t j) = hb_s s0 t j)
    (hX : ∀ j, j < k → co (cc + j) = hb_e c0 cc j) (hY : ∀ j, j < k → ck (hp + j) = 5 ∧ ca (hp + j) = V (t j) ∧ cC (hp + j) = hb_e e0 hp j)
    (hf : fil → ∀ j, j < k → ∃ a b, cv (cc + j) = nI a ∧ cb (hp + j) = nI b ∧ VR a b)
    (h : hb_B K V R sc n VR g nm vc cc hp cc vk vf vs cv co ck ca cb cC) :
    ∃ g' nm', (∀ i, i < cc → g' i = g i ∧ nm' i = nm i) ∧ (∀ j, j < k → g' (cc + j) = hp + j ∧ nm' (cc + j) = t j) ∧ hb_E g' nm' (cc + k) (hb_e c0 cc k) (hb_e e0 hp k) (hb_s s0 t k) ∧
      hb_B K V R sc n VR g' nm' vc (cc + k) (hp + k) cc vk vf vs cv co ck ca cb cC ∧ (fil → hb_B K V R sc n VR g' nm' vc (cc + k) (hp + k) (cc + k) vk vf vs cv co ck ca cb cC) := by
  induction k with
  | zero => exact ⟨g, nm, fun _ _ => ⟨rfl, rfl⟩, fun j hj => by omega, hE, h, fun _ => h⟩
  | succ k ih =>
    obtain ⟨g', nm', a1, a2, a3, a4, a5⟩ := ih (fun j hj => ht j (by omega)) (fun j hj => hX j (by omega)) (fun j hj => hY j (by omega)) (fun z j hj => hf z j (by omega))
    have tk := ht k (by omega)
    have y := hY k (by omega)
    have x := hX k (by omega)
    have hEk : hb_E g' nm' (cc + k) (co (cc + k)) (cC (hp + k)) (sc (t k)) := by rw [x, y.2.2, tk.2]; exact a3
    refine ⟨hb_u g' (cc + k) (hp + k), hb_u nm' (cc + k) (t k), fun i hi => ?_, fun j hj => ?_, ?_, ?_, fun z => ?_⟩
    · rw [hb_un (by omega), hb_un (by omega)]; exact a1 i hi
    · by_cases z : j = k
      · subst z; rw [hb_us, hb_us]; exact ⟨rfl, rfl⟩
      · rw [hb_un (by omega), hb_un (by omega)]; exact a2 j (by omega)
    · refine Or.inr ⟨cc + k, by omega, rfl, ?_, ?_⟩
      · rw [hb_us]; rfl
      · rw [hb_us]; rfl
    · exact hb_cell tk.1 hEk y.1 y.2.1 cc (Or.inl ⟨rfl, by omega⟩) a4
    · exact hb_cell tk.1 hEk y.1 y.2.1 (cc + k + 1) (Or.inr ⟨rfl, rfl, hf z k (by omega)⟩) (a5 z)
/-- all cells filled: the bound goes up -/
theorem hb_full (h : hb_B K V R sc n VR g nm vc cc hp lo vk vf vs cv co ck ca cb cC) (hf : ∀ c, lo ≤ c → c < cc → ∃ a b, cv c = nI a ∧ cb (g c) = nI b ∧ VR a b) : hb_B K V R sc n VR g nm vc cc hp cc vk vf vs cv co ck ca cb cC := by
  obtain ⟨b1, b2, b3, b4, b5⟩ := h
  refine ⟨b1, fun c hc => ?_, b3, b4, b5⟩
  obtain ⟨h1, h2, h3, h4, h5, h6⟩ := b2 c hc
  refine ⟨h1, h2, h3, h4, h5, fun _ => ?_⟩
  rcases Nat.lt_or_ge c lo with z | z
  · exact h6 z
  · exact hf c z hc
end
end
section
/-! the component's turns -/
def rx_L (post : Int32 → SX → Prop) (f : Nat) (t : Int32) (u : SX) : Prop := match u with | (xdl, xtn, xpp, xvc, xcc, xfc, xoc, xag, xan, xex, xen, xfl, xac, xst, xsp, xmd, xrt, xcu, xtk, xtv, xaf, xro, xsc, xho, xvk, xvf, xvs, xcv, xco, xff, xfp, xfe, xfb, xop) => wX_run_16 post f t xdl xtn xpp xvc xcc xfc xoc xag xan xex xen xfl xac xst xsp xmd xrt xcu xtk xtv xaf xro xsc xho xvk xvf xvs xcv xco xff xfp xfe xfb xop
/-- a walk of h hops -/
def xh_W (co : Nat → Int32) : Nat → Int32 → Nat → Prop
  | 0, e, c => e = nI c
  | h + 1, e, c => ∃ c0, e = nI c0 ∧ c0 < 404 ∧ xh_W co h (co c0) c
def al_op (h : Nat) (x y : Int32) : Int32 := if h = 15 then x + y else if h = 16 then x - y else if h = 17 then x * y else if h = 18 then x / y else if h = 19 then (if x = y then 1 else 0) else (if y ≤ x then 0 else 1)
section
variable {xdl xtn xpp xvc xcc xfc xoc xag xan xex xen xfl xac xst xsp xmd xrt xcu : Int32} {xtk xtv xaf xro xsc xho xvk xvf xvs xcv xco xff xfp xfe xfb xop : Nat → Int32} {n : Nat}
theorem xr_E {post : Int32 → SX → Prop} {f t : Nat} (ht : t < 1600) (h : ∀ Q : SX → Prop, (∀ u', rx_L post f (nI (t + 1)) u' → Q u') → wpX_startExpr Q (xdl, xtn, xpp, xvc, xcc, xfc, xoc, 0, xan, xex, xen, xfl, xac, -1, xsp, xmd, xrt, xcu, xtk, xtv, xaf, xro, xsc, xho, xvk, xvf, xvs, xcv, xco, xff, xfp, xfe, xfb, xop)) : wX_run_16 post (f + 1) (nI t) xdl xtn xpp xvc xcc xfc xoc 0 xan xex xen xfl xac (-1) xsp xmd xrt xcu xtk xtv xaf xro xsc xho xvk xvf xvs xcv xco xff xfp xfe xfb xop := by
  refine pk_le 1600 t (fun z => by omega) (fun _ => br_t rfl (br_t rfl (h _ (fun u' hu => ?_))))
  obtain ⟨xdl, xtn, xpp, xvc, xcc, xfc, xoc, xag, xan, xex, xen, xfl, xac, xst, xsp, xmd, xrt, xcu, xtk, xtv, xaf, xro, xsc, xho, xvk, xvf, xvs, xcv, xco, xff, xfp, xfe, xfb, xop⟩ := u'
  exact nm_r (nI_1 t) hu
theorem xr_R {post : Int32 → SX → Prop} {f t : Nat} (ht : t < 1600) (h : ∀ Q : SX → Prop, (∀ u', rx_L post f (nI (t + 1)) u' → Q u') → wpX_handOverAnswer Q (xdl, xtn, xpp, xvc, xcc, xfc, xoc, 1, xan, xex, xen, xfl, xac, -1, xsp, xmd, xrt, xcu, xtk, xtv, xaf, xro, xsc, xho, xvk, xvf, xvs, xcv, xco, xff, xfp, xfe, xfb, xop)) : wX_run_16 post (f + 1) (nI t) xdl xtn xpp xvc xcc xfc xoc 1 xan xex xen xfl xac (-1) xsp xmd xrt xcu xtk xtv xaf xro xsc xho xvk xvf xvs xcv xco xff xfp xfe xfb xop := by
  refine pk_le 1600 t (fun z => by omega) (fun _ => br_t rfl (br_f (by decide) (h _ (fun u' hu => ?_))))
  obtain ⟨xdl, xtn, xpp, xvc, xcc, xfc, xoc, xag, xan, xex, xen, xfl, xac, xst, xsp, xmd, xrt, xcu, xtk, xtv, xaf, xro, xsc, xho, xvk, xvf, xvs, xcv, xco, xff, xfp, xfe, xfb, xop⟩ := u'
  exact nm_r (nI_1 t) hu
theorem xr_end {post : Int32 → SX → Prop} {f t : Nat} (ht : t < 1600) (hs : ¬ xst = -1) (h : post xst (xdl, xtn, xpp, xvc, xcc, xfc, xoc, xag, xan, xex, xen, xfl, xac, xst, xsp, xmd, xrt, xcu, xtk, xtv, xaf, xro, xsc, xho, xvk, xvf, xvs, xcv, xco, xff, xfp, xfe, xfb, xop)) : wX_run_16 post (f + 1) (nI t) xdl xtn xpp xvc xcc xfc xoc xag xan xex xen xfl xac xst xsp xmd xrt xcu xtk xtv xaf xro xsc xho xvk xvf xvs xcv xco xff xfp xfe xfb xop :=
  pk_le 1600 t (fun z => by omega) (fun _ => br_f hs h)
theorem xr_fuel {Q : SX → Prop} (hs : xsp = xfl) (h : Q (xdl, xtn, xpp, xvc, xcc, xfc, xoc, xag, xan, xex, xen, xfl, xac, 4, xsp, xmd, xrt, xcu, xtk, xtv, xaf, xro, xsc, xho, xvk, xvf, xvs, xcv, xco, xff, xfp, xfe, xfb, xop)) : wpX_startExpr Q (xdl, xtn, xpp, xvc, xcc, xfc, xoc, xag, xan, xex, xen, xfl, xac, xst, xsp, xmd, xrt, xcu, xtk, xtv, xaf, xro, xsc, xho, xvk, xvf, xvs, xcv, xco, xff, xfp, xfe, xfb, xop) := br_t hs h
theorem xr_lit (H : tk_ok xtk n) {q s F : Nat} (hq : q < n) (hk : tk_K xtk n q = 3 ∨ tk_K xtk n q = 5) (hs : s < F) (hF : F ≤ 400) {Q : SX → Prop} (h : Q (xdl, xtn, xpp, xvc, xcc, xfc, xoc, 1, nI q, nI q, xen, nI F, xac, xst, nI (s + 1), xmd, xrt, xcu, xtk, xtv, xaf, xro, xsc, xho, xvk, xvf, xvs, xcv, xco, xff, xfp, xfe, xfb, xop)) : wpX_startExpr Q (xdl, xtn, xpp, xvc, xcc, xfc, xoc, xag, xan, nI q, xen, nI F, xac, xst, nI s, xmd, xrt, xcu, xtk, xtv, xaf, xro, xsc, xho, xvk, xvf, xvs, xcv, xco, xff, xfp, xfe, xfb, xop) := by
  have k20 := tk_20 H q
  refine pk_eq s F (fun z => by omega) (fun _ => nm_r (nI_1 s) ⟨tk_in H hq, nm_r (tk_c H hq) (pk_eq (tk_K xtk n q) 1 (fun z => by omega) (fun _ => pk_eq (tk_K xtk n q) 4 (fun z => by omega) (fun _ => h)))⟩)
theorem xr_bvL {c h : Nat} (hc : c < 404) (hh : h < 2 ^ 20) {post : Int32 → Prop} (hp : post (xcv c)) : ∀ d x e, x + d = h → xh_W xco d e c → wX_boundValue_7 post (nI h) xdl xtn xpp xvc xcc xfc xoc xag xan xex xen xfl xac xst xsp xmd xrt xcu xtk xtv xaf xro xsc xho xvk xvf xvs xcv xco xff xfp xfe xfb xop (d + 1) e (nI x) := by
  intro d
  induction d with
  | zero =>
    intro x e ex w
    have w : e = nI c := w
    subst w
    refine pk_le h x (fun _ => ⟨vp_in_nI hc (by omega), ?_⟩) (fun z => by omega)
    rw [nI_clamp (by omega)]; exact hp
  | succ d ih =>
    intro x e ex w
    obtain ⟨c0, e0, l0, w⟩ := w
    subst e0
    refine pk_le h x (fun z => by omega) (fun _ => ⟨vp_in_nI l0 (by omega), nm_r (show xco (nI c0).toNatClampNeg = xco c0 from by rw [nI_clamp (by omega)]) (nm_r (nI_1 x) (ih (x + 1) (xco c0) (by omega) w))⟩)
theorem xr_bv {c h : Nat} (hc : c < 404) (hh : h < 2 ^ 20) {post : Int32 → Prop} (hp : post (xcv c)) (w : xh_W xco h xen c) : wpX_boundValue post (xdl, xtn, xpp, xvc, xcc, xfc, xoc, xag, xan, xex, xen, xfl, xac, xst, xsp, xmd, xrt, xcu, xtk, xtv, xaf, xro, xsc, xho, xvk, xvf, xvs, xcv, xco, xff, xfp, xfe, xfb, xop) (nI h) :=
  ⟨h + 1, xr_bvL hc hh hp h 0 xen (by omega) w⟩
theorem xr_sym (H : tk_ok xtk n) {q s F c h' : Nat} (hq : q < n) (hk : tk_K xtk n q = 4) (hs : s < F) (hF : F ≤ 400) (hc : c < 404) (hh : h' < 2 ^ 20) (ho : xho q = nI h') (w : xh_W xco h' xen c) {Q : SX → Prop} (h : Q (xdl, xtn, xpp, xvc, xcc, xfc, xoc, 1, xcv c, nI q, xen, nI F, xac, xst, nI (s + 1), xmd, xrt, xcu, xtk, xtv, xaf, xro, xsc, xho, xvk, xvf, xvs, xcv, xco, xff, xfp, xfe, xfb, xop)) : wpX_startExpr Q (xdl, xtn, xpp, xvc, xcc, xfc, xoc, xag, xan, nI q, xen, nI F, xac, xst, nI s, xmd, xrt, xcu, xtk, xtv, xaf, xro, xsc, xho, xvk, xvf, xvs, xcv, xco, xff, xfp, xfe, xfb, xop) := by
  have H1 := H.1
  have k20 := tk_20 H q
  refine pk_eq s F (fun z => by omega) (fun _ => nm_r (nI_1 s) ⟨tk_in H hq, nm_r (tk_c H hq) (pk_eq (tk_K xtk n q) 1 (fun z => by omega) (fun _ => pk_eq (tk_K xtk n q) 4 (fun _ => ⟨tk_in H hq, ?_⟩) (fun z => absurd hk z)))⟩)
  rw [nI_clamp (by omega), ho]
  exact xr_bv hc hh h w
/-- the steps before a form's own -/
theorem xr_form (H : tk_ok xtk n) {q s F : Nat} (hq : q < n) (hk : tk_K xtk n q = 1) (hs : s < F) (hF : F ≤ 400) {Q : SX → Prop} (h : wpX_startForm Q (xdl, xtn, xpp, xvc, xcc, xfc, xoc, xag, xan, nI q, xen, nI F, xac, xst, nI (s + 1), xmd, xrt, xcu, xtk, xtv, xaf, xro, xsc, xho, xvk, xvf, xvs, xcv, xco, xff, xfp, xfe, xfb, xop)) : wpX_startExpr Q (xdl, xtn, xpp, xvc, xcc, xfc, xoc, xag, xan, nI q, xen, nI F, xac, xst, nI s, xmd, xrt, xcu, xtk, xtv, xaf, xro, xsc, xho, xvk, xvf, xvs, xcv, xco, xff, xfp, xfe, xfb, xop) := by
  have k20 := tk_20 H q
  exact pk_eq s F (fun z => by omega) (fun _ => nm_r (nI_1 s) ⟨tk_in H hq, nm_r (tk_c H hq) (pk_eq (tk_K xtk n q) 1 (fun _ => h) (fun z => absurd hk z))⟩)
theorem xr_new {k f s : Int32} {vc : Nat} (hv : vc < 528) {Q : Int32 → SX → Prop} (h : Q (nI vc) (xdl, xtn, xpp, nI (vc + 1), xcc, xfc, xoc, xag, xan, xex, xen, xfl, xac, xst, xsp, xmd, xrt, xcu, xtk, xtv, xaf, xro, xsc, xho, upd xvk vc k, upd xvf vc f, upd xvs vc s, xcv, xco, xff, xfp, xfe, xfb, xop)) : wpX_newValue Q (xdl, xtn, xpp, nI vc, xcc, xfc, xoc, xag, xan, xex, xen, xfl, xac, xst, xsp, xmd, xrt, xcu, xtk, xtv, xaf, xro, xsc, xho, xvk, xvf, xvs, xcv, xco, xff, xfp, xfe, xfb, xop) k f s := by
  unfold wpX_newValue
  dsimp only
  exact xv_set hv (nm_r (nI_1 vc) h)
theorem xr_quote (H : tk_ok xtk n) {q : Nat} (hq : q + 1 < n) (hk : tk_K xtk n (q + 1) = 6) {Q : SX → Prop} (h : Q (xdl, xtn, xpp, xvc, xcc, xfc, xoc, 1, nI (q + 2), nI q, xen, xfl, xac, xst, xsp, xmd, xrt, xcu, xtk, xtv, xaf, xro, xsc, xho, xvk, xvf, xvs, xcv, xco, xff, xfp, xfe, xfb, xop)) : wpX_startForm Q (xdl, xtn, xpp, xvc, xcc, xfc, xoc, xag, xan, nI q, xen, xfl, xac, xst, xsp, xmd, xrt, xcu, xtk, xtv, xaf, xro, xsc, xho, xvk, xvf, xvs, xcv, xco, xff, xfp, xfe, xfb, xop) := by
  refine ⟨by rw [nI_1]; exact tk_in H hq, nm_r (show xtk (nI q + 1).toNatClampNeg = nI (tk_K xtk n (q + 1)) from by rw [nI_1]; exact tk_c H hq) ?_⟩
  rw [hk]
  exact pk_lt 6 6 (fun z => by omega) (fun _ => pk_lt 9 6 (fun z => by omega) (fun _ => pk_eq 6 6 (fun _ => nm_r (ni_2 q) h) (fun z => absurd rfl z)))
theorem xr_lam (H : tk_ok xtk n) {q vc : Nat} (hq : q + 1 < n) (hk : tk_K xtk n (q + 1) = 7) (hv : vc < 528) {Q : SX → Prop} (h : Q (xdl, xtn, xpp, nI (vc + 1), xcc, xfc, xoc, 1, nI vc, nI q, xen, xfl, xac, xst, xsp, xmd, xrt, xcu, xtk, xtv, xaf, xro, xsc, xho, upd xvk vc 4, upd xvf vc (nI q), upd xvs vc xen, xcv, xco, xff, xfp, xfe, xfb, xop)) : wpX_startForm Q (xdl, xtn, xpp, nI vc, xcc, xfc, xoc, xag, xan, nI q, xen, xfl, xac, xst, xsp, xmd, xrt, xcu, xtk, xtv, xaf, xro, xsc, xho, xvk, xvf, xvs, xcv, xco, xff, xfp, xfe, xfb, xop) := by
  refine ⟨by rw [nI_1]; exact tk_in H hq, nm_r (show xtk (nI q + 1).toNatClampNeg = nI (tk_K xtk n (q + 1)) from by rw [nI_1]; exact tk_c H hq) ?_⟩
  rw [hk]
  exact pk_lt 7 6 (fun z => by omega) (fun _ => pk_lt 9 7 (fun z => by omega) (fun _ => pk_eq 7 6 (fun z => by omega) (fun _ => pk_eq 7 7 (fun _ => xr_new hv h) (fun z => absurd rfl z))))
/-- a form's first part -/
def xp_1 (K a : Nat → Nat) (n q p : Nat) : Prop := ((K (q + 1) = 8 ∨ K (q + 1) = 9) ∧ p = q + 5) ∨ (10 ≤ K (q + 1) ∧ p = q + 2) ∨ (K (q + 1) < 6 ∧ K (q + 1) ≠ 2 ∧ a (q + 1) < n ∧ ((K (a (q + 1)) = 2 ∧ p = q + 1) ∨ (K (a (q + 1)) ≠ 2 ∧ p = a (q + 1))))
theorem xr_first (H : tk_ok xtk n) (A : xb_A (tk_K xtk n) n xaf) {q p : Nat} (hq : q + 1 < n) (hp : xp_1 (tk_K xtk n) (sk_f (tk_K xtk n) n) n q p) {post : Int32 → Prop} (h : post (nI p)) : wpX_firstPart post (xdl, xtn, xpp, xvc, xcc, xfc, xoc, xag, xan, xex, xen, xfl, xac, xst, xsp, xmd, xrt, xcu, xtk, xtv, xaf, xro, xsc, xho, xvk, xvf, xvs, xcv, xco, xff, xfp, xfe, xfb, xop) (nI q) := by
  have H1 := H.1
  have k20 := tk_20 H (q + 1)
  refine ⟨by rw [nI_1]; exact tk_in H hq, nm_r (show xtk (nI q + 1).toNatClampNeg = nI (tk_K xtk n (q + 1)) from by rw [nI_1]; exact tk_c H hq) ?_⟩
  rcases hp with ⟨k, e⟩ | ⟨k, e⟩ | ⟨k, k2, l, e⟩
  · subst e
    rw [ni_5]
    exact pk_eq (tk_K xtk n (q + 1)) 8 (fun _ => h) (fun z => pk_eq (tk_K xtk n (q + 1)) 9 (fun _ => h) (fun z2 => by omega))
  · subst e
    rw [ni_2]
    exact pk_eq (tk_K xtk n (q + 1)) 8 (fun z => by omega) (fun z => pk_eq (tk_K xtk n (q + 1)) 9 (fun z => by omega) (fun z2 => pk_lt (tk_K xtk n (q + 1)) 6 (fun z => by omega) (fun _ => h)))
  · refine pk_eq (tk_K xtk n (q + 1)) 8 (fun z => by omega) (fun z => pk_eq (tk_K xtk n (q + 1)) 9 (fun z => by omega) (fun z2 => pk_lt (tk_K xtk n (q + 1)) 6 (fun _ => ?_) (fun z => by omega)))
    rw [nI_1]
    refine ⟨tk_in H hq, nm_r (show xaf (nI (q + 1)).toNatClampNeg = nI (sk_f (tk_K xtk n) n (q + 1)) from by rw [nI_clamp (by omega)]; exact (A _ hq k2).2) ⟨tk_in H l, tk_b H l 2 (fun z => ?_) (fun z => ?_)⟩⟩
    · rcases e with e | e
      · rw [e.2] at h; exact h
      · exact absurd z e.1
    · rcases e with e | e
      · exact absurd e.1 z
      · rw [e.2] at h; exact h
theorem xr_opn (H : tk_ok xtk n) (A : xb_A (tk_K xtk n) n xaf) {q p fc : Nat} (hq : q + 1 < n) (hp : xp_1 (tk_K xtk n) (sk_f (tk_K xtk n) n) n q p) (hf : fc < 400) {Q : SX → Prop} (h : Q (xdl, xtn, xpp, xvc, xcc, nI (fc + 1), xoc, xag, xan, nI p, xen, xfl, xac, xst, xsp, xmd, xrt, xcu, xtk, xtv, xaf, xro, xsc, xho, xvk, xvf, xvs, xcv, xco, upd xff fc (nI q), upd xfp fc (nI p), upd xfe fc xen, upd xfb fc xoc, xop)) : wpX_openFrame Q (xdl, xtn, xpp, xvc, xcc, nI fc, xoc, xag, xan, nI q, xen, xfl, xac, xst, xsp, xmd, xrt, xcu, xtk, xtv, xaf, xro, xsc, xho, xvk, xvf, xvs, xcv, xco, xff, xfp, xfe, xfb, xop) := by
  have hi : vp_in (nI fc) 400 := vp_in_nI hf (by omega)
  have hc : (nI fc).toNatClampNeg = fc := nI_clamp (by omega)
  unfold wpX_openFrame
  dsimp only
  refine xr_first H A hq hp ⟨hi, nm_r (by rw [hc]) ⟨hi, nm_r (by rw [hc]) ⟨hi, nm_r (by rw [hc]) ⟨hi, nm_r (by rw [hc]) (nm_r (nI_1 fc) h)⟩⟩⟩⟩
theorem xr_open (H : tk_ok xtk n) (A : xb_A (tk_K xtk n) n xaf) {q p fc : Nat} (hq : q + 1 < n) (hp : xp_1 (tk_K xtk n) (sk_f (tk_K xtk n) n) n q p) (h9 : tk_K xtk n (q + 1) ≠ 9) (hf : fc < 400) {Q : SX → Prop} (h : Q (xdl, xtn, xpp, xvc, xcc, nI (fc + 1), xoc, xag, xan, nI p, xen, xfl, xac, xst, xsp, xmd, xrt, xcu, xtk, xtv, xaf, xro, xsc, xho, xvk, xvf, xvs, xcv, xco, upd xff fc (nI q), upd xfp fc (nI p), upd xfe fc xen, upd xfb fc xoc, xop)) : wpX_startForm Q (xdl, xtn, xpp, xvc, xcc, nI fc, xoc, xag, xan, nI q, xen, xfl, xac, xst, xsp, xmd, xrt, xcu, xtk, xtv, xaf, xro, xsc, xho, xvk, xvf, xvs, xcv, xco, xff, xfp, xfe, xfb, xop) := by
  have k20 := tk_20 H (q + 1)
  have O : wpX_openFrame Q (xdl, xtn, xpp, xvc, xcc, nI fc, xoc, xag, xan, nI q, xen, xfl, xac, xst, xsp, xmd, xrt, xcu, xtk, xtv, xaf, xro, xsc, xho, xvk, xvf, xvs, xcv, xco, xff, xfp, xfe, xfb, xop) := xr_opn H A hq hp hf h
  have k67 : tk_K xtk n (q + 1) ≠ 6 ∧ tk_K xtk n (q + 1) ≠ 7 := by
    rcases hp with ⟨k, _⟩ | ⟨k, _⟩ | ⟨k, _⟩ <;> omega
  refine ⟨by rw [nI_1]; exact tk_in H hq, nm_r (show xtk (nI q + 1).toNatClampNeg = nI (tk_K xtk n (q + 1)) from by rw [nI_1]; exact tk_c H hq) ?_⟩
  exact pk_lt (tk_K xtk n (q + 1)) 6 (fun _ => O) (fun z => pk_lt 9 (tk_K xtk n (q + 1)) (fun _ => O) (fun z2 => pk_eq (tk_K xtk n (q + 1)) 6 (fun z => absurd z k67.1) (fun _ => pk_eq (tk_K xtk n (q + 1)) 7 (fun z => absurd z k67.2) (fun _ => pk_eq (tk_K xtk n (q + 1)) 8 (fun _ => O) (fun z8 => pk_eq (tk_K xtk n (q + 1)) 9 (fun z => absurd z h9) (fun _ => trivial))))))
/-- cells: k of them from cc on -/
def xc_v (cv val : Nat → Int32) (cc : Nat) : Nat → Nat → Int32
  | 0 => cv
  | j + 1 => upd (xc_v cv val cc j) (cc + j) (val j)
theorem xc_vs {cv val : Nat → Int32} {cc : Nat} : ∀ {j i : Nat}, i < j → xc_v cv val cc j (cc + i) = val i
  | 0, _, h => by omega
  | j + 1, i, h => by
    by_cases z : i = j
    · subst z; exact pk_us
    · exact (pk_un (by omega)).trans (xc_vs (by omega))
theorem xc_vn {cv val : Nat → Int32} {cc i : Nat} (h : i < cc) : ∀ {j : Nat}, xc_v cv val cc j i = cv i
  | 0 => rfl
  | j + 1 => (pk_un (by omega)).trans (xc_vn h)
def xc_S (cv co : Nat → Int32) (val : Nat → Int32) (e0 : Int32) (cc j : Nat) (cv' co' : Nat → Int32) : Prop := cv' = xc_v cv val cc j ∧ co' = xc_v co (hb_e e0 cc) cc j
theorem xc_up {cv co val : Nat → Int32} {e0 x : Int32} {cc j : Nat} {cv' co' : Nat → Int32} (h : xc_S cv co val e0 cc j cv' co') (hx : x = val j) : xc_S cv co val e0 cc (j + 1) (upd cv' (cc + j) x) (upd co' (cc + j) (hb_e e0 cc j)) := by
  rw [h.1, h.2, hx]
  exact ⟨rfl, rfl⟩
theorem xc_add {cc : Nat} {v : Int32} (hc : cc < 404) {Q : SX → Prop} (h : Q (xdl, xtn, xpp, xvc, nI (cc + 1), xfc, xoc, xag, xan, xex, nI cc, xfl, xac, xst, xsp, xmd, xrt, xcu, xtk, xtv, xaf, xro, xsc, xho, xvk, xvf, xvs, upd xcv cc v, upd xco cc xen, xff, xfp, xfe, xfb, xop)) : wpX_addCell Q (xdl, xtn, xpp, xvc, nI cc, xfc, xoc, xag, xan, xex, xen, xfl, xac, xst, xsp, xmd, xrt, xcu, xtk, xtv, xaf, xro, xsc, xho, xvk, xvf, xvs, xcv, xco, xff, xfp, xfe, xfb, xop) v := by
  have hi : vp_in (nI cc) 404 := vp_in_nI hc (by omega)
  have hcl : (nI cc).toNatClampNeg = cc := nI_clamp (by omega)
  exact ⟨hi, nm_r (by rw [hcl]) ⟨hi, nm_r (by rw [hcl]) (nm_r (nI_1 cc) h)⟩⟩
theorem xc_cellsL {cc b k : Nat} (hc : cc + k ≤ 404) (hb : b + k ≤ 400) {Q : SX → Prop} (h : ∀ cv' co', xc_S xcv xco (fun i => xop (b + i)) xen cc k cv' co' → Q (xdl, xtn, xpp, xvc, nI (cc + k), xfc, xoc, xag, xan, xex, hb_e xen cc k, xfl, xac, xst, xsp, xmd, xrt, xcu, xtk, xtv, xaf, xro, xsc, xho, xvk, xvf, xvs, cv', co', xff, xfp, xfe, xfb, xop)) :
    ∀ d j (cv' co' : Nat → Int32), j + d = k → xc_S xcv xco (fun i => xop (b + i)) xen cc j cv' co' → wX_addCells_2 Q (nI b) (nI k) (d + 1) (nI j) xdl xtn xpp xvc (nI (cc + j)) xfc xoc xag xan xex (hb_e xen cc j) xfl xac xst xsp xmd xrt xcu xtk xtv xaf xro xsc xho xvk xvf xvs cv' co' xff xfp xfe xfb xop := by
  intro d
  induction d with
  | zero =>
    intro j cv' co' e S
    have ej : j = k := by omega
    subst ej
    exact pk_le j j (fun _ => h cv' co' S) (fun z => by omega)
  | succ d ih =>
    intro j cv' co' e S
    refine pk_le k j (fun z => by omega) (fun _ => ?_)
    rw [nI_add, nI_clamp (by omega)]
    refine ⟨vp_in_nI (by omega) (by omega), xc_add (xcv := cv') (xco := co') (by omega) (nm_r (nI_1 j) ?_)⟩
    exact ih (j + 1) _ _ (by omega) (xc_up S rfl)
theorem xc_cells {cc b k : Nat} (hc : cc + k ≤ 404) (hb : b + k ≤ 400) {Q : SX → Prop} (h : ∀ cv' co', xc_S xcv xco (fun i => xop (b + i)) xen cc k cv' co' → Q (xdl, xtn, xpp, xvc, nI (cc + k), xfc, xoc, xag, xan, xex, hb_e xen cc k, xfl, xac, xst, xsp, xmd, xrt, xcu, xtk, xtv, xaf, xro, xsc, xho, xvk, xvf, xvs, cv', co', xff, xfp, xfe, xfb, xop)) : wpX_addCells Q (xdl, xtn, xpp, xvc, nI cc, xfc, xoc, xag, xan, xex, xen, xfl, xac, xst, xsp, xmd, xrt, xcu, xtk, xtv, xaf, xro, xsc, xho, xvk, xvf, xvs, xcv, xco, xff, xfp, xfe, xfb, xop) (nI b) (nI k) :=
  ⟨k + 1, xc_cellsL hc hb h k 0 xcv xco (by omega) ⟨rfl, rfl⟩⟩
theorem xc_emptyL {cc k : Nat} (hc : cc + k ≤ 404) {Q : SX → Prop} (h : ∀ cv' co', xc_S xcv xco (fun _ => -1) xen cc k cv' co' → Q (xdl, xtn, xpp, xvc, nI (cc + k), xfc, xoc, xag, xan, xex, hb_e xen cc k, xfl, xac, xst, xsp, xmd, xrt, xcu, xtk, xtv, xaf, xro, xsc, xho, xvk, xvf, xvs, cv', co', xff, xfp, xfe, xfb, xop)) :
    ∀ d j (cv' co' : Nat → Int32), j + d = k → xc_S xcv xco (fun _ => -1) xen cc j cv' co' → wX_addEmptyCells_10 Q (nI k) (d + 1) (nI j) xdl xtn xpp xvc (nI (cc + j)) xfc xoc xag xan xex (hb_e xen cc j) xfl xac xst xsp xmd xrt xcu xtk xtv xaf xro xsc xho xvk xvf xvs cv' co' xff xfp xfe xfb xop := by
  intro d
  induction d with
  | zero =>
    intro j cv' co' e S
    have ej : j = k := by omega
    subst ej
    exact pk_le j j (fun _ => h cv' co' S) (fun z => by omega)
  | succ d ih =>
    intro j cv' co' e S
    refine pk_le k j (fun z => by omega) (fun _ => xc_add (xcv := cv') (xco := co') (by omega) (nm_r (nI_1 j) ?_))
    exact ih (j + 1) _ _ (by omega) (xc_up S rfl)
theorem xc_empty (H : tk_ok xtk n) (A : xb_A (tk_K xtk n) n xaf) {cc k q : Nat} (hc : cc + k ≤ 404) (lc : ls_C (tk_K xtk n) (sk_f (tk_K xtk n) n) (q + 3) k) {Q : SX → Prop} (h : ∀ cv' co', xc_S xcv xco (fun _ => -1) xen cc k cv' co' → Q (xdl, xtn, xpp, xvc, nI (cc + k), xfc, xoc, xag, xan, xex, hb_e xen cc k, xfl, xac, xst, xsp, xmd, xrt, xcu, xtk, xtv, xaf, xro, xsc, xho, xvk, xvf, xvs, cv', co', xff, xfp, xfe, xfb, xop)) : wpX_addEmptyCells Q (xdl, xtn, xpp, xvc, nI cc, xfc, xoc, xag, xan, xex, xen, xfl, xac, xst, xsp, xmd, xrt, xcu, xtk, xtv, xaf, xro, xsc, xho, xvk, xvf, xvs, xcv, xco, xff, xfp, xfe, xfb, xop) (nI q) := by
  unfold wpX_addEmptyCells
  dsimp only
  rw [ni_2]
  exact xi_items (i := q + 2) H A lc ⟨k + 1, xc_emptyL hc h k 0 xcv xco (by omega) ⟨rfl, rfl⟩⟩
theorem xr_letrec (H : tk_ok xtk n) (A : xb_A (tk_K xtk n) n xaf) {q fc cc k : Nat} (hq : q + 1 < n) (h9 : tk_K xtk n (q + 1) = 9) (hf : fc < 400) (hc : cc + k ≤ 404) (lc : ls_C (tk_K xtk n) (sk_f (tk_K xtk n) n) (q + 3) k) {Q : SX → Prop} (h : ∀ cv' co', xc_S xcv xco (fun _ => -1) xen cc k cv' co' → Q (xdl, xtn, xpp, xvc, nI (cc + k), nI (fc + 1), xoc, xag, xan, nI (q + 5), hb_e xen cc k, xfl, xac, xst, xsp, xmd, xrt, xcu, xtk, xtv, xaf, xro, xsc, xho, xvk, xvf, xvs, cv', co', upd xff fc (nI q), upd xfp fc (nI (q + 5)), upd xfe fc (hb_e xen cc k), upd xfb fc xoc, xop)) : wpX_startForm Q (xdl, xtn, xpp, xvc, nI cc, nI fc, xoc, xag, xan, nI q, xen, xfl, xac, xst, xsp, xmd, xrt, xcu, xtk, xtv, xaf, xro, xsc, xho, xvk, xvf, xvs, xcv, xco, xff, xfp, xfe, xfb, xop) := by
  refine ⟨by rw [nI_1]; exact tk_in H hq, nm_r (show xtk (nI q + 1).toNatClampNeg = nI (tk_K xtk n (q + 1)) from by rw [nI_1]; exact tk_c H hq) ?_⟩
  rw [h9]
  refine pk_lt 9 6 (fun z => by omega) (fun z => pk_lt 9 9 (fun z => by omega) (fun z2 => pk_eq 9 6 (fun z => by omega) (fun _ => pk_eq 9 7 (fun z => by omega) (fun _ => pk_eq 9 8 (fun z => by omega) (fun z8 => pk_eq 9 9 (fun _ => ?_) (fun z => absurd rfl z))))))
  refine xc_empty H A hc lc (fun cv' co' S => ?_)
  exact xr_opn (xcv := cv') (xco := co') (xen := hb_e xen cc k) H A hq (Or.inl ⟨Or.inr h9, rfl⟩) hf (h cv' co' S)
end
end
section
/-- the part behind a part -/
def xp_A (K a : Nat → Nat) (n q p : Nat) (r : Int32) : Prop := p < n ∧ K p ≠ 2 ∧
  ((K (q + 1) = 10 ∧ r = -1) ∨ (K (q + 1) < 6 ∧ p = q + 1 ∧ r = -1) ∨
   ((K (q + 1) = 8 ∨ K (q + 1) = 9) ∧ p ≠ q + 1 ∧ a p + 1 < n ∧ ((K (a p + 1) = 2 ∧ r = -1) ∨ (K (a p + 1) ≠ 2 ∧ r = nI (a p + 3)))) ∨
   ((K (q + 1) < 6 ∨ 10 < K (q + 1)) ∧ p ≠ q + 1 ∧ a p < n ∧ ((K (a p) ≠ 2 ∧ r = nI (a p)) ∨ (K (a p) = 2 ∧ K (q + 1) < 6 ∧ r = nI (q + 1)) ∨ (K (a p) = 2 ∧ 6 ≤ K (q + 1) ∧ r = -1))))
section
variable {xdl xtn xpp xvc xcc xfc xoc xag xan xex xen xfl xac xst xsp xmd xrt xcu : Int32} {xtk xtv xaf xro xsc xho xvk xvf xvs xcv xco xff xfp xfe xfb xop : Nat → Int32} {n : Nat}
theorem xr_pa (H : tk_ok xtk n) (A : xb_A (tk_K xtk n) n xaf) {q p : Nat} {r : Int32} (hq : q + 1 < n) (hA : xp_A (tk_K xtk n) (sk_f (tk_K xtk n) n) n q p r) {post : Int32 → Prop} (h : post r) : wpX_partAfter post (xdl, xtn, xpp, xvc, xcc, xfc, xoc, xag, xan, xex, xen, xfl, xac, xst, xsp, xmd, xrt, xcu, xtk, xtv, xaf, xro, xsc, xho, xvk, xvf, xvs, xcv, xco, xff, xfp, xfe, xfb, xop) (nI q) (nI p) := by
  have H1 := H.1
  have k20 := tk_20 H (q + 1)
  obtain ⟨hp, kp, hA⟩ := hA
  refine ⟨by rw [nI_1]; exact tk_in H hq, nm_r (show xtk (nI q + 1).toNatClampNeg = nI (tk_K xtk n (q + 1)) from by rw [nI_1]; exact tk_c H hq) ⟨tk_in H hp, nm_r (show xaf (nI p).toNatClampNeg = nI (sk_f (tk_K xtk n) n p) from by rw [nI_clamp (by omega)]; exact (A p hp kp).2) ?_⟩⟩
  rw [nI_1 q]
  have f44 : ∀ (l : sk_f (tk_K xtk n) n p + 1 < n), ((tk_K xtk n (sk_f (tk_K xtk n) n p + 1) = 2 ∧ r = -1) ∨ (tk_K xtk n (sk_f (tk_K xtk n) n p + 1) ≠ 2 ∧ r = nI (sk_f (tk_K xtk n) n p + 3))) → wX_partAfter_44 post (nI (sk_f (tk_K xtk n) n p)) xdl xtn xpp xvc xcc xfc xoc xag xan xex xen xfl xac xst xsp xmd xrt xcu xtk xtv xaf xro xsc xho xvk xvf xvs xcv xco xff xfp xfe xfb xop := by
    intro l e
    unfold wX_partAfter_44
    rw [nI_1, ni_3]
    refine ⟨tk_in H l, tk_b H l 2 (fun z => ?_) (fun z => ?_)⟩
    · rcases e with e | e
      · rw [e.2] at h; exact h
      · exact absurd z e.1
    · rcases e with e | e
      · exact absurd e.1 z
      · rw [e.2] at h; exact h
  refine pk_eq (tk_K xtk n (q + 1)) 10 (fun k10 => ?_) (fun k10 => pk_eq p (q + 1) (fun ep => ?_) (fun ep => pk_eq (tk_K xtk n (q + 1)) 8 (fun k8 => ?_) (fun k8 => pk_eq (tk_K xtk n (q + 1)) 9 (fun k9 => ?_) (fun k9 => ?_))))
  · rcases hA with ⟨_, e⟩ | ⟨z, _⟩ | ⟨z, _⟩ | ⟨z, _⟩
    · rw [e] at h; exact h
    · omega
    · omega
    · omega
  · rcases hA with ⟨z, e⟩ | ⟨_, _, e⟩ | ⟨_, z, _⟩ | ⟨_, z, _⟩
    · omega
    · rw [e] at h; exact h
    · exact absurd ep z
    · exact absurd ep z
  · rcases hA with ⟨z, e⟩ | ⟨_, z, e⟩ | ⟨_, _, l, e⟩ | ⟨z, _⟩
    · omega
    · exact absurd z ep
    · exact f44 l e
    · omega
  · rcases hA with ⟨z, e⟩ | ⟨_, z, e⟩ | ⟨_, _, l, e⟩ | ⟨z, _⟩
    · omega
    · exact absurd z ep
    · exact f44 l e
    · omega
  · rcases hA with ⟨z, e⟩ | ⟨_, z, e⟩ | ⟨z, _⟩ | ⟨_, _, l, e⟩
    · omega
    · exact absurd z ep
    · omega
    · refine ⟨tk_in H l, tk_b H l 2 (fun z => pk_lt (tk_K xtk n (q + 1)) 6 (fun k6 => ?_) (fun k6 => ?_)) (fun z => ?_)⟩
      · rcases e with ⟨y, _⟩ | ⟨_, _, e⟩ | ⟨_, y, _⟩
        · exact absurd z y
        · rw [e] at h; exact h
        · omega
      · rcases e with ⟨y, _⟩ | ⟨_, y, _⟩ | ⟨_, _, e⟩
        · exact absurd z y
        · omega
        · rw [e] at h; exact h
      · rcases e with ⟨_, e⟩ | ⟨y, _⟩ | ⟨y, _⟩
        · rw [e] at h; exact h
        · exact absurd y z
        · exact absurd y z
theorem xr_fin {Q : SX → Prop} (h : Q (xdl, xtn, xpp, xvc, xcc, nI 0, xoc, xag, xan, xex, xen, xfl, xac, 0, xsp, xmd, xan, xan, xtk, xtv, xaf, xro, xsc, xho, xvk, xvf, xvs, xcv, xco, xff, xfp, xfe, xfb, xop)) : wpX_handOverAnswer Q (xdl, xtn, xpp, xvc, xcc, nI 0, xoc, xag, xan, xex, xen, xfl, xac, xst, xsp, xmd, xrt, xcu, xtk, xtv, xaf, xro, xsc, xho, xvk, xvf, xvs, xcv, xco, xff, xfp, xfe, xfb, xop) := br_t rfl h
theorem xr_ret {x : Nat} (hx : x < 400) (hp : xfp x = -1) {Q : SX → Prop} (h : Q (xdl, xtn, xpp, xvc, xcc, nI x, xoc, xag, xan, xex, xen, xfl, xac - 1, xst, xsp, xmd, xrt, xcu, xtk, xtv, xaf, xro, xsc, xho, xvk, xvf, xvs, xcv, xco, xff, xfp, xfe, xfb, xop)) : wpX_handOverAnswer Q (xdl, xtn, xpp, xvc, xcc, nI (x + 1), xoc, xag, xan, xex, xen, xfl, xac, xst, xsp, xmd, xrt, xcu, xtk, xtv, xaf, xro, xsc, xho, xvk, xvf, xvs, xcv, xco, xff, xfp, xfe, xfb, xop) := by
  have hc : (nI x).toNatClampNeg = x := nI_clamp (by omega)
  refine pk_eq (x + 1) 0 (fun z => by omega) (fun _ => nm_r (nI_pred x) ⟨vp_in_nI hx (by omega), br_t (by rw [hc]; exact hp) (nm_e (nm_r (nI_pred x) h))⟩)
theorem xr_more (H : tk_ok xtk n) (A : xb_A (tk_K xtk n) n xaf) {x oc q p p' : Nat} (hx : x < 400) (ho : oc < 400) (hq : q + 1 < n) (hff : xff x = nI q) (hfp : xfp x = nI p) (hp' : p' < 2 ^ 20) (hA : xp_A (tk_K xtk n) (sk_f (tk_K xtk n) n) n q p (nI p')) {Q : SX → Prop} (h : Q (xdl, xtn, xpp, xvc, xcc, nI (x + 1), nI (oc + 1), 0, xan, nI p', xfe x, xfl, xac, xst, xsp, xmd, xrt, xcu, xtk, xtv, xaf, xro, xsc, xho, xvk, xvf, xvs, xcv, xco, xff, upd xfp x (nI p'), xfe, xfb, upd xop oc xan)) : wpX_handOverAnswer Q (xdl, xtn, xpp, xvc, xcc, nI (x + 1), nI oc, xag, xan, xex, xen, xfl, xac, xst, xsp, xmd, xrt, xcu, xtk, xtv, xaf, xro, xsc, xho, xvk, xvf, xvs, xcv, xco, xff, xfp, xfe, xfb, xop) := by
  have H1 := H.1
  have hpn := hA.1
  have hc : (nI x).toNatClampNeg = x := nI_clamp (by omega)
  have hco : (nI oc).toNatClampNeg = oc := nI_clamp (by omega)
  have hi : vp_in (nI x) 400 := vp_in_nI hx (by omega)
  refine pk_eq (x + 1) 0 (fun z => by omega) (fun _ => nm_r (nI_pred x) ⟨hi, br_f (by rw [hc, hfp]; exact ni_nm1 (by omega)) ⟨vp_in_nI ho (by omega), nm_e (nm_r (nI_1 oc) ⟨hi, hi, ?_⟩)⟩⟩)
  rw [hc, hff, hfp, hco]
  exact xr_pa H A hq hA ⟨hi, nm_e (br_f (ni_nm1 (by omega)) ⟨hi, h⟩)⟩
theorem xr_last (H : tk_ok xtk n) (A : xb_A (tk_K xtk n) n xaf) {x oc q p : Nat} (hx : x < 400) (ho : oc < 400) (hq : q + 1 < n) (hff : xff x = nI q) (hfp : xfp x = nI p) (hA : xp_A (tk_K xtk n) (sk_f (tk_K xtk n) n) n q p (-1)) {Q : SX → Prop} (h : wpX_finishForm Q (xdl, xtn, xpp, xvc, xcc, nI (x + 1), nI (oc + 1), xag, xan, xex, xen, xfl, xac, xst, xsp, xmd, xrt, xcu, xtk, xtv, xaf, xro, xsc, xho, xvk, xvf, xvs, xcv, xco, xff, upd xfp x (-1), xfe, xfb, upd xop oc xan) (nI x)) : wpX_handOverAnswer Q (xdl, xtn, xpp, xvc, xcc, nI (x + 1), nI oc, xag, xan, xex, xen, xfl, xac, xst, xsp, xmd, xrt, xcu, xtk, xtv, xaf, xro, xsc, xho, xvk, xvf, xvs, xcv, xco, xff, xfp, xfe, xfb, xop) := by
  have H1 := H.1
  have hpn := hA.1
  have hc : (nI x).toNatClampNeg = x := nI_clamp (by omega)
  have hco : (nI oc).toNatClampNeg = oc := nI_clamp (by omega)
  have hi : vp_in (nI x) 400 := vp_in_nI hx (by omega)
  refine pk_eq (x + 1) 0 (fun z => by omega) (fun _ => nm_r (nI_pred x) ⟨hi, br_f (by rw [hc, hfp]; exact ni_nm1 (by omega)) ⟨vp_in_nI ho (by omega), nm_e (nm_r (nI_1 oc) ⟨hi, hi, ?_⟩)⟩⟩)
  rw [hc, hff, hfp, hco]
  exact xr_pa H A hq hA ⟨hi, nm_e (br_t rfl h)⟩
theorem xh_body (H : tk_ok xtk n) (A : xb_A (tk_K xtk n) n xaf) {q : Nat} (h2 : q + 2 < n) (k2 : tk_K xtk n (q + 2) ≠ 2) {Q : SX → Prop} (h : Q (xdl, xtn, xpp, xvc, xcc, xfc, xoc, 0, xan, nI (sk_f (tk_K xtk n) n (q + 2)), xen, xfl, xac, xst, xsp, xmd, xrt, xcu, xtk, xtv, xaf, xro, xsc, xho, xvk, xvf, xvs, xcv, xco, xff, xfp, xfe, xfb, xop)) : wpX_evaluateBody Q (xdl, xtn, xpp, xvc, xcc, xfc, xoc, xag, xan, xex, xen, xfl, xac, xst, xsp, xmd, xrt, xcu, xtk, xtv, xaf, xro, xsc, xho, xvk, xvf, xvs, xcv, xco, xff, xfp, xfe, xfb, xop) (nI q) := by
  unfold wpX_evaluateBody
  dsimp only
  exact xs_body H A h2 k2 h
theorem xF_if (H : tk_ok xtk n) (A : xb_A (tk_K xtk n) n xaf) {x b q a : Nat} (hx : x < 400) (hb : b < 400) (ha : a < 528) (hff : xff x = nI q) (hfb : xfb x = nI b) (h10 : tk_K xtk n (q + 1) = 10) (h2 : q + 2 < n) (k2 : tk_K xtk n (q + 2) ≠ 2) (h3 : sk_f (tk_K xtk n) n (q + 2) < n) (k3 : tk_K xtk n (sk_f (tk_K xtk n) n (q + 2)) ≠ 2) (hop : xop b = nI a) {Q : SX → Prop}
    (h6 : xvk a ≠ 1 → Q (xdl, xtn, xpp, xvc, xcc, nI x, nI b, xag, xan, xex, xfe x, xfl, xac, 6, xsp, xmd, xrt, xcu, xtk, xtv, xaf, xro, xsc, xho, xvk, xvf, xvs, xcv, xco, xff, xfp, xfe, xfb, xop)) (h1 : xvk a = 1 → ∀ t, (xvf a = 0 → t = sk_f (tk_K xtk n) n (sk_f (tk_K xtk n) n (q + 2))) → (xvf a ≠ 0 → t = sk_f (tk_K xtk n) n (q + 2)) → Q (xdl, xtn, xpp, xvc, xcc, nI x, nI b, 0, xan, nI t, xfe x, xfl, xac, xst, xsp, xmd, xrt, xcu, xtk, xtv, xaf, xro, xsc, xho, xvk, xvf, xvs, xcv, xco, xff, xfp, xfe, xfb, xop)) : wpX_finishForm Q (xdl, xtn, xpp, xvc, xcc, nI (x + 1), nI (b + 1), xag, xan, xex, xen, xfl, xac, xst, xsp, xmd, xrt, xcu, xtk, xtv, xaf, xro, xsc, xho, xvk, xvf, xvs, xcv, xco, xff, xfp, xfe, xfb, xop) (nI x) := by
  have H1 := H.1
  have hc : (nI x).toNatClampNeg = x := nI_clamp (by omega)
  have hcb : (nI b).toNatClampNeg = b := nI_clamp (by omega)
  have hca : (nI a).toNatClampNeg = a := nI_clamp (by omega)
  have hi : vp_in (nI x) 400 := vp_in_nI hx (by omega)
  have hia : vp_in (nI a) 528 := vp_in_nI ha (by omega)
  refine ⟨hi, nm_r (show xff (nI x).toNatClampNeg = nI q from by rw [hc]; exact hff) ⟨hi, nm_r (show xfb (nI x).toNatClampNeg = nI b from by rw [hc]; exact hfb) (nm_e ⟨by rw [nI_1]; exact tk_in H (by omega), nm_r (show xtk (nI q + 1).toNatClampNeg = nI 10 from by rw [nI_1, tk_c H (by omega), h10]) ?_⟩)⟩⟩
  refine pk_le 6 10 (fun _ => nm_r (nI_pred x) ⟨hi, nm_r (show xfe (nI x).toNatClampNeg = xfe x from by rw [hc]) ?_⟩) (fun z => by omega)
  refine pk_lt 10 8 (fun z => by omega) (fun _ => pk_lt 14 10 (fun z => by omega) (fun _ => pk_eq 10 8 (fun z => by omega) (fun _ => pk_eq 10 9 (fun z => by omega) (fun _ => pk_eq 10 10 (fun _ => ⟨vp_in_nI hb (by omega), ?_⟩) (fun z => absurd rfl z)))))
  rw [hcb, hop]
  unfold wpX_chooseBranch
  dsimp only
  rw [ni_2]
  refine ⟨tk_in H h2, nm_r (show xaf (nI (q + 2)).toNatClampNeg = nI (sk_f (tk_K xtk n) n (q + 2)) from by rw [nI_clamp (by omega)]; exact (A _ h2 k2).2) ⟨hia, ?_⟩⟩
  rw [hca]
  by_cases v1 : xvk a = 1
  · refine br_t v1 ⟨hia, ?_⟩
    by_cases v0 : xvf a = 0
    · refine br_t v0 ⟨tk_in H h3, ?_⟩
      rw [nI_clamp (by omega), (A _ h3 k3).2]
      exact h1 v1 _ (fun _ => rfl) (fun z => absurd v0 z)
    · exact br_f v0 (h1 v1 _ (fun z => absurd z v0) (fun _ => rfl))
  · exact br_f v1 (h6 v1)
theorem xF_let (H : tk_ok xtk n) (A : xb_A (tk_K xtk n) n xaf) {x b q k cc : Nat} (hx : x < 400) (hb : b + k ≤ 400) (hcc : cc + k ≤ 404) (hff : xff x = nI q) (hfb : xfb x = nI b) (h8 : tk_K xtk n (q + 1) = 8) (h2 : q + 2 < n) (k2 : tk_K xtk n (q + 2) ≠ 2) {Q : SX → Prop}
    (h : ∀ cv' co', xc_S xcv xco (fun i => xop (b + i)) (xfe x) cc k cv' co' → Q (xdl, xtn, xpp, xvc, nI (cc + k), nI x, nI b, 0, xan, nI (sk_f (tk_K xtk n) n (q + 2)), hb_e (xfe x) cc k, xfl, xac, xst, xsp, xmd, xrt, xcu, xtk, xtv, xaf, xro, xsc, xho, xvk, xvf, xvs, cv', co', xff, xfp, xfe, xfb, xop)) : wpX_finishForm Q (xdl, xtn, xpp, xvc, nI cc, nI (x + 1), nI (b + k), xag, xan, xex, xen, xfl, xac, xst, xsp, xmd, xrt, xcu, xtk, xtv, xaf, xro, xsc, xho, xvk, xvf, xvs, xcv, xco, xff, xfp, xfe, xfb, xop) (nI x) := by
  have H1 := H.1
  have hc : (nI x).toNatClampNeg = x := nI_clamp (by omega)
  have hi : vp_in (nI x) 400 := vp_in_nI hx (by omega)
  refine ⟨hi, nm_r (show xff (nI x).toNatClampNeg = nI q from by rw [hc]; exact hff) ⟨hi, nm_r (show xfb (nI x).toNatClampNeg = nI b from by rw [hc]; exact hfb) (nm_r (show nI (b + k) - nI b = nI k from by rw [pk_sub (by omega), show b + k - b = k from by omega]) ⟨by rw [nI_1]; exact tk_in H (by omega), nm_r (show xtk (nI q + 1).toNatClampNeg = nI 8 from by rw [nI_1, tk_c H (by omega), h8]) ?_⟩)⟩⟩
  refine pk_le 6 8 (fun _ => nm_r (nI_pred x) ⟨hi, nm_r (show xfe (nI x).toNatClampNeg = xfe x from by rw [hc]) ?_⟩) (fun z => by omega)
  refine pk_lt 8 8 (fun z => by omega) (fun _ => pk_lt 14 8 (fun z => by omega) (fun _ => pk_eq 8 8 (fun _ => ?_) (fun z => absurd rfl z)))
  exact xc_cells (xen := xfe x) hcc hb (fun cv' co' S => xh_body (xcv := cv') (xco := co') H A h2 k2 (h cv' co' S))
theorem xF_fillL {b c0 k : Nat} {e0 : Int32} (hb : b + k ≤ 400) (hc : c0 + k ≤ 404) (hco : ∀ i, i < k → xco (c0 + i) = hb_e e0 c0 i) {Q : SX → Prop} (h : ∀ cv', (∀ i, i < k → cv' (c0 + i) = xop (b + i)) → (∀ c, (∀ i, i < k → c ≠ c0 + i) → cv' c = xcv c) → Q (xdl, xtn, xpp, xvc, xcc, xfc, xoc, xag, xan, xex, xen, xfl, xac, xst, xsp, xmd, xrt, xcu, xtk, xtv, xaf, xro, xsc, xho, xvk, xvf, xvs, cv', xco, xff, xfp, xfe, xfb, xop)) :
    ∀ j (cv' : Nat → Int32), j ≤ k → (∀ i, j ≤ i → i < k → cv' (c0 + i) = xop (b + i)) → (∀ c, (∀ i, j ≤ i → i < k → c ≠ c0 + i) → cv' c = xcv c) → wX_fillCells_10 Q (nI b) xdl xtn xpp xvc xcc xfc xoc xag xan xex xen xfl xac xst xsp xmd xrt xcu (j + 1) (hb_e e0 c0 j) (nI j - 1) xtk xtv xaf xro xsc xho xvk xvf xvs cv' xco xff xfp xfe xfb xop := by
  intro j
  induction j with
  | zero =>
    intro cv' hj h1 h2
    exact br_t (show (nI 0 - 1 : Int32) < 0 from by decide) (h cv' (fun i hi => h1 i (by omega) hi) (fun c hc' => h2 c (fun i _ hi => hc' i hi)))
  | succ j ih =>
    intro cv' hj h1 h2
    rw [nI_pred j]
    refine br_f (nI_pos (by omega)) ?_
    rw [nI_add, nI_clamp (n := b + j) (by omega)]
    have hi : vp_in (nI (c0 + j)) 404 := vp_in_nI (by omega) (by omega)
    have hcl : (nI (c0 + j)).toNatClampNeg = c0 + j := nI_clamp (by omega)
    refine ⟨vp_in_nI (by omega) (by omega), hi, fun cv5 e5 => ⟨hi, nm_r (show xco (nI (c0 + j)).toNatClampNeg = hb_e e0 c0 j from by rw [hcl]; exact hco j (by omega)) (nm_r (show nI j + -1 = nI j - 1 from (Int32.sub_eq_add_neg (nI j) 1).symm) ?_)⟩⟩
    have e5' : cv5 = upd cv' (c0 + j) (xop (b + j)) := by rw [e5]; exact congrArg (fun z => upd cv' z (xop (b + j))) hcl
    refine ih cv5 (by omega) (fun i i1 i2 => ?_) (fun c hc' => ?_)
    · rw [e5']
      by_cases z : i = j
      · subst z; exact pk_us
      · rw [pk_un (by omega)]; exact h1 i (by omega) i2
    · rw [e5', pk_un (hc' j (Nat.le_refl _) (by omega))]
      exact h2 c (fun i i1 i2 => hc' i (by omega) i2)
theorem xF_letrec (H : tk_ok xtk n) (A : xb_A (tk_K xtk n) n xaf) {x b q k c0 : Nat} {e0 : Int32} (hx : x < 400) (hb : b + k ≤ 400) (hcc : c0 + k ≤ 404) (hff : xff x = nI q) (hfb : xfb x = nI b) (hfe : xfe x = hb_e e0 c0 k) (hco : ∀ i, i < k → xco (c0 + i) = hb_e e0 c0 i) (h9 : tk_K xtk n (q + 1) = 9) (h2 : q + 2 < n) (k2 : tk_K xtk n (q + 2) ≠ 2) {Q : SX → Prop}
    (h : ∀ cv', (∀ i, i < k → cv' (c0 + i) = xop (b + i)) → (∀ c, (∀ i, i < k → c ≠ c0 + i) → cv' c = xcv c) → Q (xdl, xtn, xpp, xvc, xcc, nI x, nI b, 0, xan, nI (sk_f (tk_K xtk n) n (q + 2)), hb_e e0 c0 k, xfl, xac, xst, xsp, xmd, xrt, xcu, xtk, xtv, xaf, xro, xsc, xho, xvk, xvf, xvs, cv', xco, xff, xfp, xfe, xfb, xop)) : wpX_finishForm Q (xdl, xtn, xpp, xvc, xcc, nI (x + 1), nI (b + k), xag, xan, xex, xen, xfl, xac, xst, xsp, xmd, xrt, xcu, xtk, xtv, xaf, xro, xsc, xho, xvk, xvf, xvs, xcv, xco, xff, xfp, xfe, xfb, xop) (nI x) := by
  have H1 := H.1
  have hc : (nI x).toNatClampNeg = x := nI_clamp (by omega)
  have hi : vp_in (nI x) 400 := vp_in_nI hx (by omega)
  refine ⟨hi, nm_r (show xff (nI x).toNatClampNeg = nI q from by rw [hc]; exact hff) ⟨hi, nm_r (show xfb (nI x).toNatClampNeg = nI b from by rw [hc]; exact hfb) (nm_r (show nI (b + k) - nI b = nI k from by rw [pk_sub (by omega), show b + k - b = k from by omega]) ⟨by rw [nI_1]; exact tk_in H (by omega), nm_r (show xtk (nI q + 1).toNatClampNeg = nI 9 from by rw [nI_1, tk_c H (by omega), h9]) ?_⟩)⟩⟩
  refine pk_le 6 9 (fun _ => nm_r (nI_pred x) ⟨hi, nm_r (show xfe (nI x).toNatClampNeg = hb_e e0 c0 k from by rw [hc]; exact hfe) ?_⟩) (fun z => by omega)
  refine pk_lt 9 8 (fun z => by omega) (fun _ => pk_lt 14 9 (fun z => by omega) (fun _ => pk_eq 9 8 (fun z => by omega) (fun _ => pk_eq 9 9 (fun _ => nm_e ⟨k + 1, ?_⟩) (fun z => absurd rfl z))))
  exact xF_fillL hb hcc hco (fun cv' s1 s2 => xh_body (xcv := cv') H A h2 k2 (h cv' s1 s2)) k xcv (Nat.le_refl _) (fun i i1 i2 => by omega) (fun c _ => rfl)
end
end
section
section
variable {xdl xtn xpp xvc xcc xfc xoc xag xan xex xen xfl xac xst xsp xmd xrt xcu : Int32} {xtk xtv xaf xro xsc xho xvk xvf xvs xcv xco xff xfp xfe xfb xop : Nat → Int32} {n : Nat}
theorem xF_part (H : tk_ok xtk n) {x b q a h' : Nat} (hx : x < 400) (hb : b < 400) (ha : a < 528) (hff : xff x = nI q) (hfb : xfb x = nI b) (hk : tk_K xtk n (q + 1) = h') (hh : h' = 12 ∨ h' = 13) (h2 : q + 1 < n) (hop : xop b = nI a) {Q : SX → Prop}
    (h6 : xvk a ≠ 3 → Q (xdl, xtn, xpp, xvc, xcc, nI x, nI b, xag, xan, xex, xfe x, xfl, xac, 6, xsp, xmd, xrt, xcu, xtk, xtv, xaf, xro, xsc, xho, xvk, xvf, xvs, xcv, xco, xff, xfp, xfe, xfb, xop)) (h1 : xvk a = 3 → Q (xdl, xtn, xpp, xvc, xcc, nI x, nI b, xag, if h' = 12 then xvf a else xvs a, xex, xfe x, xfl, xac, xst, xsp, xmd, xrt, xcu, xtk, xtv, xaf, xro, xsc, xho, xvk, xvf, xvs, xcv, xco, xff, xfp, xfe, xfb, xop)) : wpX_finishForm Q (xdl, xtn, xpp, xvc, xcc, nI (x + 1), nI (b + 1), xag, xan, xex, xen, xfl, xac, xst, xsp, xmd, xrt, xcu, xtk, xtv, xaf, xro, xsc, xho, xvk, xvf, xvs, xcv, xco, xff, xfp, xfe, xfb, xop) (nI x) := by
  have H1 := H.1
  have hc : (nI x).toNatClampNeg = x := nI_clamp (by omega)
  have hcb : (nI b).toNatClampNeg = b := nI_clamp (by omega)
  have hca : (nI a).toNatClampNeg = a := nI_clamp (by omega)
  have hi : vp_in (nI x) 400 := vp_in_nI hx (by omega)
  have hia : vp_in (nI a) 528 := vp_in_nI ha (by omega)
  have f164 : wX_finishForm_164 Q (nI b) (nI h') xdl xtn xpp xvc xcc (nI x) (nI b) xag xan xex (xfe x) xfl xac xst xsp xmd xrt xcu xtk xtv xaf xro xsc xho xvk xvf xvs xcv xco xff xfp xfe xfb xop := by
    refine ⟨vp_in_nI hb (by omega), ?_⟩
    rw [hcb, hop]
    refine ⟨hia, ?_⟩
    rw [hca]
    by_cases v3 : xvk a = 3
    · refine br_t v3 (pk_eq h' 12 (fun z => ⟨hia, nm_e ?_⟩) (fun z => ⟨hia, nm_e ?_⟩))
      · have := h1 v3; rw [if_pos z] at this; exact this
      · have := h1 v3; rw [if_neg z] at this; exact this
    · exact br_f v3 (h6 v3)
  refine ⟨hi, nm_r (show xff (nI x).toNatClampNeg = nI q from by rw [hc]; exact hff) ⟨hi, nm_r (show xfb (nI x).toNatClampNeg = nI b from by rw [hc]; exact hfb) (nm_e ⟨by rw [nI_1]; exact tk_in H (by omega), nm_r (show xtk (nI q + 1).toNatClampNeg = nI h' from by rw [nI_1, tk_c H (by omega), hk]) ?_⟩)⟩⟩
  refine pk_le 6 h' (fun _ => nm_r (nI_pred x) ⟨hi, nm_r (show xfe (nI x).toNatClampNeg = xfe x from by rw [hc]) ?_⟩) (fun z => by omega)
  exact pk_lt h' 8 (fun z => by omega) (fun _ => pk_lt 14 h' (fun z => by omega) (fun _ => pk_eq h' 8 (fun z => by omega) (fun _ => pk_eq h' 9 (fun z => by omega) (fun _ => pk_eq h' 10 (fun z => by omega) (fun _ => pk_eq h' 11 (fun z => by omega) (fun _ => pk_eq h' 12 (fun _ => f164) (fun _ => pk_eq h' 13 (fun _ => f164) (fun _ => by omega))))))))
theorem xF_null (H : tk_ok xtk n) {x b q a vc : Nat} (hx : x < 400) (hb : b < 400) (ha : a < 528) (hv : vc < 528) (hff : xff x = nI q) (hfb : xfb x = nI b) (hk : tk_K xtk n (q + 1) = 14) (h2 : q + 1 < n) (hop : xop b = nI a) {Q : SX → Prop}
    (h : Q (xdl, xtn, xpp, nI (vc + 1), xcc, nI x, nI b, xag, nI vc, xex, xfe x, xfl, xac, xst, xsp, xmd, xrt, xcu, xtk, xtv, xaf, xro, xsc, xho, upd xvk vc 1, upd xvf vc (if xvk a = 2 then 1 else 0), upd xvs vc 0, xcv, xco, xff, xfp, xfe, xfb, xop)) : wpX_finishForm Q (xdl, xtn, xpp, nI vc, xcc, nI (x + 1), nI (b + 1), xag, xan, xex, xen, xfl, xac, xst, xsp, xmd, xrt, xcu, xtk, xtv, xaf, xro, xsc, xho, xvk, xvf, xvs, xcv, xco, xff, xfp, xfe, xfb, xop) (nI x) := by
  have H1 := H.1
  have hc : (nI x).toNatClampNeg = x := nI_clamp (by omega)
  have hcb : (nI b).toNatClampNeg = b := nI_clamp (by omega)
  have hca : (nI a).toNatClampNeg = a := nI_clamp (by omega)
  have hi : vp_in (nI x) 400 := vp_in_nI hx (by omega)
  have hia : vp_in (nI a) 528 := vp_in_nI ha (by omega)
  refine ⟨hi, nm_r (show xff (nI x).toNatClampNeg = nI q from by rw [hc]; exact hff) ⟨hi, nm_r (show xfb (nI x).toNatClampNeg = nI b from by rw [hc]; exact hfb) (nm_e ⟨by rw [nI_1]; exact tk_in H (by omega), nm_r (show xtk (nI q + 1).toNatClampNeg = nI 14 from by rw [nI_1, tk_c H (by omega), hk]) ?_⟩)⟩⟩
  refine pk_le 6 14 (fun _ => nm_r (nI_pred x) ⟨hi, nm_r (show xfe (nI x).toNatClampNeg = xfe x from by rw [hc]) ?_⟩) (fun z => by omega)
  refine pk_lt 14 8 (fun z => by omega) (fun _ => pk_lt 14 14 (fun z => by omega) (fun _ => pk_eq 14 8 (fun z => by omega) (fun _ => pk_eq 14 9 (fun z => by omega) (fun _ => pk_eq 14 10 (fun z => by omega) (fun _ => pk_eq 14 11 (fun z => by omega) (fun _ => pk_eq 14 12 (fun z => by omega) (fun _ => pk_eq 14 13 (fun z => by omega) (fun _ => pk_eq 14 14 (fun _ => ⟨vp_in_nI hb (by omega), ?_⟩) (fun z => absurd rfl z)))))))))
  rw [hcb, hop, hca]
  refine ⟨hia, ?_⟩
  by_cases v2 : xvk a = 2
  · rw [if_pos v2] at h
    exact br_t v2 (xr_new hv h)
  · rw [if_neg v2] at h
    exact br_f v2 (xr_new hv h)
theorem xF_cons (H : tk_ok xtk n) {x b q vc : Nat} (hx : x < 400) (hb : b + 1 < 400) (hv : vc < 528) (hff : xff x = nI q) (hfb : xfb x = nI b) (hk : tk_K xtk n (q + 1) = 11) (h2 : q + 1 < n) {Q : SX → Prop}
    (h : Q (xdl, xtn, xpp, nI (vc + 1), xcc, nI x, nI b, xag, nI vc, xex, xfe x, xfl, xac, xst, xsp, xmd, xrt, xcu, xtk, xtv, xaf, xro, xsc, xho, upd xvk vc 3, upd xvf vc (xop b), upd xvs vc (xop (b + 1)), xcv, xco, xff, xfp, xfe, xfb, xop)) : wpX_finishForm Q (xdl, xtn, xpp, nI vc, xcc, nI (x + 1), nI (b + 2), xag, xan, xex, xen, xfl, xac, xst, xsp, xmd, xrt, xcu, xtk, xtv, xaf, xro, xsc, xho, xvk, xvf, xvs, xcv, xco, xff, xfp, xfe, xfb, xop) (nI x) := by
  have H1 := H.1
  have hc : (nI x).toNatClampNeg = x := nI_clamp (by omega)
  have hcb : (nI b).toNatClampNeg = b := nI_clamp (by omega)
  have hi : vp_in (nI x) 400 := vp_in_nI hx (by omega)
  refine ⟨hi, nm_r (show xff (nI x).toNatClampNeg = nI q from by rw [hc]; exact hff) ⟨hi, nm_r (show xfb (nI x).toNatClampNeg = nI b from by rw [hc]; exact hfb) (nm_e ⟨by rw [nI_1]; exact tk_in H (by omega), nm_r (show xtk (nI q + 1).toNatClampNeg = nI 11 from by rw [nI_1, tk_c H (by omega), hk]) ?_⟩)⟩⟩
  refine pk_le 6 11 (fun _ => nm_r (nI_pred x) ⟨hi, nm_r (show xfe (nI x).toNatClampNeg = xfe x from by rw [hc]) ?_⟩) (fun z => by omega)
  refine pk_lt 11 8 (fun z => by omega) (fun _ => pk_lt 14 11 (fun z => by omega) (fun _ => pk_eq 11 8 (fun z => by omega) (fun _ => pk_eq 11 9 (fun z => by omega) (fun _ => pk_eq 11 10 (fun z => by omega) (fun _ => pk_eq 11 11 (fun _ => ⟨vp_in_nI (by omega) (by omega), ?_⟩) (fun z => absurd rfl z))))))
  rw [nI_1 b, hcb, nI_clamp (n := b + 1) (by omega)]
  exact ⟨vp_in_nI (by omega) (by omega), xr_new hv h⟩
theorem xF_op {a c h' vc : Nat} (ha : a < 528) (hc : c < 528) (hv : vc < 528) (hh : 15 ≤ h' ∧ h' ≤ 20) {Q : SX → Prop}
    (h6 : ¬ (xvk a = 1 ∧ xvk c = 1) → Q (xdl, xtn, xpp, nI vc, xcc, xfc, xoc, xag, xan, xex, xen, xfl, xac, 6, xsp, xmd, xrt, xcu, xtk, xtv, xaf, xro, xsc, xho, xvk, xvf, xvs, xcv, xco, xff, xfp, xfe, xfb, xop)) (h7 : xvk a = 1 → xvk c = 1 → h' = 18 → xvf c = 0 → Q (xdl, xtn, xpp, nI vc, xcc, xfc, xoc, xag, xan, xex, xen, xfl, xac, 7, xsp, xmd, xrt, xcu, xtk, xtv, xaf, xro, xsc, xho, xvk, xvf, xvs, xcv, xco, xff, xfp, xfe, xfb, xop))
    (h1 : xvk a = 1 → xvk c = 1 → ¬ (h' = 18 ∧ xvf c = 0) → Q (xdl, xtn, xpp, nI (vc + 1), xcc, xfc, xoc, xag, nI vc, xex, xen, xfl, xac, xst, xsp, xmd, xrt, xcu, xtk, xtv, xaf, xro, xsc, xho, upd xvk vc 1, upd xvf vc (al_op h' (xvf a) (xvf c)), upd xvs vc 0, xcv, xco, xff, xfp, xfe, xfb, xop)) : wpX_calculate Q (xdl, xtn, xpp, nI vc, xcc, xfc, xoc, xag, xan, xex, xen, xfl, xac, xst, xsp, xmd, xrt, xcu, xtk, xtv, xaf, xro, xsc, xho, xvk, xvf, xvs, xcv, xco, xff, xfp, xfe, xfb, xop) (nI h') (nI a) (nI c) := by
  have hia : vp_in (nI a) 528 := vp_in_nI ha (by omega)
  have hic : vp_in (nI c) 528 := vp_in_nI hc (by omega)
  have hca : (nI a).toNatClampNeg = a := nI_clamp (by omega)
  have hcc : (nI c).toNatClampNeg = c := nI_clamp (by omega)
  refine ⟨hia, ?_⟩
  rw [hca, hcc]
  by_cases v1 : xvk a = 1
  · refine br_t v1 ⟨hic, ?_⟩
    by_cases v2 : xvk c = 1
    · refine br_t v2 ⟨hia, nm_e ⟨hic, nm_e ?_⟩⟩
      have fin : ¬ (h' = 18 ∧ xvf c = 0) → ∀ z, z = al_op h' (xvf a) (xvf c) → wX_calculate_163 Q z xdl xtn xpp (nI vc) xcc xfc xoc xag xan xex xen xfl xac xst xsp xmd xrt xcu xtk xtv xaf xro xsc xho xvk xvf xvs xcv xco xff xfp xfe xfb xop := fun w z e => by
        rw [e]; exact xr_new hv (h1 v1 v2 w)
      have lt : 20 ≤ h' → ((xvf c ≤ xvf a → wX_calculate_161 Q 0 xdl xtn xpp (nI vc) xcc xfc xoc xag xan xex xen xfl xac xst xsp xmd xrt xcu xtk xtv xaf xro xsc xho xvk xvf xvs xcv xco xff xfp xfe xfb xop) ∧ (¬ xvf c ≤ xvf a → wX_calculate_161 Q 1 xdl xtn xpp (nI vc) xcc xfc xoc xag xan xex xen xfl xac xst xsp xmd xrt xcu xtk xtv xaf xro xsc xho xvk xvf xvs xcv xco xff xfp xfe xfb xop)) := fun z => by
        refine ⟨fun y => fin (by omega) 0 ?_, fun y => fin (by omega) 1 ?_⟩
        · unfold al_op; rw [if_neg (by omega), if_neg (by omega), if_neg (by omega), if_neg (by omega), if_neg (by omega), if_pos y]
        · unfold al_op; rw [if_neg (by omega), if_neg (by omega), if_neg (by omega), if_neg (by omega), if_neg (by omega), if_neg y]
      refine pk_lt h' 15 (fun z => by omega) (fun _ => pk_lt 19 h' (fun z => lt (by omega)) (fun _ => pk_eq h' 15 (fun z => nm_e (fin (by omega) _ ?_)) (fun z15 => pk_eq h' 16 (fun z => nm_e (fin (by omega) _ ?_)) (fun z16 => pk_eq h' 17 (fun z => nm_e (fin (by omega) _ ?_)) (fun z17 => pk_eq h' 18 (fun z => ?_) (fun z18 => pk_eq h' 19 (fun z => ?_) (fun z => by omega)))))))
      · rw [z]; rfl
      · rw [z]; rfl
      · rw [z]; rfl
      · by_cases c0 : xvf c = 0
        · exact br_t c0 (h7 v1 v2 z c0)
        · exact br_f c0 ⟨c0, nm_e (fin (fun w => c0 w.2) _ (by rw [z]; rfl))⟩
      · by_cases e : xvf a = xvf c
        · exact br_t e (fin (by omega) 1 (by rw [z]; unfold al_op; simp [e]))
        · exact br_f e (fin (by omega) 0 (by rw [z]; unfold al_op; simp [e]))
    · exact br_f v2 (h6 (fun w => v2 w.2))
  · exact br_f v1 (h6 (fun w => v1 w.1))
theorem xF_calc (H : tk_ok xtk n) {x b q a c h' vc : Nat} (hx : x < 400) (hb : b + 1 < 400) (ha : a < 528) (hc : c < 528) (hv : vc < 528) (hff : xff x = nI q) (hfb : xfb x = nI b) (hk : tk_K xtk n (q + 1) = h') (hh : 15 ≤ h' ∧ h' ≤ 20) (h2 : q + 1 < n) (hop : xop b = nI a) (hop2 : xop (b + 1) = nI c) {Q : SX → Prop}
    (h6 : ¬ (xvk a = 1 ∧ xvk c = 1) → Q (xdl, xtn, xpp, nI vc, xcc, nI x, nI b, xag, xan, xex, xfe x, xfl, xac, 6, xsp, xmd, xrt, xcu, xtk, xtv, xaf, xro, xsc, xho, xvk, xvf, xvs, xcv, xco, xff, xfp, xfe, xfb, xop)) (h7 : xvk a = 1 → xvk c = 1 → h' = 18 → xvf c = 0 → Q (xdl, xtn, xpp, nI vc, xcc, nI x, nI b, xag, xan, xex, xfe x, xfl, xac, 7, xsp, xmd, xrt, xcu, xtk, xtv, xaf, xro, xsc, xho, xvk, xvf, xvs, xcv, xco, xff, xfp, xfe, xfb, xop))
    (h1 : xvk a = 1 → xvk c = 1 → ¬ (h' = 18 ∧ xvf c = 0) → Q (xdl, xtn, xpp, nI (vc + 1), xcc, nI x, nI b, xag, nI vc, xex, xfe x, xfl, xac, xst, xsp, xmd, xrt, xcu, xtk, xtv, xaf, xro, xsc, xho, upd xvk vc 1, upd xvf vc (al_op h' (xvf a) (xvf c)), upd xvs vc 0, xcv, xco, xff, xfp, xfe, xfb, xop)) : wpX_finishForm Q (xdl, xtn, xpp, nI vc, xcc, nI (x + 1), nI (b + 2), xag, xan, xex, xen, xfl, xac, xst, xsp, xmd, xrt, xcu, xtk, xtv, xaf, xro, xsc, xho, xvk, xvf, xvs, xcv, xco, xff, xfp, xfe, xfb, xop) (nI x) := by
  have H1 := H.1
  have hcx : (nI x).toNatClampNeg = x := nI_clamp (by omega)
  have hcb : (nI b).toNatClampNeg = b := nI_clamp (by omega)
  have hi : vp_in (nI x) 400 := vp_in_nI hx (by omega)
  refine ⟨hi, nm_r (show xff (nI x).toNatClampNeg = nI q from by rw [hcx]; exact hff) ⟨hi, nm_r (show xfb (nI x).toNatClampNeg = nI b from by rw [hcx]; exact hfb) (nm_e ⟨by rw [nI_1]; exact tk_in H (by omega), nm_r (show xtk (nI q + 1).toNatClampNeg = nI h' from by rw [nI_1, tk_c H (by omega), hk]) ?_⟩)⟩⟩
  refine pk_le 6 h' (fun _ => nm_r (nI_pred x) ⟨hi, nm_r (show xfe (nI x).toNatClampNeg = xfe x from by rw [hcx]) ?_⟩) (fun z => by omega)
  refine pk_lt h' 8 (fun z => by omega) (fun _ => pk_lt 14 h' (fun _ => ⟨vp_in_nI (by omega) (by omega), ?_⟩) (fun z => by omega))
  rw [nI_1 b, hcb, nI_clamp (n := b + 1) (by omega), hop, hop2]
  exact ⟨vp_in_nI (by omega) (by omega), xF_op ha hc hv hh h6 h7 h1⟩
theorem xF_call (H : tk_ok xtk n) (A : xb_A (tk_K xtk n) n xaf) {x b q k f cc : Nat} (hx : x < 400) (hb : b + k < 400) (hcc : cc + k ≤ 404) (hf : f < 528) (hff : xff x = nI q) (hfb : xfb x = nI b) (hk : tk_K xtk n (q + 1) < 6) (h2 : q + 1 < n) (hop : xop (b + k) = nI f) {Q : SX → Prop}
    (h8 : xvk f ≠ 4 → Q (xdl, xtn, xpp, xvc, nI cc, nI (x + 1), nI b, xag, xan, xex, xen, xfl, xac, 8, xsp, xmd, xrt, xcu, xtk, xtv, xaf, xro, xsc, xho, xvk, xvf, xvs, xcv, xco, xff, xfp, xfe, xfb, xop))
    (hcl : xvk f = 4 → ∃ p c, xvf f = nI p ∧ p + 2 < n ∧ tk_K xtk n (p + 2) ≠ 2 ∧ ls_C (tk_K xtk n) (sk_f (tk_K xtk n) n) (p + 3) c ∧ c < 2 ^ 20 ∧ (c ≠ k → Q (xdl, xtn, xpp, xvc, nI cc, nI (x + 1), nI b, xag, xan, xex, xen, xfl, xac, 9, xsp, xmd, xrt, xcu, xtk, xtv, xaf, xro, xsc, xho, xvk, xvf, xvs, xcv, xco, xff, xfp, xfe, xfb, xop)) ∧ (c = k → xac = xdl → Q (xdl, xtn, xpp, xvc, nI cc, nI (x + 1), nI b, xag, xan, xex, xen, xfl, xac, 5, xsp, xmd, xrt, xcu, xtk, xtv, xaf, xro, xsc, xho, xvk, xvf, xvs, xcv, xco, xff, xfp, xfe, xfb, xop)) ∧
      (c = k → xac ≠ xdl → ∀ cv' co' md', md' = (if xac + 1 ≤ xmd then xmd else xac + 1) → xc_S xcv xco (fun i => xop (b + i)) (xvs f) cc k cv' co' → Q (xdl, xtn, xpp, xvc, nI (cc + k), nI (x + 1), nI b, 0, xan, nI (sk_f (tk_K xtk n) n (p + 2)), hb_e (xvs f) cc k, xfl, xac + 1, xst, xsp, md', xrt, xcu, xtk, xtv, xaf, xro, xsc, xho, xvk, xvf, xvs, cv', co', xff, xfp, xfe, xfb, xop))) : wpX_finishForm Q (xdl, xtn, xpp, xvc, nI cc, nI (x + 1), nI (b + (k + 1)), xag, xan, xex, xen, xfl, xac, xst, xsp, xmd, xrt, xcu, xtk, xtv, xaf, xro, xsc, xho, xvk, xvf, xvs, xcv, xco, xff, xfp, xfe, xfb, xop) (nI x) := by
  have H1 := H.1
  have hcx : (nI x).toNatClampNeg = x := nI_clamp (by omega)
  have hcf : (nI f).toNatClampNeg = f := nI_clamp (by omega)
  have hi : vp_in (nI x) 400 := vp_in_nI hx (by omega)
  have hif : vp_in (nI f) 528 := vp_in_nI hf (by omega)
  have k20 := tk_20 H (q + 1)
  refine ⟨hi, nm_r (show xff (nI x).toNatClampNeg = nI q from by rw [hcx]; exact hff) ⟨hi, nm_r (show xfb (nI x).toNatClampNeg = nI b from by rw [hcx]; exact hfb) (nm_r (show nI (b + (k + 1)) - nI b = nI (k + 1) from by rw [pk_sub (by omega), show b + (k + 1) - b = k + 1 from by omega]) ⟨by rw [nI_1]; exact tk_in H (by omega), nm_r (show xtk (nI q + 1).toNatClampNeg = nI (tk_K xtk n (q + 1)) from by rw [nI_1]; exact tk_c H (by omega)) ?_⟩)⟩⟩
  refine pk_le 6 (tk_K xtk n (q + 1)) (fun z => by omega) (fun _ => ?_)
  rw [nI_pred k]
  unfold wpX_call
  dsimp only
  rw [nI_add, nI_clamp (n := b + k) (by omega), hop]
  refine ⟨vp_in_nI (by omega) (by omega), nm_e ⟨hif, nm_e ⟨hif, ?_⟩⟩⟩
  rw [hcf]
  by_cases v4 : xvk f = 4
  · obtain ⟨p, c, e1, l2, k2, lc, hc20, g1, g2, g3⟩ := hcl v4
    rw [e1]
    refine br_t v4 ?_
    unfold wpX_arity
    dsimp only
    rw [ni_2]
    have f107 : ∀ md', md' = (if xac + 1 ≤ xmd then xmd else xac + 1) → c = k → xac ≠ xdl → wX_call_107 Q (nI b) (nI k) (nI f) (nI p) md' xdl xtn xpp xvc (nI cc) (nI (x + 1)) (nI b) xag xan xex xen xfl (xac + 1) xst xsp xmd xrt xcu xtk xtv xaf xro xsc xho xvk xvf xvs xcv xco xff xfp xfe xfb xop := by
      intro md' em ek ea
      refine ⟨hif, nm_r (show xvs (nI f).toNatClampNeg = xvs f from by rw [hcf]) ?_⟩
      exact xc_cells (xen := xvs f) hcc (by omega) (fun cv' co' S => xh_body (xcv := cv') (xco := co') H A l2 k2 (g3 ek ea cv' co' md' em S))
    refine xi_items (i := p + 2) H A lc (pk_eq c k (fun ek => ?_) (fun ek => g1 ek))
    by_cases ea : xac = xdl
    · exact br_t ea (g2 ek ea)
    · refine br_f ea (nm_e ?_)
      by_cases em : xac + 1 ≤ xmd
      · exact br_t em (f107 xmd (if_pos em).symm ek ea)
      · exact br_f em (f107 (xac + 1) (if_neg em).symm ek ea)
  · exact br_f v4 (h8 v4)
end
end
section
/-! the reference's iterations -/
def ry_L (post : Int32 → SY → Prop) (f : Nat) (r t : Int32) (u : SY) : Prop := match u with | (yli, yn, ypr, ygs, ypo, yhp, yfs, yvp, yfu, ysp, ymd, yac, yst, yrt, ycu, yhv, ytk, ytv, yus, ygk, yga, ygb, yck, yca, ycb, ycc, yfp, yfe, yfS, yfn, yfb, yvs, yds, ynk, yna, ynb, ync) => wY_run_80 post f r t yli yn ypr ygs ypo yhp yfs yvp yfu ysp ymd yac yst yrt ycu yhv ytk ytv yus ygk yga ygb yck yca ycb ycc yfp yfe yfS yfn yfb yvs yds ynk yna ynb ync
def yh_W (ca cC : Nat → Int32) (x : Int32) : Nat → Int32 → Nat → Prop
  | 0, e, c => e = nI c ∧ c < 50000 ∧ ca c = x
  | h + 1, e, c => ∃ c0, e = nI c0 ∧ c0 < 50000 ∧ ca c0 ≠ x ∧ yh_W ca cC x h (cC c0) c
def yc_S (ck ca cb cC nmv val : Nat → Int32) (e0 : Int32) (hp j : Nat) (ck' ca' cb' cC' : Nat → Int32) : Prop := ck' = xc_v ck (fun _ => 5) hp j ∧ ca' = xc_v ca nmv hp j ∧ cb' = xc_v cb val hp j ∧ cC' = xc_v cC (hb_e e0 hp) hp j
theorem yc_0 {ck ca cb cC nmv val : Nat → Int32} {e0 : Int32} {hp : Nat} : yc_S ck ca cb cC nmv val e0 hp 0 ck ca cb cC := ⟨rfl, rfl, rfl, rfl⟩
theorem yc_up {ck ca cb cC nmv val : Nat → Int32} {e0 a b : Int32} {hp j : Nat} {ck' ca' cb' cC' : Nat → Int32} (h : yc_S ck ca cb cC nmv val e0 hp j ck' ca' cb' cC') (ha : a = nmv j) (hb : b = val j) : yc_S ck ca cb cC nmv val e0 hp (j + 1) (upd ck' (hp + j) 5) (upd ca' (hp + j) a) (upd cb' (hp + j) b) (upd cC' (hp + j) (hb_e e0 hp j)) := by
  rw [h.1, h.2.1, h.2.2.1, h.2.2.2, ha, hb]
  exact ⟨rfl, rfl, rfl, rfl⟩
section
variable {yli yn ypr ygs ypo yhp yfs yvp yfu ysp ymd yac yst yrt ycu yhv : Int32} {ytk ytv yus ygk yga ygb yck yca ycb ycc yfp yfe yfS yfn yfb yvs yds : Nat → Int32} {ynk yna ynb ync : Nat} {n : Nat}
theorem yr_turn {post : Int32 → SY → Prop} {f it y : Nat} (ht : it < 100000) (hy : y < 512) (h : ∀ Q : Int32 → SY → Prop, (∀ r u', ry_L post f r (nI (it + 1)) u' → Q r u') → wpY_stepFrame Q (yli, yn, ypr, ygs, ypo, yhp, nI (y + 1), yvp, yfu, ysp, ymd, yac, yst, yrt, ycu, yhv, ytk, ytv, yus, ygk, yga, ygb, yck, yca, ycb, ycc, yfp, yfe, yfS, yfn, yfb, yvs, yds, ynk, yna, ynb, ync)) : wY_run_80 post (f + 1) 0 (nI it) yli yn ypr ygs ypo yhp (nI (y + 1)) yvp yfu ysp ymd yac yst yrt ycu yhv ytk ytv yus ygk yga ygb yck yca ycb ycc yfp yfe yfS yfn yfb yvs yds ynk yna ynb ync := by
  refine pk_le 100000 it (fun z => by omega) (fun _ => br_t rfl (pk_le (y + 1) 0 (fun z => by omega) (fun _ => h _ (fun r u' hu => ?_))))
  obtain ⟨yli, yn, ypr, ygs, ypo, yhp, yfs, yvp, yfu, ysp, ymd, yac, yst, yrt, ycu, yhv, ytk, ytv, yus, ygk, yga, ygb, yck, yca, ycb, ycc, yfp, yfe, yfS, yfn, yfb, yvs, yds, ynk, yna, ynb, ync⟩ := u'
  exact nm_r (nI_1 it) hu
theorem yr_err {post : Int32 → SY → Prop} {f it : Nat} {r : Int32} (ht : it < 100000) (hr : ¬ r = 0) (h : post r (yli, yn, ypr, ygs, ypo, yhp, yfs, yvp, yfu, ysp, ymd, yac, r, yrt, ycu, yhv, ytk, ytv, yus, ygk, yga, ygb, yck, yca, ycb, ycc, yfp, yfe, yfS, yfn, yfb, yvs, yds, ynk, yna, ynb, ync)) : wY_run_80 post (f + 1) r (nI it) yli yn ypr ygs ypo yhp yfs yvp yfu ysp ymd yac yst yrt ycu yhv ytk ytv yus ygk yga ygb yck yca ycb ycc yfp yfe yfS yfn yfb yvs yds ynk yna ynb ync :=
  pk_le 100000 it (fun z => by omega) (fun _ => br_f hr (br_f hr h))
theorem yr_vat {i : Nat} (hi : i < 1024) {post : Int32 → Prop} (h : post (yvs i)) : wpY_vat post (yli, yn, ypr, ygs, ypo, yhp, yfs, yvp, yfu, ysp, ymd, yac, yst, yrt, ycu, yhv, ytk, ytv, yus, ygk, yga, ygb, yck, yca, ycb, ycc, yfp, yfe, yfS, yfn, yfb, yvs, yds, ynk, yna, ynb, ync) (nI i) := by
  refine br_f (nI_pos (by omega)) (pk_le 1024 i (fun z => by omega) (fun _ => ⟨vp_in_nI hi (by omega), ?_⟩))
  rw [nI_clamp (by omega)]; exact h
theorem yr_ok {post : Int32 → SY → Prop} {f it : Nat} (ht : it < 100000) (h : post 0 (yli, yn, ypr, ygs, ypo, yhp, 0, yvp, yfu, ysp, ymd, yac, 0, yvs 0, yvs 0, 1, ytk, ytv, yus, ygk, yga, ygb, yck, yca, ycb, ycc, yfp, yfe, yfS, yfn, yfb, yvs, yds, ynk, yna, ynb, ync)) : wY_run_80 post (f + 1) 0 (nI it) yli yn ypr ygs ypo yhp 0 yvp yfu ysp ymd yac yst yrt ycu yhv ytk ytv yus ygk yga ygb yck yca ycb ycc yfp yfe yfS yfn yfb yvs yds ynk yna ynb ync := by
  refine pk_le 100000 it (fun z => by omega) (fun _ => br_t rfl (br_t (by decide) (br_t rfl ?_)))
  exact yr_vat (i := 0) (by omega) h
theorem yr_al {k a b c : Int32} {hp : Nat} (hh : hp < 50000) {Q : Int32 → SY → Prop} (h : Q (nI hp) (yli, yn, ypr, ygs, ypo, nI (hp + 1), yfs, yvp, yfu, ysp, ymd, yac, yst, yrt, ycu, yhv, ytk, ytv, yus, ygk, yga, ygb, upd yck hp k, upd yca hp a, upd ycb hp b, upd ycc hp c, yfp, yfe, yfS, yfn, yfb, yvs, yds, 50000, 50000, 50000, 50000)) : wpY_alloc Q (yli, yn, ypr, ygs, ypo, nI hp, yfs, yvp, yfu, ysp, ymd, yac, yst, yrt, ycu, yhv, ytk, ytv, yus, ygk, yga, ygb, yck, yca, ycb, ycc, yfp, yfe, yfS, yfn, yfb, yvs, yds, 50000, 50000, 50000, 50000) k a b c := by
  have hi : vp_in (nI hp) 50000 := vp_in_nI hh (by omega)
  have hc : (nI hp).toNatClampNeg = hp := nI_clamp (by omega)
  refine pk_lt hp 50000 (fun _ => ⟨hi, nm_r (by rw [hc]) ⟨hi, nm_r (by rw [hc]) ⟨hi, nm_r (by rw [hc]) ⟨hi, nm_r (by rw [hc]) (nm_r (nI_1 hp) ?_)⟩⟩⟩⟩) (fun z => by omega)
  rw [nI_pred hp]; exact h
theorem yr_push {x : Int32} {vp : Nat} (hv : vp < 1024) {Q : Int32 → SY → Prop} (h : Q 0 (yli, yn, ypr, ygs, ypo, yhp, yfs, nI (vp + 1), yfu, ysp, ymd, yac, yst, yrt, ycu, yhv, ytk, ytv, yus, ygk, yga, ygb, yck, yca, ycb, ycc, yfp, yfe, yfS, yfn, yfb, upd yvs vp x, yds, ynk, yna, ynb, ync)) : wpY_push Q (yli, yn, ypr, ygs, ypo, yhp, yfs, nI vp, yfu, ysp, ymd, yac, yst, yrt, ycu, yhv, ytk, ytv, yus, ygk, yga, ygb, yck, yca, ycb, ycc, yfp, yfe, yfS, yfn, yfb, yvs, yds, ynk, yna, ynb, ync) x := by
  have hi : vp_in (nI vp) 1024 := vp_in_nI hv (by omega)
  have hc : (nI vp).toNatClampNeg = vp := nI_clamp (by omega)
  exact pk_le 1024 vp (fun z => by omega) (fun _ => ⟨hi, nm_r (by rw [hc]) (nm_r (nI_1 vp) h)⟩)
theorem yr_done {x : Int32} {f b : Nat} (hf : f < 512) (hb : b < 1024) (hB : yfb f = nI b) {Q : Int32 → SY → Prop} (h : Q 0 (yli, yn, ypr, ygs, ypo, yhp, nI f, nI (b + 1), yfu, ysp, ymd, yac, yst, yrt, ycu, yhv, ytk, ytv, yus, ygk, yga, ygb, yck, yca, ycb, ycc, yfp, yfe, yfS, yfn, yfb, upd yvs b x, yds, ynk, yna, ynb, ync)) : wpY_done Q (yli, yn, ypr, ygs, ypo, yhp, yfs, yvp, yfu, ysp, ymd, yac, yst, yrt, ycu, yhv, ytk, ytv, yus, ygk, yga, ygb, yck, yca, ycb, ycc, yfp, yfe, yfS, yfn, yfb, yvs, yds, ynk, yna, ynb, ync) (nI f) x := by
  have hc : (nI f).toNatClampNeg = f := nI_clamp (by omega)
  exact ⟨vp_in_nI hf (by omega), nm_r (show yfb (nI f).toNatClampNeg = nI b from by rw [hc]; exact hB) (yr_push hb h)⟩
theorem yr_cellL {c : Nat} {x : Int32} {post : Int32 → Prop} (h : post (nI c)) : ∀ d e i, i + d < 50000 → yh_W yca ycc x d e c → wY_cellOf_2 post x yli yn ypr ygs ypo yhp yfs yvp yfu ysp ymd yac yst yrt ycu yhv ytk ytv yus ygk yga ygb yck yca ycb ycc yfp yfe yfS yfn yfb yvs yds ynk 50000 ynb 50000 (d + 1) e (nI i) := by
  intro d
  induction d with
  | zero =>
    intro e i hi w
    obtain ⟨w1, w2, w3⟩ := w
    subst w1
    refine pk_le 50000 i (fun z => by omega) (fun _ => br_f (nI_pos (by omega)) (pk_le 50000 c (fun z => by omega) (fun _ => ⟨vp_in_nI w2 (by omega), ?_⟩)))
    rw [nI_clamp (by omega)]
    exact br_t w3 h
  | succ d ih =>
    intro e i hi w
    obtain ⟨c0, w1, w2, w3, w4⟩ := w
    subst w1
    refine pk_le 50000 i (fun z => by omega) (fun _ => br_f (nI_pos (by omega)) (pk_le 50000 c0 (fun z => by omega) (fun _ => ⟨vp_in_nI w2 (by omega), ?_⟩)))
    rw [nI_clamp (by omega)]
    exact br_f w3 ⟨vp_in_nI w2 (by omega), nm_e (nm_r (nI_1 i) (ih (ycc c0) (i + 1) (by omega) w4))⟩
theorem yr_cell {c d : Nat} {e x : Int32} (hd : d < 50000) (w : yh_W yca ycc x d e c) {post : Int32 → Prop} (h : post (nI c)) : wpY_cellOf post (yli, yn, ypr, ygs, ypo, yhp, yfs, yvp, yfu, ysp, ymd, yac, yst, yrt, ycu, yhv, ytk, ytv, yus, ygk, yga, ygb, yck, yca, ycb, ycc, yfp, yfe, yfS, yfn, yfb, yvs, yds, ynk, 50000, ynb, 50000) e x :=
  ⟨d + 1, yr_cellL h d e 0 (by omega) w⟩
/-! a request, by form -/
theorem yq_fuel {e : Int32} {q : Int32} {Q : Int32 → SY → Prop} (hs : ysp = yfu) (h : Q 4 (yli, yn, ypr, ygs, ypo, yhp, yfs, yvp, yfu, ysp, ymd, yac, yst, yrt, ycu, yhv, ytk, ytv, yus, ygk, yga, ygb, yck, yca, ycb, ycc, yfp, yfe, yfS, yfn, yfb, yvs, yds, ynk, yna, ynb, ync)) : wpY_req Q (yli, yn, ypr, ygs, ypo, yhp, yfs, yvp, yfu, ysp, ymd, yac, yst, yrt, ycu, yhv, ytk, ytv, yus, ygk, yga, ygb, yck, yca, ycb, ycc, yfp, yfe, yfS, yfn, yfb, yvs, yds, ynk, yna, ynb, ync) q e := br_t hs h
theorem yq_num (H : tk_ok ytk n) {e : Int32} {q s F hp vp : Nat} (hq : q < n) (hk : tk_K ytk n q = 3) (hs : s < F) (hF : F ≤ 400) (hh : hp < 50000) (hv : vp < 1024) {Q : Int32 → SY → Prop}
    (h : Q 0 (yli, nI n, ypr, ygs, ypo, nI (hp + 1), yfs, nI (vp + 1), nI F, nI (s + 1), ymd, yac, yst, yrt, ycu, yhv, ytk, ytv, yus, ygk, yga, ygb, upd yck hp 1, upd yca hp (ytv q), upd ycb hp 0, upd ycc hp 0, yfp, yfe, yfS, yfn, yfb, upd yvs vp (nI hp), yds, 50000, 50000, 50000, 50000)) : wpY_req Q (yli, nI n, ypr, ygs, ypo, nI hp, yfs, nI vp, nI F, nI s, ymd, yac, yst, yrt, ycu, yhv, ytk, ytv, yus, ygk, yga, ygb, yck, yca, ycb, ycc, yfp, yfe, yfS, yfn, yfb, yvs, yds, 50000, 50000, 50000, 50000) (nI q) e := by
  have H1 := H.1
  refine pk_eq s F (fun z => by omega) (fun _ => nm_r (nI_1 s) (yt_t (i := q) H (by omega) (yt_v (i := q) H hq (pk_eq (tk_K ytk n q) 3 (fun _ => yr_al hh (yr_push hv h)) (fun z => absurd hk z)))))
theorem yq_nil (H : tk_ok ytk n) {e : Int32} {q s F vp : Nat} (hq : q < n) (hk : tk_K ytk n q = 5) (hs : s < F) (hF : F ≤ 400) (hv : vp < 1024) {Q : Int32 → SY → Prop}
    (h : Q 0 (yli, nI n, ypr, ygs, ypo, yhp, yfs, nI (vp + 1), nI F, nI (s + 1), ymd, yac, yst, yrt, ycu, yhv, ytk, ytv, yus, ygk, yga, ygb, yck, yca, ycb, ycc, yfp, yfe, yfS, yfn, yfb, upd yvs vp 0, yds, ynk, yna, ynb, ync)) : wpY_req Q (yli, nI n, ypr, ygs, ypo, yhp, yfs, nI vp, nI F, nI s, ymd, yac, yst, yrt, ycu, yhv, ytk, ytv, yus, ygk, yga, ygb, yck, yca, ycb, ycc, yfp, yfe, yfS, yfn, yfb, yvs, yds, ynk, yna, ynb, ync) (nI q) e := by
  have H1 := H.1
  refine pk_eq s F (fun z => by omega) (fun _ => nm_r (nI_1 s) (yt_t (i := q) H (by omega) (yt_v (i := q) H hq (pk_eq (tk_K ytk n q) 3 (fun z => by omega) (fun _ => pk_eq (tk_K ytk n q) 5 (fun _ => yr_push hv h) (fun z => absurd hk z))))))
theorem yq_sym (H : tk_ok ytk n) {e : Int32} {q s F vp c d : Nat} (hq : q < n) (hk : tk_K ytk n q = 4) (hs : s < F) (hF : F ≤ 400) (hv : vp < 1024) (hd : d < 50000) (hc : c < 50000) (w : yh_W yca ycc (ytv q) d e c) {Q : Int32 → SY → Prop}
    (h : Q 0 (yli, nI n, ypr, ygs, ypo, yhp, yfs, nI (vp + 1), nI F, nI (s + 1), ymd, yac, yst, yrt, ycu, yhv, ytk, ytv, yus, ygk, yga, ygb, yck, yca, ycb, ycc, yfp, yfe, yfS, yfn, yfb, upd yvs vp (ycb c), yds, ynk, 50000, 50000, 50000)) : wpY_req Q (yli, nI n, ypr, ygs, ypo, yhp, yfs, nI vp, nI F, nI s, ymd, yac, yst, yrt, ycu, yhv, ytk, ytv, yus, ygk, yga, ygb, yck, yca, ycb, ycc, yfp, yfe, yfS, yfn, yfb, yvs, yds, ynk, 50000, 50000, 50000) (nI q) e := by
  have H1 := H.1
  refine pk_eq s F (fun z => by omega) (fun _ => nm_r (nI_1 s) (yt_t (i := q) H (by omega) (yt_v (i := q) H hq (pk_eq (tk_K ytk n q) 3 (fun z => by omega) (fun _ => pk_eq (tk_K ytk n q) 5 (fun z => by omega) (fun _ => pk_eq (tk_K ytk n q) 4 (fun _ => ?_) (fun z => absurd hk z)))))))
  refine yr_cell hd w (br_f (nI_pos (by omega)) ⟨vp_in_nI hc (by omega), ?_⟩)
  rw [nI_clamp (by omega)]
  exact yr_push hv h
theorem yq_lam (H : tk_ok ytk n) {e : Int32} {q s F hp vp : Nat} (hq : q < n) (hk : tk_K ytk n q = 1) (hk1 : tk_K ytk n (q + 1) = 7) (hs : s < F) (hF : F ≤ 400) (hh : hp < 50000) (hv : vp < 1024) {Q : Int32 → SY → Prop}
    (h : Q 0 (yli, nI n, ypr, ygs, ypo, nI (hp + 1), yfs, nI (vp + 1), nI F, nI (s + 1), ymd, yac, yst, yrt, ycu, yhv, ytk, ytv, yus, ygk, yga, ygb, upd yck hp 4, upd yca hp (nI q), upd ycb hp e, upd ycc hp 0, yfp, yfe, yfS, yfn, yfb, upd yvs vp (nI hp), yds, 50000, 50000, 50000, 50000)) : wpY_req Q (yli, nI n, ypr, ygs, ypo, nI hp, yfs, nI vp, nI F, nI s, ymd, yac, yst, yrt, ycu, yhv, ytk, ytv, yus, ygk, yga, ygb, yck, yca, ycb, ycc, yfp, yfe, yfS, yfn, yfb, yvs, yds, 50000, 50000, 50000, 50000) (nI q) e := by
  have H1 := H.1
  refine pk_eq s F (fun z => by omega) (fun _ => nm_r (nI_1 s) (yt_t (i := q) H (by omega) (yt_v (i := q) H hq (pk_eq (tk_K ytk n q) 3 (fun z => by omega) (fun _ => pk_eq (tk_K ytk n q) 5 (fun z => by omega) (fun _ => pk_eq (tk_K ytk n q) 4 (fun z => by omega) (fun _ => ?_)))))))
  rw [nI_1 q]
  exact yt_t (i := q + 1) H (by omega) (pk_eq (tk_K ytk n (q + 1)) 6 (fun z => by omega) (fun _ => pk_eq (tk_K ytk n (q + 1)) 7 (fun _ => yr_al hh (yr_push hv h)) (fun z => absurd hk1 z)))
theorem yq_open (H : tk_ok ytk n) {e : Int32} {q s F y : Nat} (f : Nat) (hq : q < n) (hk : tk_K ytk n q = 1) (hk6 : tk_K ytk n (q + 1) ≠ 6) (hk7 : tk_K ytk n (q + 1) ≠ 7) (hs : s < F) (hF : F ≤ 400) (hy : y < 512)
    (hf : ((tk_K ytk n (q + 1) = 8 ∨ tk_K ytk n (q + 1) = 9) ∧ f = q + 3) ∨ (10 ≤ tk_K ytk n (q + 1) ∧ f = q + 2) ∨ (tk_K ytk n (q + 1) < 6 ∧ f = sk_f (tk_K ytk n) n (q + 1))) {Q : Int32 → SY → Prop}
    (h : Q 0 (yli, nI n, ypr, ygs, ypo, yhp, nI (y + 1), yvp, nI F, nI (s + 1), ymd, yac, yst, yrt, ycu, yhv, ytk, ytv, yus, ygk, yga, ygb, yck, yca, ycb, ycc, upd yfp y (nI q), upd yfe y e, upd yfS y 0, upd yfn y (nI f), upd yfb y yvp, yvs, yds, ynk, yna, ynb, ync)) : wpY_req Q (yli, nI n, ypr, ygs, ypo, yhp, nI y, yvp, nI F, nI s, ymd, yac, yst, yrt, ycu, yhv, ytk, ytv, yus, ygk, yga, ygb, yck, yca, ycb, ycc, yfp, yfe, yfS, yfn, yfb, yvs, yds, ynk, yna, ynb, ync) (nI q) e := by
  have H1 := H.1
  have k21 := tk_20 H (q + 1)
  have hi : vp_in (nI y) 512 := vp_in_nI hy (by omega)
  have hc : (nI y).toNatClampNeg = y := nI_clamp (by omega)
  refine pk_eq s F (fun z => by omega) (fun _ => nm_r (nI_1 s) (yt_t (i := q) H (by omega) (yt_v (i := q) H hq (pk_eq (tk_K ytk n q) 3 (fun z => by omega) (fun _ => pk_eq (tk_K ytk n q) 5 (fun z => by omega) (fun _ => pk_eq (tk_K ytk n q) 4 (fun z => by omega) (fun _ => ?_)))))))
  rw [nI_1 q, ni_2 q]
  refine yt_t (i := q + 1) H (by omega) (pk_eq (tk_K ytk n (q + 1)) 6 (fun z => absurd z hk6) (fun _ => pk_eq (tk_K ytk n (q + 1)) 7 (fun z => absurd z hk7) (fun _ => pk_lt y 512 (fun _ => ⟨hi, nm_r (by rw [hc]) ⟨hi, nm_r (by rw [hc]) ⟨hi, nm_r (by rw [hc]) ⟨hi, nm_r (by rw [hc]) ?_⟩⟩⟩⟩) (fun z => by omega))))
  have f264 : ∀ z, z = nI f → wY_req_264 Q z (nI y) yli (nI n) ypr ygs ypo yhp (nI y) yvp (nI F) (nI (s + 1)) ymd yac yst yrt ycu yhv ytk ytv yus ygk yga ygb yck yca ycb ycc (upd yfp y (nI q)) (upd yfe y e) (upd yfS y 0) yfn (upd yfb y yvp) yvs yds ynk yna ynb ync := fun z ez => by
    rw [ez]
    exact ⟨hi, nm_r (by rw [hc]) (nm_r (nI_1 y) h)⟩
  refine pk_eq (tk_K ytk n (q + 1)) 8 (fun k8 => f264 _ ?_) (fun k8 => pk_eq (tk_K ytk n (q + 1)) 9 (fun k9 => f264 _ ?_) (fun k9 => pk_lt (tk_K ytk n (q + 1)) 6 (fun k6 => yk_skip (i := q + 1) H (by omega) (f264 _ ?_)) (fun k6 => f264 _ ?_)))
  · rw [ni_3]
    rcases hf with ⟨_, e⟩ | ⟨z, _⟩ | ⟨z, _⟩
    · rw [e]
    · omega
    · omega
  · rw [ni_3]
    rcases hf with ⟨_, e⟩ | ⟨z, _⟩ | ⟨z, _⟩
    · rw [e]
    · omega
    · omega
  · rcases hf with ⟨z, e⟩ | ⟨z, _⟩ | ⟨z, e⟩
    · omega
    · omega
    · rw [e]
  · rcases hf with ⟨z, e⟩ | ⟨z, e⟩ | ⟨z, e⟩
    · omega
    · rw [e]
    · omega
end
end
section
section
variable {yli yn ypr ygs ypo yhp yfs yvp yfu ysp ymd yac yst yrt ycu yhv : Int32} {ytk ytv yus ygk yga ygb yck yca ycb ycc yfp yfe yfS yfn yfb yvs yds : Nat → Int32} {ynk yna ynb ync : Nat} {n : Nat}
/-! the reference's frames: which step is due -/
theorem yF_dIf (H : tk_ok ytk n) {y q : Nat} (hy : y < 512) (hP : yfp y = nI q) (hq : q < n) (hk : tk_K ytk n (q + 1) = 10) {Q : Int32 → SY → Prop} (h : wpY_stepIf Q (yli, nI n, ypr, ygs, ypo, yhp, nI (y + 1), yvp, yfu, ysp, ymd, yac, yst, yrt, ycu, yhv, ytk, ytv, yus, ygk, yga, ygb, yck, yca, ycb, ycc, yfp, yfe, yfS, yfn, yfb, yvs, yds, ynk, yna, ynb, ync) (nI y)) : wpY_stepFrame Q (yli, nI n, ypr, ygs, ypo, yhp, nI (y + 1), yvp, yfu, ysp, ymd, yac, yst, yrt, ycu, yhv, ytk, ytv, yus, ygk, yga, ygb, yck, yca, ycb, ycc, yfp, yfe, yfS, yfn, yfb, yvs, yds, ynk, yna, ynb, ync) := by
  have H1 := H.1
  have hc : (nI y).toNatClampNeg = y := nI_clamp (by omega)
  refine nm_r (nI_pred y) ⟨vp_in_nI hy (by omega), ?_⟩
  rw [hc, hP, nI_1 q]
  refine yt_t (i := q + 1) H (by omega) ?_
  rw [hk]
  exact pk_eq 10 10 (fun _ => h) (fun z => absurd rfl z)
theorem yF_dLet (H : tk_ok ytk n) {y q : Nat} (hy : y < 512) (hP : yfp y = nI q) (hq : q < n) (hk : tk_K ytk n (q + 1) = 8) {Q : Int32 → SY → Prop} (h : wpY_stepLet Q (yli, nI n, ypr, ygs, ypo, yhp, nI (y + 1), yvp, yfu, ysp, ymd, yac, yst, yrt, ycu, yhv, ytk, ytv, yus, ygk, yga, ygb, yck, yca, ycb, ycc, yfp, yfe, yfS, yfn, yfb, yvs, yds, ynk, yna, ynb, ync) (nI y)) : wpY_stepFrame Q (yli, nI n, ypr, ygs, ypo, yhp, nI (y + 1), yvp, yfu, ysp, ymd, yac, yst, yrt, ycu, yhv, ytk, ytv, yus, ygk, yga, ygb, yck, yca, ycb, ycc, yfp, yfe, yfS, yfn, yfb, yvs, yds, ynk, yna, ynb, ync) := by
  have H1 := H.1
  have hc : (nI y).toNatClampNeg = y := nI_clamp (by omega)
  refine nm_r (nI_pred y) ⟨vp_in_nI hy (by omega), ?_⟩
  rw [hc, hP, nI_1 q]
  refine yt_t (i := q + 1) H (by omega) ?_
  rw [hk]
  exact pk_eq 8 10 (fun z => by omega) (fun _ => pk_eq 8 8 (fun _ => h) (fun z => absurd rfl z))
theorem yF_dLr (H : tk_ok ytk n) {y q : Nat} (hy : y < 512) (hP : yfp y = nI q) (hq : q < n) (hk : tk_K ytk n (q + 1) = 9) {Q : Int32 → SY → Prop} (h : wpY_stepLetrec Q (yli, nI n, ypr, ygs, ypo, yhp, nI (y + 1), yvp, yfu, ysp, ymd, yac, yst, yrt, ycu, yhv, ytk, ytv, yus, ygk, yga, ygb, yck, yca, ycb, ycc, yfp, yfe, yfS, yfn, yfb, yvs, yds, ynk, yna, ynb, ync) (nI y)) : wpY_stepFrame Q (yli, nI n, ypr, ygs, ypo, yhp, nI (y + 1), yvp, yfu, ysp, ymd, yac, yst, yrt, ycu, yhv, ytk, ytv, yus, ygk, yga, ygb, yck, yca, ycb, ycc, yfp, yfe, yfS, yfn, yfb, yvs, yds, ynk, yna, ynb, ync) := by
  have H1 := H.1
  have hc : (nI y).toNatClampNeg = y := nI_clamp (by omega)
  refine nm_r (nI_pred y) ⟨vp_in_nI hy (by omega), ?_⟩
  rw [hc, hP, nI_1 q]
  refine yt_t (i := q + 1) H (by omega) ?_
  rw [hk]
  exact pk_eq 9 10 (fun z => by omega) (fun _ => pk_eq 9 8 (fun z => by omega) (fun _ => pk_eq 9 9 (fun _ => h) (fun z => absurd rfl z)))
theorem yF_dApp (H : tk_ok ytk n) {y q : Nat} (hy : y < 512) (hP : yfp y = nI q) (hq : q < n) (hk : tk_K ytk n (q + 1) < 6) {Q : Int32 → SY → Prop} (h : wpY_stepApp Q (yli, nI n, ypr, ygs, ypo, yhp, nI (y + 1), yvp, yfu, ysp, ymd, yac, yst, yrt, ycu, yhv, ytk, ytv, yus, ygk, yga, ygb, yck, yca, ycb, ycc, yfp, yfe, yfS, yfn, yfb, yvs, yds, ynk, yna, ynb, ync) (nI y)) : wpY_stepFrame Q (yli, nI n, ypr, ygs, ypo, yhp, nI (y + 1), yvp, yfu, ysp, ymd, yac, yst, yrt, ycu, yhv, ytk, ytv, yus, ygk, yga, ygb, yck, yca, ycb, ycc, yfp, yfe, yfS, yfn, yfb, yvs, yds, ynk, yna, ynb, ync) := by
  have H1 := H.1
  have hc : (nI y).toNatClampNeg = y := nI_clamp (by omega)
  refine nm_r (nI_pred y) ⟨vp_in_nI hy (by omega), ?_⟩
  rw [hc, hP, nI_1 q]
  refine yt_t (i := q + 1) H (by omega) ?_
  exact pk_eq (tk_K ytk n (q + 1)) 10 (fun z => by omega) (fun _ => pk_eq (tk_K ytk n (q + 1)) 8 (fun z => by omega) (fun _ => pk_eq (tk_K ytk n (q + 1)) 9 (fun z => by omega) (fun _ => pk_lt (tk_K ytk n (q + 1)) 11 (fun _ => h) (fun z => by omega))))
theorem yF_dOp (H : tk_ok ytk n) {y q h' : Nat} (hy : y < 512) (hP : yfp y = nI q) (hq : q < n) (hk : tk_K ytk n (q + 1) = h') (hh : 11 ≤ h') {Q : Int32 → SY → Prop} (h : wpY_stepOp Q (yli, nI n, ypr, ygs, ypo, yhp, nI (y + 1), yvp, yfu, ysp, ymd, yac, yst, yrt, ycu, yhv, ytk, ytv, yus, ygk, yga, ygb, yck, yca, ycb, ycc, yfp, yfe, yfS, yfn, yfb, yvs, yds, ynk, yna, ynb, ync) (nI y) (nI h')) : wpY_stepFrame Q (yli, nI n, ypr, ygs, ypo, yhp, nI (y + 1), yvp, yfu, ysp, ymd, yac, yst, yrt, ycu, yhv, ytk, ytv, yus, ygk, yga, ygb, yck, yca, ycb, ycc, yfp, yfe, yfS, yfn, yfb, yvs, yds, ynk, yna, ynb, ync) := by
  have H1 := H.1
  have k20 := tk_20 H (q + 1)
  have hc : (nI y).toNatClampNeg = y := nI_clamp (by omega)
  refine nm_r (nI_pred y) ⟨vp_in_nI hy (by omega), ?_⟩
  rw [hc, hP, nI_1 q]
  refine yt_t (i := q + 1) H (by omega) ?_
  rw [hk]
  exact pk_eq h' 10 (fun z => by omega) (fun _ => pk_eq h' 8 (fun z => by omega) (fun _ => pk_eq h' 9 (fun z => by omega) (fun _ => pk_lt h' 11 (fun z => by omega) (fun _ => pk_lt 20 h' (fun z => by omega) (fun _ => h)))))
/-! IF -/
theorem yI_0 {y q : Nat} (hy : y < 512) (hP : yfp y = nI q) (hS : yfS y = 0) {Q : Int32 → SY → Prop} (h : wpY_req Q (yli, yn, ypr, ygs, ypo, yhp, yfs, yvp, yfu, ysp, ymd, yac, yst, yrt, ycu, yhv, ytk, ytv, yus, ygk, yga, ygb, yck, yca, ycb, ycc, yfp, yfe, upd yfS y 1, yfn, yfb, yvs, yds, ynk, yna, ynb, ync) (nI (q + 2)) (yfe y)) : wpY_stepIf Q (yli, yn, ypr, ygs, ypo, yhp, yfs, yvp, yfu, ysp, ymd, yac, yst, yrt, ycu, yhv, ytk, ytv, yus, ygk, yga, ygb, yck, yca, ycb, ycc, yfp, yfe, yfS, yfn, yfb, yvs, yds, ynk, yna, ynb, ync) (nI y) := by
  have hi : vp_in (nI y) 512 := vp_in_nI hy (by omega)
  have hc : (nI y).toNatClampNeg = y := nI_clamp (by omega)
  refine ⟨hi, nm_r (show yfS (nI y).toNatClampNeg = 0 from by rw [hc]; exact hS) ⟨hi, nm_e (br_t rfl ⟨hi, nm_r (by rw [hc]) ⟨hi, hi, ?_⟩⟩)⟩⟩
  rw [hc, hP, ni_2 q]
  exact h
theorem yI_1 (H : tk_ok ytk n) {y q b c : Nat} (hy : y < 512) (hP : yfp y = nI q) (hS : yfS y = 1) (hB : yfb y = nI b) (hb : b < 1024) (hq : q < n) (hl : sk_f (tk_K ytk n) n (q + 2) < 2 ^ 20) (hv : yvs b = nI c) (hcc : c < 50000) {Q : Int32 → SY → Prop}
    (h6 : yck c ≠ 1 → Q 6 (yli, nI n, ypr, ygs, ypo, yhp, yfs, yvp, yfu, ysp, ymd, yac, yst, yrt, ycu, yhv, ytk, ytv, yus, ygk, yga, ygb, yck, yca, ycb, ycc, yfp, yfe, yfS, yfn, yfb, yvs, yds, 50000, 50000, ynb, ync))
    (h1 : yck c = 1 → ∀ t, (yca c = 0 → t = sk_f (tk_K ytk n) n (sk_f (tk_K ytk n) n (q + 2))) → (yca c ≠ 0 → t = sk_f (tk_K ytk n) n (q + 2)) → wpY_req Q (yli, nI n, ypr, ygs, ypo, yhp, yfs, nI b, yfu, ysp, ymd, yac, yst, yrt, ycu, yhv, ytk, ytv, yus, ygk, yga, ygb, yck, yca, ycb, ycc, yfp, yfe, upd yfS y 2, yfn, yfb, yvs, yds, 50000, 50000, ynb, ync) (nI t) (yfe y)) : wpY_stepIf Q (yli, nI n, ypr, ygs, ypo, yhp, yfs, yvp, yfu, ysp, ymd, yac, yst, yrt, ycu, yhv, ytk, ytv, yus, ygk, yga, ygb, yck, yca, ycb, ycc, yfp, yfe, yfS, yfn, yfb, yvs, yds, 50000, 50000, ynb, ync) (nI y) := by
  have H1 := H.1
  have hi : vp_in (nI y) 512 := vp_in_nI hy (by omega)
  have hc : (nI y).toNatClampNeg = y := nI_clamp (by omega)
  have hic : vp_in (nI c) 50000 := vp_in_nI hcc (by omega)
  refine ⟨hi, nm_r (show yfS (nI y).toNatClampNeg = 1 from by rw [hc]; exact hS) ⟨hi, nm_r (show yfb (nI y).toNatClampNeg = nI b from by rw [hc]; exact hB) (br_f (by decide) (br_f (by decide) ?_))⟩⟩
  refine yr_vat (i := b) hb ?_
  rw [hv, nI_clamp (n := c) (by omega), hc, hP, ni_2 q]
  refine ⟨hic, ?_⟩
  have f122 : ∀ t, (yca c = 0 → t = sk_f (tk_K ytk n) n (sk_f (tk_K ytk n) n (q + 2))) → (yca c ≠ 0 → t = sk_f (tk_K ytk n) n (q + 2)) → yck c = 1 → wY_stepIf_122 Q (nI y) (nI b) (nI t) yli (nI n) ypr ygs ypo yhp yfs yvp yfu ysp ymd yac yst yrt ycu yhv ytk ytv yus ygk yga ygb yck yca ycb ycc yfp yfe yfS yfn yfb yvs yds 50000 50000 ynb ync := by
    intro t t1 t2 k1
    refine ⟨hi, nm_r (by rw [hc]) ⟨hi, ?_⟩⟩
    rw [hc]
    exact h1 k1 t t1 t2
  by_cases k1 : yck c = 1
  · refine br_t k1 ⟨hi, yk_skip (i := q + 2) H (by omega) ⟨hic, ?_⟩⟩
    by_cases a0 : yca c = 0
    · exact br_t a0 (yk_skip (i := sk_f (tk_K ytk n) n (q + 2)) H (by omega) (f122 _ (fun _ => rfl) (fun z => absurd a0 z) k1))
    · exact br_f a0 (f122 _ (fun z => absurd z a0) (fun _ => rfl) k1)
  · exact br_f k1 (h6 k1)
theorem yI_2 {y b : Nat} (hy : y < 512) (hS : yfS y = 2) (hB : yfb y = nI b) (hb : b < 1023) {Q : Int32 → SY → Prop} (h : Q 0 (yli, yn, ypr, ygs, ypo, yhp, nI y, nI (b + 1), yfu, ysp, ymd, yac, yst, yrt, ycu, yhv, ytk, ytv, yus, ygk, yga, ygb, yck, yca, ycb, ycc, yfp, yfe, yfS, yfn, yfb, upd yvs b (yvs b), yds, ynk, yna, ynb, ync)) : wpY_stepIf Q (yli, yn, ypr, ygs, ypo, yhp, yfs, nI (b + 1), yfu, ysp, ymd, yac, yst, yrt, ycu, yhv, ytk, ytv, yus, ygk, yga, ygb, yck, yca, ycb, ycc, yfp, yfe, yfS, yfn, yfb, yvs, yds, ynk, yna, ynb, ync) (nI y) := by
  have hi : vp_in (nI y) 512 := vp_in_nI hy (by omega)
  have hc : (nI y).toNatClampNeg = y := nI_clamp (by omega)
  refine ⟨hi, nm_r (show yfS (nI y).toNatClampNeg = 2 from by rw [hc]; exact hS) ⟨hi, nm_e (br_f (by decide) (br_t rfl ?_))⟩⟩
  rw [nI_pred b]
  exact yr_vat (i := b) (by omega) (yr_done hy (by omega) hB h)
/-! LET -/
theorem yL_n (H : tk_ok ytk n) {y p : Nat} (hy : y < 512) (hS : yfS y = 0) (hN : yfn y = nI p) (hp : p < n) (kp : tk_K ytk n p = 1) {Q : Int32 → SY → Prop} (h : wpY_req Q (yli, nI n, ypr, ygs, ypo, yhp, yfs, yvp, yfu, ysp, ymd, yac, yst, yrt, ycu, yhv, ytk, ytv, yus, ygk, yga, ygb, yck, yca, ycb, ycc, yfp, yfe, yfS, upd yfn y (nI (sk_f (tk_K ytk n) n p)), yfb, yvs, yds, ynk, yna, ynb, ync) (nI (p + 2)) (yfe y)) : wpY_stepLet Q (yli, nI n, ypr, ygs, ypo, yhp, yfs, yvp, yfu, ysp, ymd, yac, yst, yrt, ycu, yhv, ytk, ytv, yus, ygk, yga, ygb, yck, yca, ycb, ycc, yfp, yfe, yfS, yfn, yfb, yvs, yds, ynk, yna, ynb, ync) (nI y) := by
  have H1 := H.1
  have hi : vp_in (nI y) 512 := vp_in_nI hy (by omega)
  have hc : (nI y).toNatClampNeg = y := nI_clamp (by omega)
  refine ⟨hi, nm_e ⟨hi, br_f (by rw [hc, hS]; decide) ⟨hi, nm_r (show yfn (nI y).toNatClampNeg = nI p from by rw [hc]; exact hN) ?_⟩⟩⟩
  refine yt_t (i := p) H (by omega) (pk_eq (tk_K ytk n p) 1 (fun _ => ?_) (fun z => absurd kp z))
  refine yk_skip (i := p) H (by omega) ⟨hi, nm_r (by rw [hc]) ⟨hi, ?_⟩⟩
  rw [hc, ni_2 p]
  exact h
theorem yL_cL (H : tk_ok ytk n) {y q b k hp : Nat} {e0 x3 : Int32} (hk : k ≤ 4) (lc : ls_C (tk_K ytk n) (sk_f (tk_K ytk n) n) (q + 3) k) (hk1 : ∀ i, i < k → tk_K ytk n (it_f (sk_f (tk_K ytk n) n) i (q + 3)) = 1 ∧ it_f (sk_f (tk_K ytk n) n) i (q + 3) + 1 < n) (hh : hp + k ≤ 50000) (hb : b + k ≤ 1024) {Q : Int32 → SY → Prop}
    (h : ∀ ck' ca' cb' cC', yc_S yck yca ycb ycc (fun i => ytv (it_f (sk_f (tk_K ytk n) n) i (q + 3) + 1)) (fun i => yvs (b + i)) e0 hp k ck' ca' cb' cC' → wY_stepLet_160 Q (nI y) (nI b) x3 (hb_e e0 hp k) yli (nI n) ypr ygs ypo (nI (hp + k)) yfs yvp yfu ysp ymd yac yst yrt ycu yhv ytk ytv yus ygk yga ygb ck' ca' cb' cC' yfp yfe yfS yfn yfb yvs yds 50000 50000 50000 50000) :
    ∀ d j (ck' ca' cb' cC' : Nat → Int32), j + d = k → yc_S yck yca ycb ycc (fun i => ytv (it_f (sk_f (tk_K ytk n) n) i (q + 3) + 1)) (fun i => yvs (b + i)) e0 hp j ck' ca' cb' cC' → wY_stepLet_97 Q (nI y) (nI b) x3 (d + 1) (hb_e e0 hp j) (nI (it_f (sk_f (tk_K ytk n) n) j (q + 3))) (nI j) yli (nI n) ypr ygs ypo (nI (hp + j)) yfs yvp yfu ysp ymd yac yst yrt ycu yhv ytk ytv yus ygk yga ygb ck' ca' cb' cC' yfp yfe yfS yfn yfb yvs yds 50000 50000 50000 50000 := by
  have H1 := H.1
  have bd := ls_bd (K := (tk_K ytk n)) (n := n) (fun i => tk_0) lc
  intro d
  induction d with
  | zero =>
    intro j ck' ca' cb' cC' e S
    have ej : j = k := by omega
    subst ej
    have hx := (bd.1 j (Nat.le_refl _)).1
    have kx := lc.2
    exact pk_le 4 j (fun _ => h ck' ca' cb' cC' S) (fun _ => yt_t (i := it_f (sk_f (tk_K ytk n) n) j (q + 3)) H (by omega) (pk_eq (tk_K ytk n (it_f (sk_f (tk_K ytk n) n) j (q + 3))) 1 (fun z => by omega) (fun _ => h ck' ca' cb' cC' S)))
  | succ d ih =>
    intro j ck' ca' cb' cC' e S
    have hx := (bd.1 j (by omega)).1
    have kx := hk1 j (by omega)
    refine pk_le 4 j (fun z => by omega) (fun _ => yt_t (i := it_f (sk_f (tk_K ytk n) n) j (q + 3)) H (by omega) (pk_eq (tk_K ytk n (it_f (sk_f (tk_K ytk n) n) j (q + 3))) 1 (fun _ => ?_) (fun z => absurd kx.1 z)))
    rw [nI_1 (it_f (sk_f (tk_K ytk n) n) j (q + 3)), nI_add b j]
    refine yt_v (i := it_f (sk_f (tk_K ytk n) n) j (q + 3) + 1) H kx.2 (yr_vat (i := b + j) (by omega) ?_)
    refine yr_al (yck := ck') (yca := ca') (ycb := cb') (ycc := cC') (hp := hp + j) (by omega) ?_
    refine yk_skip (i := it_f (sk_f (tk_K ytk n) n) j (q + 3)) H (by omega) (nm_r (nI_1 j) ?_)
    rw [← it_s (sk_f (tk_K ytk n) n) j (q + 3)]
    exact ih (j + 1) _ _ _ _ (by omega) (yc_up S rfl rfl)
theorem yL_b (H : tk_ok ytk n) {y q b k hp : Nat} (hy : y < 512) (hS : yfS y = 0) (hP : yfp y = nI q) (hB : yfb y = nI b) (hk : k ≤ 4) (lc : ls_C (tk_K ytk n) (sk_f (tk_K ytk n) n) (q + 3) k) (hN : yfn y = nI (it_f (sk_f (tk_K ytk n) n) k (q + 3))) (hk1 : ∀ i, i < k → tk_K ytk n (it_f (sk_f (tk_K ytk n) n) i (q + 3)) = 1 ∧ it_f (sk_f (tk_K ytk n) n) i (q + 3) + 1 < n) (hh : hp + k ≤ 50000) (hb : b + k ≤ 1024) {Q : Int32 → SY → Prop}
    (h : ∀ ck' ca' cb' cC', yc_S yck yca ycb ycc (fun i => ytv (it_f (sk_f (tk_K ytk n) n) i (q + 3) + 1)) (fun i => yvs (b + i)) (yfe y) hp k ck' ca' cb' cC' → wpY_req Q (yli, nI n, ypr, ygs, ypo, nI (hp + k), yfs, nI b, yfu, ysp, ymd, yac, yst, yrt, ycu, yhv, ytk, ytv, yus, ygk, yga, ygb, ck', ca', cb', cC', yfp, yfe, upd yfS y 1, yfn, yfb, yvs, yds, 50000, 50000, 50000, 50000) (nI (it_f (sk_f (tk_K ytk n) n) k (q + 3) + 1)) (hb_e (yfe y) hp k)) : wpY_stepLet Q (yli, nI n, ypr, ygs, ypo, nI hp, yfs, yvp, yfu, ysp, ymd, yac, yst, yrt, ycu, yhv, ytk, ytv, yus, ygk, yga, ygb, yck, yca, ycb, ycc, yfp, yfe, yfS, yfn, yfb, yvs, yds, 50000, 50000, 50000, 50000) (nI y) := by
  have H1 := H.1
  have bd := ls_bd (K := (tk_K ytk n)) (n := n) (fun i => tk_0) lc
  have hi : vp_in (nI y) 512 := vp_in_nI hy (by omega)
  have hc : (nI y).toNatClampNeg = y := nI_clamp (by omega)
  have hx := (bd.1 k (Nat.le_refl _)).1
  have kx := lc.2
  refine ⟨hi, nm_r (show yfb (nI y).toNatClampNeg = nI b from by rw [hc]; exact hB) ⟨hi, br_f (by rw [hc, hS]; decide) ⟨hi, nm_r (show yfn (nI y).toNatClampNeg = nI (it_f (sk_f (tk_K ytk n) n) k (q + 3)) from by rw [hc]; exact hN) ?_⟩⟩⟩
  refine yt_t (i := it_f (sk_f (tk_K ytk n) n) k (q + 3)) H (by omega) (pk_eq (tk_K ytk n (it_f (sk_f (tk_K ytk n) n) k (q + 3))) 1 (fun z => by omega) (fun _ => ⟨hi, nm_r (show yfe (nI y).toNatClampNeg = yfe y from by rw [hc]) ⟨hi, nm_r (show yfp (nI y).toNatClampNeg + 3 = nI (q + 3) from by rw [hc, hP, ni_3]) ⟨k + 1, ?_⟩⟩⟩))
  refine yL_cL H hk lc hk1 hh hb (fun ck' ca' cb' cC' S => ⟨hi, nm_r (by rw [hc]) ?_⟩) k 0 yck yca ycb ycc (by omega) yc_0
  rw [nI_1 (it_f (sk_f (tk_K ytk n) n) k (q + 3))]
  exact h ck' ca' cb' cC' S
theorem yL_p {y b : Nat} (hy : y < 512) (hS : yfS y = 1) (hB : yfb y = nI b) (hb : b < 1023) {Q : Int32 → SY → Prop} (h : Q 0 (yli, yn, ypr, ygs, ypo, yhp, nI y, nI (b + 1), yfu, ysp, ymd, yac, yst, yrt, ycu, yhv, ytk, ytv, yus, ygk, yga, ygb, yck, yca, ycb, ycc, yfp, yfe, yfS, yfn, yfb, upd yvs b (yvs b), yds, ynk, yna, ynb, ync)) : wpY_stepLet Q (yli, yn, ypr, ygs, ypo, yhp, yfs, nI (b + 1), yfu, ysp, ymd, yac, yst, yrt, ycu, yhv, ytk, ytv, yus, ygk, yga, ygb, yck, yca, ycb, ycc, yfp, yfe, yfS, yfn, yfb, yvs, yds, ynk, yna, ynb, ync) (nI y) := by
  have hi : vp_in (nI y) 512 := vp_in_nI hy (by omega)
  have hc : (nI y).toNatClampNeg = y := nI_clamp (by omega)
  refine ⟨hi, nm_e ⟨hi, br_t (by rw [hc]; exact hS) ?_⟩⟩
  rw [nI_pred b]
  exact yr_vat (i := b) (by omega) (yr_done hy (by omega) hB h)
end
end
section
section
variable {yli yn ypr ygs ypo yhp yfs yvp yfu ysp ymd yac yst yrt ycu yhv : Int32} {ytk ytv yus ygk yga ygb yck yca ycb ycc yfp yfe yfS yfn yfb yvs yds : Nat → Int32} {ynk yna ynb ync : Nat} {n : Nat}
/-! LETREC -/
theorem yR_cL (H : tk_ok ytk n) {y q k hp : Nat} {e0 : Int32} (hk : k ≤ 4) (lc : ls_C (tk_K ytk n) (sk_f (tk_K ytk n) n) (q + 3) k) (hk1 : ∀ i, i < k → tk_K ytk n (it_f (sk_f (tk_K ytk n) n) i (q + 3)) = 1 ∧ it_f (sk_f (tk_K ytk n) n) i (q + 3) + 1 < n) (hh : hp + k ≤ 50000) {Q : Int32 → SY → Prop}
    (h : ∀ ck' ca' cb' cC', yc_S yck yca ycb ycc (fun i => ytv (it_f (sk_f (tk_K ytk n) n) i (q + 3) + 1)) (fun _ => 0) e0 hp k ck' ca' cb' cC' → wY_stepLetrec_114 Q (nI y) (hb_e e0 hp k) yli (nI n) ypr ygs ypo (nI (hp + k)) yfs yvp yfu ysp ymd yac yst yrt ycu yhv ytk ytv yus ygk yga ygb ck' ca' cb' cC' yfp yfe yfS yfn yfb yvs yds 50000 50000 50000 50000) :
    ∀ d j (ck' ca' cb' cC' : Nat → Int32), j + d = k → yc_S yck yca ycb ycc (fun i => ytv (it_f (sk_f (tk_K ytk n) n) i (q + 3) + 1)) (fun _ => 0) e0 hp j ck' ca' cb' cC' → wY_stepLetrec_64 Q (nI y) (d + 1) (hb_e e0 hp j) (nI (it_f (sk_f (tk_K ytk n) n) j (q + 3))) (nI j) yli (nI n) ypr ygs ypo (nI (hp + j)) yfs yvp yfu ysp ymd yac yst yrt ycu yhv ytk ytv yus ygk yga ygb ck' ca' cb' cC' yfp yfe yfS yfn yfb yvs yds 50000 50000 50000 50000 := by
  have H1 := H.1
  have bd := ls_bd (K := (tk_K ytk n)) (n := n) (fun i => tk_0) lc
  intro d
  induction d with
  | zero =>
    intro j ck' ca' cb' cC' e S
    have ej : j = k := by omega
    subst ej
    have hx := (bd.1 j (Nat.le_refl _)).1
    have kx := lc.2
    exact pk_le 4 j (fun _ => h ck' ca' cb' cC' S) (fun _ => yt_t (i := it_f (sk_f (tk_K ytk n) n) j (q + 3)) H (by omega) (pk_eq (tk_K ytk n (it_f (sk_f (tk_K ytk n) n) j (q + 3))) 1 (fun z => by omega) (fun _ => h ck' ca' cb' cC' S)))
  | succ d ih =>
    intro j ck' ca' cb' cC' e S
    have hx := (bd.1 j (by omega)).1
    have kx := hk1 j (by omega)
    refine pk_le 4 j (fun z => by omega) (fun _ => yt_t (i := it_f (sk_f (tk_K ytk n) n) j (q + 3)) H (by omega) (pk_eq (tk_K ytk n (it_f (sk_f (tk_K ytk n) n) j (q + 3))) 1 (fun _ => ?_) (fun z => absurd kx.1 z)))
    rw [nI_1 (it_f (sk_f (tk_K ytk n) n) j (q + 3))]
    refine yt_v (i := it_f (sk_f (tk_K ytk n) n) j (q + 3) + 1) H kx.2 ?_
    refine yr_al (yck := ck') (yca := ca') (ycb := cb') (ycc := cC') (hp := hp + j) (by omega) ?_
    refine yk_skip (i := it_f (sk_f (tk_K ytk n) n) j (q + 3)) H (by omega) (nm_r (nI_1 j) ?_)
    rw [← it_s (sk_f (tk_K ytk n) n) j (q + 3)]
    exact ih (j + 1) _ _ _ _ (by omega) (yc_up S rfl rfl)
theorem yR_0 (H : tk_ok ytk n) {y q k hp : Nat} (hy : y < 512) (hS : yfS y = 0) (hP : yfp y = nI q) (hk : k ≤ 4) (lc : ls_C (tk_K ytk n) (sk_f (tk_K ytk n) n) (q + 3) k) (hk1 : ∀ i, i < k → tk_K ytk n (it_f (sk_f (tk_K ytk n) n) i (q + 3)) = 1 ∧ it_f (sk_f (tk_K ytk n) n) i (q + 3) + 1 < n) (hh : hp + k ≤ 50000) {Q : Int32 → SY → Prop}
    (h : ∀ ck' ca' cb' cC', yc_S yck yca ycb ycc (fun i => ytv (it_f (sk_f (tk_K ytk n) n) i (q + 3) + 1)) (fun _ => 0) (yfe y) hp k ck' ca' cb' cC' → Q 0 (yli, nI n, ypr, ygs, ypo, nI (hp + k), yfs, yvp, yfu, ysp, ymd, yac, yst, yrt, ycu, yhv, ytk, ytv, yus, ygk, yga, ygb, ck', ca', cb', cC', yfp, upd yfe y (hb_e (yfe y) hp k), upd yfS y 1, yfn, yfb, yvs, yds, 50000, 50000, 50000, 50000)) : wpY_stepLetrec Q (yli, nI n, ypr, ygs, ypo, nI hp, yfs, yvp, yfu, ysp, ymd, yac, yst, yrt, ycu, yhv, ytk, ytv, yus, ygk, yga, ygb, yck, yca, ycb, ycc, yfp, yfe, yfS, yfn, yfb, yvs, yds, 50000, 50000, 50000, 50000) (nI y) := by
  have hi : vp_in (nI y) 512 := vp_in_nI hy (by omega)
  have hc : (nI y).toNatClampNeg = y := nI_clamp (by omega)
  refine ⟨hi, nm_e ⟨hi, br_f (by rw [hc, hS]; decide) ⟨hi, br_t (by rw [hc]; exact hS) ⟨hi, nm_r (show yfe (nI y).toNatClampNeg = yfe y from by rw [hc]) ⟨hi, nm_r (show yfp (nI y).toNatClampNeg + 3 = nI (q + 3) from by rw [hc, hP, ni_3]) ⟨k + 1, ?_⟩⟩⟩⟩⟩⟩
  exact yR_cL H hk lc hk1 hh (fun ck' ca' cb' cC' S => ⟨hi, nm_r (by rw [hc]) ⟨hi, nm_r (by rw [hc]) (h ck' ca' cb' cC' S)⟩⟩) k 0 yck yca ycb ycc (by omega) yc_0
theorem yR_n (H : tk_ok ytk n) {y p : Nat} (hy : y < 512) (hS : yfS y = 1) (hN : yfn y = nI p) (hp : p < n) (kp : tk_K ytk n p = 1) {Q : Int32 → SY → Prop} (h : wpY_req Q (yli, nI n, ypr, ygs, ypo, yhp, yfs, yvp, yfu, ysp, ymd, yac, yst, yrt, ycu, yhv, ytk, ytv, yus, ygk, yga, ygb, yck, yca, ycb, ycc, yfp, yfe, yfS, upd yfn y (nI (sk_f (tk_K ytk n) n p)), yfb, yvs, yds, ynk, yna, ynb, ync) (nI (p + 2)) (yfe y)) : wpY_stepLetrec Q (yli, nI n, ypr, ygs, ypo, yhp, yfs, yvp, yfu, ysp, ymd, yac, yst, yrt, ycu, yhv, ytk, ytv, yus, ygk, yga, ygb, yck, yca, ycb, ycc, yfp, yfe, yfS, yfn, yfb, yvs, yds, ynk, yna, ynb, ync) (nI y) := by
  have H1 := H.1
  have hi : vp_in (nI y) 512 := vp_in_nI hy (by omega)
  have hc : (nI y).toNatClampNeg = y := nI_clamp (by omega)
  refine ⟨hi, nm_e ⟨hi, br_f (by rw [hc, hS]; decide) ⟨hi, br_f (by rw [hc, hS]; decide) ⟨hi, nm_r (show yfn (nI y).toNatClampNeg = nI p from by rw [hc]; exact hN) ?_⟩⟩⟩⟩
  refine yt_t (i := p) H (by omega) (pk_eq (tk_K ytk n p) 1 (fun _ => ?_) (fun z => absurd kp z))
  refine yk_skip (i := p) H (by omega) ⟨hi, nm_r (by rw [hc]) ⟨hi, ?_⟩⟩
  rw [hc, ni_2 p]
  exact h
theorem yR_fL (H : tk_ok ytk n) {y q b k h0 : Nat} {x3 : Int32} (hy : y < 512) (hk : k ≤ 4) (lc : ls_C (tk_K ytk n) (sk_f (tk_K ytk n) n) (q + 3) k) (hk1 : ∀ i, i < k → tk_K ytk n (it_f (sk_f (tk_K ytk n) n) i (q + 3)) = 1 ∧ it_f (sk_f (tk_K ytk n) n) i (q + 3) + 1 < n) (hh : h0 + k ≤ 50000) (hb : b + k ≤ 1024) (hw : ∀ i, i < k → ∃ d, d < 50000 ∧ yh_W yca ycc (ytv (it_f (sk_f (tk_K ytk n) n) i (q + 3) + 1)) d (yfe y) (h0 + i)) {Q : Int32 → SY → Prop}
    (h : ∀ cb', (∀ i, i < k → cb' (h0 + i) = yvs (b + i)) → (∀ c, (∀ i, i < k → c ≠ h0 + i) → cb' c = ycb c) → wY_stepLetrec_258 Q (nI y) (nI b) x3 yli (nI n) ypr ygs ypo yhp yfs yvp yfu ysp ymd yac yst yrt ycu yhv ytk ytv yus ygk yga ygb yck yca cb' ycc yfp yfe yfS yfn yfb yvs yds ynk 50000 50000 50000) :
    ∀ d j (cb' : Nat → Int32), j + d = k → (∀ i, i < j → cb' (h0 + i) = yvs (b + i)) → (∀ c, (∀ i, i < j → c ≠ h0 + i) → cb' c = ycb c) → wY_stepLetrec_184 Q (nI y) (nI b) x3 yli (nI n) ypr ygs ypo yhp yfs yvp yfu ysp ymd yac yst yrt ycu yhv ynk 50000 50000 50000 (d + 1) (nI (it_f (sk_f (tk_K ytk n) n) j (q + 3))) (nI j) ytk ytv yus ygk yga ygb yck yca cb' ycc yfp yfe yfS yfn yfb yvs yds := by
  have H1 := H.1
  have bd := ls_bd (K := (tk_K ytk n)) (n := n) (fun i => tk_0) lc
  have hi : vp_in (nI y) 512 := vp_in_nI hy (by omega)
  have hc : (nI y).toNatClampNeg = y := nI_clamp (by omega)
  intro d
  induction d with
  | zero =>
    intro j cb' e s1 s2
    have ej : j = k := by omega
    subst ej
    have hx := (bd.1 j (Nat.le_refl _)).1
    have kx := lc.2
    exact pk_le 4 j (fun _ => h cb' s1 s2) (fun _ => yt_t (i := it_f (sk_f (tk_K ytk n) n) j (q + 3)) H (by omega) (pk_eq (tk_K ytk n (it_f (sk_f (tk_K ytk n) n) j (q + 3))) 1 (fun z => by omega) (fun _ => h cb' s1 s2)))
  | succ d ih =>
    intro j cb' e s1 s2
    have hx := (bd.1 j (by omega)).1
    have kx := hk1 j (by omega)
    obtain ⟨dw, dl, w⟩ := hw j (by omega)
    have hcl : (nI (h0 + j)).toNatClampNeg = h0 + j := nI_clamp (by omega)
    refine pk_le 4 j (fun z => by omega) (fun _ => yt_t (i := it_f (sk_f (tk_K ytk n) n) j (q + 3)) H (by omega) (pk_eq (tk_K ytk n (it_f (sk_f (tk_K ytk n) n) j (q + 3))) 1 (fun _ => ?_) (fun z => absurd kx.1 z)))
    rw [nI_1 (it_f (sk_f (tk_K ytk n) n) j (q + 3)), nI_add b j]
    refine yt_v (i := it_f (sk_f (tk_K ytk n) n) j (q + 3) + 1) H kx.2 ⟨hi, ?_⟩
    rw [hc]
    refine yr_cell (ycb := cb') dl w (br_f (nI_pos (by omega)) (yr_vat (i := b + j) (by omega) ⟨vp_in_nI (by omega) (by omega), fun cb2 e2 => ?_⟩))
    rw [hcl] at e2
    refine yk_skip (i := it_f (sk_f (tk_K ytk n) n) j (q + 3)) H (by omega) (nm_r (nI_1 j) ?_)
    rw [← it_s (sk_f (tk_K ytk n) n) j (q + 3)]
    refine ih (j + 1) cb2 (by omega) (fun i hi' => ?_) (fun c hc' => ?_)
    · rw [e2]
      by_cases z : i = j
      · rw [z]; exact pk_us
      · rw [pk_un (by omega)]; exact s1 i (by omega)
    · rw [e2, pk_un (hc' j (by omega))]
      exact s2 c (fun i hi' => hc' i (by omega))
theorem yR_b (H : tk_ok ytk n) {y q b k h0 : Nat} (hy : y < 512) (hS : yfS y = 1) (hP : yfp y = nI q) (hB : yfb y = nI b) (hk : k ≤ 4) (lc : ls_C (tk_K ytk n) (sk_f (tk_K ytk n) n) (q + 3) k) (hN : yfn y = nI (it_f (sk_f (tk_K ytk n) n) k (q + 3))) (hk1 : ∀ i, i < k → tk_K ytk n (it_f (sk_f (tk_K ytk n) n) i (q + 3)) = 1 ∧ it_f (sk_f (tk_K ytk n) n) i (q + 3) + 1 < n) (hh : h0 + k ≤ 50000) (hb : b + k ≤ 1024) (hw : ∀ i, i < k → ∃ d, d < 50000 ∧ yh_W yca ycc (ytv (it_f (sk_f (tk_K ytk n) n) i (q + 3) + 1)) d (yfe y) (h0 + i)) {Q : Int32 → SY → Prop}
    (h : ∀ cb', (∀ i, i < k → cb' (h0 + i) = yvs (b + i)) → (∀ c, (∀ i, i < k → c ≠ h0 + i) → cb' c = ycb c) → wpY_req Q (yli, nI n, ypr, ygs, ypo, yhp, yfs, nI b, yfu, ysp, ymd, yac, yst, yrt, ycu, yhv, ytk, ytv, yus, ygk, yga, ygb, yck, yca, cb', ycc, yfp, yfe, upd yfS y 2, yfn, yfb, yvs, yds, ynk, 50000, 50000, 50000) (nI (it_f (sk_f (tk_K ytk n) n) k (q + 3) + 1)) (yfe y)) : wpY_stepLetrec Q (yli, nI n, ypr, ygs, ypo, yhp, yfs, yvp, yfu, ysp, ymd, yac, yst, yrt, ycu, yhv, ytk, ytv, yus, ygk, yga, ygb, yck, yca, ycb, ycc, yfp, yfe, yfS, yfn, yfb, yvs, yds, ynk, 50000, 50000, 50000) (nI y) := by
  have H1 := H.1
  have bd := ls_bd (K := (tk_K ytk n)) (n := n) (fun i => tk_0) lc
  have hi : vp_in (nI y) 512 := vp_in_nI hy (by omega)
  have hc : (nI y).toNatClampNeg = y := nI_clamp (by omega)
  have hx := (bd.1 k (Nat.le_refl _)).1
  have kx := lc.2
  refine ⟨hi, nm_r (show yfb (nI y).toNatClampNeg = nI b from by rw [hc]; exact hB) ⟨hi, br_f (by rw [hc, hS]; decide) ⟨hi, br_f (by rw [hc, hS]; decide) ⟨hi, nm_r (show yfn (nI y).toNatClampNeg = nI (it_f (sk_f (tk_K ytk n) n) k (q + 3)) from by rw [hc]; exact hN) ?_⟩⟩⟩⟩
  refine yt_t (i := it_f (sk_f (tk_K ytk n) n) k (q + 3)) H (by omega) (pk_eq (tk_K ytk n (it_f (sk_f (tk_K ytk n) n) k (q + 3))) 1 (fun z => by omega) (fun _ => ⟨hi, nm_r (show yfp (nI y).toNatClampNeg + 3 = nI (q + 3) from by rw [hc, hP, ni_3]) ⟨k + 1, ?_⟩⟩))
  refine yR_fL H hy hk lc hk1 hh hb hw (fun cb' s1 s2 => ⟨hi, nm_r (by rw [hc]) ⟨hi, ?_⟩⟩) k 0 ycb (by omega) (fun i hi => by omega) (fun c _ => rfl)
  rw [hc, nI_1 (it_f (sk_f (tk_K ytk n) n) k (q + 3))]
  exact h cb' s1 s2
theorem yR_p {y b : Nat} (hy : y < 512) (hS : yfS y = 2) (hB : yfb y = nI b) (hb : b < 1023) {Q : Int32 → SY → Prop} (h : Q 0 (yli, yn, ypr, ygs, ypo, yhp, nI y, nI (b + 1), yfu, ysp, ymd, yac, yst, yrt, ycu, yhv, ytk, ytv, yus, ygk, yga, ygb, yck, yca, ycb, ycc, yfp, yfe, yfS, yfn, yfb, upd yvs b (yvs b), yds, ynk, yna, ynb, ync)) : wpY_stepLetrec Q (yli, yn, ypr, ygs, ypo, yhp, yfs, nI (b + 1), yfu, ysp, ymd, yac, yst, yrt, ycu, yhv, ytk, ytv, yus, ygk, yga, ygb, yck, yca, ycb, ycc, yfp, yfe, yfS, yfn, yfb, yvs, yds, ynk, yna, ynb, ync) (nI y) := by
  have hi : vp_in (nI y) 512 := vp_in_nI hy (by omega)
  have hc : (nI y).toNatClampNeg = y := nI_clamp (by omega)
  refine ⟨hi, nm_e ⟨hi, br_t (by rw [hc]; exact hS) ?_⟩⟩
  rw [nI_pred b]
  exact yr_vat (i := b) (by omega) (yr_done hy (by omega) hB h)
/-! operators -/
theorem yO_sel {y h' : Nat} (hh : 11 ≤ h' ∧ h' ≤ 20) {Q : Int32 → SY → Prop} (h : wY_stepOp_23 Q (nI y) (nI h') (nI (gr_n h')) yli yn ypr ygs ypo yhp yfs yvp yfu ysp ymd yac yst yrt ycu yhv ytk ytv yus ygk yga ygb yck yca ycb ycc yfp yfe yfS yfn yfb yvs yds ynk yna ynb ync) : wpY_stepOp Q (yli, yn, ypr, ygs, ypo, yhp, yfs, yvp, yfu, ysp, ymd, yac, yst, yrt, ycu, yhv, ytk, ytv, yus, ygk, yga, ygb, yck, yca, ycb, ycc, yfp, yfe, yfS, yfn, yfb, yvs, yds, ynk, yna, ynb, ync) (nI y) (nI h') := by
  have e1 : (h' = 12 ∨ h' = 13 ∨ h' = 14) → gr_n h' = 1 := fun z => by unfold gr_n; rw [if_neg (by omega), if_pos z]
  have e2 : ¬ (h' = 12 ∨ h' = 13 ∨ h' = 14) → gr_n h' = 2 := fun z => by unfold gr_n; rw [if_neg (by omega), if_neg z]
  refine pk_eq h' 12 (fun z => ?_) (fun z12 => pk_eq h' 13 (fun z => ?_) (fun z13 => pk_eq h' 14 (fun z => ?_) (fun z14 => ?_)))
  · rw [e1 (by omega)] at h; exact h
  · rw [e1 (by omega)] at h; exact h
  · rw [e1 (by omega)] at h; exact h
  · rw [e2 (by omega)] at h; exact h
theorem yO_n (H : tk_ok ytk n) {y p k h' m : Nat} (hy : y < 512) (hk : k < m) (hm : m ≤ 3) (hS : yfS y = nI k) (hN : yfn y = nI p) (hp : p < n) {Q : Int32 → SY → Prop} (h : wpY_req Q (yli, nI n, ypr, ygs, ypo, yhp, yfs, yvp, yfu, ysp, ymd, yac, yst, yrt, ycu, yhv, ytk, ytv, yus, ygk, yga, ygb, yck, yca, ycb, ycc, yfp, yfe, upd yfS y (nI (k + 1)), upd yfn y (nI (sk_f (tk_K ytk n) n p)), yfb, yvs, yds, ynk, yna, ynb, ync) (nI p) (yfe y)) : wY_stepOp_23 Q (nI y) (nI h') (nI m) yli (nI n) ypr ygs ypo yhp yfs yvp yfu ysp ymd yac yst yrt ycu yhv ytk ytv yus ygk yga ygb yck yca ycb ycc yfp yfe yfS yfn yfb yvs yds ynk yna ynb ync := by
  have H1 := H.1
  have hi : vp_in (nI y) 512 := vp_in_nI hy (by omega)
  have hc : (nI y).toNatClampNeg = y := nI_clamp (by omega)
  refine ⟨hi, ?_⟩
  rw [hc, hS]
  refine pk_le m k (fun z => by omega) (fun _ => ⟨hi, nm_r hN (yk_skip (i := p) H (by omega) ⟨hi, nm_e ⟨hi, hi, nm_r (by rw [nI_1]) ⟨hi, h⟩⟩⟩)⟩)
end
end
section
section
variable {yli yn ypr ygs ypo yhp yfs yvp yfu ysp ymd yac yst yrt ycu yhv : Int32} {ytk ytv yus ygk yga ygb yck yca ycb ycc yfp yfe yfS yfn yfb yvs yds : Nat → Int32} {ynk yna ynb ync : Nat} {n : Nat}
/-- an operator's operands are there -/
theorem yO_cons {y b hp : Nat} (hy : y < 512) (hb : b + 1 < 1024) (hh : hp < 50000) (hS : yfS y = 2) (hB : yfb y = nI b) {Q : Int32 → SY → Prop}
    (h : Q 0 (yli, yn, ypr, ygs, ypo, nI (hp + 1), nI y, nI (b + 1), yfu, ysp, ymd, yac, yst, yrt, ycu, yhv, ytk, ytv, yus, ygk, yga, ygb, upd yck hp 3, upd yca hp (yvs b), upd ycb hp (yvs (b + 1)), upd ycc hp 0, yfp, yfe, yfS, yfn, yfb, upd yvs b (nI hp), yds, 50000, 50000, 50000, 50000)) : wY_stepOp_23 Q (nI y) (nI 11) (nI 2) yli yn ypr ygs ypo (nI hp) yfs yvp yfu ysp ymd yac yst yrt ycu yhv ytk ytv yus ygk yga ygb yck yca ycb ycc yfp yfe yfS yfn yfb yvs yds 50000 50000 50000 50000 := by
  have hi : vp_in (nI y) 512 := vp_in_nI hy (by omega)
  have hc : (nI y).toNatClampNeg = y := nI_clamp (by omega)
  refine ⟨hi, ?_⟩
  rw [hc, hS, hB, nI_1 b]
  refine pk_le 2 2 (fun _ => ⟨hi, yr_vat (i := b) (by omega) ⟨hi, yr_vat (i := b + 1) (by omega) (pk_eq 11 11 (fun _ => ?_) (fun z => absurd rfl z))⟩⟩) (fun z => by omega)
  exact yr_al hh (yr_done hy (by omega) hB h)
theorem yO_null {y b hp a : Nat} (hy : y < 512) (hb : b + 1 < 1024) (hh : hp < 50000) (ha : a < 50000) (hS : yfS y = 1) (hB : yfb y = nI b) (hv : yvs b = nI a) {Q : Int32 → SY → Prop}
    (h : Q 0 (yli, yn, ypr, ygs, ypo, nI (hp + 1), nI y, nI (b + 1), yfu, ysp, ymd, yac, yst, yrt, ycu, yhv, ytk, ytv, yus, ygk, yga, ygb, upd yck hp 1, upd yca hp (if yck a = 2 then 1 else 0), upd ycb hp 0, upd ycc hp 0, yfp, yfe, yfS, yfn, yfb, upd yvs b (nI hp), yds, 50000, 50000, 50000, 50000)) : wY_stepOp_23 Q (nI y) (nI 14) (nI 1) yli yn ypr ygs ypo (nI hp) yfs yvp yfu ysp ymd yac yst yrt ycu yhv ytk ytv yus ygk yga ygb yck yca ycb ycc yfp yfe yfS yfn yfb yvs yds 50000 50000 50000 50000 := by
  have hi : vp_in (nI y) 512 := vp_in_nI hy (by omega)
  have hc : (nI y).toNatClampNeg = y := nI_clamp (by omega)
  refine ⟨hi, ?_⟩
  rw [hc, hS, hB, nI_1 b]
  refine pk_le 1 1 (fun _ => ⟨hi, yr_vat (i := b) (by omega) ⟨hi, yr_vat (i := b + 1) (by omega) (pk_eq 14 11 (fun z => by omega) (fun _ => pk_eq 14 14 (fun _ => ?_) (fun z => absurd rfl z)))⟩⟩) (fun z => by omega)
  rw [hv, nI_clamp (n := a) (by omega)]
  refine ⟨vp_in_nI ha (by omega), ?_⟩
  by_cases k2 : yck a = 2
  · rw [if_pos k2] at h
    exact br_t k2 (yr_al hh (yr_done hy (by omega) hB h))
  · rw [if_neg k2] at h
    exact br_f k2 (yr_al hh (yr_done hy (by omega) hB h))
theorem yO_part {y b a h' : Nat} (hy : y < 512) (hb : b + 1 < 1024) (ha : a < 50000) (hh : h' = 12 ∨ h' = 13) (hS : yfS y = 1) (hB : yfb y = nI b) (hv : yvs b = nI a) {Q : Int32 → SY → Prop}
    (h6 : yck a ≠ 3 → Q 6 (yli, yn, ypr, ygs, ypo, yhp, yfs, yvp, yfu, ysp, ymd, yac, yst, yrt, ycu, yhv, ytk, ytv, yus, ygk, yga, ygb, yck, yca, ycb, ycc, yfp, yfe, yfS, yfn, yfb, yvs, yds, 50000, 50000, 50000, ync)) (h : yck a = 3 → Q 0 (yli, yn, ypr, ygs, ypo, yhp, nI y, nI (b + 1), yfu, ysp, ymd, yac, yst, yrt, ycu, yhv, ytk, ytv, yus, ygk, yga, ygb, yck, yca, ycb, ycc, yfp, yfe, yfS, yfn, yfb, upd yvs b (if h' = 12 then yca a else ycb a), yds, 50000, 50000, 50000, ync)) : wY_stepOp_23 Q (nI y) (nI h') (nI 1) yli yn ypr ygs ypo yhp yfs yvp yfu ysp ymd yac yst yrt ycu yhv ytk ytv yus ygk yga ygb yck yca ycb ycc yfp yfe yfS yfn yfb yvs yds 50000 50000 50000 ync := by
  have hi : vp_in (nI y) 512 := vp_in_nI hy (by omega)
  have hc : (nI y).toNatClampNeg = y := nI_clamp (by omega)
  have hia : vp_in (nI a) 50000 := vp_in_nI ha (by omega)
  refine ⟨hi, ?_⟩
  rw [hc, hS, hB, nI_1 b]
  have f180 : wY_stepOp_180 Q (nI y) (nI h') (nI a) yli yn ypr ygs ypo yhp yfs yvp yfu ysp ymd yac yst yrt ycu yhv ytk ytv yus ygk yga ygb yck yca ycb ycc yfp yfe yfS yfn yfb yvs yds 50000 50000 50000 ync := by
    refine ⟨hia, ?_⟩
    rw [nI_clamp (n := a) (by omega)]
    by_cases k3 : yck a = 3
    · refine br_t k3 (pk_eq h' 12 (fun z => ⟨hia, ?_⟩) (fun z => ⟨hia, ?_⟩))
      · have := h k3; rw [if_pos z] at this
        exact yr_done hy (by omega) hB this
      · have := h k3; rw [if_neg z] at this
        exact yr_done hy (by omega) hB this
    · exact br_f k3 (h6 k3)
  refine pk_le 1 1 (fun _ => ⟨hi, yr_vat (i := b) (by omega) ⟨hi, yr_vat (i := b + 1) (by omega) (pk_eq h' 11 (fun z => by omega) (fun _ => pk_eq h' 14 (fun z => by omega) (fun _ => pk_eq h' 12 (fun _ => ?_) (fun _ => pk_eq h' 13 (fun _ => ?_) (fun z => by omega)))))⟩⟩) (fun z => by omega)
  · rw [hv]; exact f180
  · rw [hv]; exact f180
theorem yO_calc {y b a c h' hp : Nat} (hy : y < 512) (hb : b + 1 < 1024) (hh : hp < 50000) (ha : a < 50000) (hcc : c < 50000) (hh' : 15 ≤ h' ∧ h' ≤ 20) (hS : yfS y = 2) (hB : yfb y = nI b) (hv : yvs b = nI a) (hv2 : yvs (b + 1) = nI c) {Q : Int32 → SY → Prop}
    (h6 : ¬ (yck a = 1 ∧ yck c = 1) → Q 6 (yli, yn, ypr, ygs, ypo, nI hp, yfs, yvp, yfu, ysp, ymd, yac, yst, yrt, ycu, yhv, ytk, ytv, yus, ygk, yga, ygb, yck, yca, ycb, ycc, yfp, yfe, yfS, yfn, yfb, yvs, yds, 50000, 50000, 50000, 50000)) (h7 : yck a = 1 → yck c = 1 → h' = 18 → yca c = 0 → Q 7 (yli, yn, ypr, ygs, ypo, nI hp, yfs, yvp, yfu, ysp, ymd, yac, yst, yrt, ycu, yhv, ytk, ytv, yus, ygk, yga, ygb, yck, yca, ycb, ycc, yfp, yfe, yfS, yfn, yfb, yvs, yds, 50000, 50000, 50000, 50000))
    (h : yck a = 1 → yck c = 1 → ¬ (h' = 18 ∧ yca c = 0) → Q 0 (yli, yn, ypr, ygs, ypo, nI (hp + 1), nI y, nI (b + 1), yfu, ysp, ymd, yac, yst, yrt, ycu, yhv, ytk, ytv, yus, ygk, yga, ygb, upd yck hp 1, upd yca hp (al_op h' (yca a) (yca c)), upd ycb hp 0, upd ycc hp 0, yfp, yfe, yfS, yfn, yfb, upd yvs b (nI hp), yds, 50000, 50000, 50000, 50000)) : wY_stepOp_23 Q (nI y) (nI h') (nI 2) yli yn ypr ygs ypo (nI hp) yfs yvp yfu ysp ymd yac yst yrt ycu yhv ytk ytv yus ygk yga ygb yck yca ycb ycc yfp yfe yfS yfn yfb yvs yds 50000 50000 50000 50000 := by
  have hi : vp_in (nI y) 512 := vp_in_nI hy (by omega)
  have hc : (nI y).toNatClampNeg = y := nI_clamp (by omega)
  have hia : vp_in (nI a) 50000 := vp_in_nI ha (by omega)
  have hic : vp_in (nI c) 50000 := vp_in_nI hcc (by omega)
  refine ⟨hi, ?_⟩
  rw [hc, hS, hB, nI_1 b]
  refine pk_le 2 2 (fun _ => ⟨hi, yr_vat (i := b) (by omega) ⟨hi, yr_vat (i := b + 1) (by omega) (pk_eq h' 11 (fun z => by omega) (fun _ => pk_eq h' 14 (fun z => by omega) (fun _ => pk_eq h' 12 (fun z => by omega) (fun _ => pk_eq h' 13 (fun z => by omega) (fun _ => ?_)))))⟩⟩) (fun z => by omega)
  rw [hv, hv2, nI_clamp (n := a) (by omega), nI_clamp (n := c) (by omega)]
  refine ⟨hia, ?_⟩
  by_cases v1 : yck a = 1
  · refine br_t v1 ⟨hic, ?_⟩
    by_cases v2 : yck c = 1
    · refine br_t v2 ⟨hia, nm_e ⟨hic, nm_e ?_⟩⟩
      have fin : ¬ (h' = 18 ∧ yca c = 0) → ∀ z, z = al_op h' (yca a) (yca c) → wY_stepOp_360 Q (nI y) z yli yn ypr ygs ypo (nI hp) yfs yvp yfu ysp ymd yac yst yrt ycu yhv ytk ytv yus ygk yga ygb yck yca ycb ycc yfp yfe yfS yfn yfb yvs yds 50000 50000 50000 50000 := fun w z e => by
        rw [e]; exact yr_al hh (yr_done hy (by omega) hB (h v1 v2 w))
      have f339 : ∀ z, (h' ≠ 18 → z = al_op h' (yca a) (yca c)) → wY_stepOp_339 Q (nI y) (nI h') (yca a) (yca c) z yli yn ypr ygs ypo (nI hp) yfs yvp yfu ysp ymd yac yst yrt ycu yhv ytk ytv yus ygk yga ygb yck yca ycb ycc yfp yfe yfS yfn yfb yvs yds 50000 50000 50000 50000 := fun z e => by
        refine pk_eq h' 18 (fun k => ?_) (fun k => fin (fun w => k w.1) z (e k))
        by_cases c0 : yca c = 0
        · exact br_t c0 (h7 v1 v2 k c0)
        · exact br_f c0 ⟨c0, nm_e (fin (fun w => c0 w.2) _ (by rw [k]; rfl))⟩
      have f300 : ∀ z, (h' ≠ 15 → h' ≠ 16 → h' ≠ 17 → h' ≠ 18 → z = al_op h' (yca a) (yca c)) → wY_stepOp_300 Q (nI y) (nI h') (yca a) (yca c) z yli yn ypr ygs ypo (nI hp) yfs yvp yfu ysp ymd yac yst yrt ycu yhv ytk ytv yus ygk yga ygb yck yca ycb ycc yfp yfe yfS yfn yfb yvs yds 50000 50000 50000 50000 := fun z e => by
        refine pk_eq h' 15 (fun k => nm_e ?_) (fun k15 => ?_)
        · refine pk_eq h' 16 (fun k => by omega) (fun _ => pk_eq h' 17 (fun k => by omega) (fun _ => f339 _ (fun _ => by rw [k]; rfl)))
        · refine pk_eq h' 16 (fun k => nm_e ?_) (fun k16 => ?_)
          · exact pk_eq h' 17 (fun k => by omega) (fun _ => f339 _ (fun _ => by rw [k]; rfl))
          · refine pk_eq h' 17 (fun k => nm_e (f339 _ (fun _ => by rw [k]; rfl))) (fun k17 => f339 _ (fun k18 => e k15 k16 k17 k18))
      have f278 : ∀ z, (h' = 20 → z = al_op h' (yca a) (yca c)) → wY_stepOp_278 Q (nI y) (nI h') (yca a) (yca c) z yli yn ypr ygs ypo (nI hp) yfs yvp yfu ysp ymd yac yst yrt ycu yhv ytk ytv yus ygk yga ygb yck yca ycb ycc yfp yfe yfS yfn yfb yvs yds 50000 50000 50000 50000 := fun z e => by
        refine pk_eq h' 19 (fun k => ?_) (fun k19 => f300 _ (fun a1 a2 a3 a4 => e (by omega)))
        by_cases ee : yca a = yca c
        · exact br_t ee (f300 1 (fun _ _ _ _ => by rw [k]; unfold al_op; simp [ee]))
        · exact br_f ee (f300 0 (fun _ _ _ _ => by rw [k]; unfold al_op; simp [ee]))
      by_cases le : yca c ≤ yca a
      · exact br_t le (f278 0 (fun k => by rw [k]; unfold al_op; simp [le]))
      · exact br_f le (f278 1 (fun k => by rw [k]; unfold al_op; simp [le]))
    · exact br_f v2 (h6 (fun w => v2 w.2))
  · exact br_f v1 (h6 (fun w => v1 w.1))
/-! calls -/
theorem yA_a (H : tk_ok ytk n) {y p : Nat} (hy : y < 512) (hS : yfS y = 0) (hN : yfn y = nI p) (hp : p < n) (kp : tk_K ytk n p ≠ 2) {Q : Int32 → SY → Prop} (h : wpY_req Q (yli, nI n, ypr, ygs, ypo, yhp, yfs, yvp, yfu, ysp, ymd, yac, yst, yrt, ycu, yhv, ytk, ytv, yus, ygk, yga, ygb, yck, yca, ycb, ycc, yfp, yfe, yfS, upd yfn y (nI (sk_f (tk_K ytk n) n p)), yfb, yvs, yds, ynk, yna, ynb, ync) (nI p) (yfe y)) : wpY_stepApp Q (yli, nI n, ypr, ygs, ypo, yhp, yfs, yvp, yfu, ysp, ymd, yac, yst, yrt, ycu, yhv, ytk, ytv, yus, ygk, yga, ygb, yck, yca, ycb, ycc, yfp, yfe, yfS, yfn, yfb, yvs, yds, ynk, yna, ynb, ync) (nI y) := by
  have H1 := H.1
  have k20 := tk_20 H p
  have hi : vp_in (nI y) 512 := vp_in_nI hy (by omega)
  have hc : (nI y).toNatClampNeg = y := nI_clamp (by omega)
  refine ⟨hi, nm_e ⟨hi, nm_r (show yfS (nI y).toNatClampNeg = 0 from by rw [hc]; exact hS) (br_f (by decide) (br_t rfl ⟨hi, nm_r (show yfn (nI y).toNatClampNeg = nI p from by rw [hc]; exact hN) ?_⟩))⟩⟩
  refine yt_t (i := p) H (by omega) (pk_eq (tk_K ytk n p) 2 (fun z => absurd z kp) (fun _ => ?_))
  refine yk_skip (i := p) H (by omega) ⟨hi, nm_r (by rw [hc]) ⟨hi, ?_⟩⟩
  rw [hc]
  exact h
theorem yA_h (H : tk_ok ytk n) {y p q : Nat} (hy : y < 512) (hS : yfS y = 0) (hP : yfp y = nI q) (hN : yfn y = nI p) (hp : p < n) (kp : tk_K ytk n p = 2) {Q : Int32 → SY → Prop} (h : wpY_req Q (yli, nI n, ypr, ygs, ypo, yhp, yfs, yvp, yfu, ysp, ymd, yac, yst, yrt, ycu, yhv, ytk, ytv, yus, ygk, yga, ygb, yck, yca, ycb, ycc, yfp, yfe, upd yfS y 1, yfn, yfb, yvs, yds, ynk, yna, ynb, ync) (nI (q + 1)) (yfe y)) : wpY_stepApp Q (yli, nI n, ypr, ygs, ypo, yhp, yfs, yvp, yfu, ysp, ymd, yac, yst, yrt, ycu, yhv, ytk, ytv, yus, ygk, yga, ygb, yck, yca, ycb, ycc, yfp, yfe, yfS, yfn, yfb, yvs, yds, ynk, yna, ynb, ync) (nI y) := by
  have H1 := H.1
  have hi : vp_in (nI y) 512 := vp_in_nI hy (by omega)
  have hc : (nI y).toNatClampNeg = y := nI_clamp (by omega)
  refine ⟨hi, nm_e ⟨hi, nm_r (show yfS (nI y).toNatClampNeg = 0 from by rw [hc]; exact hS) (br_f (by decide) (br_t rfl ⟨hi, nm_r (show yfn (nI y).toNatClampNeg = nI p from by rw [hc]; exact hN) ?_⟩))⟩⟩
  refine yt_t (i := p) H (by omega) (pk_eq (tk_K ytk n p) 2 (fun _ => ⟨hi, nm_r (by rw [hc]) ⟨hi, hi, ?_⟩⟩) (fun z => absurd kp z))
  rw [hc, hP, nI_1 q]
  exact h
theorem yA_r {y b : Nat} (hy : y < 512) (hS : yfS y = 2) (hB : yfb y = nI b) (hb : b < 1023) {Q : Int32 → SY → Prop} (h : Q 0 (yli, yn, ypr, ygs, ypo, yhp, nI y, nI (b + 1), yfu, ysp, ymd, yac - 1, yst, yrt, ycu, yhv, ytk, ytv, yus, ygk, yga, ygb, yck, yca, ycb, ycc, yfp, yfe, yfS, yfn, yfb, upd yvs b (yvs b), yds, ynk, yna, ynb, ync)) : wpY_stepApp Q (yli, yn, ypr, ygs, ypo, yhp, yfs, nI (b + 1), yfu, ysp, ymd, yac, yst, yrt, ycu, yhv, ytk, ytv, yus, ygk, yga, ygb, yck, yca, ycb, ycc, yfp, yfe, yfS, yfn, yfb, yvs, yds, ynk, yna, ynb, ync) (nI y) := by
  have hi : vp_in (nI y) 512 := vp_in_nI hy (by omega)
  have hc : (nI y).toNatClampNeg = y := nI_clamp (by omega)
  refine ⟨hi, nm_e ⟨hi, nm_r (show yfS (nI y).toNatClampNeg = 2 from by rw [hc]; exact hS) (br_t rfl (nm_e ?_))⟩⟩
  rw [nI_pred b]
  exact yr_vat (i := b) (by omega) (yr_done hy (by omega) hB h)
theorem yA_arL (H : tk_ok ytk n) {q c : Nat} (hq : q < n) (P : gr_P (tk_K ytk n) ytv (q + 2) c) {post : Int32 → Prop} (h : post (nI c)) : ∀ d j, j + d = c → wY_arity_6 post yli (nI n) ypr ygs ypo yhp yfs yvp yfu ysp ymd yac yst yrt ycu yhv ytk ytv yus ygk yga ygb yck yca ycb ycc yfp yfe yfS yfn yfb yvs yds ynk yna ynb ync (d + 1) (nI j) (nI (q + 3 + j)) := by
  have H1 := H.1
  have c4 := P.1
  intro d
  induction d with
  | zero =>
    intro j e
    have ej : j = c := by omega
    subst ej
    have k2 : tk_K ytk n (q + 3 + j) = 2 := P.2.2.1
    exact pk_le 5 j (fun z => by omega) (fun _ => yt_t (i := q + 3 + j) H (by omega) (pk_eq (tk_K ytk n (q + 3 + j)) 4 (fun z => by omega) (fun _ => h)))
  | succ d ih =>
    intro j e
    have k4 : tk_K ytk n (q + 3 + j) = 4 := P.2.1 j (by omega)
    exact pk_le 5 j (fun z => by omega) (fun _ => yt_t (i := q + 3 + j) H (by omega) (pk_eq (tk_K ytk n (q + 3 + j)) 4 (fun _ => nm_r (nI_1 j) (nm_r (nI_1 (q + 3 + j)) (ih (j + 1) (by omega)))) (fun z => absurd k4 z)))
theorem yA_ar (H : tk_ok ytk n) {q c : Nat} (hq : q < n) (P : gr_P (tk_K ytk n) ytv (q + 2) c) {post : Int32 → Prop} (h : post (nI c)) : wpY_arity post (yli, nI n, ypr, ygs, ypo, yhp, yfs, yvp, yfu, ysp, ymd, yac, yst, yrt, ycu, yhv, ytk, ytv, yus, ygk, yga, ygb, yck, yca, ycb, ycc, yfp, yfe, yfS, yfn, yfb, yvs, yds, ynk, yna, ynb, ync) (nI q) :=
  nm_r (ni_3 q) ⟨c + 1, yA_arL H hq P h c 0 (by omega)⟩
theorem yA_cL (H : tk_ok ytk n) {y q b k hp : Nat} {e0 : Int32} (hk : k ≤ 4) (hq : q + 3 + k < n) (hh : hp + k ≤ 50000) (hb : b + k ≤ 1024) {Q : Int32 → SY → Prop}
    (h : ∀ ck' ca' cb' cC', yc_S yck yca ycb ycc (fun i => ytv (q + 3 + i)) (fun i => yvs (b + i)) e0 hp k ck' ca' cb' cC' → wY_stepApp_290 Q (nI y) (nI b) (nI k) (nI q) (hb_e e0 hp k) yli (nI n) ypr ygs ypo (nI (hp + k)) yfs yvp yfu ysp ymd yac yst yrt ycu yhv ytk ytv yus ygk yga ygb ck' ca' cb' cC' yfp yfe yfS yfn yfb yvs yds 50000 50000 50000 50000) :
    ∀ d j (ck' ca' cb' cC' : Nat → Int32), j + d = k → yc_S yck yca ycb ycc (fun i => ytv (q + 3 + i)) (fun i => yvs (b + i)) e0 hp j ck' ca' cb' cC' → wY_stepApp_235 Q (nI y) (nI b) (nI k) (nI q) (d + 1) (hb_e e0 hp j) (nI j) yli (nI n) ypr ygs ypo (nI (hp + j)) yfs yvp yfu ysp ymd yac yst yrt ycu yhv ytk ytv yus ygk yga ygb ck' ca' cb' cC' yfp yfe yfS yfn yfb yvs yds 50000 50000 50000 50000 := by
  have H1 := H.1
  intro d
  induction d with
  | zero =>
    intro j ck' ca' cb' cC' e S
    have ej : j = k := by omega
    subst ej
    exact pk_le 4 j (fun _ => h ck' ca' cb' cC' S) (fun _ => pk_le j j (fun _ => h ck' ca' cb' cC' S) (fun z => by omega))
  | succ d ih =>
    intro j ck' ca' cb' cC' e S
    refine pk_le 4 j (fun z => by omega) (fun _ => pk_le k j (fun z => by omega) (fun _ => ?_))
    rw [ni_3 q, nI_add (q + 3) j, nI_add b j]
    refine yt_v (i := q + 3 + j) H (by omega) (yr_vat (i := b + j) (by omega) ?_)
    refine yr_al (yck := ck') (yca := ca') (ycb := cb') (ycc := cC') (hp := hp + j) (by omega) (nm_r (nI_1 j) ?_)
    exact ih (j + 1) _ _ _ _ (by omega) (yc_up S rfl rfl)
theorem yA_c (H : tk_ok ytk n) {y b k f hp : Nat} (hy : y < 512) (hS : yfS y = 1) (hB : yfb y = nI b) (hb : b + k + 1 ≤ 1024) (hf : f < 50000) (hk : k ≤ 4) (hh : hp + k ≤ 50000) (hv : yvs (b + k) = nI f) {Q : Int32 → SY → Prop}
    (h8 : yck f ≠ 4 → Q 8 (yli, nI n, ypr, ygs, ypo, nI hp, yfs, nI (b + k + 1), yfu, ysp, ymd, yac, yst, yrt, ycu, yhv, ytk, ytv, yus, ygk, yga, ygb, yck, yca, ycb, ycc, yfp, yfe, yfS, yfn, yfb, yvs, yds, 50000, 50000, 50000, 50000))
    (hcl : yck f = 4 → ∃ q c, yca f = nI q ∧ q + 3 + c < n ∧ gr_P (tk_K ytk n) ytv (q + 2) c ∧ (c ≠ k → Q 9 (yli, nI n, ypr, ygs, ypo, nI hp, yfs, nI (b + k + 1), yfu, ysp, ymd, yac, yst, yrt, ycu, yhv, ytk, ytv, yus, ygk, yga, ygb, yck, yca, ycb, ycc, yfp, yfe, yfS, yfn, yfb, yvs, yds, 50000, 50000, 50000, 50000)) ∧ (c = k → yac = yli → Q 5 (yli, nI n, ypr, ygs, ypo, nI hp, yfs, nI (b + k + 1), yfu, ysp, ymd, yac, yst, yrt, ycu, yhv, ytk, ytv, yus, ygk, yga, ygb, yck, yca, ycb, ycc, yfp, yfe, yfS, yfn, yfb, yvs, yds, 50000, 50000, 50000, 50000)) ∧
      (c = k → yac ≠ yli → ∀ ck' ca' cb' cC' md', md' = (if yac + 1 ≤ ymd then ymd else yac + 1) → yc_S yck yca ycb ycc (fun i => ytv (q + 3 + i)) (fun i => yvs (b + i)) (ycb f) hp k ck' ca' cb' cC' →
        wpY_req Q (yli, nI n, ypr, ygs, ypo, nI (hp + k), yfs, nI b, yfu, ysp, md', yac + 1, yst, yrt, ycu, yhv, ytk, ytv, yus, ygk, yga, ygb, ck', ca', cb', cC', yfp, yfe, upd yfS y 2, yfn, yfb, yvs, yds, 50000, 50000, 50000, 50000) (nI (q + 4 + k)) (hb_e (ycb f) hp k))) : wpY_stepApp Q (yli, nI n, ypr, ygs, ypo, nI hp, yfs, nI (b + k + 1), yfu, ysp, ymd, yac, yst, yrt, ycu, yhv, ytk, ytv, yus, ygk, yga, ygb, yck, yca, ycb, ycc, yfp, yfe, yfS, yfn, yfb, yvs, yds, 50000, 50000, 50000, 50000) (nI y) := by
  have H1 := H.1
  have hi : vp_in (nI y) 512 := vp_in_nI hy (by omega)
  have hc : (nI y).toNatClampNeg = y := nI_clamp (by omega)
  have hif : vp_in (nI f) 50000 := vp_in_nI hf (by omega)
  have hcf : (nI f).toNatClampNeg = f := nI_clamp (by omega)
  refine ⟨hi, nm_r (show yfb (nI y).toNatClampNeg = nI b from by rw [hc]; exact hB) ⟨hi, nm_r (show yfS (nI y).toNatClampNeg = 1 from by rw [hc]; exact hS) (br_f (by decide) (br_f (by decide) ?_))⟩⟩
  rw [nI_pred (b + k)]
  refine yr_vat (i := b + k) (by omega) (nm_r (show nI (b + k) - nI b = nI k from by rw [pk_sub (by omega), show b + k - b = k from by omega]) ?_)
  rw [hv, hcf]
  refine ⟨hif, ?_⟩
  by_cases v4 : yck f = 4
  · obtain ⟨q, c, e1, l1, P, g1, g2, g3⟩ := hcl v4
    refine br_t v4 ⟨hif, nm_r e1 ?_⟩
    have c4 := P.1
    refine yA_ar (q := q) H (by omega) P (pk_eq c k (fun ek => ?_) (fun ek => g1 ek))
    have loop : ∀ md', md' = (if yac + 1 ≤ ymd then ymd else yac + 1) → yac ≠ yli → wY_stepApp_235 Q (nI y) (nI b) (nI k) (nI q) (k + 1) (ycb f) (nI 0) yli (nI n) ypr ygs ypo (nI hp) yfs (nI (b + k + 1)) yfu ysp md' (yac + 1) yst yrt ycu yhv ytk ytv yus ygk yga ygb yck yca ycb ycc yfp yfe yfS yfn yfb yvs yds 50000 50000 50000 50000 := by
      intro md' em ea
      refine yA_cL (e0 := ycb f) H hk (by omega) hh (by omega) (fun ck' ca' cb' cC' S => ⟨hi, nm_r (by rw [hc]) ?_⟩) k 0 yck yca ycb ycc (by omega) yc_0
      rw [ni_4 q, nI_add (q + 4) k]
      exact g3 ek ea ck' ca' cb' cC' md' em S
    by_cases ea : yac = yli
    · exact br_t ea (g2 ek ea)
    · refine br_f ea (nm_e ?_)
      by_cases em : yac + 1 ≤ ymd
      · exact br_t em ⟨hif, nm_e ⟨k + 1, loop ymd (if_pos em).symm ea⟩⟩
      · exact br_f em ⟨hif, nm_e ⟨k + 1, loop (yac + 1) (if_neg em).symm ea⟩⟩
  · exact br_f v4 (h8 v4)
end
end
section
/-! the reference's quoted data -/
theorem dt_find {f : Nat → Nat} {m : Nat} (h0 : f 0 ≤ m) : ∀ c, m < f c → ∃ x, x < c ∧ f x ≤ m ∧ m < f (x + 1)
  | 0, h => by omega
  | c + 1, h => by
    by_cases z : m < f c
    · obtain ⟨x, a, b⟩ := dt_find h0 c z
      exact ⟨x, by omega, b⟩
    · exact ⟨c, by omega, by omega, h⟩
theorem dt_cov {K : Nat → Nat} {V : Nat → Int32} {n : Nat} {r : Nat → Int32} {par : Nat → Nat} (hn : ∀ i, n ≤ i → K i = 0) (hB : ∀ i, i < n → K i ≠ 2 → dp_I K i (sk_f K n i)) (W : rw_W K V (sk_f K n) n n r par) :
    ∀ L i, i < n → r i = 2 → sk_f K n i - i ≤ L → ∀ m, i ≤ m → m < sk_f K n i → K m ≠ 2 → r m = 2 := by
  intro L
  induction L with
  | zero =>
    intro i hi hr hL m m1 m2 km
    omega
  | succ L ih =>
    intro i hi hr hL m m1 m2 km
    by_cases e : m = i
    · rw [e]; exact hr
    · obtain ⟨hs, hm⟩ := W.2.2.1 i hi hr
      have k1 : K i = 1 := by
        rcases hs with z | z | z
        · rw [sk_at (by omega)] at m2; omega
        · rw [sk_at (by omega)] at m2; omega
        · exact z.1
      have hI := hB i hi (by omega)
      obtain ⟨c, lc, q1, q2, q3⟩ := ls_in (n := n) hI k1
      have ml : m < it_f (sk_f K n) c (i + 1) := by
        rcases Nat.lt_or_ge m (it_f (sk_f K n) c (i + 1)) with z | z
        · exact z
        · have e2 : m = it_f (sk_f K n) c (i + 1) := by omega
          rw [e2] at km
          exact absurd lc.2 km
      obtain ⟨x, x1, x2, x3⟩ := dt_find (f := fun y => it_f (sk_f K n) y (i + 1)) (m := m) (by show i + 1 ≤ m; omega) c ml
      change it_f (sk_f K n) x (i + 1) ≤ m at x2
      change m < it_f (sk_f K n) (x + 1) (i + 1) at x3
      rw [it_s] at x3
      have dm : gr_DM K (sk_f K n) i (it_f (sk_f K n) x (i + 1)) := ⟨k1, (ls_CM lc).mpr ⟨x, x1, rfl⟩⟩
      have rc := hm _ dm
      have mi := ls_Min hI k1 (dp_L_r _) (dp_I_1 hI k1) dm.2
      have xl := dp_le hn hI hi
      have xm := mi.2.1.1
      have xs := mi.2.2.1
      have xn : it_f (sk_f K n) x (i + 1) < n := by omega
      exact ih _ xn rc.1 (by omega) m x2 x3 km
/-- a rest of a quoted list on the reference's heap -/
def dt_L (K : Nat → Nat) (VR : Nat → Nat → Prop) (hp : Nat) (ck ca cb : Nat → Int32) (p y : Nat) : Prop := (K p = 2 ∧ y = 0) ∨ (K p ≠ 2 ∧ y < hp ∧ ck y = 3 ∧ ∃ a b, ca y = nI a ∧ cb y = nI b ∧ VR p a ∧ VR (64 + p) b)
theorem dt_Lm {K : Nat → Nat} {VR VR' : Nat → Nat → Prop} {hp hp' : Nat} {ck ca cb ck' ca' cb' : Nat → Int32} {p y : Nat} (hV : ∀ a b, VR a b → VR' a b) (hh : hp ≤ hp') (hy : ∀ j, j < hp → ck' j = ck j ∧ ca' j = ca j ∧ cb' j = cb j) (h : dt_L K VR hp ck ca cb p y) : dt_L K VR' hp' ck' ca' cb' p y := by
  rcases h with h | ⟨h1, h2, h3, a, b, h4, h5, h6, h7⟩
  · exact Or.inl h
  · have q := hy y h2
    exact Or.inr ⟨h1, by omega, q.1.trans h3, a, b, q.2.1.trans h4, q.2.2.trans h5, hV _ _ h6, hV _ _ h7⟩
/-- a literal's place and the rest that it stands for -/
theorem dt_V {K : Nat → Nat} {R sc : Nat → Int32} {n : Nat} {VR : Nat → Nat → Prop} {g nm : Nat → Nat} {cc hp : Nat} {vk vf vs ck ca cb : Nat → Int32} {v p y : Nat} (hP : lt_P K vk vf vs v p) (h0 : ck 0 = 2) (h : dt_L K VR hp ck ca cb p y) : hb_V K R sc n VR g nm cc vk vf vs ck ca cb v y := by
  rcases h with ⟨h1, h2⟩ | ⟨h1, h2, h3, a, b, h4, h5, h6, h7⟩
  · subst h2; exact Or.inr (Or.inl ⟨hP.1 h1, h0⟩)
  · obtain ⟨a1, a2, a3⟩ := hP.2 h1
    exact Or.inr (Or.inr (Or.inl ⟨a1, h3, p, 64 + p, a, b, a2, a3, h4, h5, h6, h7⟩))
theorem dp_lip {K : Nat → Nat} (p : Nat) : ∀ d : Nat, dp_d K (p + d) ≤ dp_d K p + d
  | 0 => by simp
  | d + 1 => by
    have h := dp_lip (K := K) p d
    have s := (dp_s (K := K) (p + d)).2
    rw [show p + (d + 1) = p + d + 1 from rfl]
    omega
theorem ni_d {j : Nat} (h : 1 ≤ j) : nI j + -1 = nI (j - 1) := by
  obtain ⟨i, rfl⟩ : ∃ i, j = i + 1 := ⟨j - 1, by omega⟩
  rw [pk_m1]; rfl
section
variable {yli yn ypr ygs ypo yhp yfs yvp yfu ysp ymd yac yst yrt ycu yhv : Int32} {ytk ytv yus ygk yga ygb yck yca ycb ycc yfp yfe yfS yfn yfb yvs yds : Nat → Int32} {ynk yna ynb ync : Nat} {n : Nat}
def dt_Z (K : Nat → Nat) (V R sc : Nat → Int32) (n : Nat) (VR0 : Nat → Nat → Prop) (g nm : Nat → Nat) (vc cc lo q0 hp0 top : Nat) (vk vf vs cv co : Nat → Int32) (hp' : Nat) (VR' : Nat → Nat → Prop) (ck' ca' cb' cC' : Nat → Int32) (a : Nat) : Prop := hp' ≤ top ∧ hp0 ≤ hp' ∧ (∀ a b, VR0 a b → VR' a b) ∧ hb_B K V R sc n VR' g nm vc cc hp' lo vk vf vs cv co ck' ca' cb' cC' ∧ VR' q0 a
theorem dt_loop (H : tk_ok ytk n) {R sc vk vf vs cv co : Nat → Int32} {g nm : Nat → Nat} {vc cc lo q0 hp0 : Nat} {VR0 : Nat → Nat → Prop}
    (hBp : ∀ i, i < n → tk_K ytk n i ≠ 2 → dp_I (tk_K ytk n) i (sk_f (tk_K ytk n) n i)) (cov : ∀ m, q0 ≤ m → m < sk_f (tk_K ytk n) n q0 → tk_K ytk n m ≠ 2 → R m = 2) (Lt : lt_L (tk_K ytk n) ytv (sk_f (tk_K ytk n) n) R vk vf vs n) (hR : ∀ m, m < n → R m = 2 → tk_K ytk n m = 3 ∨ tk_K ytk n m = 5 ∨ tk_K ytk n m = 1) (hq0 : 2 ≤ q0) (hend : sk_f (tk_K ytk n) n q0 < n) (hk0 : tk_K ytk n q0 ≠ 2) (hvc : 128 ≤ vc)
    (hroom : hp0 + 2 * (sk_f (tk_K ytk n) n q0 - q0) ≤ 50000) :
    ∀ (t j d hp : Nat) (VR : Nat → Nat → Prop) (ck ca cb cC ds : Nat → Int32) (pp : Nat → Nat), j + 1 = q0 + t → q0 + t ≤ sk_f (tk_K ytk n) n q0 → 1 ≤ d → (d : Int) = dp_d (tk_K ytk n) (j + 1) - dp_d (tk_K ytk n) q0 + 1 → pp (d - 1) = j + 1 → (∀ k : Nat, k < d → j + 1 ≤ pp k ∧ dp_d (tk_K ytk n) (pp k) = dp_d (tk_K ytk n) q0 + k ∧ (∀ m, j + 1 ≤ m → m < pp k → dp_d (tk_K ytk n) q0 + k < dp_d (tk_K ytk n) m)) →
      hp + 2 * t ≤ hp0 + 2 * (sk_f (tk_K ytk n) n q0 - q0) → hp0 ≤ hp → (∀ a b, VR0 a b → VR a b) → hb_B (tk_K ytk n) ytv R sc n VR g nm vc cc hp lo vk vf vs cv co ck ca cb cC → (∀ k : Nat, k < d → ∃ y, ds k = nI y ∧ dt_L (tk_K ytk n) VR hp ck ca cb (pp k) y) →
      ∃ hp' VR' ck' ca' cb' cC' ds' a, dt_Z (tk_K ytk n) ytv R sc n VR0 g nm vc cc lo q0 hp0 (hp0 + 2 * (sk_f (tk_K ytk n) n q0 - q0)) vk vf vs cv co hp' VR' ck' ca' cb' cC' a ∧ ∀ post : Int32 → SY → Prop, post (nI a) (yli, nI n, ypr, ygs, ypo, nI hp', yfs, yvp, yfu, ysp, ymd, yac, yst, yrt, ycu, yhv, ytk, ytv, yus, ygk, yga, ygb, ck', ca', cb', cC', yfp, yfe, yfS, yfn, yfb, yvs, ds', 50000, 50000, 50000, 50000) →
        wY_datum_20 post (nI q0) (t + 1) (nI d) (nI j) yli (nI n) ypr ygs ypo (nI hp) yfs yvp yfu ysp ymd yac yst yrt ycu yhv ytk ytv yus ygk yga ygb ck ca cb cC yfp yfe yfS yfn yfb yvs ds 50000 50000 50000 50000 := by
  have H1 := H.1
  intro t
  induction t with
  | zero =>
    intro j d hp' VR ck ca cb cC ds pp ej hle hd ed e1 hpp hroom' hlow hVR hB hds
    have d1 : d = 1 := by rw [show j + 1 = q0 from by omega] at ed; omega
    subst d1
    obtain ⟨y, e2, e3⟩ := hds 0 (by omega)
    have p0 : pp 0 = q0 := by rw [show (0 : Nat) = 1 - 1 from rfl, e1]; omega
    rw [p0] at e3
    rcases e3 with ⟨z, _⟩ | ⟨_, l, _, a, b, ea, _, va, _⟩
    · exact absurd z hk0
    · refine ⟨hp', VR, ck, ca, cb, cC, ds, a, ⟨by omega, hlow, hVR, hB, va⟩, fun post hp => pk_lt j q0 (fun _ => ?_) (fun z => by omega)⟩
      rw [e2, nI_clamp (n := y) (by omega), ea]
      exact ⟨vp_in_nI (by omega) (by omega), hp⟩
  | succ t ih =>
    intro j d hp' VR ck ca cb cC ds pp ej hle hd ed e1 hpp hroom' hlow hVR hB hds
    have hj : j < n := by omega
    have k20 := tk_20 H j
    have dB : (d : Int) ≤ j + 2 - q0 := by
      have := dp_lip (K := (tk_K ytk n)) q0 (j + 1 - q0)
      rw [show q0 + (j + 1 - q0) = j + 1 from by omega] at this
      omega
    have hck0 : ck 0 = 2 := hB.2.2.2.2
    have hp1 : 1 ≤ hp' := hB.2.2.2.1
    have lt := Lt j hj
    -- a pair is put before the rest behind j
    have cons : ∀ (d' it1 y0 hp1 : Nat) (VR1 : Nat → Nat → Prop) (ck1 ca1 cb1 cC1 : Nat → Int32), tk_K ytk n j ≠ 2 → 1 ≤ d' → d' ≤ d → (d' : Int) = dp_d (tk_K ytk n) j - dp_d (tk_K ytk n) q0 + 1 → pp (d' - 1) = sk_f (tk_K ytk n) n j → hp' ≤ hp1 → hp1 ≤ hp' + 1 → (∀ a b, VR a b → VR1 a b) → hb_B (tk_K ytk n) ytv R sc n VR1 g nm vc cc hp1 lo vk vf vs cv co ck1 ca1 cb1 cC1 → (∀ i, i < hp' → ck1 i = ck i ∧ ca1 i = ca i ∧ cb1 i = cb i ∧ cC1 i = cC i) → VR1 j it1 → ds (d' - 1) = nI y0 → dt_L (tk_K ytk n) VR hp' ck ca cb (sk_f (tk_K ytk n) n j) y0 →
        ∃ hp' VR' ck' ca' cb' cC' ds' a, dt_Z (tk_K ytk n) ytv R sc n VR0 g nm vc cc lo q0 hp0 (hp0 + 2 * (sk_f (tk_K ytk n) n q0 - q0)) vk vf vs cv co hp' VR' ck' ca' cb' cC' a ∧ ∀ post : Int32 → SY → Prop, post (nI a) (yli, nI n, ypr, ygs, ypo, nI hp', yfs, yvp, yfu, ysp, ymd, yac, yst, yrt, ycu, yhv, ytk, ytv, yus, ygk, yga, ygb, ck', ca', cb', cC', yfp, yfe, yfS, yfn, yfb, yvs, ds', 50000, 50000, 50000, 50000) → wY_datum_111 post (wY_datum_20 post (nI q0) (t + 1)) (nI q0) (nI d') (nI j) (nI it1) yli (nI n) ypr ygs ypo (nI hp1) yfs yvp yfu ysp ymd yac yst yrt ycu yhv ytk ytv yus ygk yga ygb ck1 ca1 cb1 cC1 yfp yfe yfS yfn yfb yvs ds 50000 50000 50000 50000 := by
      intro d' it1 y0 hpA VR1 ck1 ca1 cb1 cC1 kj hd1 hd2 ed' ep' hl1 hl2 hV1 hB1 hy1 hv1 hd0 hL
      have rj : R j = 2 := cov j (by omega) (by omega) kj
      have hc : (nI (d' - 1)).toNatClampNeg = d' - 1 := nI_clamp (by omega)
      have hi : vp_in (nI (d' - 1)) 64 := vp_in_nI (by omega) (by omega)
      have hyl : y0 < hpA := by
        rcases hL with ⟨_, z⟩ | ⟨_, z, _⟩
        · omega
        · omega
      have hit : it1 < hpA := (hB1.1 j it1 hv1).2.1
      let VR2 : Nat → Nat → Prop := fun a b => VR1 a b ∨ (a = 64 + j ∧ b = y0)
      have hV2 : ∀ a b, VR1 a b → VR2 a b := fun a b z => Or.inl z
      have hyy : ∀ i, i < hpA → upd ck1 hpA 3 i = ck1 i ∧ upd ca1 hpA (nI it1) i = ca1 i ∧ upd cb1 hpA (nI y0) i = cb1 i ∧ upd cC1 hpA 0 i = cC1 i := fun i hi' => ⟨pk_un (by omega), pk_un (by omega), pk_un (by omega), pk_un (by omega)⟩
      have hL2 : dt_L (tk_K ytk n) VR2 (hpA + 1) (upd ck1 hpA 3) (upd ca1 hpA (nI it1)) (upd cb1 hpA (nI y0)) (sk_f (tk_K ytk n) n j) y0 := dt_Lm (fun a b z => hV2 a b (hV1 a b z)) (by omega) (fun i hi' => by
        have q1 := hyy i (by omega)
        have q2 := hy1 i hi'
        exact ⟨q1.1.trans q2.1, q1.2.1.trans q2.2.1, q1.2.2.1.trans q2.2.2.1⟩) hL
      have hB2 : hb_B (tk_K ytk n) ytv R sc n VR2 g nm vc cc (hpA + 1) lo vk vf vs cv co (upd ck1 hpA 3) (upd ca1 hpA (nI it1)) (upd cb1 hpA (nI y0)) (upd cC1 hpA 0) := by
        refine hb_add (Nat.le_refl _) (by omega) hV2 (fun _ _ => ⟨rfl, rfl, rfl⟩) hyy (fun _ _ => ⟨rfl, rfl⟩) (fun a b z => ?_) hB1
        rcases z with z | ⟨z1, z2⟩
        · exact Or.inl z
        · refine Or.inr ?_
          rw [z1, z2]
          refine ⟨by omega, by omega, dt_V (lt.2.2.2 rj) ?_ hL2⟩
          rw [(hyy 0 (by omega)).1]
          exact hB1.2.2.2.2
      have res := ih (j - 1) d' (hpA + 1) VR2 (upd ck1 hpA 3) (upd ca1 hpA (nI it1)) (upd cb1 hpA (nI y0)) (upd cC1 hpA 0) (upd ds (d' - 1) (nI hpA)) (hb_u pp (d' - 1) j) (by omega) (by omega) hd1 ?_ (by rw [hb_us]; omega) (fun k hk => ?_) (by omega) (by omega) (fun a b z => hV2 a b (hV1 a b (hVR a b z))) hB2 (fun k hk => ?_)
      · obtain ⟨hpZ, VRZ, ckZ, caZ, cbZ, cCZ, dsZ, aZ, Z, w⟩ := res
        refine ⟨hpZ, VRZ, ckZ, caZ, cbZ, cCZ, dsZ, aZ, Z, fun post hp => ?_⟩
        unfold wY_datum_111
        rw [ni_m hd1, hc, hd0]
        refine ⟨hi, yr_al (yck := ck1) (yca := ca1) (ycb := cb1) (ycc := cC1) (hp := hpA) (by omega) ⟨hi, fun ds2 e2 => nm_r (ni_d (show 1 ≤ j by omega)) ?_⟩⟩
        rw [e2]
        exact w post hp
      · rw [show j - 1 + 1 = j from by omega]; exact ed'
      · rw [show j - 1 + 1 = j from by omega]
        by_cases z : k = d' - 1
        · rw [z, hb_us]
          exact ⟨Nat.le_refl _, by omega, fun m m1 m2 => by omega⟩
        · rw [hb_un z]
          have q := hpp k (by omega)
          refine ⟨by omega, q.2.1, fun m m1 m2 => ?_⟩
          by_cases y : m = j
          · rw [y]; omega
          · exact q.2.2 m (by omega) m2
      · by_cases z : k = d' - 1
        · rw [z, hb_us]
          refine ⟨hpA, pk_us, Or.inr ⟨kj, by omega, pk_us, it1, y0, pk_us, pk_us, hV2 _ _ hv1, Or.inr ⟨rfl, rfl⟩⟩⟩
        · rw [hb_un z, pk_un z]
          obtain ⟨y, ey, hLy⟩ := hds k (by omega)
          exact ⟨y, ey, dt_Lm (fun a b z => hV2 a b (hV1 a b z)) (by omega) (fun i hi' => by
            have q1 := hyy i (by omega)
            have q2 := hy1 i hi'
            exact ⟨q1.1.trans q2.1, q1.2.1.trans q2.2.1, q1.2.2.1.trans q2.2.2.1⟩) hLy⟩
    have ret : ∀ W0 : (Int32 → SY → Prop) → Prop, (∃ hp' VR' ck' ca' cb' cC' ds' a, dt_Z (tk_K ytk n) ytv R sc n VR0 g nm vc cc lo q0 hp0 (hp0 + 2 * (sk_f (tk_K ytk n) n q0 - q0)) vk vf vs cv co hp' VR' ck' ca' cb' cC' a ∧ ∀ post : Int32 → SY → Prop, post (nI a) (yli, nI n, ypr, ygs, ypo, nI hp', yfs, yvp, yfu, ysp, ymd, yac, yst, yrt, ycu, yhv, ytk, ytv, yus, ygk, yga, ygb, ck', ca', cb', cC', yfp, yfe, yfS, yfn, yfb, yvs, ds', 50000, 50000, 50000, 50000) → W0 post) → (∀ post, W0 post → wY_datum_20 post (nI q0) (t + 1 + 1) (nI d) (nI j) yli (nI n) ypr ygs ypo (nI hp') yfs yvp yfu ysp ymd yac yst yrt ycu yhv ytk ytv yus ygk yga ygb ck ca cb cC yfp yfe yfS yfn yfb yvs ds 50000 50000 50000 50000) →
        ∃ hp2 VR' ck' ca' cb' cC' ds' a, dt_Z (tk_K ytk n) ytv R sc n VR0 g nm vc cc lo q0 hp0 (hp0 + 2 * (sk_f (tk_K ytk n) n q0 - q0)) vk vf vs cv co hp2 VR' ck' ca' cb' cC' a ∧ ∀ post : Int32 → SY → Prop, post (nI a) (yli, nI n, ypr, ygs, ypo, nI hp2, yfs, yvp, yfu, ysp, ymd, yac, yst, yrt, ycu, yhv, ytk, ytv, yus, ygk, yga, ygb, ck', ca', cb', cC', yfp, yfe, yfS, yfn, yfb, yvs, ds', 50000, 50000, 50000, 50000) → wY_datum_20 post (nI q0) (t + 1 + 1) (nI d) (nI j) yli (nI n) ypr ygs ypo (nI hp') yfs yvp yfu ysp ymd yac yst yrt ycu yhv ytk ytv yus ygk yga ygb ck ca cb cC yfp yfe yfS yfn yfb yvs ds 50000 50000 50000 50000 := by
      rintro W0 ⟨z1, z2, z3, z4, z5, z6, z7, z8, Z, w⟩ f
      exact ⟨z1, z2, z3, z4, z5, z6, z7, z8, Z, fun post hp => f post (w post hp)⟩
    by_cases k2 : tk_K ytk n j = 2
    · have d2 := dp_2 k2
      have hi : vp_in (nI d) 64 := vp_in_nI (by omega) (by omega)
      have hc : (nI d).toNatClampNeg = d := nI_clamp (by omega)
      refine ret _ (ih (j - 1) (d + 1) hp' VR ck ca cb cC (upd ds d 0) (hb_u pp d j) (by omega) (by omega) (by omega) ?_ (by rw [show d + 1 - 1 = d from by omega, hb_us]; omega) (fun k hk => ?_) (by omega) hlow hVR hB (fun k hk => ?_)) (fun post w => pk_lt j q0 (fun z => by omega) (fun _ => yt_t (i := j) H (by omega) (pk_eq (tk_K ytk n j) 2 (fun _ => pk_le 64 d (fun z => by omega) (fun _ => ⟨hi, nm_r (by rw [hc]) (nm_r (nI_1 d) (nm_r (ni_d (show 1 ≤ j by omega)) w))⟩)) (fun z => absurd k2 z))))
      · rw [show j - 1 + 1 = j from by omega]; omega
      · rw [show j - 1 + 1 = j from by omega]
        by_cases z : k = d
        · rw [z, hb_us]
          exact ⟨Nat.le_refl _, by omega, fun m m1 m2 => by omega⟩
        · rw [hb_un z]
          have q := hpp k (by omega)
          refine ⟨by omega, q.2.1, fun m m1 m2 => ?_⟩
          by_cases y : m = j
          · rw [y]; omega
          · exact q.2.2 m (by omega) m2
      · by_cases z : k = d
        · rw [z, hb_us]; exact ⟨0, pk_us, Or.inl ⟨k2, rfl⟩⟩
        · rw [hb_un z, pk_un z]; exact hds k (by omega)
    · have rj : R j = 2 := cov j (by omega) (by omega) k2
      have kk := hR j hj rj
      obtain ⟨y1, ey1, hL1⟩ := hds (d - 1) (by omega)
      have atomI : tk_K ytk n j ≠ 1 → dp_d (tk_K ytk n) (j + 1) = dp_d (tk_K ytk n) j ∧ sk_f (tk_K ytk n) n j = j + 1 := fun z => ⟨dp_0 z k2, sk_at z⟩
      by_cases k3 : tk_K ytk n j = 3
      · have at' := atomI (by omega)
        have hyy : ∀ i, i < hp' → upd ck hp' 1 i = ck i ∧ upd ca hp' (ytv j) i = ca i ∧ upd cb hp' 0 i = cb i ∧ upd cC hp' 0 i = cC i := fun i hi' => ⟨pk_un (by omega), pk_un (by omega), pk_un (by omega), pk_un (by omega)⟩
        refine ret _ (cons d hp' y1 (hp' + 1) (fun a b => VR a b ∨ (a = j ∧ b = hp')) (upd ck hp' 1) (upd ca hp' (ytv j)) (upd cb hp' 0) (upd cC hp' 0) k2 hd (Nat.le_refl _) (by omega) (by rw [e1, at'.2]) (by omega) (Nat.le_refl _) (fun a b z => Or.inl z) ?_ hyy (Or.inr ⟨rfl, rfl⟩) ey1 (by rw [at'.2, ← e1]; exact hL1)) (fun post w => pk_lt j q0 (fun z => by omega) (fun _ => yt_t (i := j) H (by omega) (pk_eq (tk_K ytk n j) 2 (fun z => absurd z k2) (fun _ => pk_eq (tk_K ytk n j) 3 (fun _ => yt_v (i := j) H hj (yr_al (yck := ck) (yca := ca) (ycb := cb) (ycc := cC) (hp := hp') (by omega) (pk_eq (tk_K ytk n j) 1 (fun z => by omega) (fun _ => w)))) (fun z => absurd k3 z)))))
        refine hb_add (Nat.le_refl _) (by omega) (fun a b z => Or.inl z) (fun _ _ => ⟨rfl, rfl, rfl⟩) hyy (fun _ _ => ⟨rfl, rfl⟩) (fun a b z => ?_) hB
        rcases z with z | ⟨z1, z2⟩
        · exact Or.inl z
        · refine Or.inr ?_
          rw [z1, z2]
          have l3 := lt.1 k3
          refine ⟨by omega, by omega, Or.inl ⟨l3.1, pk_us, ?_⟩⟩
          rw [pk_us]; exact l3.2
      · by_cases k1 : tk_K ytk n j = 1
        · have dj := dp_1 k1
          have ge : dp_d (tk_K ytk n) q0 ≤ dp_d (tk_K ytk n) j := by
            by_cases z : j = q0
            · rw [z]; exact Int.le_refl _
            · have hq0n : q0 < n := by omega
              have := (hBp q0 hq0n hk0).2.2 j (by omega) (by omega)
              omega
          have hi : vp_in (nI (d - 1)) 64 := vp_in_nI (by omega) (by omega)
          have hc : (nI (d - 1)).toNatClampNeg = d - 1 := nI_clamp (by omega)
          obtain ⟨y2, ey2, hL2⟩ := hds (d - 1 - 1) (by omega)
          have q := hpp (d - 1 - 1) (by omega)
          have ie : sk_f (tk_K ytk n) n j = pp (d - 1 - 1) := sk_I ⟨by omega, by omega, fun m m1 m2 => by have := q.2.2 m (by omega) m2; omega⟩
          refine ret _ (cons (d - 1) y1 y2 hp' (fun a b => VR a b ∨ (a = j ∧ b = y1)) ck ca cb cC k2 (by omega) (by omega) (by omega) ie.symm (Nat.le_refl _) (by omega) (fun a b z => Or.inl z) ?_ (fun _ _ => ⟨rfl, rfl, rfl, rfl⟩) (Or.inr ⟨rfl, rfl⟩) ey2 (by rw [ie]; exact hL2)) (fun post w => pk_lt j q0 (fun z => by omega) (fun _ => yt_t (i := j) H (by omega) (pk_eq (tk_K ytk n j) 2 (fun z => absurd z k2) (fun _ => pk_eq (tk_K ytk n j) 3 (fun z => absurd z k3) (fun _ => pk_eq (tk_K ytk n j) 1 (fun _ => pk_le d 1 (fun z => by omega) (fun hd1 => ?_)) (fun z => absurd k1 z))))))
          · refine hb_add (Nat.le_refl _) (Nat.le_refl _) (fun a b z => Or.inl z) (fun _ _ => ⟨rfl, rfl, rfl⟩) (fun _ _ => ⟨rfl, rfl, rfl, rfl⟩) (fun _ _ => ⟨rfl, rfl⟩) (fun a b z => ?_) hB
            rcases z with z | ⟨z1, z2⟩
            · exact Or.inl z
            · refine Or.inr ?_
              rw [z1, z2]
              have hL1' : dt_L (tk_K ytk n) (fun a b => VR a b ∨ (a = j ∧ b = y1)) hp' ck ca cb (j + 1) y1 := by
                rw [← e1]
                exact dt_Lm (fun a b z => Or.inl z) (Nat.le_refl _) (fun _ _ => ⟨rfl, rfl, rfl⟩) hL1
              refine ⟨by omega, ?_, dt_V (lt.2.2.1 rj k1) hck0 hL1'⟩
              rcases hL1' with ⟨_, w⟩ | ⟨_, w, _⟩ <;> omega
          · rw [ni_m hd, hc]
            exact ⟨hi, nm_r ey1 (nm_r (ni_d hd) w)⟩
        · have k5 : tk_K ytk n j = 5 := by omega
          have at' := atomI k1
          refine ret _ (cons d 0 y1 hp' (fun a b => VR a b ∨ (a = j ∧ b = 0)) ck ca cb cC k2 hd (Nat.le_refl _) (by omega) (by rw [e1, at'.2]) (Nat.le_refl _) (by omega) (fun a b z => Or.inl z) ?_ (fun _ _ => ⟨rfl, rfl, rfl, rfl⟩) (Or.inr ⟨rfl, rfl⟩) ey1 (by rw [at'.2, ← e1]; exact hL1)) (fun post w => pk_lt j q0 (fun z => by omega) (fun _ => yt_t (i := j) H (by omega) (pk_eq (tk_K ytk n j) 2 (fun z => absurd z k2) (fun _ => pk_eq (tk_K ytk n j) 3 (fun z => absurd z k3) (fun _ => pk_eq (tk_K ytk n j) 1 (fun z => absurd z k1) (fun _ => w))))))
          refine hb_add (Nat.le_refl _) (Nat.le_refl _) (fun a b z => Or.inl z) (fun _ _ => ⟨rfl, rfl, rfl⟩) (fun _ _ => ⟨rfl, rfl, rfl, rfl⟩) (fun _ _ => ⟨rfl, rfl⟩) (fun a b z => ?_) hB
          rcases z with z | ⟨z1, z2⟩
          · exact Or.inl z
          · refine Or.inr ?_
            rw [z1, z2]
            exact ⟨by omega, by omega, Or.inr (Or.inl ⟨lt.2.1 k5, hck0⟩)⟩
theorem dt_datum (H : tk_ok ytk n) {R sc vk vf vs cv co : Nat → Int32} {g nm : Nat → Nat} {vc cc lo q0 hp0 : Nat} {VR0 : Nat → Nat → Prop}
    (hBp : ∀ i, i < n → tk_K ytk n i ≠ 2 → dp_I (tk_K ytk n) i (sk_f (tk_K ytk n) n i)) (cov : ∀ m, q0 ≤ m → m < sk_f (tk_K ytk n) n q0 → tk_K ytk n m ≠ 2 → R m = 2) (Lt : lt_L (tk_K ytk n) ytv (sk_f (tk_K ytk n) n) R vk vf vs n) (hR : ∀ m, m < n → R m = 2 → tk_K ytk n m = 3 ∨ tk_K ytk n m = 5 ∨ tk_K ytk n m = 1) (hq0 : 2 ≤ q0) (hend : sk_f (tk_K ytk n) n q0 < n) (hk0 : tk_K ytk n q0 ≠ 2) (kend : tk_K ytk n (sk_f (tk_K ytk n) n q0) = 2) (hvc : 128 ≤ vc)
    (hB0 : hb_B (tk_K ytk n) ytv R sc n VR0 g nm vc cc hp0 lo vk vf vs cv co yck yca ycb ycc)
    (hroom : hp0 + 2 * (sk_f (tk_K ytk n) n q0 - q0) ≤ 50000) :
    ∃ hp' VR' ck' ca' cb' cC' ds' a, dt_Z (tk_K ytk n) ytv R sc n VR0 g nm vc cc lo q0 hp0 (hp0 + 2 * (sk_f (tk_K ytk n) n q0 - q0)) vk vf vs cv co hp' VR' ck' ca' cb' cC' a ∧ ∀ post : Int32 → SY → Prop, post (nI a) (yli, nI n, ypr, ygs, ypo, nI hp', yfs, yvp, yfu, ysp, ymd, yac, yst, yrt, ycu, yhv, ytk, ytv, yus, ygk, yga, ygb, ck', ca', cb', cC', yfp, yfe, yfS, yfn, yfb, yvs, ds', 50000, 50000, 50000, 50000) → wpY_datum post (yli, nI n, ypr, ygs, ypo, nI hp0, yfs, yvp, yfu, ysp, ymd, yac, yst, yrt, ycu, yhv, ytk, ytv, yus, ygk, yga, ygb, yck, yca, ycb, ycc, yfp, yfe, yfS, yfn, yfb, yvs, yds, 50000, 50000, 50000, 50000) (nI q0) := by
  have H1 := H.1
  have hq0n : q0 < n := by
    have := sk_gt (K := (tk_K ytk n)) (n := n) (fun i => tk_0) q0
    omega
  have I0 := hBp q0 hq0n hk0
  have gt := I0.1
  have res := dt_loop (yli := yli) (ypr := ypr) (ygs := ygs) (ypo := ypo) (yfs := yfs) (yvp := yvp) (yfu := yfu) (ysp := ysp) (ymd := ymd) (yac := yac) (yst := yst) (yrt := yrt) (ycu := ycu) (yhv := yhv) (yus := yus) (ygk := ygk) (yga := yga) (ygb := ygb) (yfp := yfp) (yfe := yfe) (yfS := yfS) (yfn := yfn) (yfb := yfb) (yvs := yvs) H hBp cov Lt hR hq0 hend hk0 hvc hroom (sk_f (tk_K ytk n) n q0 - q0) (sk_f (tk_K ytk n) n q0 - 1) 1 hp0 VR0 yck yca ycb ycc (upd yds 0 0) (fun _ => sk_f (tk_K ytk n) n q0) (by omega) (by omega) (by omega) ?_ (by show sk_f (tk_K ytk n) n q0 = _; omega) (fun k hk => ?_) (Nat.le_refl _) (Nat.le_refl _) (fun a b z => z) hB0 (fun k hk => ?_)
  · obtain ⟨z1, z2, z3, z4, z5, z6, z7, z8, Z, w⟩ := res
    refine ⟨z1, z2, z3, z4, z5, z6, z7, z8, Z, fun post hp => ?_⟩
    unfold wpY_datum
    dsimp only
    exact yk_skip (i := q0) H (by omega) (nm_e (nm_r (ni_m (show 1 ≤ sk_f (tk_K ytk n) n q0 by omega)) ⟨sk_f (tk_K ytk n) n q0 - q0 + 1, w post hp⟩))
  · rw [show sk_f (tk_K ytk n) n q0 - 1 + 1 = sk_f (tk_K ytk n) n q0 from by omega]
    have := I0.2.1
    omega
  · have k0 : k = 0 := by omega
    subst k0
    have := I0.2.1
    exact ⟨by omega, by omega, fun m m1 m2 => by omega⟩
  · have k0 : k = 0 := by omega
    subst k0
    exact ⟨0, pk_us, Or.inl ⟨kend, rfl⟩⟩
theorem yq_quote (H : tk_ok ytk n) {e : Int32} {q s F vp : Nat} (hq : q < n) (hk : tk_K ytk n q = 1) (hk1 : tk_K ytk n (q + 1) = 6) (hs : s < F) (hF : F ≤ 400) {Q : Int32 → SY → Prop}
    (h : wpY_datum (fun r u => match u with | (yli, yn, ypr, ygs, ypo, yhp, yfs, yvp, yfu, ysp, ymd, yac, yst, yrt, ycu, yhv, ytk, ytv, yus, ygk, yga, ygb, yck, yca, ycb, ycc, yfp, yfe, yfS, yfn, yfb, yvs, yds, ynk, yna, ynb, ync) => wpY_push Q (yli, yn, ypr, ygs, ypo, yhp, yfs, yvp, yfu, ysp, ymd, yac, yst, yrt, ycu, yhv, ytk, ytv, yus, ygk, yga, ygb, yck, yca, ycb, ycc, yfp, yfe, yfS, yfn, yfb, yvs, yds, ynk, yna, ynb, ync) r) (yli, nI n, ypr, ygs, ypo, yhp, yfs, nI vp, nI F, nI (s + 1), ymd, yac, yst, yrt, ycu, yhv, ytk, ytv, yus, ygk, yga, ygb, yck, yca, ycb, ycc, yfp, yfe, yfS, yfn, yfb, yvs, yds, ynk, yna, ynb, ync) (nI (q + 2))) : wpY_req Q (yli, nI n, ypr, ygs, ypo, yhp, yfs, nI vp, nI F, nI s, ymd, yac, yst, yrt, ycu, yhv, ytk, ytv, yus, ygk, yga, ygb, yck, yca, ycb, ycc, yfp, yfe, yfS, yfn, yfb, yvs, yds, ynk, yna, ynb, ync) (nI q) e := by
  have H1 := H.1
  refine pk_eq s F (fun z => by omega) (fun _ => nm_r (nI_1 s) (yt_t (i := q) H (by omega) (yt_v (i := q) H hq (pk_eq (tk_K ytk n q) 3 (fun z => by omega) (fun _ => pk_eq (tk_K ytk n q) 5 (fun z => by omega) (fun _ => pk_eq (tk_K ytk n q) 4 (fun z => by omega) (fun _ => ?_)))))))
  rw [nI_1 q, ni_2 q]
  exact yt_t (i := q + 1) H (by omega) (pk_eq (tk_K ytk n (q + 1)) 6 (fun _ => h) (fun z => absurd hk1 z))
end
end
section
/-! the relation -/
def vl_R (xtk xtv xro xsc : Nat → Int32) (n : Nat) (pp hv xrt xcu yrt ycu : Int32) (xvk xvf xvs xcv xco yck yca ycb ycc : Nat → Int32) : Prop :=
  (hv = 0 ∧ xrt = -1 ∧ xcu = -1) ∨
  (hv = 1 ∧ pp = 1 ∧ ∃ (VR : Nat → Nat → Prop) (g nm : Nat → Nat) (vc cc hp : Nat), hb_B (tk_K xtk n) xtv (xr_c n xro) xsc n VR g nm vc cc hp cc xvk xvf xvs xcv xco yck yca ycb ycc ∧ vc ≤ 528 ∧ hp ≤ 50000 ∧ ∃ a b a' b', xrt = nI a ∧ yrt = nI b ∧ VR a b ∧ xcu = nI a' ∧ ycu = nI b' ∧ VR a' b')
def i_Rel (_ : Nat) (u : SX) (v : SY) : Prop :=
  ∃ (xdl xpp xvc xcc xfc xoc xag xan xex xen xfl xac xst xsp xmd xrt xcu : Int32) (xtk xtv xaf xro xsc xho xvk xvf xvs xcv xco xff xfp xfe xfb xop : Nat → Int32) (ygs ypo yhp yfs yvp yfu yac yrt ycu yhv : Int32) (yus ygk yga ygb yck yca ycb ycc yfp yfe yfS yfn yfb yvs yds : Nat → Int32) (n : Nat),
    u = (xdl, nI n, xpp, xvc, xcc, xfc, xoc, xag, xan, xex, xen, xfl, xac, xst, xsp, xmd, xrt, xcu, xtk, xtv, xaf, xro, xsc, xho, xvk, xvf, xvs, xcv, xco, xff, xfp, xfe, xfb, xop) ∧ v = (xdl, nI n, xpp, ygs, ypo, yhp, yfs, yvp, yfu, xsp, xmd, yac, xst, yrt, ycu, yhv, xtk, xtv, yus, ygk, yga, ygb, yck, yca, ycb, ycc, yfp, yfe, yfS, yfn, yfb, yvs, yds, 50000, 50000, 50000, 50000) ∧ tk_ok xtk n ∧ yck 0 = 2 ∧
    (xpp = 0 ∨ (xpp = 1 ∧ cp_P xtk xtv n xaf xro xsc xho xvk xvf xvs)) ∧ vl_R xtk xtv xro xsc n xpp yhv xrt xcu yrt ycu xvk xvf xvs xcv xco yck yca ycb ycc
theorem i_up {k : Nat} {u : SX} {v : SY} (h : i_Rel k u v) : i_Rel (k + 3) u v := h
/-! a simulation: both sides lead to related ends -/
def sx_st (u : SX) : Int32 := match u with | (xdl, xtn, xpp, xvc, xcc, xfc, xoc, xag, xan, xex, xen, xfl, xac, xst, xsp, xmd, xrt, xcu, xtk, xtv, xaf, xro, xsc, xho, xvk, xvf, xvs, xcv, xco, xff, xfp, xfe, xfb, xop) => xst
def sy_st (r : Int32) (v : SY) : SY := match v with | (yli, yn, ypr, ygs, ypo, yhp, yfs, yvp, yfu, ysp, ymd, yac, yst, yrt, ycu, yhv, ytk, ytv, yus, ygk, yga, ygb, yck, yca, ycb, ycc, yfp, yfe, yfS, yfn, yfb, yvs, yds, ynk, yna, ynb, ync) => (yli, yn, ypr, ygs, ypo, yhp, yfs, yvp, yfu, ysp, ymd, yac, r, yrt, ycu, yhv, ytk, ytv, yus, ygk, yga, ygb, yck, yca, ycb, ycc, yfp, yfe, yfS, yfn, yfb, yvs, yds, ynk, yna, ynb, ync)
def sm_E (u0 : SX) (v0 : SY) (t it : Nat) (q e : Int32) : Prop := ∃ r u' v', i_Rel 0 u' v' ∧ (∀ (post : Int32 → SX → Prop) (fx : Nat), t + fx = 1000 → post r u' → rx_L post fx (nI t) u0) ∧ (∀ (post : Int32 → SY → Prop) (fy : Nat) (Q : Int32 → SY → Prop), it + fy = 2000 → (∀ r u', ry_L post fy r (nI it) u' → Q r u') → post r v' → wpY_req Q v0 q e)
def sm_R (u0 : SX) (v0 : SY) (t it : Nat) : Prop := ∃ r u' v', i_Rel 0 u' v' ∧ (∀ (post : Int32 → SX → Prop) (fx : Nat), t + fx = 1000 → post r u' → rx_L post fx (nI t) u0) ∧ (∀ (post : Int32 → SY → Prop) (fy : Nat), it + fy = 2000 → post r v' → ry_L post fy 0 (nI it) v0)
section
variable {xdl xtn xpp xvc xcc xfc xoc xag xan xex xen xfl xac xst xsp xmd xrt xcu : Int32} {xtk xtv xaf xro xsc xho xvk xvf xvs xcv xco xff xfp xfe xfb xop : Nat → Int32} {yli yn ypr ygs ypo yhp yfs yvp yfu ysp ymd yac yst yrt ycu yhv : Int32} {ytk ytv yus ygk yga ygb yck yca ycb ycc yfp yfe yfS yfn yfb yvs yds : Nat → Int32} {ynk yna ynb ync : Nat} {t it : Nat}
theorem sm_xend {post : Int32 → SX → Prop} {f : Nat} {r : Int32} {u : SX} (ht : t < 1600) (hr : ¬ r = -1) (hu : sx_st u = r) (h : post r u) : rx_L post (f + 1) (nI t) u := by
  obtain ⟨xdl, xtn, xpp, xvc, xcc, xfc, xoc, xag, xan, xex, xen, xfl, xac, xst, xsp, xmd, xrt, xcu, xtk, xtv, xaf, xro, xsc, xho, xvk, xvf, xvs, xcv, xco, xff, xfp, xfe, xfb, xop⟩ := u
  have e : xst = r := hu
  subst e
  exact xr_end ht hr h
theorem sm_yerr {post : Int32 → SY → Prop} {f : Nat} {r : Int32} {v : SY} (ht : it < 100000) (hr : ¬ r = 0) (h : post r (sy_st r v)) : ry_L post (f + 1) r (nI it) v := by
  obtain ⟨yli, yn, ypr, ygs, ypo, yhp, yfs, yvp, yfu, ysp, ymd, yac, yst, yrt, ycu, yhv, ytk, ytv, yus, ygk, yga, ygb, yck, yca, ycb, ycc, yfp, yfe, yfS, yfn, yfb, yvs, yds, ynk, yna, ynb, ync⟩ := v
  exact yr_err ht hr h
theorem sm_ER {u1 : SX} {v0 v1 : SY} {q e : Int32} (ht : t < 990) (stepX : ∀ Q : SX → Prop, Q u1 → wpX_startExpr Q (xdl, xtn, xpp, xvc, xcc, xfc, xoc, 0, xan, xex, xen, xfl, xac, -1, xsp, xmd, xrt, xcu, xtk, xtv, xaf, xro, xsc, xho, xvk, xvf, xvs, xcv, xco, xff, xfp, xfe, xfb, xop)) (stepY : ∀ Q : Int32 → SY → Prop, Q 0 v1 → wpY_req Q v0 q e) (N : sm_R u1 v1 (t + 1) it) : sm_E (xdl, xtn, xpp, xvc, xcc, xfc, xoc, 0, xan, xex, xen, xfl, xac, -1, xsp, xmd, xrt, xcu, xtk, xtv, xaf, xro, xsc, xho, xvk, xvf, xvs, xcv, xco, xff, xfp, xfe, xfb, xop) v0 t it q e := by
  obtain ⟨r, u', v', F, NX, NY⟩ := N
  refine ⟨r, u', v', F, fun post fx hx hp => ?_, fun post fy Q hy hQ hp => stepY Q (hQ 0 v1 (NY post fy hy hp))⟩
  obtain ⟨f, rfl⟩ : ∃ f, fx = f + 1 := ⟨fx - 1, by omega⟩
  exact xr_E (by omega) (fun Q hQ => stepX Q (hQ u1 (NX post f (by omega) hp)))
theorem sm_EE {u1 : SX} {v0 v2 : SY} {q e q' e' : Int32} {y : Nat} (ht : t < 990) (hit : it < 1900) (hy : y < 512) (stepX : ∀ Q : SX → Prop, Q u1 → wpX_startExpr Q (xdl, xtn, xpp, xvc, xcc, xfc, xoc, 0, xan, xex, xen, xfl, xac, -1, xsp, xmd, xrt, xcu, xtk, xtv, xaf, xro, xsc, xho, xvk, xvf, xvs, xcv, xco, xff, xfp, xfe, xfb, xop)) (stepY : ∀ Q : Int32 → SY → Prop, Q 0 (yli, yn, ypr, ygs, ypo, yhp, nI (y + 1), yvp, yfu, ysp, ymd, yac, yst, yrt, ycu, yhv, ytk, ytv, yus, ygk, yga, ygb, yck, yca, ycb, ycc, yfp, yfe, yfS, yfn, yfb, yvs, yds, ynk, yna, ynb, ync) → wpY_req Q v0 q e) (stepY2 : ∀ Q : Int32 → SY → Prop, wpY_req Q v2 q' e' → wpY_stepFrame Q (yli, yn, ypr, ygs, ypo, yhp, nI (y + 1), yvp, yfu, ysp, ymd, yac, yst, yrt, ycu, yhv, ytk, ytv, yus, ygk, yga, ygb, yck, yca, ycb, ycc, yfp, yfe, yfS, yfn, yfb, yvs, yds, ynk, yna, ynb, ync)) (N : sm_E u1 v2 (t + 1) (it + 1) q' e') : sm_E (xdl, xtn, xpp, xvc, xcc, xfc, xoc, 0, xan, xex, xen, xfl, xac, -1, xsp, xmd, xrt, xcu, xtk, xtv, xaf, xro, xsc, xho, xvk, xvf, xvs, xcv, xco, xff, xfp, xfe, xfb, xop) v0 t it q e := by
  obtain ⟨r, u', v', F, NX, NY⟩ := N
  refine ⟨r, u', v', F, fun post fx hx hp => ?_, fun post fy Q hfy hQ hp => stepY Q (hQ 0 _ ?_)⟩
  · obtain ⟨f, rfl⟩ : ∃ f, fx = f + 1 := ⟨fx - 1, by omega⟩
    exact xr_E (by omega) (fun Q hQ => stepX Q (hQ u1 (NX post f (by omega) hp)))
  · obtain ⟨f, rfl⟩ : ∃ f, fy = f + 1 := ⟨fy - 1, by omega⟩
    exact yr_turn (by omega) hy (fun Q hQ => stepY2 Q (NY post f Q (by omega) hQ hp))
theorem sm_RE {u1 : SX} {v2 : SY} {q' e' : Int32} {y : Nat} (ht : t < 990) (hit : it < 1900) (hy : y < 512) (stepX : ∀ Q : SX → Prop, Q u1 → wpX_handOverAnswer Q (xdl, xtn, xpp, xvc, xcc, xfc, xoc, 1, xan, xex, xen, xfl, xac, -1, xsp, xmd, xrt, xcu, xtk, xtv, xaf, xro, xsc, xho, xvk, xvf, xvs, xcv, xco, xff, xfp, xfe, xfb, xop)) (stepY2 : ∀ Q : Int32 → SY → Prop, wpY_req Q v2 q' e' → wpY_stepFrame Q (yli, yn, ypr, ygs, ypo, yhp, nI (y + 1), yvp, yfu, ysp, ymd, yac, yst, yrt, ycu, yhv, ytk, ytv, yus, ygk, yga, ygb, yck, yca, ycb, ycc, yfp, yfe, yfS, yfn, yfb, yvs, yds, ynk, yna, ynb, ync)) (N : sm_E u1 v2 (t + 1) (it + 1) q' e') : sm_R (xdl, xtn, xpp, xvc, xcc, xfc, xoc, 1, xan, xex, xen, xfl, xac, -1, xsp, xmd, xrt, xcu, xtk, xtv, xaf, xro, xsc, xho, xvk, xvf, xvs, xcv, xco, xff, xfp, xfe, xfb, xop) (yli, yn, ypr, ygs, ypo, yhp, nI (y + 1), yvp, yfu, ysp, ymd, yac, yst, yrt, ycu, yhv, ytk, ytv, yus, ygk, yga, ygb, yck, yca, ycb, ycc, yfp, yfe, yfS, yfn, yfb, yvs, yds, ynk, yna, ynb, ync) t it := by
  obtain ⟨r, u', v', F, NX, NY⟩ := N
  refine ⟨r, u', v', F, fun post fx hx hp => ?_, fun post fy hfy hp => ?_⟩
  · obtain ⟨f, rfl⟩ : ∃ f, fx = f + 1 := ⟨fx - 1, by omega⟩
    exact xr_R (by omega) (fun Q hQ => stepX Q (hQ u1 (NX post f (by omega) hp)))
  · obtain ⟨f, rfl⟩ : ∃ f, fy = f + 1 := ⟨fy - 1, by omega⟩
    exact yr_turn (by omega) hy (fun Q hQ => stepY2 Q (NY post f Q (by omega) hQ hp))
theorem sm_RR {u1 : SX} {v2 : SY} {y : Nat} (ht : t < 990) (hit : it < 1900) (hy : y < 512) (stepX : ∀ Q : SX → Prop, Q u1 → wpX_handOverAnswer Q (xdl, xtn, xpp, xvc, xcc, xfc, xoc, 1, xan, xex, xen, xfl, xac, -1, xsp, xmd, xrt, xcu, xtk, xtv, xaf, xro, xsc, xho, xvk, xvf, xvs, xcv, xco, xff, xfp, xfe, xfb, xop)) (stepY2 : ∀ Q : Int32 → SY → Prop, Q 0 v2 → wpY_stepFrame Q (yli, yn, ypr, ygs, ypo, yhp, nI (y + 1), yvp, yfu, ysp, ymd, yac, yst, yrt, ycu, yhv, ytk, ytv, yus, ygk, yga, ygb, yck, yca, ycb, ycc, yfp, yfe, yfS, yfn, yfb, yvs, yds, ynk, yna, ynb, ync)) (N : sm_R u1 v2 (t + 1) (it + 1)) : sm_R (xdl, xtn, xpp, xvc, xcc, xfc, xoc, 1, xan, xex, xen, xfl, xac, -1, xsp, xmd, xrt, xcu, xtk, xtv, xaf, xro, xsc, xho, xvk, xvf, xvs, xcv, xco, xff, xfp, xfe, xfb, xop) (yli, yn, ypr, ygs, ypo, yhp, nI (y + 1), yvp, yfu, ysp, ymd, yac, yst, yrt, ycu, yhv, ytk, ytv, yus, ygk, yga, ygb, yck, yca, ycb, ycc, yfp, yfe, yfS, yfn, yfb, yvs, yds, ynk, yna, ynb, ync) t it := by
  obtain ⟨r, u', v', F, NX, NY⟩ := N
  refine ⟨r, u', v', F, fun post fx hx hp => ?_, fun post fy hfy hp => ?_⟩
  · obtain ⟨f, rfl⟩ : ∃ f, fx = f + 1 := ⟨fx - 1, by omega⟩
    exact xr_R (by omega) (fun Q hQ => stepX Q (hQ u1 (NX post f (by omega) hp)))
  · obtain ⟨f, rfl⟩ : ∃ f, fy = f + 1 := ⟨fy - 1, by omega⟩
    exact yr_turn (by omega) hy (fun Q hQ => stepY2 Q (hQ 0 v2 (NY post f (by omega) hp)))
theorem sm_Rp {u0 : SX} {v2 : SY} {y : Nat} (hit : it < 1900) (hy : y < 512) (stepY2 : ∀ Q : Int32 → SY → Prop, Q 0 v2 → wpY_stepFrame Q (yli, yn, ypr, ygs, ypo, yhp, nI (y + 1), yvp, yfu, ysp, ymd, yac, yst, yrt, ycu, yhv, ytk, ytv, yus, ygk, yga, ygb, yck, yca, ycb, ycc, yfp, yfe, yfS, yfn, yfb, yvs, yds, ynk, yna, ynb, ync)) (N : sm_R u0 v2 t (it + 1)) : sm_R u0 (yli, yn, ypr, ygs, ypo, yhp, nI (y + 1), yvp, yfu, ysp, ymd, yac, yst, yrt, ycu, yhv, ytk, ytv, yus, ygk, yga, ygb, yck, yca, ycb, ycc, yfp, yfe, yfS, yfn, yfb, yvs, yds, ynk, yna, ynb, ync) t it := by
  obtain ⟨r, u', v', F, NX, NY⟩ := N
  refine ⟨r, u', v', F, NX, fun post fy hfy hp => ?_⟩
  obtain ⟨f, rfl⟩ : ∃ f, fy = f + 1 := ⟨fy - 1, by omega⟩
  exact yr_turn (by omega) hy (fun Q hQ => stepY2 Q (hQ 0 v2 (NY post f (by omega) hp)))
theorem sm_Rerr {u1 : SX} {v2 : SY} {r : Int32} {y : Nat} (ht : t < 990) (hit : it < 1900) (hy : y < 512) (hr : ¬ r = -1) (hr0 : ¬ r = 0) (hu : sx_st u1 = r) (stepX : ∀ Q : SX → Prop, Q u1 → wpX_handOverAnswer Q (xdl, xtn, xpp, xvc, xcc, xfc, xoc, 1, xan, xex, xen, xfl, xac, -1, xsp, xmd, xrt, xcu, xtk, xtv, xaf, xro, xsc, xho, xvk, xvf, xvs, xcv, xco, xff, xfp, xfe, xfb, xop)) (stepY2 : ∀ Q : Int32 → SY → Prop, Q r v2 → wpY_stepFrame Q (yli, yn, ypr, ygs, ypo, yhp, nI (y + 1), yvp, yfu, ysp, ymd, yac, yst, yrt, ycu, yhv, ytk, ytv, yus, ygk, yga, ygb, yck, yca, ycb, ycc, yfp, yfe, yfS, yfn, yfb, yvs, yds, ynk, yna, ynb, ync)) (F : i_Rel 0 u1 (sy_st r v2)) : sm_R (xdl, xtn, xpp, xvc, xcc, xfc, xoc, 1, xan, xex, xen, xfl, xac, -1, xsp, xmd, xrt, xcu, xtk, xtv, xaf, xro, xsc, xho, xvk, xvf, xvs, xcv, xco, xff, xfp, xfe, xfb, xop) (yli, yn, ypr, ygs, ypo, yhp, nI (y + 1), yvp, yfu, ysp, ymd, yac, yst, yrt, ycu, yhv, ytk, ytv, yus, ygk, yga, ygb, yck, yca, ycb, ycc, yfp, yfe, yfS, yfn, yfb, yvs, yds, ynk, yna, ynb, ync) t it := by
  refine ⟨r, u1, sy_st r v2, F, fun post fx hx hp => ?_, fun post fy hfy hp => ?_⟩
  · obtain ⟨f, rfl⟩ : ∃ f, fx = f + 1 + 1 := ⟨fx - 2, by omega⟩
    exact xr_R (by omega) (fun Q hQ => stepX Q (hQ u1 (sm_xend (by omega) hr hu hp)))
  · obtain ⟨f, rfl⟩ : ∃ f, fy = f + 1 + 1 := ⟨fy - 2, by omega⟩
    exact yr_turn (by omega) hy (fun Q hQ => stepY2 Q (hQ r v2 (sm_yerr (by omega) hr0 hp)))
theorem sm_Efuel {v0 : SY} {q e : Int32} (ht : t < 990) (hit : it < 1900) (hs : xsp = xfl) (stepY : ∀ Q : Int32 → SY → Prop, Q 4 v0 → wpY_req Q v0 q e) (F : i_Rel 0 (xdl, xtn, xpp, xvc, xcc, xfc, xoc, 0, xan, xex, xen, xfl, xac, 4, xsp, xmd, xrt, xcu, xtk, xtv, xaf, xro, xsc, xho, xvk, xvf, xvs, xcv, xco, xff, xfp, xfe, xfb, xop) (sy_st 4 v0)) : sm_E (xdl, xtn, xpp, xvc, xcc, xfc, xoc, 0, xan, xex, xen, xfl, xac, -1, xsp, xmd, xrt, xcu, xtk, xtv, xaf, xro, xsc, xho, xvk, xvf, xvs, xcv, xco, xff, xfp, xfe, xfb, xop) v0 t it q e := by
  refine ⟨4, (xdl, xtn, xpp, xvc, xcc, xfc, xoc, 0, xan, xex, xen, xfl, xac, 4, xsp, xmd, xrt, xcu, xtk, xtv, xaf, xro, xsc, xho, xvk, xvf, xvs, xcv, xco, xff, xfp, xfe, xfb, xop), sy_st 4 v0, F, fun post fx hx hp => ?_, fun post fy Q hfy hQ hp => ?_⟩
  · obtain ⟨f, rfl⟩ : ∃ f, fx = f + 1 + 1 := ⟨fx - 2, by omega⟩
    exact xr_E (by omega) (fun Q hQ => xr_fuel hs (hQ _ (sm_xend (r := 4) (by omega) (by decide) rfl hp)))
  · obtain ⟨f, rfl⟩ : ∃ f, fy = f + 1 := ⟨fy - 1, by omega⟩
    exact stepY Q (hQ 4 v0 (sm_yerr (by omega) (by decide) hp))
theorem sm_Rfin (ht : t < 990) (hit : it < 1900) (F : i_Rel 0 (xdl, xtn, xpp, xvc, xcc, nI 0, xoc, 1, xan, xex, xen, xfl, xac, 0, xsp, xmd, xan, xan, xtk, xtv, xaf, xro, xsc, xho, xvk, xvf, xvs, xcv, xco, xff, xfp, xfe, xfb, xop) (yli, yn, ypr, ygs, ypo, yhp, 0, yvp, yfu, ysp, ymd, yac, 0, yvs 0, yvs 0, 1, ytk, ytv, yus, ygk, yga, ygb, yck, yca, ycb, ycc, yfp, yfe, yfS, yfn, yfb, yvs, yds, ynk, yna, ynb, ync)) : sm_R (xdl, xtn, xpp, xvc, xcc, nI 0, xoc, 1, xan, xex, xen, xfl, xac, -1, xsp, xmd, xrt, xcu, xtk, xtv, xaf, xro, xsc, xho, xvk, xvf, xvs, xcv, xco, xff, xfp, xfe, xfb, xop) (yli, yn, ypr, ygs, ypo, yhp, 0, yvp, yfu, ysp, ymd, yac, yst, yrt, ycu, yhv, ytk, ytv, yus, ygk, yga, ygb, yck, yca, ycb, ycc, yfp, yfe, yfS, yfn, yfb, yvs, yds, ynk, yna, ynb, ync) t it := by
  refine ⟨0, _, _, F, fun post fx hx hp => ?_, fun post fy hfy hp => ?_⟩
  · obtain ⟨f, rfl⟩ : ∃ f, fx = f + 1 + 1 := ⟨fx - 2, by omega⟩
    exact xr_R (by omega) (fun Q hQ => xr_fin (hQ _ (sm_xend (r := 0) (by omega) (by decide) rfl hp)))
  · obtain ⟨f, rfl⟩ : ∃ f, fy = f + 1 := ⟨fy - 1, by omega⟩
    exact yr_ok (by omega) hp
end
end
section
/-! the frames -/
def fr_W (K a : Nat → Nat) (R sc : Nat → Int32) (n : Nat) (g nm : Nat → Nat) (cc : Nat) (ff fp fe fb P E S N B : Nat → Int32) (x y b k q : Nat) : Prop :=
  q < n ∧ R q = 1 ∧ K q = 1 ∧ ff x = nI q ∧ P y = nI q ∧ fb x = nI b ∧ B y = nI b ∧ hb_E g nm cc (fe x) (E y) (sc q) ∧
   ((K (q + 1) = 10 ∧ k = 0 ∧ fp x = nI (q + 2) ∧ S y = 1) ∨
    (11 ≤ K (q + 1) ∧ k < gr_n (K (q + 1)) ∧ fp x = nI (it_f a k (q + 2)) ∧ S y = nI (k + 1) ∧ N y = nI (it_f a (k + 1) (q + 2))) ∨
    (K (q + 1) = 8 ∧ (∃ c, ls_C K a (q + 3) c ∧ k < c) ∧ fp x = nI (it_f a k (q + 3) + 2) ∧ S y = 0 ∧ N y = nI (it_f a (k + 1) (q + 3))) ∨
    (K (q + 1) < 6 ∧ ∃ c, ls_C K a (q + 1) (c + 1) ∧ ((k < c ∧ fp x = nI (it_f a (k + 1) (q + 1)) ∧ S y = 0 ∧ N y = nI (it_f a (k + 2) (q + 1))) ∨ (k = c ∧ fp x = nI (q + 1) ∧ S y = 1))))
def fr_P (K : Nat → Nat) (n : Nat) (P S B : Nat → Int32) (y o : Nat) : Prop := B y = nI o ∧ ∃ q, q < n ∧ P y = nI q ∧ ((K (q + 1) = 10 ∧ S y = 2) ∨ (K (q + 1) = 8 ∧ S y = 1) ∨ (K (q + 1) = 9 ∧ S y = 2))
def fr_C (K : Nat → Nat) (n : Nat) (fp P S B : Nat → Int32) (x y o : Nat) : Prop := fp x = -1 ∧ (∃ q, q < n ∧ P y = nI q ∧ K (q + 1) < 6) ∧ S y = 2 ∧ B y = nI o
def fr_R (K a : Nat → Nat) (R sc : Nat → Int32) (n : Nat) (g nm : Nat → Nat) (cc : Nat) (ff fp fe fb P E S N B : Nat → Int32) : Nat → Nat → Nat → Nat → Prop
  | 0, x, o, u => x = 0 ∧ o = 0 ∧ u = 0
  | y + 1, x, o, u =>
    (fr_P K n P S B y o ∧ fr_R K a R sc n g nm cc ff fp fe fb P E S N B y x o u) ∨
    (∃ x', x = x' + 1 ∧ fr_C K n fp P S B x' y o ∧ fr_R K a R sc n g nm cc ff fp fe fb P E S N B y x' o u) ∨
    (∃ x' b k u' q, x = x' + 1 ∧ u = u' + 1 ∧ o = b + k ∧ fr_W K a R sc n g nm cc ff fp fe fb P E S N B x' y b k q ∧ fr_R K a R sc n g nm cc ff fp fe fb P E S N B y x' b u')
section
variable {K a : Nat → Nat} {R sc : Nat → Int32} {n : Nat} {g nm g' nm' : Nat → Nat} {cc cc' : Nat} {ff fp fe fb P E S N B ff' fp' fe' fb' P' E' S' N' B' : Nat → Int32}
theorem fr_Wk {x y b k q : Nat} (hc : cc ≤ cc') (hg : ∀ i, i < cc → g' i = g i ∧ nm' i = nm i) (hx : ff' x = ff x ∧ fp' x = fp x ∧ fe' x = fe x ∧ fb' x = fb x) (hy : P' y = P y ∧ E' y = E y ∧ S' y = S y ∧ N' y = N y ∧ B' y = B y)
    (h : fr_W K a R sc n g nm cc ff fp fe fb P E S N B x y b k q) : fr_W K a R sc n g' nm' cc' ff' fp' fe' fb' P' E' S' N' B' x y b k q := by
  unfold fr_W at h ⊢
  rw [hx.1, hx.2.1, hx.2.2.1, hx.2.2.2, hy.1, hy.2.1, hy.2.2.1, hy.2.2.2.1, hy.2.2.2.2]
  obtain ⟨h1, h2, h3, h4, h5, h6, h7, h8, h9⟩ := h
  exact ⟨h1, h2, h3, h4, h5, h6, h7, hb_Em hc hg h8, h9⟩
theorem fr_k (hc : cc ≤ cc') (hg : ∀ i, i < cc → g' i = g i ∧ nm' i = nm i) : ∀ {y x o u : Nat}, (∀ i, i < x → ff' i = ff i ∧ fp' i = fp i ∧ fe' i = fe i ∧ fb' i = fb i) → (∀ i, i < y → P' i = P i ∧ E' i = E i ∧ S' i = S i ∧ N' i = N i ∧ B' i = B i) →
    fr_R K a R sc n g nm cc ff fp fe fb P E S N B y x o u → fr_R K a R sc n g' nm' cc' ff' fp' fe' fb' P' E' S' N' B' y x o u
  | 0, _, _, _, _, _, h => h
  | y + 1, x, o, u, hx, hy, h => by
    have q := hy y (by omega)
    rcases h with ⟨h1, h2⟩ | ⟨x', e, h1, h2⟩ | ⟨x', b, k, u', q', e1, e2, e3, h1, h2⟩
    · refine Or.inl ⟨?_, fr_k hc hg hx (fun i hi => hy i (by omega)) h2⟩
      unfold fr_P at h1 ⊢
      rw [q.1, q.2.2.1, q.2.2.2.2]; exact h1
    · refine Or.inr (Or.inl ⟨x', e, ?_, fr_k hc hg (fun i hi => hx i (by omega)) (fun i hi => hy i (by omega)) h2⟩)
      unfold fr_C at h1 ⊢
      rw [q.1, q.2.2.1, q.2.2.2.2, (hx x' (by omega)).2.1]; exact h1
    · exact Or.inr (Or.inr ⟨x', b, k, u', q', e1, e2, e3, fr_Wk hc hg (hx x' (by omega)) q h1, fr_k hc hg (fun i hi => hx i (by omega)) (fun i hi => hy i (by omega)) h2⟩)
end
/-- operands and the reference's value stack -/
def op_R (VR : Nat → Nat → Prop) (op yvs : Nat → Int32) (oc : Nat) : Prop := ∀ k, k < oc → ∃ a b, op k = nI a ∧ yvs k = nI b ∧ VR a b
def sr_N (vc cc hp fc oc y u s t it ans F : Nat) : Prop := vc + u ≤ 128 + s ∧ 128 ≤ vc ∧ cc + oc + fc + ans ≤ s ∧ hp + 4 * u ≤ 1 + 122 * s ∧ y ≤ s ∧ t + ans + fc ≤ 2 * s ∧ it + y + ans ≤ 3 * s + 1 ∧ s ≤ F ∧ F ≤ 400 ∧ ans ≤ 1
/-- the invariant of a run -/
def sr_I (K : Nat → Nat) (V : Nat → Int32) (a : Nat → Nat) (R sc : Nat → Int32) (n : Nat) (VR : Nat → Nat → Prop) (g nm : Nat → Nat) (vc cc hp fc oc y u s t it ans F : Nat) (xvk xvf xvs xcv xco xff xfp xfe xfb xop yck yca ycb ycc yfp yfe yfS yfn yfb yvs : Nat → Int32) : Prop :=
  hb_B K V R sc n VR g nm vc cc hp cc xvk xvf xvs xcv xco yck yca ycb ycc ∧ op_R VR xop yvs oc ∧ fr_R K a R sc n g nm cc xff xfp xfe xfb yfp yfe yfS yfn yfb y fc oc u ∧ sr_N vc cc hp fc oc y u s t it ans F ∧ lt_L K V a R xvk xvf xvs n
theorem op_m {VR VR' : Nat → Nat → Prop} {op yvs op' yvs' : Nat → Int32} {oc : Nat} (hV : ∀ a b, VR a b → VR' a b) (h1 : ∀ k, k < oc → op' k = op k ∧ yvs' k = yvs k) (h : op_R VR op yvs oc) : op_R VR' op' yvs' oc := fun k hk => by
  obtain ⟨a, b, e1, e2, v⟩ := h k hk
  have q := h1 k hk
  exact ⟨a, b, q.1.trans e1, q.2.trans e2, hV _ _ v⟩
theorem op_s {VR VR' : Nat → Nat → Prop} {op yvs yvs' : Nat → Int32} {oc a b : Nat} (hV : ∀ a b, VR a b → VR' a b) (h1 : ∀ k, k < oc → yvs' k = yvs k) (h2 : yvs' oc = nI b) (v : VR' a b) (h : op_R VR op yvs oc) : op_R VR' (upd op oc (nI a)) yvs' (oc + 1) := fun k hk => by
  by_cases z : k = oc
  · subst z; exact ⟨a, b, pk_us, h2, v⟩
  · obtain ⟨a', b', e1, e2, v'⟩ := h k (by omega)
    exact ⟨a', b', (pk_un z).trans e1, (h1 k (by omega)).trans e2, hV _ _ v'⟩
theorem op_l {VR : Nat → Nat → Prop} {op yvs : Nat → Int32} {oc oc' : Nat} (hl : oc' ≤ oc) (h : op_R VR op yvs oc) : op_R VR op yvs oc' := fun k hk => h k (by omega)
/-! the shape of forms, as a run needs it -/
section
variable {K : Nat → Nat} {V r sc : Nat → Int32} {n : Nat} {par : Nat → Nat}
theorem st_in (hn : ∀ i, n ≤ i → K i = 0) (hB : ∀ i, i < n → K i ≠ 2 → dp_I K i (sk_f K n i)) (W : rw_W K V (sk_f K n) n n r par) {q c : Nat} (hq : q < n) (hr : r q = 1) (h : gr_E K (sk_f K n) q c) : c < n ∧ r c = 1 ∧ K c ≠ 2 ∧ q < c ∧ sk_f K n c < sk_f K n q ∧ sk_f K n q ≤ n := by
  have w := W.2.1 q hq hr
  have k1 := h.1
  have hI := hB q hq (by omega)
  have gi := gr_in hI w.1 (Or.inl h)
  have g1 := gi.2.1.1
  have l := dp_le hn hI hq
  have rc := (w.2.1 c h).1
  refine ⟨by omega, rc, ?_, gi.1, gi.2.2, l⟩
  exact dp_I_n2 gi.2.1
theorem st_op (hn : ∀ i, n ≤ i → K i = 0) (hB : ∀ i, i < n → K i ≠ 2 → dp_I K i (sk_f K n i)) (W : rw_W K V (sk_f K n) n n r par) (hL : ∀ i, i < n → r i = 1 → K i = 1 → sc_L K (sk_f K n) sc i) {q : Nat} (hq : q < n) (hr : r q = 1) (k1 : K q = 1) (k10 : 10 ≤ K (q + 1)) :
    ls_C K (sk_f K n) (q + 2) (gr_n (K (q + 1))) ∧ (∀ k, k < gr_n (K (q + 1)) → it_f (sk_f K n) k (q + 2) < n ∧ r (it_f (sk_f K n) k (q + 2)) = 1 ∧ K (it_f (sk_f K n) k (q + 2)) ≠ 2 ∧ q + 2 ≤ it_f (sk_f K n) k (q + 2) ∧ sc (it_f (sk_f K n) k (q + 2)) = sc q) ∧ it_f (sk_f K n) (gr_n (K (q + 1))) (q + 2) < n := by
  have hS := (W.2.1 q hq hr).1
  rcases gr_FSof hS k1 with ⟨k, l⟩ | ⟨k, l, k2, c', q'⟩ | ⟨k, l, k2, c', c1, c4, lc, bb⟩ | ⟨k, l⟩ | ⟨k, c', c4, l⟩
  · omega
  · omega
  · omega
  · have bd := ls_bd hn l
    refine ⟨l, fun x hx => ?_, (bd.1 _ (Nat.le_refl _)).1⟩
    have hE : gr_E K (sk_f K n) q (it_f (sk_f K n) x (q + 2)) := ⟨k1, Or.inl ⟨k, (ls_CM l).mpr ⟨x, hx, rfl⟩⟩⟩
    have s := st_in hn hB W hq hr hE
    exact ⟨s.1, s.2.1, s.2.2.1, by have := (bd.1 x (by omega)).2; omega, (hL q hq hr k1).1 (Or.inr k) _ hE⟩
  · omega
theorem st_app (hn : ∀ i, n ≤ i → K i = 0) (hB : ∀ i, i < n → K i ≠ 2 → dp_I K i (sk_f K n i)) (W : rw_W K V (sk_f K n) n n r par) (hL : ∀ i, i < n → r i = 1 → K i = 1 → sc_L K (sk_f K n) sc i) {q : Nat} (hq : q < n) (hr : r q = 1) (k1 : K q = 1) (k6 : K (q + 1) < 6) :
    ∃ c, c ≤ 4 ∧ ls_C K (sk_f K n) (q + 1) (c + 1) ∧ (∀ k, k ≤ c → it_f (sk_f K n) k (q + 1) < n ∧ r (it_f (sk_f K n) k (q + 1)) = 1 ∧ K (it_f (sk_f K n) k (q + 1)) ≠ 2 ∧ q + 1 + k ≤ it_f (sk_f K n) k (q + 1) ∧ sc (it_f (sk_f K n) k (q + 1)) = sc q) ∧ it_f (sk_f K n) (c + 1) (q + 1) < n := by
  have hS := (W.2.1 q hq hr).1
  rcases gr_FSof hS k1 with ⟨k, l⟩ | ⟨k, l, k2, c', q'⟩ | ⟨k, l, k2, c', c1, c4, lc, bb⟩ | ⟨k, l⟩ | ⟨k, c, c4, l⟩
  · omega
  · omega
  · omega
  · omega
  · have bd := ls_bd hn l
    refine ⟨c, c4, l, fun x hx => ?_, (bd.1 _ (Nat.le_refl _)).1⟩
    have hE : gr_E K (sk_f K n) q (it_f (sk_f K n) x (q + 1)) := ⟨k1, Or.inr (Or.inl ⟨k, (ls_CM l).mpr ⟨x, by omega, rfl⟩⟩)⟩
    have s := st_in hn hB W hq hr hE
    exact ⟨s.1, s.2.1, s.2.2.1, by have := (bd.1 x (by omega)).2; omega, (hL q hq hr k1).1 (Or.inl (by omega)) _ hE⟩
theorem st_let (hn : ∀ i, n ≤ i → K i = 0) (hB : ∀ i, i < n → K i ≠ 2 → dp_I K i (sk_f K n i)) (W : rw_W K V (sk_f K n) n n r par) (hL : ∀ i, i < n → r i = 1 → K i = 1 → sc_L K (sk_f K n) sc i) {q : Nat} (hq : q < n) (hr : r q = 1) (k1 : K q = 1) (k8 : K (q + 1) = 8 ∨ K (q + 1) = 9) :
    ∃ c, 1 ≤ c ∧ c ≤ 4 ∧ ls_C K (sk_f K n) (q + 3) c ∧
      (∀ k, k < c → K (it_f (sk_f K n) k (q + 3)) = 1 ∧ it_f (sk_f K n) k (q + 3) + 2 < n ∧ r (it_f (sk_f K n) k (q + 3) + 2) = 1 ∧ K (it_f (sk_f K n) k (q + 3) + 2) ≠ 2 ∧ q + 3 ≤ it_f (sk_f K n) k (q + 3) ∧ it_f (sk_f K n) (k + 1) (q + 3) = sk_f K n (it_f (sk_f K n) k (q + 3) + 2) + 1 ∧ it_f (sk_f K n) (k + 1) (q + 3) < n ∧ sc (it_f (sk_f K n) k (q + 3) + 2) = (if K (q + 1) = 9 then hb_s (sc q) (fun i => it_f (sk_f K n) i (q + 3) + 1) c else sc q) ∧ (K (q + 1) = 9 → K (it_f (sk_f K n) k (q + 3) + 2) = 1 ∧ K (it_f (sk_f K n) k (q + 3) + 3) = 7) ∧ sc (it_f (sk_f K n) k (q + 3) + 1) = hb_s (sc q) (fun i => it_f (sk_f K n) i (q + 3) + 1) k) ∧
      (∀ j k, j < k → k < c → V (it_f (sk_f K n) j (q + 3) + 1) ≠ V (it_f (sk_f K n) k (q + 3) + 1)) ∧
      q + 2 < n ∧ K (q + 2) = 1 ∧ sk_f K n (q + 2) = it_f (sk_f K n) c (q + 3) + 1 ∧ sk_f K n (q + 2) < n ∧ r (sk_f K n (q + 2)) = 1 ∧ sc (sk_f K n (q + 2)) = hb_s (sc q) (fun i => it_f (sk_f K n) i (q + 3) + 1) c := by
  have hS := (W.2.1 q hq hr).1
  have hI := hB q hq (by omega)
  have L := (hL q hq hr k1).2 (by omega) (by omega)
  have gb := gr_bind hI k1 (by omega) (by omega) hS
  have nme : ∀ j, sc_nm K (sk_f K n) q j = it_f (sk_f K n) j (q + 3) + 1 := fun j => if_neg (by omega)
  have lse : ∀ j, sc_ls K (sk_f K n) sc q j = hb_s (sc q) (fun i => it_f (sk_f K n) i (q + 3) + 1) j := fun j => by
    cases j with
    | zero => rfl
    | succ j => show nI (sc_nm K (sk_f K n) q j) = _; rw [nme]; rfl
  rcases gr_FSof hS k1 with ⟨k, l⟩ | ⟨k, l, k2, c', q'⟩ | ⟨k, l, k2, c, c1, c4, lc, bb⟩ | ⟨k, l⟩ | ⟨k, c', c4, l⟩
  · omega
  · omega
  · obtain ⟨bp1, bp2, bp3, bp4, bp5⟩ := xs_bp (V := V) hn hB hq k1 k8 hS lc
    obtain ⟨L1, L2, L3⟩ := L c lc
    have bd := ls_bd hn lc
    have hEb : gr_E K (sk_f K n) q (sk_f K n (q + 2)) := ⟨k1, Or.inr (Or.inr (Or.inl ⟨by omega, by omega, rfl⟩))⟩
    refine ⟨c, c1, c4, lc, fun x hx => ?_, fun j x hj hx => ?_, ?_, k2, bp4.symm, bp5, ((W.2.1 q hq hr).2.1 _ hEb).1, by rw [L2, lse]⟩
    · have hE : gr_E K (sk_f K n) q (it_f (sk_f K n) x (q + 3) + 2) := ⟨k1, Or.inr (Or.inr (Or.inr ⟨k8, _, (ls_CM lc).mpr ⟨x, hx, rfl⟩, rfl⟩))⟩
      have s := st_in hn hB W hq hr hE
      obtain ⟨m1, m2, m3, m4, m5, m6, m7, m8, m9⟩ := gr_bnd hI k1 k8 hS ((ls_CM lc).mpr ⟨x, hx, rfl⟩)
      refine ⟨m2, s.1, s.2.1, s.2.2.1, m1, by rw [it_s]; exact m6, (bd.1 (x + 1) (by omega)).1, ?_, fun z => m9.2.2.2.2 z, ?_⟩
      · have := L3 (by omega) x hx
        rw [this, lse]
      · have := L1 x hx
        rw [nme, lse] at this
        exact this
    · intro ev
      have nd := (bb x hx).2.2.2.1
      exact nd ((xl_dup (K := K) (n := n) (L := q + 2) hn (by omega)).mpr ⟨j, hj, ev⟩)
    · have := gb.2.1.1
      have := gb.2.2.1.1
      have := gb.2.2.2.1
      have := dp_le hn hI hq
      omega
  · omega
  · omega
theorem st_lam (hn : ∀ i, n ≤ i → K i = 0) (hB : ∀ i, i < n → K i ≠ 2 → dp_I K i (sk_f K n i)) (W : rw_W K V (sk_f K n) n n r par) (hL : ∀ i, i < n → r i = 1 → K i = 1 → sc_L K (sk_f K n) sc i) {q : Nat} (hq : q < n) (hr : r q = 1) (k1 : K q = 1) (k7 : K (q + 1) = 7) :
    ∃ c, c ≤ 4 ∧ gr_P K V (q + 2) c ∧ ls_C K (sk_f K n) (q + 3) c ∧ (∀ k, k < c → q + 3 + k < n ∧ sc (q + 3 + k) = hb_s (sc q) (fun i => q + 3 + i) k) ∧ q + 3 + c < n ∧ q + 2 < n ∧ K (q + 2) = 1 ∧ sk_f K n (q + 2) = q + 4 + c ∧ sk_f K n (q + 2) < n ∧ r (sk_f K n (q + 2)) = 1 ∧ sc (sk_f K n (q + 2)) = hb_s (sc q) (fun i => q + 3 + i) c := by
  have hS := (W.2.1 q hq hr).1
  have hI := hB q hq (by omega)
  obtain ⟨c, c4, lc, hN, hP, _⟩ := sc_N k1 (by omega) (by omega) hS
  have P := hP k7
  have gb := gr_bind hI k1 (by omega) (by omega) hS
  obtain ⟨L1, L2, _⟩ := (hL q hq hr k1).2 (by omega) (by omega) c lc
  have nme : ∀ j, sc_nm K (sk_f K n) q j = q + 3 + j := fun j => if_pos k7
  have lse : ∀ j, sc_ls K (sk_f K n) sc q j = hb_s (sc q) (fun i => q + 3 + i) j := fun j => by
    cases j with
    | zero => rfl
    | succ j => show nI (sc_nm K (sk_f K n) q j) = _; rw [nme]; rfl
  have ea : sk_f K n (q + 2) = q + 2 + 2 + c := gr_Pa gb.1 P
  have hEb : gr_E K (sk_f K n) q (sk_f K n (q + 2)) := ⟨k1, Or.inr (Or.inr (Or.inl ⟨by omega, by omega, rfl⟩))⟩
  have s := st_in hn hB W hq hr hEb
  refine ⟨c, c4, P, lc, fun x hx => ⟨by omega, ?_⟩, by omega, by omega, gb.1, by omega, s.1, s.2.1, by rw [L2, lse]⟩
  have := L1 x hx
  rw [nme, lse] at this
  exact this
end
end
section
/-- the program's facts -/
def pg_F (xtk xtv xaf xro xsc xho : Nat → Int32) (n : Nat) (par : Nat → Nat) : Prop := tk_ok xtk n ∧ xb_A (tk_K xtk n) n xaf ∧ rw_W (tk_K xtk n) xtv (sk_f (tk_K xtk n) n) n n (xr_c n xro) par ∧ (∀ i, i < n → xr_c n xro i = 1 → tk_K xtk n i = 1 → sc_L (tk_K xtk n) (sk_f (tk_K xtk n) n) xsc i) ∧ (∀ i, i < n → xr_c n xro i = 1 → tk_K xtk n i = 4 → xs_P n xtv (xr_c n xro) par xsc xho i) ∧ (∀ vk vf vs, lt_L (tk_K xtk n) xtv (sk_f (tk_K xtk n) n) (xr_c n xro) vk vf vs n → cp_P xtk xtv n xaf xro xsc xho vk vf vs)
def sm_RT (xdl : Int32) (xtk xtv xaf xro xsc xho : Nat → Int32) (n F d : Nat) : Prop :=
  ∀ (VR : Nat → Nat → Prop) (g nm : Nat → Nat) (vc cc hp fc oc y u s t it a b : Nat) (xex xen xac xmd ygs ypo yst yrt ycu : Int32) (xvk xvf xvs xcv xco xff xfp xfe xfb xop yus ygk yga ygb yck yca ycb ycc yfp yfe yfS yfn yfb yvs yds : Nat → Int32), t + d = 900 → (sr_I (tk_K xtk n) xtv (sk_f (tk_K xtk n) n) (xr_c n xro) xsc n VR g nm vc cc hp fc oc y u s t it 1 F xvk xvf xvs xcv xco xff xfp xfe xfb xop yck yca ycb ycc yfp yfe yfS yfn yfb yvs) → yvs oc = nI b → VR a b → sm_R (xdl, nI n, 1, nI vc, nI cc, nI fc, nI oc, 1, nI a, xex, xen, nI F, xac, -1, nI s, xmd, -1, -1, xtk, xtv, xaf, xro, xsc, xho, xvk, xvf, xvs, xcv, xco, xff, xfp, xfe, xfb, xop) (xdl, nI n, 1, ygs, ypo, nI hp, nI y, nI (oc + 1), nI F, nI s, xmd, xac, yst, yrt, ycu, 0, xtk, xtv, yus, ygk, yga, ygb, yck, yca, ycb, ycc, yfp, yfe, yfS, yfn, yfb, yvs, yds, 50000, 50000, 50000, 50000) t it
def sm_ET (xdl : Int32) (xtk xtv xaf xro xsc xho : Nat → Int32) (n F d : Nat) : Prop :=
  ∀ (VR : Nat → Nat → Prop) (g nm : Nat → Nat) (vc cc hp fc oc y u s t it q : Nat) (xan xen e xac xmd ygs ypo yst yrt ycu : Int32) (xvk xvf xvs xcv xco xff xfp xfe xfb xop yus ygk yga ygb yck yca ycb ycc yfp yfe yfS yfn yfb yvs yds : Nat → Int32), t + d = 900 → (sr_I (tk_K xtk n) xtv (sk_f (tk_K xtk n) n) (xr_c n xro) xsc n VR g nm vc cc hp fc oc y u s t it 0 F xvk xvf xvs xcv xco xff xfp xfe xfb xop yck yca ycb ycc yfp yfe yfS yfn yfb yvs) → q < n → xr_c n xro q = 1 → hb_E g nm cc xen e (xsc q) → sm_E (xdl, nI n, 1, nI vc, nI cc, nI fc, nI oc, 0, xan, nI q, xen, nI F, xac, -1, nI s, xmd, -1, -1, xtk, xtv, xaf, xro, xsc, xho, xvk, xvf, xvs, xcv, xco, xff, xfp, xfe, xfb, xop) (xdl, nI n, 1, ygs, ypo, nI hp, nI y, nI oc, nI F, nI s, xmd, xac, yst, yrt, ycu, 0, xtk, xtv, yus, ygk, yga, ygb, yck, yca, ycb, ycc, yfp, yfe, yfS, yfn, yfb, yvs, yds, 50000, 50000, 50000, 50000) t it (nI q) e
section
variable {xdl xtn xpp xvc xcc xfc xoc xag xan xex xen xfl xac xst xsp xmd xrt xcu : Int32} {xtk xtv xaf xro xsc xho xvk xvf xvs xcv xco xff xfp xfe xfb xop : Nat → Int32} {yli yn ypr ygs ypo yhp yfs yvp yfu ysp ymd yac yst yrt ycu yhv : Int32} {ytk ytv yus ygk yga ygb yck yca ycb ycc yfp yfe yfS yfn yfb yvs yds : Nat → Int32} {ynk yna ynb ync : Nat} {n : Nat} {par : Nat → Nat} {VR : Nat → Nat → Prop} {g nm : Nat → Nat} {vc cc hp fc oc y u s t it F d : Nat}
theorem sf_err (PG : pg_F xtk xtv xaf xro xsc xho n par) (h0 : yck 0 = 2) (L : lt_L (tk_K xtk n) xtv (sk_f (tk_K xtk n) n) (xr_c n xro) xvk xvf xvs n) : i_Rel 0 (xdl, nI n, 1, xvc, xcc, xfc, xoc, xag, xan, xex, xen, xfl, xac, xst, xsp, xmd, -1, -1, xtk, xtv, xaf, xro, xsc, xho, xvk, xvf, xvs, xcv, xco, xff, xfp, xfe, xfb, xop) (xdl, nI n, 1, ygs, ypo, yhp, yfs, yvp, yfu, xsp, xmd, yac, xst, yrt, ycu, 0, xtk, xtv, yus, ygk, yga, ygb, yck, yca, ycb, ycc, yfp, yfe, yfS, yfn, yfb, yvs, yds, 50000, 50000, 50000, 50000) :=
  ⟨_, _, _, _, _, _, _, _, _, _, _, _, _, _, _, _, _,  _, _, _, _, _, _, _, _, _, _, _, _, _, _, _, _,  _, _, _, _, _, _, _, _, _, _,  _, _, _, _, _, _, _, _, _, _, _, _, _, _, _,  n, rfl, rfl, PG.1, h0, Or.inr ⟨rfl, PG.2.2.2.2.2 _ _ _ L⟩, Or.inl ⟨rfl, rfl, rfl⟩⟩
theorem se_fuel (PG : pg_F xtk xtv xaf xro xsc xho n par) (I : (sr_I (tk_K xtk n) xtv (sk_f (tk_K xtk n) n) (xr_c n xro) xsc n VR g nm vc cc hp fc oc y u s t it 0 F xvk xvf xvs xcv xco xff xfp xfe xfb xop yck yca ycb ycc yfp yfe yfS yfn yfb yvs)) (ht : t < 990) (hit : it < 1900) (hs : s = F) {q : Nat} {e : Int32} : sm_E (xdl, nI n, 1, nI vc, nI cc, nI fc, nI oc, 0, xan, nI q, xen, nI F, xac, -1, nI s, xmd, -1, -1, xtk, xtv, xaf, xro, xsc, xho, xvk, xvf, xvs, xcv, xco, xff, xfp, xfe, xfb, xop) (xdl, nI n, 1, ygs, ypo, nI hp, nI y, nI oc, nI F, nI s, xmd, xac, yst, yrt, ycu, 0, xtk, xtv, yus, ygk, yga, ygb, yck, yca, ycb, ycc, yfp, yfe, yfS, yfn, yfb, yvs, yds, 50000, 50000, 50000, 50000) t it (nI q) e := by
  obtain ⟨B, O, R, N, L⟩ := I
  subst hs
  exact sm_Efuel ht hit rfl (fun Q h => yq_fuel rfl h) (sf_err PG B.2.2.2.2 L)
theorem se_num (PG : pg_F xtk xtv xaf xro xsc xho n par) (I : (sr_I (tk_K xtk n) xtv (sk_f (tk_K xtk n) n) (xr_c n xro) xsc n VR g nm vc cc hp fc oc y u s t it 0 F xvk xvf xvs xcv xco xff xfp xfe xfb xop yck yca ycb ycc yfp yfe yfS yfn yfb yvs)) (hs : s < F) {q : Nat} {e : Int32} (hq : q < n) (k3 : tk_K xtk n q = 3) (ht : t + (d + 1) = 900) (IH : sm_RT xdl xtk xtv xaf xro xsc xho n F d) : sm_E (xdl, nI n, 1, nI vc, nI cc, nI fc, nI oc, 0, xan, nI q, xen, nI F, xac, -1, nI s, xmd, -1, -1, xtk, xtv, xaf, xro, xsc, xho, xvk, xvf, xvs, xcv, xco, xff, xfp, xfe, xfb, xop) (xdl, nI n, 1, ygs, ypo, nI hp, nI y, nI oc, nI F, nI s, xmd, xac, yst, yrt, ycu, 0, xtk, xtv, yus, ygk, yga, ygb, yck, yca, ycb, ycc, yfp, yfe, yfS, yfn, yfb, yvs, yds, 50000, 50000, 50000, 50000) t it (nI q) e := by
  obtain ⟨B, O, R, N, L⟩ := I
  have H := PG.1
  have H1 := H.1
  unfold sr_N at N
  have hyy : ∀ i, i < hp → upd yck hp 1 i = yck i ∧ upd yca hp (xtv q) i = yca i ∧ upd ycb hp 0 i = ycb i ∧ upd ycc hp 0 i = ycc i := fun i hi => ⟨pk_un (by omega), pk_un (by omega), pk_un (by omega), pk_un (by omega)⟩
  refine sm_ER (by omega) (fun Q h => xr_lit H hq (Or.inl k3) hs (by omega) h) (fun Q h => yq_num H hq k3 hs (by omega) (by omega) (by omega) h) (IH (fun a b => VR a b ∨ (a = q ∧ b = hp)) g nm vc cc (hp + 1) fc oc y u (s + 1) (t + 1) it q hp _ _ _ _ _ _ _ _ _  _ _ _ _ _ _ _ _ _ _ _ _ _ _ _ _ _ _ _ _ _ _ _ _ _  (by omega) ⟨?_, ?_, R, ?_, L⟩ pk_us (Or.inr ⟨rfl, rfl⟩))
  · refine hb_add (Nat.le_refl _) (by omega) (fun a b z => Or.inl z) (fun _ _ => ⟨rfl, rfl, rfl⟩) hyy (fun _ _ => ⟨rfl, rfl⟩) (fun a b z => ?_) B
    rcases z with z | ⟨z1, z2⟩
    · exact Or.inl z
    · refine Or.inr ?_
      rw [z1, z2]
      have l3 := (L q hq).1 k3
      exact ⟨by omega, by omega, Or.inl ⟨l3.1, pk_us, by rw [pk_us]; exact l3.2⟩⟩
  · exact op_m (fun a b z => Or.inl z) (fun k hk => ⟨rfl, pk_un (by omega)⟩) O
  · unfold sr_N; omega
theorem se_nil (PG : pg_F xtk xtv xaf xro xsc xho n par) (I : (sr_I (tk_K xtk n) xtv (sk_f (tk_K xtk n) n) (xr_c n xro) xsc n VR g nm vc cc hp fc oc y u s t it 0 F xvk xvf xvs xcv xco xff xfp xfe xfb xop yck yca ycb ycc yfp yfe yfS yfn yfb yvs)) (hs : s < F) {q : Nat} {e : Int32} (hq : q < n) (k5 : tk_K xtk n q = 5) (ht : t + (d + 1) = 900) (IH : sm_RT xdl xtk xtv xaf xro xsc xho n F d) : sm_E (xdl, nI n, 1, nI vc, nI cc, nI fc, nI oc, 0, xan, nI q, xen, nI F, xac, -1, nI s, xmd, -1, -1, xtk, xtv, xaf, xro, xsc, xho, xvk, xvf, xvs, xcv, xco, xff, xfp, xfe, xfb, xop) (xdl, nI n, 1, ygs, ypo, nI hp, nI y, nI oc, nI F, nI s, xmd, xac, yst, yrt, ycu, 0, xtk, xtv, yus, ygk, yga, ygb, yck, yca, ycb, ycc, yfp, yfe, yfS, yfn, yfb, yvs, yds, 50000, 50000, 50000, 50000) t it (nI q) e := by
  obtain ⟨B, O, R, N, L⟩ := I
  have H := PG.1
  have H1 := H.1
  unfold sr_N at N
  refine sm_ER (by omega) (fun Q h => xr_lit H hq (Or.inr k5) hs (by omega) h) (fun Q h => yq_nil H hq k5 hs (by omega) (by omega) h) (IH (fun a b => VR a b ∨ (a = q ∧ b = 0)) g nm vc cc hp fc oc y u (s + 1) (t + 1) it q 0 _ _ _ _ _ _ _ _ _  _ _ _ _ _ _ _ _ _ _ _ _ _ _ _ _ _ _ _ _ _ _ _ _ _  (by omega) ⟨?_, ?_, R, ?_, L⟩ pk_us (Or.inr ⟨rfl, rfl⟩))
  · refine hb_add (Nat.le_refl _) (Nat.le_refl _) (fun a b z => Or.inl z) (fun _ _ => ⟨rfl, rfl, rfl⟩) (fun _ _ => ⟨rfl, rfl, rfl, rfl⟩) (fun _ _ => ⟨rfl, rfl⟩) (fun a b z => ?_) B
    rcases z with z | ⟨z1, z2⟩
    · exact Or.inl z
    · refine Or.inr ?_
      rw [z1, z2]
      exact ⟨by omega, B.2.2.2.1, Or.inr (Or.inl ⟨(L q hq).2.1 k5, B.2.2.2.2⟩)⟩
  · exact op_m (fun a b z => Or.inl z) (fun k hk => ⟨rfl, pk_un (by omega)⟩) O
  · unfold sr_N; omega
/-- the two walks to a name's cell -/
theorem hb_walk {K : Nat → Nat} {V R sc : Nat → Int32} {n : Nat} {VR : Nat → Nat → Prop} {g nm : Nat → Nat} {vc cc hp lo : Nat} {vk vf vs cv co ck ca cb cC : Nat → Int32} {x : Int32} (hn : n ≤ 64) (hcc : cc ≤ 404) (hhp : hp ≤ 50000) (B : hb_B K V R sc n VR g nm vc cc hp lo vk vf vs cv co ck ca cb cC) :
    ∀ (l : List Nat) (h : Nat) (c e s' : Int32), sc_H n sc l s' → sc_F V x l h → hb_E g nm cc c e s' → ∃ i, i < cc ∧ xh_W co h c i ∧ yh_W ca cC x h e (g i)
  | [], _, _, _, _, _, hF, _ => False.elim hF
  | m :: l, h, c, e, s', hH, hF, hE => by
    obtain ⟨e1, hm, hH⟩ := hH
    rcases hE with ⟨_, _, z⟩ | ⟨i, hi, ec, ee, es⟩
    · rw [e1] at z
      exact absurd z (ni_nm1 (by omega))
    · have hC := B.2.1 i hi
      have h1 := hC.1
      have h2 := hC.2.1
      have emi : m = nm i := by
        rw [e1] at es
        exact (nI_eq (by omega) (by omega)).mp es
      have eca : ca (g i) = V m := by rw [emi]; exact hC.2.2.2.1
      rcases hF with ⟨ev, eh⟩ | ⟨ev, h', eh, hF⟩
      · subst eh
        exact ⟨i, hi, ec, ee, by omega, by rw [eca]; exact ev⟩
      · subst eh
        have hE2 := hC.2.2.2.2.1
        rw [← emi] at hE2
        obtain ⟨i', hi', w1, w2⟩ := hb_walk hn hcc hhp B l h' (co i) (cC (g i)) (sc m) hH hF hE2
        exact ⟨i', hi', ⟨i, ec, by omega, w1⟩, ⟨g i, ee, by omega, by rw [eca]; exact ev, w2⟩⟩
theorem sc_Fl {V : Nat → Int32} {x : Int32} : ∀ {l : List Nat} {h : Nat}, sc_F V x l h → h < l.length
  | [], _, h => False.elim h
  | m :: l, h, hF => by
    rcases hF with ⟨_, e⟩ | ⟨_, h', e, hF⟩
    · simp only [List.length_cons]; omega
    · have := sc_Fl hF
      simp only [List.length_cons]; omega
theorem se_sym (PG : pg_F xtk xtv xaf xro xsc xho n par) (I : (sr_I (tk_K xtk n) xtv (sk_f (tk_K xtk n) n) (xr_c n xro) xsc n VR g nm vc cc hp fc oc y u s t it 0 F xvk xvf xvs xcv xco xff xfp xfe xfb xop yck yca ycb ycc yfp yfe yfS yfn yfb yvs)) (hs : s < F) {q : Nat} {e : Int32} (hq : q < n) (rq : xr_c n xro q = 1) (k4 : tk_K xtk n q = 4) (hE : hb_E g nm cc xen e (xsc q)) (ht : t + (d + 1) = 900) (IH : sm_RT xdl xtk xtv xaf xro xsc xho n F d) : sm_E (xdl, nI n, 1, nI vc, nI cc, nI fc, nI oc, 0, xan, nI q, xen, nI F, xac, -1, nI s, xmd, -1, -1, xtk, xtv, xaf, xro, xsc, xho, xvk, xvf, xvs, xcv, xco, xff, xfp, xfe, xfb, xop) (xdl, nI n, 1, ygs, ypo, nI hp, nI y, nI oc, nI F, nI s, xmd, xac, yst, yrt, ycu, 0, xtk, xtv, yus, ygk, yga, ygb, yck, yca, ycb, ycc, yfp, yfe, yfS, yfn, yfb, yvs, yds, 50000, 50000, 50000, 50000) t it (nI q) e := by
  obtain ⟨B, O, R, N, L⟩ := I
  have H := PG.1
  have H1 := H.1
  unfold sr_N at N
  obtain ⟨l, h, p1, p2, p3, p4, p5⟩ := PG.2.2.2.2.1 q hq rq k4
  have hl := sc_Fl p4
  obtain ⟨i, hi, w1, w2⟩ := hb_walk H1 (by omega) (by omega) B l h xen e (xsc q) p1 p4 hE
  have hC := B.2.1 i hi
  obtain ⟨a, b, v1, v2, v3⟩ := hC.2.2.2.2.2 hi
  have hg := hC.1
  refine sm_ER (by omega) (fun Q h => xr_sym H hq k4 hs (by omega) (by omega) (by omega) p3 w1 h) (fun Q h => yq_sym H hq k4 hs (by omega) (by omega) (by omega) (by omega) w2 h) ?_
  rw [v1, v2]
  refine IH VR g nm vc cc hp fc oc y u (s + 1) (t + 1) it a b _ _ _ _ _ _ _ _ _  _ _ _ _ _ _ _ _ _ _ _ _ _ _ _ _ _ _ _ _ _ _ _ _ _  (by omega) ⟨B, ?_, R, ?_, L⟩ pk_us v3
  · exact op_m (fun a b z => z) (fun k hk => ⟨rfl, pk_un (by omega)⟩) O
  · unfold sr_N; omega
theorem se_lam (PG : pg_F xtk xtv xaf xro xsc xho n par) (I : (sr_I (tk_K xtk n) xtv (sk_f (tk_K xtk n) n) (xr_c n xro) xsc n VR g nm vc cc hp fc oc y u s t it 0 F xvk xvf xvs xcv xco xff xfp xfe xfb xop yck yca ycb ycc yfp yfe yfS yfn yfb yvs)) (hs : s < F) {q : Nat} {e : Int32} (hq : q < n) (rq : xr_c n xro q = 1) (k1 : tk_K xtk n q = 1) (k7 : tk_K xtk n (q + 1) = 7) (hE : hb_E g nm cc xen e (xsc q)) (ht : t + (d + 1) = 900) (IH : sm_RT xdl xtk xtv xaf xro xsc xho n F d) : sm_E (xdl, nI n, 1, nI vc, nI cc, nI fc, nI oc, 0, xan, nI q, xen, nI F, xac, -1, nI s, xmd, -1, -1, xtk, xtv, xaf, xro, xsc, xho, xvk, xvf, xvs, xcv, xco, xff, xfp, xfe, xfb, xop) (xdl, nI n, 1, ygs, ypo, nI hp, nI y, nI oc, nI F, nI s, xmd, xac, yst, yrt, ycu, 0, xtk, xtv, yus, ygk, yga, ygb, yck, yca, ycb, ycc, yfp, yfe, yfS, yfn, yfb, yvs, yds, 50000, 50000, 50000, 50000) t it (nI q) e := by
  obtain ⟨B, O, R, N, L⟩ := I
  have H := PG.1
  have H1 := H.1
  have hq1 : q + 1 < n := tk_lt (tk := xtk) (by omega)
  unfold sr_N at N
  have hyy : ∀ i, i < hp → upd yck hp 4 i = yck i ∧ upd yca hp (nI q) i = yca i ∧ upd ycb hp e i = ycb i ∧ upd ycc hp 0 i = ycc i := fun i hi => ⟨pk_un (by omega), pk_un (by omega), pk_un (by omega), pk_un (by omega)⟩
  have hxx : ∀ i, i < vc → upd xvk vc 4 i = xvk i ∧ upd xvf vc (nI q) i = xvf i ∧ upd xvs vc xen i = xvs i := fun i hi => ⟨pk_un (by omega), pk_un (by omega), pk_un (by omega)⟩
  refine sm_ER (by omega) (fun Q h => xr_form H hq k1 hs (by omega) (xr_lam H hq1 k7 (by omega) h)) (fun Q h => yq_lam H hq k1 k7 hs (by omega) (by omega) (by omega) h) (IH (fun a b => VR a b ∨ (a = vc ∧ b = hp)) g nm (vc + 1) cc (hp + 1) fc oc y u (s + 1) (t + 1) it vc hp _ _ _ _ _ _ _ _ _  _ _ _ _ _ _ _ _ _ _ _ _ _ _ _ _ _ _ _ _ _ _ _ _ _  (by omega) ⟨?_, ?_, R, ?_, ?_⟩ pk_us (Or.inr ⟨rfl, rfl⟩))
  · refine hb_add (by omega) (by omega) (fun a b z => Or.inl z) hxx hyy (fun _ _ => ⟨rfl, rfl⟩) (fun a b z => ?_) B
    rcases z with z | ⟨z1, z2⟩
    · exact Or.inl z
    · refine Or.inr ?_
      rw [z1, z2]
      refine ⟨by omega, by omega, Or.inr (Or.inr (Or.inr ⟨pk_us, pk_us, q, hq, rq, k1, k7, pk_us, pk_us, ?_⟩))⟩
      rw [pk_us, pk_us]; exact hE
  · exact op_m (fun a b z => Or.inl z) (fun k hk => ⟨rfl, pk_un (by omega)⟩) O
  · unfold sr_N; omega
  · exact lt_Lk L (fun j hj => ⟨hxx j (by omega), hxx (64 + j) (by omega)⟩)
theorem se_quote (PG : pg_F xtk xtv xaf xro xsc xho n par) (I : (sr_I (tk_K xtk n) xtv (sk_f (tk_K xtk n) n) (xr_c n xro) xsc n VR g nm vc cc hp fc oc y u s t it 0 F xvk xvf xvs xcv xco xff xfp xfe xfb xop yck yca ycb ycc yfp yfe yfS yfn yfb yvs)) (hs : s < F) {q : Nat} {e : Int32} (hq : q < n) (rq : xr_c n xro q = 1) (k1 : tk_K xtk n q = 1) (k6 : tk_K xtk n (q + 1) = 6) (ht : t + (d + 1) = 900) (IH : sm_RT xdl xtk xtv xaf xro xsc xho n F d) : sm_E (xdl, nI n, 1, nI vc, nI cc, nI fc, nI oc, 0, xan, nI q, xen, nI F, xac, -1, nI s, xmd, -1, -1, xtk, xtv, xaf, xro, xsc, xho, xvk, xvf, xvs, xcv, xco, xff, xfp, xfe, xfb, xop) (xdl, nI n, 1, ygs, ypo, nI hp, nI y, nI oc, nI F, nI s, xmd, xac, yst, yrt, ycu, 0, xtk, xtv, yus, ygk, yga, ygb, yck, yca, ycb, ycc, yfp, yfe, yfS, yfn, yfb, yvs, yds, 50000, 50000, 50000, 50000) t it (nI q) e := by
  obtain ⟨B, O, R, N, L⟩ := I
  have H := PG.1
  have H1 := H.1
  have W := PG.2.2.1
  have hn0 : ∀ i, n ≤ i → tk_K xtk n i = 0 := fun i => tk_0
  have hBp : ∀ i, i < n → tk_K xtk n i ≠ 2 → dp_I (tk_K xtk n) i (sk_f (tk_K xtk n) n i) := fun i hi hk => (PG.2.1 i hi hk).1
  have hq1 : q + 1 < n := tk_lt (tk := xtk) (by omega)
  unfold sr_N at N
  have hS := (W.2.1 q hq rq).1
  have lc : ls_C (tk_K xtk n) (sk_f (tk_K xtk n) n) (q + 2) 1 := by
    rcases gr_FSof hS k1 with ⟨k, l⟩ | ⟨k, l, k2, c', q'⟩ | ⟨k, l, k2, c', c1, c4, lc, bb⟩ | ⟨k, l⟩ | ⟨k, c', c4, l⟩
    · exact l
    · omega
    · omega
    · omega
    · omega
  have bd := ls_bd (K := (tk_K xtk n)) (n := n) (fun i => tk_0) lc
  have k2 := lc.1 0 (by omega)
  have kend := lc.2
  change tk_K xtk n (q + 2) ≠ 2 at k2
  change tk_K xtk n (sk_f (tk_K xtk n) n (q + 2)) = 2 at kend
  have h2 : q + 2 < n := (bd.1 0 (by omega)).1
  have h3 : sk_f (tk_K xtk n) n (q + 2) < n := (bd.1 1 (by omega)).1
  have r2 : xr_c n xro (q + 2) = 2 := ((W.2.1 q hq rq).2.2.1 (q + 2) ⟨k1, k6, ls_M_0 k2⟩).1
  have cov := dt_cov hn0 hBp W (sk_f (tk_K xtk n) n (q + 2) - (q + 2)) (q + 2) h2 r2 (Nat.le_refl _)
  have hR : ∀ m, m < n → xr_c n xro m = 2 → tk_K xtk n m = 3 ∨ tk_K xtk n m = 5 ∨ tk_K xtk n m = 1 := fun m hm hr => by
    rcases (W.2.2.1 m hm hr).1 with z | z | z
    · exact Or.inl z
    · exact Or.inr (Or.inl z)
    · exact Or.inr (Or.inr z.1)
  obtain ⟨hp', VR', ck', ca', cb', cC', ds', a, ⟨z1, z2, z3, z4, z5⟩, w⟩ := dt_datum (yli := xdl) (ypr := 1) (ygs := ygs) (ypo := ypo) (yfs := nI y) (yvp := nI oc) (yfu := nI F) (ysp := nI (s + 1)) (ymd := xmd) (yac := xac) (yst := yst) (yrt := yrt) (ycu := ycu) (yhv := 0) (yus := yus) (ygk := ygk) (yga := yga) (ygb := ygb) (yfp := yfp) (yfe := yfe) (yfS := yfS) (yfn := yfn) (yfb := yfb) (yvs := yvs) (yds := yds) H hBp (q0 := q + 2) cov L hR (by omega) h3 k2 kend (by omega) B (by omega)
  refine sm_ER (u1 := (xdl, nI n, 1, nI vc, nI cc, nI fc, nI oc, 1, nI (q + 2), nI q, xen, nI F, xac, -1, nI (s + 1), xmd, -1, -1, xtk, xtv, xaf, xro, xsc, xho, xvk, xvf, xvs, xcv, xco, xff, xfp, xfe, xfb, xop)) (v1 := (xdl, nI n, 1, ygs, ypo, nI hp', nI y, nI (oc + 1), nI F, nI (s + 1), xmd, xac, yst, yrt, ycu, 0, xtk, xtv, yus, ygk, yga, ygb, ck', ca', cb', cC', yfp, yfe, yfS, yfn, yfb, upd yvs oc (nI a), ds', 50000, 50000, 50000, 50000)) (by omega) (fun Q h => xr_form H hq k1 hs (by omega) (xr_quote H hq1 k6 h)) (fun Q h => yq_quote H hq k1 k6 hs (by omega) (w _ (yr_push (by omega) h))) (IH VR' g nm vc cc hp' fc oc y u (s + 1) (t + 1) it (q + 2) a _ _ _ _ _ _ _ _ _  _ _ _ _ _ _ _ _ _ _ _ _ _ _ _ _ _ _ _ _ _ _ _ _ _  (by omega) ⟨z4, ?_, R, ?_, L⟩ pk_us z5)
  · exact op_m z3 (fun k hk => ⟨rfl, pk_un (by omega)⟩) O
  · unfold sr_N; omega
end
end
section
section
variable {xdl xtn xpp xvc xcc xfc xoc xag xan xex xen xfl xac xst xsp xmd xrt xcu : Int32} {xtk xtv xaf xro xsc xho xvk xvf xvs xcv xco xff xfp xfe xfb xop : Nat → Int32} {yli yn ypr ygs ypo yhp yfs yvp yfu ysp ymd yac yst yrt ycu yhv : Int32} {ytk ytv yus ygk yga ygb yck yca ycb ycc yfp yfe yfS yfn yfb yvs yds : Nat → Int32} {ynk yna ynb ync : Nat} {n : Nat} {par : Nat → Nat} {VR : Nat → Nat → Prop} {g nm : Nat → Nat} {vc cc hp fc oc y u s t it F d : Nat}
theorem sI_open (I : (sr_I (tk_K xtk n) xtv (sk_f (tk_K xtk n) n) (xr_c n xro) xsc n VR g nm vc cc hp fc oc y u s t it 0 F xvk xvf xvs xcv xco xff xfp xfe xfb xop yck yca ycb ycc yfp yfe yfS yfn yfb yvs)) {q p : Nat} {e : Int32} {S' N' : Nat → Int32} (hs : s < F)
    (hW : fr_W (tk_K xtk n) (sk_f (tk_K xtk n) n) (xr_c n xro) xsc n g nm cc (upd xff fc (nI q)) (upd xfp fc (nI p)) (upd xfe fc xen) (upd xfb fc (nI oc)) (upd yfp y (nI q)) (upd yfe y e) S' N' (upd yfb y (nI oc)) fc y oc 0 q)
    (hS' : ∀ i, i < y → S' i = yfS i ∧ N' i = yfn i) : (sr_I (tk_K xtk n) xtv (sk_f (tk_K xtk n) n) (xr_c n xro) xsc n VR g nm vc cc hp (fc + 1) oc (y + 1) (u + 1) (s + 1) (t + 1) (it + 1) 0 F xvk xvf xvs xcv xco (upd xff fc (nI q)) (upd xfp fc (nI p)) (upd xfe fc xen) (upd xfb fc (nI oc)) xop yck yca ycb ycc (upd yfp y (nI q)) (upd yfe y e) S' N' (upd yfb y (nI oc)) yvs) := by
  obtain ⟨B, O, R, N, L⟩ := I
  refine ⟨B, O, Or.inr (Or.inr ⟨fc, oc, 0, u, q, rfl, rfl, rfl, hW, fr_k (Nat.le_refl _) (fun _ _ => ⟨rfl, rfl⟩) (fun i hi => ⟨pk_un (by omega), pk_un (by omega), pk_un (by omega), pk_un (by omega)⟩) (fun i hi => ⟨pk_un (by omega), pk_un (by omega), (hS' i hi).1, (hS' i hi).2, pk_un (by omega)⟩) R⟩), ?_, L⟩
  unfold sr_N at N ⊢
  omega
theorem se_if (PG : pg_F xtk xtv xaf xro xsc xho n par) (I : (sr_I (tk_K xtk n) xtv (sk_f (tk_K xtk n) n) (xr_c n xro) xsc n VR g nm vc cc hp fc oc y u s t it 0 F xvk xvf xvs xcv xco xff xfp xfe xfb xop yck yca ycb ycc yfp yfe yfS yfn yfb yvs)) (hs : s < F) {q : Nat} {e : Int32} (hq : q < n) (rq : xr_c n xro q = 1) (k1 : tk_K xtk n q = 1) (k10 : tk_K xtk n (q + 1) = 10) (hE : hb_E g nm cc xen e (xsc q)) (ht : t + (d + 1) = 900) (IH : sm_ET xdl xtk xtv xaf xro xsc xho n F d) : sm_E (xdl, nI n, 1, nI vc, nI cc, nI fc, nI oc, 0, xan, nI q, xen, nI F, xac, -1, nI s, xmd, -1, -1, xtk, xtv, xaf, xro, xsc, xho, xvk, xvf, xvs, xcv, xco, xff, xfp, xfe, xfb, xop) (xdl, nI n, 1, ygs, ypo, nI hp, nI y, nI oc, nI F, nI s, xmd, xac, yst, yrt, ycu, 0, xtk, xtv, yus, ygk, yga, ygb, yck, yca, ycb, ycc, yfp, yfe, yfS, yfn, yfb, yvs, yds, 50000, 50000, 50000, 50000) t it (nI q) e := by
  have H := PG.1
  have H1 := H.1
  have N := I.2.2.2.1
  unfold sr_N at N
  have hn0 : ∀ i, n ≤ i → tk_K xtk n i = 0 := fun i => tk_0
  have hBp : ∀ i, i < n → tk_K xtk n i ≠ 2 → dp_I (tk_K xtk n) i (sk_f (tk_K xtk n) n i) := fun i hi hk => (PG.2.1 i hi hk).1
  have hq1 : q + 1 < n := tk_lt (tk := xtk) (by omega)
  obtain ⟨lc, st, _⟩ := st_op hn0 hBp PG.2.2.1 PG.2.2.2.1 hq rq k1 (by omega)
  have st0 := st 0 (by rw [k10]; decide)
  have st5 : xsc (q + 2) = xsc q := st0.2.2.2.2
  refine sm_EE (y := y) (v2 := (xdl, nI n, 1, ygs, ypo, nI hp, nI (y + 1), nI oc, nI F, nI (s + 1), xmd, xac, yst, yrt, ycu, 0, xtk, xtv, yus, ygk, yga, ygb, yck, yca, ycb, ycc, upd yfp y (nI q), upd yfe y e, upd (upd yfS y 0) y 1, upd yfn y (nI (q + 2)), upd yfb y (nI oc), yvs, yds, 50000, 50000, 50000, 50000)) (q' := nI (q + 2)) (e' := e) (by omega) (by omega) (by omega) (fun Q h => xr_form H hq k1 hs (by omega) (xr_open H PG.2.1 (p := q + 2) hq1 (Or.inr (Or.inl ⟨by omega, rfl⟩)) (by omega) (by omega) h)) (fun Q h => yq_open H (q + 2) hq k1 (by omega) (by omega) hs (by omega) (by omega) (Or.inr (Or.inl ⟨by omega, rfl⟩)) h) (fun Q h => yF_dIf H (by omega) pk_us hq k10 (yI_0 (by omega) pk_us pk_us (by rw [pk_us]; exact h))) ?_
  refine IH VR g nm vc cc hp (fc + 1) oc (y + 1) (u + 1) (s + 1) (t + 1) (it + 1) (q + 2) _ _ _ _ _ _ _ _ _ _  _ _ _ _ _ _ _ _ _ _ _ _ _ _ _ _ _ _ _ _ _ _ _ _ _  (by omega) (sI_open I hs ?_ (fun i hi => ⟨(pk_un (by omega)).trans (pk_un (by omega)), pk_un (by omega)⟩)) st0.1 st0.2.1 (by rw [st5]; exact hE)
  exact ⟨hq, rq, k1, pk_us, pk_us, pk_us, pk_us, by rw [pk_us, pk_us]; exact hE, Or.inl ⟨k10, rfl, pk_us, pk_us⟩⟩
theorem se_op (PG : pg_F xtk xtv xaf xro xsc xho n par) (I : (sr_I (tk_K xtk n) xtv (sk_f (tk_K xtk n) n) (xr_c n xro) xsc n VR g nm vc cc hp fc oc y u s t it 0 F xvk xvf xvs xcv xco xff xfp xfe xfb xop yck yca ycb ycc yfp yfe yfS yfn yfb yvs)) (hs : s < F) {q : Nat} {e : Int32} (hq : q < n) (rq : xr_c n xro q = 1) (k1 : tk_K xtk n q = 1) (k11 : 11 ≤ tk_K xtk n (q + 1)) (hE : hb_E g nm cc xen e (xsc q)) (ht : t + (d + 1) = 900) (IH : sm_ET xdl xtk xtv xaf xro xsc xho n F d) : sm_E (xdl, nI n, 1, nI vc, nI cc, nI fc, nI oc, 0, xan, nI q, xen, nI F, xac, -1, nI s, xmd, -1, -1, xtk, xtv, xaf, xro, xsc, xho, xvk, xvf, xvs, xcv, xco, xff, xfp, xfe, xfb, xop) (xdl, nI n, 1, ygs, ypo, nI hp, nI y, nI oc, nI F, nI s, xmd, xac, yst, yrt, ycu, 0, xtk, xtv, yus, ygk, yga, ygb, yck, yca, ycb, ycc, yfp, yfe, yfS, yfn, yfb, yvs, yds, 50000, 50000, 50000, 50000) t it (nI q) e := by
  have H := PG.1
  have H1 := H.1
  have N := I.2.2.2.1
  unfold sr_N at N
  have k20 := tk_20 H (q + 1)
  have hn0 : ∀ i, n ≤ i → tk_K xtk n i = 0 := fun i => tk_0
  have hBp : ∀ i, i < n → tk_K xtk n i ≠ 2 → dp_I (tk_K xtk n) i (sk_f (tk_K xtk n) n i) := fun i hi hk => (PG.2.1 i hi hk).1
  have hq1 : q + 1 < n := tk_lt (tk := xtk) (by omega)
  obtain ⟨lc, st, _⟩ := st_op hn0 hBp PG.2.2.1 PG.2.2.2.1 hq rq k1 (by omega)
  have g13 := gr_n13 (tk_K xtk n (q + 1))
  have st0 := st 0 (by omega)
  have st5 : xsc (q + 2) = xsc q := st0.2.2.2.2
  refine sm_EE (y := y) (v2 := (xdl, nI n, 1, ygs, ypo, nI hp, nI (y + 1), nI oc, nI F, nI (s + 1), xmd, xac, yst, yrt, ycu, 0, xtk, xtv, yus, ygk, yga, ygb, yck, yca, ycb, ycc, upd yfp y (nI q), upd yfe y e, upd (upd yfS y 0) y (nI (0 + 1)), upd (upd yfn y (nI (q + 2))) y (nI (sk_f (tk_K xtk n) n (q + 2))), upd yfb y (nI oc), yvs, yds, 50000, 50000, 50000, 50000)) (q' := nI (q + 2)) (e' := e) (by omega) (by omega) (by omega) (fun Q h => xr_form H hq k1 hs (by omega) (xr_open H PG.2.1 (p := q + 2) hq1 (Or.inr (Or.inl ⟨by omega, rfl⟩)) (by omega) (by omega) h)) (fun Q h => yq_open H (q + 2) hq k1 (by omega) (by omega) hs (by omega) (by omega) (Or.inr (Or.inl ⟨by omega, rfl⟩)) h) (fun Q h => yF_dOp H (by omega) pk_us hq rfl k11 (yO_sel ⟨k11, k20⟩ (yO_n (k := 0) (p := q + 2) H (by omega) (by omega) (by omega) pk_us pk_us st0.1 (by rw [pk_us]; exact h)))) ?_
  refine IH VR g nm vc cc hp (fc + 1) oc (y + 1) (u + 1) (s + 1) (t + 1) (it + 1) (q + 2) _ _ _ _ _ _ _ _ _ _  _ _ _ _ _ _ _ _ _ _ _ _ _ _ _ _ _ _ _ _ _ _ _ _ _  (by omega) (sI_open I hs ?_ (fun i hi => ⟨(pk_un (by omega)).trans (pk_un (by omega)), (pk_un (by omega)).trans (pk_un (by omega))⟩)) st0.1 st0.2.1 (by rw [st5]; exact hE)
  exact ⟨hq, rq, k1, pk_us, pk_us, pk_us, pk_us, by rw [pk_us, pk_us]; exact hE, Or.inr (Or.inl ⟨k11, by omega, pk_us, pk_us, pk_us⟩)⟩
theorem se_let (PG : pg_F xtk xtv xaf xro xsc xho n par) (I : (sr_I (tk_K xtk n) xtv (sk_f (tk_K xtk n) n) (xr_c n xro) xsc n VR g nm vc cc hp fc oc y u s t it 0 F xvk xvf xvs xcv xco xff xfp xfe xfb xop yck yca ycb ycc yfp yfe yfS yfn yfb yvs)) (hs : s < F) {q : Nat} {e : Int32} (hq : q < n) (rq : xr_c n xro q = 1) (k1 : tk_K xtk n q = 1) (k8 : tk_K xtk n (q + 1) = 8) (hE : hb_E g nm cc xen e (xsc q)) (ht : t + (d + 1) = 900) (IH : sm_ET xdl xtk xtv xaf xro xsc xho n F d) : sm_E (xdl, nI n, 1, nI vc, nI cc, nI fc, nI oc, 0, xan, nI q, xen, nI F, xac, -1, nI s, xmd, -1, -1, xtk, xtv, xaf, xro, xsc, xho, xvk, xvf, xvs, xcv, xco, xff, xfp, xfe, xfb, xop) (xdl, nI n, 1, ygs, ypo, nI hp, nI y, nI oc, nI F, nI s, xmd, xac, yst, yrt, ycu, 0, xtk, xtv, yus, ygk, yga, ygb, yck, yca, ycb, ycc, yfp, yfe, yfS, yfn, yfb, yvs, yds, 50000, 50000, 50000, 50000) t it (nI q) e := by
  have H := PG.1
  have H1 := H.1
  have N := I.2.2.2.1
  unfold sr_N at N
  have hn0 : ∀ i, n ≤ i → tk_K xtk n i = 0 := fun i => tk_0
  have hBp : ∀ i, i < n → tk_K xtk n i ≠ 2 → dp_I (tk_K xtk n) i (sk_f (tk_K xtk n) n i) := fun i hi hk => (PG.2.1 i hi hk).1
  have hq1 : q + 1 < n := tk_lt (tk := xtk) (by omega)
  obtain ⟨c, c1, c4, lc, st, _⟩ := st_let hn0 hBp PG.2.2.1 PG.2.2.2.1 hq rq k1 (Or.inl k8)
  obtain ⟨b1, b2, b3, b4, b5, b6, b7, b8, b9, b10⟩ := st 0 (by omega)
  change tk_K xtk n (q + 3) = 1 at b1
  change q + 3 + 2 < n at b2
  change xr_c n xro (q + 3 + 2) = 1 at b3
  refine sm_EE (y := y) (v2 := (xdl, nI n, 1, ygs, ypo, nI hp, nI (y + 1), nI oc, nI F, nI (s + 1), xmd, xac, yst, yrt, ycu, 0, xtk, xtv, yus, ygk, yga, ygb, yck, yca, ycb, ycc, upd yfp y (nI q), upd yfe y e, upd yfS y 0, upd (upd yfn y (nI (q + 3))) y (nI (sk_f (tk_K xtk n) n (q + 3))), upd yfb y (nI oc), yvs, yds, 50000, 50000, 50000, 50000)) (q' := nI (q + 3 + 2)) (e' := e) (by omega) (by omega) (by omega) (fun Q h => xr_form H hq k1 hs (by omega) (xr_open H PG.2.1 (p := q + 5) hq1 (Or.inl ⟨Or.inl k8, rfl⟩) (by omega) (by omega) h)) (fun Q h => yq_open H (q + 3) hq k1 (by omega) (by omega) hs (by omega) (by omega) (Or.inl ⟨Or.inl k8, rfl⟩) h) (fun Q h => yF_dLet H (by omega) pk_us hq k8 (yL_n (p := q + 3) H (by omega) pk_us pk_us (by omega) b1 (by rw [pk_us]; exact h))) ?_
  refine IH VR g nm vc cc hp (fc + 1) oc (y + 1) (u + 1) (s + 1) (t + 1) (it + 1) (q + 5) _ _ _ _ _ _ _ _ _ _  _ _ _ _ _ _ _ _ _ _ _ _ _ _ _ _ _ _ _ _ _ _ _ _ _  (by omega) (sI_open I hs ?_ (fun i hi => ⟨pk_un (by omega), (pk_un (by omega)).trans (pk_un (by omega))⟩)) b2 b3 ?_
  · exact ⟨hq, rq, k1, pk_us, pk_us, pk_us, pk_us, by rw [pk_us, pk_us]; exact hE, Or.inr (Or.inr (Or.inl ⟨k8, ⟨c, lc, by omega⟩, pk_us, pk_us, pk_us⟩))⟩
  · rw [if_neg (by omega)] at b8
    change xsc (q + 5) = xsc q at b8
    rw [b8]; exact hE
theorem se_app (PG : pg_F xtk xtv xaf xro xsc xho n par) (I : (sr_I (tk_K xtk n) xtv (sk_f (tk_K xtk n) n) (xr_c n xro) xsc n VR g nm vc cc hp fc oc y u s t it 0 F xvk xvf xvs xcv xco xff xfp xfe xfb xop yck yca ycb ycc yfp yfe yfS yfn yfb yvs)) (hs : s < F) {q : Nat} {e : Int32} (hq : q < n) (rq : xr_c n xro q = 1) (k1 : tk_K xtk n q = 1) (k6 : tk_K xtk n (q + 1) < 6) (hE : hb_E g nm cc xen e (xsc q)) (ht : t + (d + 1) = 900) (IH : sm_ET xdl xtk xtv xaf xro xsc xho n F d) : sm_E (xdl, nI n, 1, nI vc, nI cc, nI fc, nI oc, 0, xan, nI q, xen, nI F, xac, -1, nI s, xmd, -1, -1, xtk, xtv, xaf, xro, xsc, xho, xvk, xvf, xvs, xcv, xco, xff, xfp, xfe, xfb, xop) (xdl, nI n, 1, ygs, ypo, nI hp, nI y, nI oc, nI F, nI s, xmd, xac, yst, yrt, ycu, 0, xtk, xtv, yus, ygk, yga, ygb, yck, yca, ycb, ycc, yfp, yfe, yfS, yfn, yfb, yvs, yds, 50000, 50000, 50000, 50000) t it (nI q) e := by
  have H := PG.1
  have H1 := H.1
  have N := I.2.2.2.1
  unfold sr_N at N
  have hn0 : ∀ i, n ≤ i → tk_K xtk n i = 0 := fun i => tk_0
  have hBp : ∀ i, i < n → tk_K xtk n i ≠ 2 → dp_I (tk_K xtk n) i (sk_f (tk_K xtk n) n i) := fun i hi hk => (PG.2.1 i hi hk).1
  obtain ⟨c, c4, lc, st, hend⟩ := st_app hn0 hBp PG.2.2.1 PG.2.2.2.1 hq rq k1 k6
  obtain ⟨a1, a2, a3, a4, a5⟩ := st 0 (by omega)
  change q + 1 < n at a1
  change xr_c n xro (q + 1) = 1 at a2
  change tk_K xtk n (q + 1) ≠ 2 at a3
  change xsc (q + 1) = xsc q at a5
  by_cases c0 : c = 0
  · subst c0
    have ke : tk_K xtk n (sk_f (tk_K xtk n) n (q + 1)) = 2 := lc.2
    have hend : sk_f (tk_K xtk n) n (q + 1) < n := hend
    refine sm_EE (y := y) (v2 := (xdl, nI n, 1, ygs, ypo, nI hp, nI (y + 1), nI oc, nI F, nI (s + 1), xmd, xac, yst, yrt, ycu, 0, xtk, xtv, yus, ygk, yga, ygb, yck, yca, ycb, ycc, upd yfp y (nI q), upd yfe y e, upd (upd yfS y 0) y 1, upd yfn y (nI (sk_f (tk_K xtk n) n (q + 1))), upd yfb y (nI oc), yvs, yds, 50000, 50000, 50000, 50000)) (q' := nI (q + 1)) (e' := e) (by omega) (by omega) (by omega) (fun Q h => xr_form H hq k1 hs (by omega) (xr_open H PG.2.1 (p := q + 1) a1 (Or.inr (Or.inr ⟨k6, a3, hend, Or.inl ⟨ke, rfl⟩⟩)) (by omega) (by omega) h)) (fun Q h => yq_open H (sk_f (tk_K xtk n) n (q + 1)) hq k1 (by omega) (by omega) hs (by omega) (by omega) (Or.inr (Or.inr ⟨k6, rfl⟩)) h) (fun Q h => yF_dApp H (by omega) pk_us hq k6 (yA_h (p := sk_f (tk_K xtk n) n (q + 1)) (q := q) H (by omega) pk_us pk_us pk_us hend ke (by rw [pk_us]; exact h))) ?_
    refine IH VR g nm vc cc hp (fc + 1) oc (y + 1) (u + 1) (s + 1) (t + 1) (it + 1) (q + 1) _ _ _ _ _ _ _ _ _ _  _ _ _ _ _ _ _ _ _ _ _ _ _ _ _ _ _ _ _ _ _ _ _ _ _  (by omega) (sI_open I hs ?_ (fun i hi => ⟨(pk_un (by omega)).trans (pk_un (by omega)), pk_un (by omega)⟩)) a1 a2 (by rw [a5]; exact hE)
    exact ⟨hq, rq, k1, pk_us, pk_us, pk_us, pk_us, by rw [pk_us, pk_us]; exact hE, Or.inr (Or.inr (Or.inr ⟨k6, 0, lc, Or.inr ⟨rfl, pk_us, pk_us⟩⟩))⟩
  · obtain ⟨b1, b2, b3, b4, b5⟩ := st 1 (by omega)
    change sk_f (tk_K xtk n) n (q + 1) < n at b1
    change xr_c n xro (sk_f (tk_K xtk n) n (q + 1)) = 1 at b2
    change tk_K xtk n (sk_f (tk_K xtk n) n (q + 1)) ≠ 2 at b3
    change xsc (sk_f (tk_K xtk n) n (q + 1)) = xsc q at b5
    refine sm_EE (y := y) (v2 := (xdl, nI n, 1, ygs, ypo, nI hp, nI (y + 1), nI oc, nI F, nI (s + 1), xmd, xac, yst, yrt, ycu, 0, xtk, xtv, yus, ygk, yga, ygb, yck, yca, ycb, ycc, upd yfp y (nI q), upd yfe y e, upd yfS y 0, upd (upd yfn y (nI (sk_f (tk_K xtk n) n (q + 1)))) y (nI (sk_f (tk_K xtk n) n (sk_f (tk_K xtk n) n (q + 1)))), upd yfb y (nI oc), yvs, yds, 50000, 50000, 50000, 50000)) (q' := nI (sk_f (tk_K xtk n) n (q + 1))) (e' := e) (by omega) (by omega) (by omega) (fun Q h => xr_form H hq k1 hs (by omega) (xr_open H PG.2.1 (p := sk_f (tk_K xtk n) n (q + 1)) a1 (Or.inr (Or.inr ⟨k6, a3, b1, Or.inr ⟨b3, rfl⟩⟩)) (by omega) (by omega) h)) (fun Q h => yq_open H (sk_f (tk_K xtk n) n (q + 1)) hq k1 (by omega) (by omega) hs (by omega) (by omega) (Or.inr (Or.inr ⟨k6, rfl⟩)) h) (fun Q h => yF_dApp H (by omega) pk_us hq k6 (yA_a (p := sk_f (tk_K xtk n) n (q + 1)) H (by omega) pk_us pk_us b1 b3 (by rw [pk_us]; exact h))) ?_
    refine IH VR g nm vc cc hp (fc + 1) oc (y + 1) (u + 1) (s + 1) (t + 1) (it + 1) (sk_f (tk_K xtk n) n (q + 1)) _ _ _ _ _ _ _ _ _ _  _ _ _ _ _ _ _ _ _ _ _ _ _ _ _ _ _ _ _ _ _ _ _ _ _  (by omega) (sI_open I hs ?_ (fun i hi => ⟨pk_un (by omega), (pk_un (by omega)).trans (pk_un (by omega))⟩)) b1 b2 (by rw [b5]; exact hE)
    exact ⟨hq, rq, k1, pk_us, pk_us, pk_us, pk_us, by rw [pk_us, pk_us]; exact hE, Or.inr (Or.inr (Or.inr ⟨k6, c, lc, Or.inl ⟨by omega, pk_us, pk_us, pk_us⟩⟩))⟩
end
end
section
section
variable {xdl xtn xpp xvc xcc xfc xoc xag xan xex xen xfl xac xst xsp xmd xrt xcu : Int32} {xtk xtv xaf xro xsc xho xvk xvf xvs xcv xco xff xfp xfe xfb xop : Nat → Int32} {yli yn ypr ygs ypo yhp yfs yvp yfu ysp ymd yac yst yrt ycu yhv : Int32} {ytk ytv yus ygk yga ygb yck yca ycb ycc yfp yfe yfS yfn yfb yvs yds : Nat → Int32} {ynk yna ynb ync : Nat} {n : Nat} {par : Nat → Nat} {VR : Nat → Nat → Prop} {g nm : Nat → Nat} {vc cc hp fc oc y u s t it F d x b k q u' va vb : Nat}
theorem hb_kind {K : Nat → Nat} {V R sc : Nat → Int32} {n : Nat} {VR : Nat → Nat → Prop} {g nm : Nat → Nat} {vc cc hp lo a b : Nat} {vk vf vs cv co ck ca cb cC : Nat → Int32} (B : hb_B K V R sc n VR g nm vc cc hp lo vk vf vs cv co ck ca cb cC) (v : VR a b) : a < vc ∧ b < hp ∧ vk a = ck b ∧ (vk a = 1 → vf a = ca b) := by
  obtain ⟨h1, h2, h3⟩ := B.1 a b v
  refine ⟨h1, h2, ?_, ?_⟩
  · rcases h3 with w | w | w | w
    · exact w.1.trans w.2.1.symm
    · exact w.1.trans w.2.symm
    · exact w.1.trans w.2.1.symm
    · exact w.1.trans w.2.1.symm
  · intro k1
    rcases h3 with w | w | w | w
    · exact w.2.2
    · rw [k1] at w; exact absurd w.1 (by decide)
    · rw [k1] at w; exact absurd w.1 (by decide)
    · rw [k1] at w; exact absurd w.1 (by decide)
theorem sr_fin (PG : pg_F xtk xtv xaf xro xsc xho n par) (I : (sr_I (tk_K xtk n) xtv (sk_f (tk_K xtk n) n) (xr_c n xro) xsc n VR g nm vc cc hp fc oc 0 u s t it 1 F xvk xvf xvs xcv xco xff xfp xfe xfb xop yck yca ycb ycc yfp yfe yfS yfn yfb yvs)) (hv : yvs oc = nI vb) (v : VR va vb) (ht : t < 990) (hit : it < 1900) : sm_R (xdl, nI n, 1, nI vc, nI cc, nI fc, nI oc, 1, nI va, xex, xen, nI F, xac, -1, nI s, xmd, -1, -1, xtk, xtv, xaf, xro, xsc, xho, xvk, xvf, xvs, xcv, xco, xff, xfp, xfe, xfb, xop) (xdl, nI n, 1, ygs, ypo, nI hp, 0, nI (oc + 1), nI F, nI s, xmd, xac, yst, yrt, ycu, 0, xtk, xtv, yus, ygk, yga, ygb, yck, yca, ycb, ycc, yfp, yfe, yfS, yfn, yfb, yvs, yds, 50000, 50000, 50000, 50000) t it := by
  obtain ⟨B, O, R, N, L⟩ := I
  obtain ⟨r1, r2, r3⟩ := R
  subst r1 r2 r3
  unfold sr_N at N
  refine sm_Rfin ht hit ?_
  rw [hv]
  exact ⟨_, _, _, _, _, _, _, _, _, _, _, _, _, _, _, _, _,  _, _, _, _, _, _, _, _, _, _, _, _, _, _, _, _,  _, _, _, _, _, _, _, _, _, _,  _, _, _, _, _, _, _, _, _, _, _, _, _, _, _,  n, rfl, rfl, PG.1, B.2.2.2.2, Or.inr ⟨rfl, PG.2.2.2.2.2 _ _ _ L⟩, Or.inr ⟨rfl, rfl, VR, g, nm, vc, cc, hp, B, by omega, by omega, va, vb, va, vb, rfl, rfl, v, rfl, rfl, v⟩⟩
/-- what is known where a form's part has been answered -/
def sr_J (K : Nat → Nat) (V : Nat → Int32) (a : Nat → Nat) (R sc : Nat → Int32) (n : Nat) (VR : Nat → Nat → Prop) (g nm : Nat → Nat) (vc cc hp x b k q y u' s t it F : Nat) (xvk xvf xvs xcv xco xff xfp xfe xfb xop yck yca ycb ycc yfp yfe yfS yfn yfb yvs : Nat → Int32) (va vb : Nat) : Prop :=
  hb_B K V R sc n VR g nm vc cc hp cc xvk xvf xvs xcv xco yck yca ycb ycc ∧ op_R VR xop yvs (b + k) ∧ fr_W K a R sc n g nm cc xff xfp xfe xfb yfp yfe yfS yfn yfb x y b k q ∧ fr_R K a R sc n g nm cc xff xfp xfe xfb yfp yfe yfS yfn yfb y x b u' ∧ sr_N vc cc hp (x + 1) (b + k) (y + 1) (u' + 1) s t it 1 F ∧ lt_L K V a R xvk xvf xvs n ∧ yvs (b + k) = nI vb ∧ VR va vb
theorem sr_if (PG : pg_F xtk xtv xaf xro xsc xho n par) (J : sr_J (tk_K xtk n) xtv (sk_f (tk_K xtk n) n) (xr_c n xro) xsc n VR g nm vc cc hp x b k q y u' s t it F xvk xvf xvs xcv xco xff xfp xfe xfb xop yck yca ycb ycc yfp yfe yfS yfn yfb yvs va vb) (k10 : tk_K xtk n (q + 1) = 10) (ht : t + (d + 1) = 900) (IHE : sm_ET xdl xtk xtv xaf xro xsc xho n F d) : sm_R (xdl, nI n, 1, nI vc, nI cc, nI (x + 1), nI (b + k), 1, nI va, xex, xen, nI F, xac, -1, nI s, xmd, -1, -1, xtk, xtv, xaf, xro, xsc, xho, xvk, xvf, xvs, xcv, xco, xff, xfp, xfe, xfb, xop) (xdl, nI n, 1, ygs, ypo, nI hp, nI (y + 1), nI (b + k + 1), nI F, nI s, xmd, xac, yst, yrt, ycu, 0, xtk, xtv, yus, ygk, yga, ygb, yck, yca, ycb, ycc, yfp, yfe, yfS, yfn, yfb, yvs, yds, 50000, 50000, 50000, 50000) t it := by
  obtain ⟨B, O, Wf, R, N, L, hv, v⟩ := J
  obtain ⟨hq, rq, k1, w1, w2, w3, w4, w5, w6⟩ := Wf
  have H := PG.1
  have H1 := H.1
  have N' := N
  unfold sr_N at N
  have hn0 : ∀ i, n ≤ i → tk_K xtk n i = 0 := fun i => tk_0
  have hBp : ∀ i, i < n → tk_K xtk n i ≠ 2 → dp_I (tk_K xtk n) i (sk_f (tk_K xtk n) n i) := fun i hi hk => (PG.2.1 i hi hk).1
  have hq1 : q + 1 < n := tk_lt (tk := xtk) (by omega)
  have w6' : k = 0 ∧ xfp x = nI (q + 2) ∧ yfS y = 1 := by
    rcases w6 with w | w | w | w
    · exact w.2
    · omega
    · omega
    · omega
  obtain ⟨k0, w7, w8⟩ := w6'
  subst k0
  obtain ⟨lc, st, _⟩ := st_op hn0 hBp PG.2.2.1 PG.2.2.2.1 hq rq k1 (by omega)
  rw [k10] at lc st
  have s0 := st 0 (by decide)
  have s1 := st 1 (by decide)
  have s2 := st 2 (by decide)
  change q + 2 < n ∧ xr_c n xro (q + 2) = 1 ∧ tk_K xtk n (q + 2) ≠ 2 ∧ _ ∧ xsc (q + 2) = xsc q at s0
  change sk_f (tk_K xtk n) n (q + 2) < n ∧ xr_c n xro (sk_f (tk_K xtk n) n (q + 2)) = 1 ∧ tk_K xtk n (sk_f (tk_K xtk n) n (q + 2)) ≠ 2 ∧ _ ∧ xsc (sk_f (tk_K xtk n) n (q + 2)) = xsc q at s1
  change sk_f (tk_K xtk n) n (sk_f (tk_K xtk n) n (q + 2)) < n ∧ xr_c n xro (sk_f (tk_K xtk n) n (sk_f (tk_K xtk n) n (q + 2))) = 1 ∧ _ ∧ _ ∧ xsc (sk_f (tk_K xtk n) n (sk_f (tk_K xtk n) n (q + 2))) = xsc q at s2
  have kd := hb_kind B v
  have hA : xp_A (tk_K xtk n) (sk_f (tk_K xtk n) n) n q (q + 2) (-1) := ⟨s0.1, s0.2.2.1, Or.inl ⟨k10, rfl⟩⟩
  have opb : upd xop (b + 0) (nI va) b = nI va := pk_us
  have hvb : yvs b = nI vb := hv
  by_cases v1 : xvk va = 1
  · have c1 : yck vb = 1 := by rw [← kd.2.2.1]; exact v1
    have ev : xvf va = yca vb := kd.2.2.2 v1
    have key : ∀ T, (xvf va = 0 → T = sk_f (tk_K xtk n) n (sk_f (tk_K xtk n) n (q + 2))) → (xvf va ≠ 0 → T = sk_f (tk_K xtk n) n (q + 2)) → T < n → xr_c n xro T = 1 → xsc T = xsc q → sm_R (xdl, nI n, 1, nI vc, nI cc, nI (x + 1), nI (b + 0), 1, nI va, xex, xen, nI F, xac, -1, nI s, xmd, -1, -1, xtk, xtv, xaf, xro, xsc, xho, xvk, xvf, xvs, xcv, xco, xff, xfp, xfe, xfb, xop) (xdl, nI n, 1, ygs, ypo, nI hp, nI (y + 1), nI (b + 0 + 1), nI F, nI s, xmd, xac, yst, yrt, ycu, 0, xtk, xtv, yus, ygk, yga, ygb, yck, yca, ycb, ycc, yfp, yfe, yfS, yfn, yfb, yvs, yds, 50000, 50000, 50000, 50000) t it := by
      intro T t1 t2 hT rT sT
      refine sm_RE (y := y) (u1 := (xdl, nI n, 1, nI vc, nI cc, nI x, nI b, 0, nI va, nI T, xfe x, nI F, xac, -1, nI s, xmd, -1, -1, xtk, xtv, xaf, xro, xsc, xho, xvk, xvf, xvs, xcv, xco, xff, upd xfp x (-1), xfe, xfb, upd xop (b + 0) (nI va))) (v2 := (xdl, nI n, 1, ygs, ypo, nI hp, nI (y + 1), nI b, nI F, nI s, xmd, xac, yst, yrt, ycu, 0, xtk, xtv, yus, ygk, yga, ygb, yck, yca, ycb, ycc, yfp, yfe, upd yfS y 2, yfn, yfb, yvs, yds, 50000, 50000, 50000, 50000)) (q' := nI T) (e' := yfe y) (by omega) (by omega) (by omega) (fun Q h => xr_last H PG.2.1 (p := q + 2) (by omega) (by omega) hq1 w1 w7 hA (xF_if (xop := upd xop (b + 0) (nI va)) (xfp := upd xfp x (-1)) H PG.2.1 (by omega) (by omega) (by omega) w1 w3 k10 s0.1 s0.2.2.1 s1.1 s1.2.2.1 opb (fun z => absurd v1 z) (fun _ T' a1 a2 => ?_))) (fun Q h => yF_dIf H (by omega) w2 hq k10 (yI_1 H (by omega) w2 w8 w4 (by omega) hq (by omega) hvb (by omega) (fun z => absurd c1 z) (fun _ T' a1 a2 => ?_))) ?_
      · have : T' = T := by
          by_cases z : xvf va = 0
          · rw [a1 z, t1 z]
          · rw [a2 z, t2 z]
        rw [this]; exact h
      · have : T' = T := by
          by_cases z : xvf va = 0
          · rw [a1 (by rw [← ev]; exact z), t1 z]
          · rw [a2 (by rw [← ev]; exact z), t2 z]
        rw [this]; exact h
      · refine IHE VR g nm vc cc hp x b (y + 1) u' s (t + 1) (it + 1) T _ _ _ _ _ _ _ _ _ _  _ _ _ _ _ _ _ _ _ _ _ _ _ _ _ _ _ _ _ _ _ _ _ _ _  (by omega) ⟨B, op_m (fun _ _ z => z) (fun i hi => ⟨pk_un (by omega), rfl⟩) (op_l (by omega) O), Or.inl ⟨⟨w4, q, hq, w2, Or.inl ⟨k10, pk_us⟩⟩, fr_k (Nat.le_refl _) (fun _ _ => ⟨rfl, rfl⟩) (fun i hi => ⟨rfl, pk_un (by omega), rfl, rfl⟩) (fun i hi => ⟨rfl, rfl, pk_un (by omega), rfl, rfl⟩) R⟩, by unfold sr_N; omega, L⟩ hT rT (by rw [sT]; exact w5)
    by_cases z : xvf va = 0
    · exact key _ (fun _ => rfl) (fun w => absurd z w) s2.1 s2.2.1 s2.2.2.2.2
    · exact key _ (fun w => absurd w z) (fun _ => rfl) s1.1 s1.2.1 s1.2.2.2.2
  · have c1 : yck vb ≠ 1 := by rw [← kd.2.2.1]; exact v1
    refine sm_Rerr (y := y) (r := 6) (u1 := (xdl, nI n, 1, nI vc, nI cc, nI x, nI b, 1, nI va, xex, xfe x, nI F, xac, 6, nI s, xmd, -1, -1, xtk, xtv, xaf, xro, xsc, xho, xvk, xvf, xvs, xcv, xco, xff, upd xfp x (-1), xfe, xfb, upd xop (b + 0) (nI va))) (v2 := (xdl, nI n, 1, ygs, ypo, nI hp, nI (y + 1), nI (b + 0 + 1), nI F, nI s, xmd, xac, yst, yrt, ycu, 0, xtk, xtv, yus, ygk, yga, ygb, yck, yca, ycb, ycc, yfp, yfe, yfS, yfn, yfb, yvs, yds, 50000, 50000, 50000, 50000)) (by omega) (by omega) (by omega) (by decide) (by decide) rfl (fun Q h => xr_last H PG.2.1 (p := q + 2) (by omega) (by omega) hq1 w1 w7 hA (xF_if (xop := upd xop (b + 0) (nI va)) (xfp := upd xfp x (-1)) H PG.2.1 (by omega) (by omega) (by omega) w1 w3 k10 s0.1 s0.2.2.1 s1.1 s1.2.2.1 opb (fun _ => h) (fun z => absurd z v1))) (fun Q h => yF_dIf H (by omega) w2 hq k10 (yI_1 H (by omega) w2 w8 w4 (by omega) hq (by omega) hvb (by omega) (fun _ => h) (fun z => absurd z c1))) (sf_err PG B.2.2.2.2 L)
end
end
section
section
variable {xdl xtn xpp xvc xcc xfc xoc xag xan xex xen xfl xac xst xsp xmd xrt xcu : Int32} {xtk xtv xaf xro xsc xho xvk xvf xvs xcv xco xff xfp xfe xfb xop : Nat → Int32} {yli yn ypr ygs ypo yhp yfs yvp yfu ysp ymd yac yst yrt ycu yhv : Int32} {ytk ytv yus ygk yga ygb yck yca ycb ycc yfp yfe yfS yfn yfb yvs yds : Nat → Int32} {ynk yna ynb ync : Nat} {n : Nat} {par : Nat → Nat} {VR : Nat → Nat → Prop} {g nm : Nat → Nat} {vc cc hp y s t it F d x b k q u1 va vb : Nat}
/-- the operator's frame -/
theorem so_f (PG : pg_F xtk xtv xaf xro xsc xho n par) (J : (sr_J (tk_K xtk n) xtv (sk_f (tk_K xtk n) n) (xr_c n xro) xsc n VR g nm vc cc hp x b k q y u1 s t it F xvk xvf xvs xcv xco xff xfp xfe xfb xop yck yca ycb ycc yfp yfe yfS yfn yfb yvs va vb)) (k11 : 11 ≤ tk_K xtk n (q + 1)) : q + 1 < n ∧ k < gr_n (tk_K xtk n (q + 1)) ∧ xfp x = nI (it_f (sk_f (tk_K xtk n) n) k (q + 2)) ∧ yfS y = nI (k + 1) ∧ yfn y = nI (it_f (sk_f (tk_K xtk n) n) (k + 1) (q + 2)) ∧
    (k + 1 < gr_n (tk_K xtk n (q + 1)) → xp_A (tk_K xtk n) (sk_f (tk_K xtk n) n) n q (it_f (sk_f (tk_K xtk n) n) k (q + 2)) (nI (it_f (sk_f (tk_K xtk n) n) (k + 1) (q + 2))) ∧ it_f (sk_f (tk_K xtk n) n) (k + 1) (q + 2) < n ∧ xr_c n xro (it_f (sk_f (tk_K xtk n) n) (k + 1) (q + 2)) = 1 ∧ xsc (it_f (sk_f (tk_K xtk n) n) (k + 1) (q + 2)) = xsc q) ∧ (k + 1 = gr_n (tk_K xtk n (q + 1)) → xp_A (tk_K xtk n) (sk_f (tk_K xtk n) n) n q (it_f (sk_f (tk_K xtk n) n) k (q + 2)) (-1)) := by
  obtain ⟨B, O, Wf, R, N, L, hv, v⟩ := J
  obtain ⟨hq, rq, k1, w1, w2, w3, w4, w5, w6⟩ := Wf
  have H := PG.1
  have H1 := H.1
  have hn0 : ∀ i, n ≤ i → tk_K xtk n i = 0 := fun i => tk_0
  have hBp : ∀ i, i < n → tk_K xtk n i ≠ 2 → dp_I (tk_K xtk n) i (sk_f (tk_K xtk n) n i) := fun i hi hk => (PG.2.1 i hi hk).1
  have hq1 : q + 1 < n := tk_lt (tk := xtk) (by omega)
  obtain ⟨lc, st, hend⟩ := st_op hn0 hBp PG.2.2.1 PG.2.2.2.1 hq rq k1 (by omega)
  have w6' : k < gr_n (tk_K xtk n (q + 1)) ∧ xfp x = nI (it_f (sk_f (tk_K xtk n) n) k (q + 2)) ∧ yfS y = nI (k + 1) ∧ yfn y = nI (it_f (sk_f (tk_K xtk n) n) (k + 1) (q + 2)) := by
    rcases w6 with w | w | w | w
    · omega
    · exact w.2
    · omega
    · omega
  obtain ⟨w7, w8, w9, w10⟩ := w6'
  have s0 := st k w7
  refine ⟨hq1, w7, w8, w9, w10, fun z => ?_, fun z => ?_⟩
  · have s1 := st (k + 1) z
    refine ⟨⟨s0.1, s0.2.2.1, Or.inr (Or.inr (Or.inr ⟨Or.inr (by omega), by omega, ?_, Or.inl ⟨?_, ?_⟩⟩))⟩, s1.1, s1.2.1, s1.2.2.2.2⟩
    · rw [← it_s (sk_f (tk_K xtk n) n) k (q + 2)]; exact s1.1
    · rw [← it_s (sk_f (tk_K xtk n) n) k (q + 2)]; exact s1.2.2.1
    · rw [← it_s (sk_f (tk_K xtk n) n) k (q + 2)]
  · refine ⟨s0.1, s0.2.2.1, Or.inr (Or.inr (Or.inr ⟨Or.inr (by omega), by omega, ?_, Or.inr (Or.inr ⟨?_, by omega, rfl⟩)⟩))⟩
    · rw [← it_s (sk_f (tk_K xtk n) n) k (q + 2), z]; exact hend
    · rw [← it_s (sk_f (tk_K xtk n) n) k (q + 2), z]; exact lc.2
theorem so_more (PG : pg_F xtk xtv xaf xro xsc xho n par) (J : (sr_J (tk_K xtk n) xtv (sk_f (tk_K xtk n) n) (xr_c n xro) xsc n VR g nm vc cc hp x b k q y u1 s t it F xvk xvf xvs xcv xco xff xfp xfe xfb xop yck yca ycb ycc yfp yfe yfS yfn yfb yvs va vb)) (k11 : 11 ≤ tk_K xtk n (q + 1)) (hk : k + 1 < gr_n (tk_K xtk n (q + 1))) (ht : t + (d + 1) = 900) (IHE : sm_ET xdl xtk xtv xaf xro xsc xho n F d) : sm_R (xdl, nI n, 1, nI vc, nI cc, nI (x + 1), nI (b + k), 1, nI va, xex, xen, nI F, xac, -1, nI s, xmd, -1, -1, xtk, xtv, xaf, xro, xsc, xho, xvk, xvf, xvs, xcv, xco, xff, xfp, xfe, xfb, xop) (xdl, nI n, 1, ygs, ypo, nI hp, nI (y + 1), nI (b + k + 1), nI F, nI s, xmd, xac, yst, yrt, ycu, 0, xtk, xtv, yus, ygk, yga, ygb, yck, yca, ycb, ycc, yfp, yfe, yfS, yfn, yfb, yvs, yds, 50000, 50000, 50000, 50000) t it := by
  have H := PG.1
  have H1 := H.1
  have k20 := tk_20 H (q + 1)
  have g13 := gr_n13 (tk_K xtk n (q + 1))
  obtain ⟨hq1, f1, f2, f3, f4, f5, _⟩ := so_f PG J k11
  obtain ⟨hA, p1, p2, p3⟩ := f5 hk
  obtain ⟨B, O, Wf, R, N, L, hv, v⟩ := J
  obtain ⟨hq, rq, k1, w1, w2, w3, w4, w5, _⟩ := Wf
  unfold sr_N at N
  refine sm_RE (y := y) (v2 := (xdl, nI n, 1, ygs, ypo, nI hp, nI (y + 1), nI (b + k + 1), nI F, nI s, xmd, xac, yst, yrt, ycu, 0, xtk, xtv, yus, ygk, yga, ygb, yck, yca, ycb, ycc, yfp, yfe, upd yfS y (nI (k + 1 + 1)), upd yfn y (nI (sk_f (tk_K xtk n) n (it_f (sk_f (tk_K xtk n) n) (k + 1) (q + 2)))), yfb, yvs, yds, 50000, 50000, 50000, 50000)) (q' := nI (it_f (sk_f (tk_K xtk n) n) (k + 1) (q + 2))) (e' := yfe y) (by omega) (by omega) (by omega) (fun Q h => xr_more H PG.2.1 (p := it_f (sk_f (tk_K xtk n) n) k (q + 2)) (by omega) (by omega) hq1 w1 f2 (by omega) hA h) (fun Q h => yF_dOp H (by omega) w2 hq rfl k11 (yO_sel ⟨k11, k20⟩ (yO_n (k := k + 1) H (by omega) hk (by omega) f3 f4 p1 h))) ?_
  refine IHE VR g nm vc cc hp (x + 1) (b + k + 1) (y + 1) (u1 + 1) s (t + 1) (it + 1) (it_f (sk_f (tk_K xtk n) n) (k + 1) (q + 2)) _ _ _ _ _ _ _ _ _ _  _ _ _ _ _ _ _ _ _ _ _ _ _ _ _ _ _ _ _ _ _ _ _ _ _  (by omega) ⟨B, op_s (fun _ _ z => z) (fun _ _ => rfl) hv v O, Or.inr (Or.inr ⟨x, b, k + 1, u1, q, rfl, rfl, by omega, ⟨hq, rq, k1, w1, w2, w3, w4, w5, Or.inr (Or.inl ⟨k11, hk, pk_us, pk_us, ?_⟩)⟩, fr_k (Nat.le_refl _) (fun _ _ => ⟨rfl, rfl⟩) (fun i hi => ⟨rfl, pk_un (by omega), rfl, rfl⟩) (fun i hi => ⟨rfl, rfl, pk_un (by omega), pk_un (by omega), rfl⟩) R⟩), by unfold sr_N; omega, L⟩ p1 p2 (by rw [p3]; exact w5)
  rw [pk_us, ← it_s (sk_f (tk_K xtk n) n) (k + 1) (q + 2)]
/-- an operator has made a value -/
theorem so_new {kd f s2 ka kb : Int32} (PG : pg_F xtk xtv xaf xro xsc xho n par) (J : (sr_J (tk_K xtk n) xtv (sk_f (tk_K xtk n) n) (xr_c n xro) xsc n VR g nm vc cc hp x b k q y u1 s t it F xvk xvf xvs xcv xco xff xfp xfe xfb xop yck yca ycb ycc yfp yfe yfS yfn yfb yvs va vb)) {xf' : Nat → Int32} (hxf : ∀ i, i < x → xf' i = xfp i) {op' : Nat → Int32} (hop : ∀ i, i < b → op' i = xop i)
    (hV : hb_V (tk_K xtk n) (xr_c n xro) xsc n (fun a c => VR a c ∨ (a = vc ∧ c = hp)) g nm cc (upd xvk vc kd) (upd xvf vc f) (upd xvs vc s2) (upd yck hp kd) (upd yca hp ka) (upd ycb hp kb) vc hp) (ht : t + (d + 1) = 900) (IHR : sm_RT xdl xtk xtv xaf xro xsc xho n F d) :
    sm_R (xdl, nI n, 1, nI (vc + 1), nI cc, nI x, nI b, 1, nI vc, xex, xfe x, nI F, xac, -1, nI s, xmd, -1, -1, xtk, xtv, xaf, xro, xsc, xho, upd xvk vc kd, upd xvf vc f, upd xvs vc s2, xcv, xco, xff, xf', xfe, xfb, op') (xdl, nI n, 1, ygs, ypo, nI (hp + 1), nI y, nI (b + 1), nI F, nI s, xmd, xac, yst, yrt, ycu, 0, xtk, xtv, yus, ygk, yga, ygb, upd yck hp kd, upd yca hp ka, upd ycb hp kb, upd ycc hp 0, yfp, yfe, yfS, yfn, yfb, upd yvs b (nI hp), yds, 50000, 50000, 50000, 50000) (t + 1) (it + 1) := by
  obtain ⟨B, O, Wf, R, N, L, hv, v⟩ := J
  unfold sr_N at N
  have hyy : ∀ i, i < hp → upd yck hp kd i = yck i ∧ upd yca hp ka i = yca i ∧ upd ycb hp kb i = ycb i ∧ upd ycc hp 0 i = ycc i := fun i hi => ⟨pk_un (by omega), pk_un (by omega), pk_un (by omega), pk_un (by omega)⟩
  have hxx : ∀ i, i < vc → upd xvk vc kd i = xvk i ∧ upd xvf vc f i = xvf i ∧ upd xvs vc s2 i = xvs i := fun i hi => ⟨pk_un (by omega), pk_un (by omega), pk_un (by omega)⟩
  have H1 := PG.1.1
  refine IHR (fun a c => VR a c ∨ (a = vc ∧ c = hp)) g nm (vc + 1) cc (hp + 1) x b y u1 s (t + 1) (it + 1) vc hp _ _ _ _ _ _ _ _ _  _ _ _ _ _ _ _ _ _ _ _ _ _ _ _ _ _ _ _ _ _ _ _ _ _  (by omega) ⟨?_, ?_, ?_, by unfold sr_N; omega, ?_⟩ pk_us (Or.inr ⟨rfl, rfl⟩)
  · refine hb_add (by omega) (by omega) (fun a b z => Or.inl z) hxx hyy (fun _ _ => ⟨rfl, rfl⟩) (fun a b z => ?_) B
    rcases z with z | ⟨z1, z2⟩
    · exact Or.inl z
    · refine Or.inr ?_
      rw [z1, z2]
      exact ⟨by omega, by omega, hV⟩
  · exact op_m (fun a b z => Or.inl z) (fun i hi => ⟨hop i hi, pk_un (by omega)⟩) (op_l (by omega) O)
  · exact fr_k (Nat.le_refl _) (fun _ _ => ⟨rfl, rfl⟩) (fun i hi => ⟨rfl, hxf i hi, rfl, rfl⟩) (fun i hi => ⟨rfl, rfl, rfl, rfl, rfl⟩) R
  · exact lt_Lk L (fun j hj => ⟨hxx j (by omega), hxx (64 + j) (by omega)⟩)
theorem so_cons (PG : pg_F xtk xtv xaf xro xsc xho n par) (J : (sr_J (tk_K xtk n) xtv (sk_f (tk_K xtk n) n) (xr_c n xro) xsc n VR g nm vc cc hp x b k q y u1 s t it F xvk xvf xvs xcv xco xff xfp xfe xfb xop yck yca ycb ycc yfp yfe yfS yfn yfb yvs va vb)) (k11 : tk_K xtk n (q + 1) = 11) (hk : k + 1 = gr_n (tk_K xtk n (q + 1))) (ht : t + (d + 1) = 900) (IHR : sm_RT xdl xtk xtv xaf xro xsc xho n F d) : sm_R (xdl, nI n, 1, nI vc, nI cc, nI (x + 1), nI (b + k), 1, nI va, xex, xen, nI F, xac, -1, nI s, xmd, -1, -1, xtk, xtv, xaf, xro, xsc, xho, xvk, xvf, xvs, xcv, xco, xff, xfp, xfe, xfb, xop) (xdl, nI n, 1, ygs, ypo, nI hp, nI (y + 1), nI (b + k + 1), nI F, nI s, xmd, xac, yst, yrt, ycu, 0, xtk, xtv, yus, ygk, yga, ygb, yck, yca, ycb, ycc, yfp, yfe, yfS, yfn, yfb, yvs, yds, 50000, 50000, 50000, 50000) t it := by
  have H := PG.1
  have H1 := H.1
  obtain ⟨hq1, f1, f2, f3, f4, _, f6⟩ := so_f PG J (by omega)
  have hA := f6 hk
  rw [k11] at hk
  have k1e : k = 1 := by have : gr_n 11 = 2 := rfl; omega
  subst k1e
  have J' := J
  obtain ⟨B, O, Wf, R, N, L, hv, v⟩ := J
  obtain ⟨hq, rq, k1, w1, w2, w3, w4, w5, _⟩ := Wf
  unfold sr_N at N
  obtain ⟨a0, b0, o1, o2, o3⟩ := O b (by omega)
  have e1 : upd xop (b + 1) (nI va) b = nI a0 := (pk_un (by omega)).trans o1
  have e2 : upd xop (b + 1) (nI va) (b + 1) = nI va := pk_us
  refine sm_RR (y := y) (by omega) (by omega) (by omega) (fun Q h => xr_last H PG.2.1 (p := it_f (sk_f (tk_K xtk n) n) 1 (q + 2)) (by omega) (by omega) hq1 w1 f2 hA (xF_cons (xop := upd xop (b + 1) (nI va)) (xfp := upd xfp x (-1)) H (by omega) (by omega) (by omega) w1 w3 k11 hq1 (by rw [e1, e2]; exact h))) (fun Q h => yF_dOp H (by omega) w2 hq k11 (by omega) (yO_sel (by omega) (yO_cons (by omega) (by omega) (by omega) f3 w4 (by rw [o2, hv]; exact h)))) (so_new PG J' (fun i hi => pk_un (by omega)) (fun i hi => pk_un (by omega)) ?_ ht IHR)
  refine Or.inr (Or.inr (Or.inl ⟨pk_us, pk_us, a0, va, b0, vb, pk_us, pk_us, pk_us, pk_us, Or.inl o3, Or.inl v⟩))
theorem so_null (PG : pg_F xtk xtv xaf xro xsc xho n par) (J : (sr_J (tk_K xtk n) xtv (sk_f (tk_K xtk n) n) (xr_c n xro) xsc n VR g nm vc cc hp x b k q y u1 s t it F xvk xvf xvs xcv xco xff xfp xfe xfb xop yck yca ycb ycc yfp yfe yfS yfn yfb yvs va vb)) (k14 : tk_K xtk n (q + 1) = 14) (hk : k + 1 = gr_n (tk_K xtk n (q + 1))) (ht : t + (d + 1) = 900) (IHR : sm_RT xdl xtk xtv xaf xro xsc xho n F d) : sm_R (xdl, nI n, 1, nI vc, nI cc, nI (x + 1), nI (b + k), 1, nI va, xex, xen, nI F, xac, -1, nI s, xmd, -1, -1, xtk, xtv, xaf, xro, xsc, xho, xvk, xvf, xvs, xcv, xco, xff, xfp, xfe, xfb, xop) (xdl, nI n, 1, ygs, ypo, nI hp, nI (y + 1), nI (b + k + 1), nI F, nI s, xmd, xac, yst, yrt, ycu, 0, xtk, xtv, yus, ygk, yga, ygb, yck, yca, ycb, ycc, yfp, yfe, yfS, yfn, yfb, yvs, yds, 50000, 50000, 50000, 50000) t it := by
  have H := PG.1
  have H1 := H.1
  obtain ⟨hq1, f1, f2, f3, f4, _, f6⟩ := so_f PG J (by omega)
  have hA := f6 hk
  rw [k14] at hk
  have k0e : k = 0 := by have : gr_n 14 = 1 := rfl; omega
  subst k0e
  have J' := J
  obtain ⟨B, O, Wf, R, N, L, hv, v⟩ := J
  obtain ⟨hq, rq, k1, w1, w2, w3, w4, w5, _⟩ := Wf
  unfold sr_N at N
  have kd := hb_kind B v
  have e2 : upd xop (b + 0) (nI va) b = nI va := pk_us
  refine sm_RR (y := y) (by omega) (by omega) (by omega) (fun Q h => xr_last H PG.2.1 (p := it_f (sk_f (tk_K xtk n) n) 0 (q + 2)) (by omega) (by omega) hq1 w1 f2 hA (xF_null (xop := upd xop (b + 0) (nI va)) (xfp := upd xfp x (-1)) H (by omega) (by omega) (by omega) (by omega) w1 w3 k14 hq1 e2 h)) (fun Q h => yF_dOp H (by omega) w2 hq k14 (by omega) (yO_sel (by omega) (yO_null (by omega) (by omega) (by omega) (by omega) f3 w4 hv h))) (so_new PG J' (fun i hi => pk_un (by omega)) (fun i hi => pk_un (by omega)) ?_ ht IHR)
  refine Or.inl ⟨pk_us, pk_us, ?_⟩
  rw [pk_us, pk_us, kd.2.2.1]
theorem so_part (PG : pg_F xtk xtv xaf xro xsc xho n par) (J : (sr_J (tk_K xtk n) xtv (sk_f (tk_K xtk n) n) (xr_c n xro) xsc n VR g nm vc cc hp x b k q y u1 s t it F xvk xvf xvs xcv xco xff xfp xfe xfb xop yck yca ycb ycc yfp yfe yfS yfn yfb yvs va vb)) (k12 : tk_K xtk n (q + 1) = 12 ∨ tk_K xtk n (q + 1) = 13) (hk : k + 1 = gr_n (tk_K xtk n (q + 1))) (ht : t + (d + 1) = 900) (IHR : sm_RT xdl xtk xtv xaf xro xsc xho n F d) : sm_R (xdl, nI n, 1, nI vc, nI cc, nI (x + 1), nI (b + k), 1, nI va, xex, xen, nI F, xac, -1, nI s, xmd, -1, -1, xtk, xtv, xaf, xro, xsc, xho, xvk, xvf, xvs, xcv, xco, xff, xfp, xfe, xfb, xop) (xdl, nI n, 1, ygs, ypo, nI hp, nI (y + 1), nI (b + k + 1), nI F, nI s, xmd, xac, yst, yrt, ycu, 0, xtk, xtv, yus, ygk, yga, ygb, yck, yca, ycb, ycc, yfp, yfe, yfS, yfn, yfb, yvs, yds, 50000, 50000, 50000, 50000) t it := by
  have H := PG.1
  have H1 := H.1
  obtain ⟨hq1, f1, f2, f3, f4, _, f6⟩ := so_f PG J (by omega)
  have hA := f6 hk
  have g1 : gr_n (tk_K xtk n (q + 1)) = 1 := by unfold gr_n; rw [if_neg (by omega), if_pos (by omega)]
  have k0e : k = 0 := by omega
  subst k0e
  obtain ⟨B, O, Wf, R, N, L, hv, v⟩ := J
  obtain ⟨hq, rq, k1, w1, w2, w3, w4, w5, _⟩ := Wf
  unfold sr_N at N
  have kd := hb_kind B v
  have e2 : upd xop (b + 0) (nI va) b = nI va := pk_us
  by_cases v3 : xvk va = 3
  · have c3 : yck vb = 3 := by rw [← kd.2.2.1]; exact v3
    obtain ⟨_, _, hV⟩ := B.1 va vb v
    have pr : ∃ a1 b1 a2 b2, xvf va = nI a1 ∧ xvs va = nI b1 ∧ yca vb = nI a2 ∧ ycb vb = nI b2 ∧ VR a1 a2 ∧ VR b1 b2 := by
      rcases hV with w | w | w | w
      · rw [v3] at w; exact absurd w.1 (by decide)
      · rw [v3] at w; exact absurd w.1 (by decide)
      · exact w.2.2
      · rw [v3] at w; exact absurd w.1 (by decide)
    obtain ⟨a1, b1, a2, b2, p1, p2, p3, p4, p5, p6⟩ := pr
    have key : ∀ (A1 A2 : Nat), nI A1 = (if tk_K xtk n (q + 1) = 12 then xvf va else xvs va) → nI A2 = (if tk_K xtk n (q + 1) = 12 then yca vb else ycb vb) → VR A1 A2 → sm_R (xdl, nI n, 1, nI vc, nI cc, nI (x + 1), nI (b + 0), 1, nI va, xex, xen, nI F, xac, -1, nI s, xmd, -1, -1, xtk, xtv, xaf, xro, xsc, xho, xvk, xvf, xvs, xcv, xco, xff, xfp, xfe, xfb, xop) (xdl, nI n, 1, ygs, ypo, nI hp, nI (y + 1), nI (b + 0 + 1), nI F, nI s, xmd, xac, yst, yrt, ycu, 0, xtk, xtv, yus, ygk, yga, ygb, yck, yca, ycb, ycc, yfp, yfe, yfS, yfn, yfb, yvs, yds, 50000, 50000, 50000, 50000) t it := by
      intro A1 A2 h1 h2 h3
      refine sm_RR (y := y) (by omega) (by omega) (by omega) (fun Q h => xr_last H PG.2.1 (p := it_f (sk_f (tk_K xtk n) n) 0 (q + 2)) (by omega) (by omega) hq1 w1 f2 hA (xF_part (xop := upd xop (b + 0) (nI va)) (xfp := upd xfp x (-1)) H (by omega) (by omega) (by omega) w1 w3 rfl k12 hq1 e2 (fun z => absurd v3 z) (fun _ => by rw [← h1]; exact h))) (fun Q h => yF_dOp H (by omega) w2 hq rfl (by omega) (yO_sel (by omega) (by rw [g1]; exact yO_part (by omega) (by omega) (by omega) k12 f3 w4 hv (fun z => absurd c3 z) (fun _ => by rw [← h2]; exact h)))) ?_
      refine IHR VR g nm vc cc hp x b y u1 s (t + 1) (it + 1) A1 A2 _ _ _ _ _ _ _ _ _  _ _ _ _ _ _ _ _ _ _ _ _ _ _ _ _ _ _ _ _ _ _ _ _ _  (by omega) ⟨B, ?_, ?_, by unfold sr_N; omega, L⟩ pk_us h3
      · exact op_m (fun a b z => z) (fun i hi => ⟨pk_un (by omega), pk_un (by omega)⟩) (op_l (by omega) O)
      · exact fr_k (Nat.le_refl _) (fun _ _ => ⟨rfl, rfl⟩) (fun i hi => ⟨rfl, pk_un (by omega), rfl, rfl⟩) (fun i hi => ⟨rfl, rfl, rfl, rfl, rfl⟩) R
    by_cases z : tk_K xtk n (q + 1) = 12
    · exact key a1 a2 (by rw [if_pos z]; exact p1.symm) (by rw [if_pos z]; exact p3.symm) p5
    · exact key b1 b2 (by rw [if_neg z]; exact p2.symm) (by rw [if_neg z]; exact p4.symm) p6
  · have c3 : yck vb ≠ 3 := by rw [← kd.2.2.1]; exact v3
    exact sm_Rerr (y := y) (r := 6) (u1 := (xdl, nI n, 1, nI vc, nI cc, nI x, nI b, 1, nI va, xex, xfe x, nI F, xac, 6, nI s, xmd, -1, -1, xtk, xtv, xaf, xro, xsc, xho, xvk, xvf, xvs, xcv, xco, xff, upd xfp x (-1), xfe, xfb, upd xop (b + 0) (nI va))) (v2 := (xdl, nI n, 1, ygs, ypo, nI hp, nI (y + 1), nI (b + 0 + 1), nI F, nI s, xmd, xac, yst, yrt, ycu, 0, xtk, xtv, yus, ygk, yga, ygb, yck, yca, ycb, ycc, yfp, yfe, yfS, yfn, yfb, yvs, yds, 50000, 50000, 50000, 50000)) (by omega) (by omega) (by omega) (by decide) (by decide) rfl (fun Q h => xr_last H PG.2.1 (p := it_f (sk_f (tk_K xtk n) n) 0 (q + 2)) (by omega) (by omega) hq1 w1 f2 hA (xF_part (xop := upd xop (b + 0) (nI va)) (xfp := upd xfp x (-1)) H (by omega) (by omega) (by omega) w1 w3 rfl k12 hq1 e2 (fun _ => h) (fun z => absurd z v3))) (fun Q h => yF_dOp H (by omega) w2 hq rfl (by omega) (yO_sel (by omega) (by rw [g1]; exact yO_part (by omega) (by omega) (by omega) k12 f3 w4 hv (fun _ => h) (fun z => absurd z c3)))) (sf_err PG B.2.2.2.2 L)
theorem so_calc (PG : pg_F xtk xtv xaf xro xsc xho n par) (J : (sr_J (tk_K xtk n) xtv (sk_f (tk_K xtk n) n) (xr_c n xro) xsc n VR g nm vc cc hp x b k q y u1 s t it F xvk xvf xvs xcv xco xff xfp xfe xfb xop yck yca ycb ycc yfp yfe yfS yfn yfb yvs va vb)) (k15 : 15 ≤ tk_K xtk n (q + 1)) (hk : k + 1 = gr_n (tk_K xtk n (q + 1))) (ht : t + (d + 1) = 900) (IHR : sm_RT xdl xtk xtv xaf xro xsc xho n F d) : sm_R (xdl, nI n, 1, nI vc, nI cc, nI (x + 1), nI (b + k), 1, nI va, xex, xen, nI F, xac, -1, nI s, xmd, -1, -1, xtk, xtv, xaf, xro, xsc, xho, xvk, xvf, xvs, xcv, xco, xff, xfp, xfe, xfb, xop) (xdl, nI n, 1, ygs, ypo, nI hp, nI (y + 1), nI (b + k + 1), nI F, nI s, xmd, xac, yst, yrt, ycu, 0, xtk, xtv, yus, ygk, yga, ygb, yck, yca, ycb, ycc, yfp, yfe, yfS, yfn, yfb, yvs, yds, 50000, 50000, 50000, 50000) t it := by
  have H := PG.1
  have H1 := H.1
  have k20 := tk_20 H (q + 1)
  obtain ⟨hq1, f1, f2, f3, f4, _, f6⟩ := so_f PG J (by omega)
  have hA := f6 hk
  have g2 : gr_n (tk_K xtk n (q + 1)) = 2 := by unfold gr_n; rw [if_neg (by omega), if_neg (by omega)]
  have k1e : k = 1 := by omega
  subst k1e
  have J' := J
  obtain ⟨B, O, Wf, R, N, L, hv, v⟩ := J
  obtain ⟨hq, rq, k1, w1, w2, w3, w4, w5, _⟩ := Wf
  unfold sr_N at N
  obtain ⟨a0, b0, o1, o2, o3⟩ := O b (by omega)
  have kd := hb_kind B v
  have kd0 := hb_kind B o3
  have e1 : upd xop (b + 1) (nI va) b = nI a0 := (pk_un (by omega)).trans o1
  have e2 : upd xop (b + 1) (nI va) (b + 1) = nI va := pk_us
  by_cases v1 : xvk a0 = 1 ∧ xvk va = 1
  · have c1 : yck b0 = 1 ∧ yck vb = 1 := ⟨kd0.2.2.1 ▸ v1.1, kd.2.2.1 ▸ v1.2⟩
    have ea := kd0.2.2.2 v1.1
    have ec := kd.2.2.2 v1.2
    by_cases dz : tk_K xtk n (q + 1) = 18 ∧ xvf va = 0
    · have dz2 : yca vb = 0 := by rw [← ec]; exact dz.2
      exact sm_Rerr (y := y) (r := 7) (u1 := (xdl, nI n, 1, nI vc, nI cc, nI x, nI b, 1, nI va, xex, xfe x, nI F, xac, 7, nI s, xmd, -1, -1, xtk, xtv, xaf, xro, xsc, xho, xvk, xvf, xvs, xcv, xco, xff, upd xfp x (-1), xfe, xfb, upd xop (b + 1) (nI va))) (v2 := (xdl, nI n, 1, ygs, ypo, nI hp, nI (y + 1), nI (b + 1 + 1), nI F, nI s, xmd, xac, yst, yrt, ycu, 0, xtk, xtv, yus, ygk, yga, ygb, yck, yca, ycb, ycc, yfp, yfe, yfS, yfn, yfb, yvs, yds, 50000, 50000, 50000, 50000)) (by omega) (by omega) (by omega) (by decide) (by decide) rfl (fun Q h => xr_last H PG.2.1 (p := it_f (sk_f (tk_K xtk n) n) 1 (q + 2)) (by omega) (by omega) hq1 w1 f2 hA (xF_calc (xop := upd xop (b + 1) (nI va)) (xfp := upd xfp x (-1)) H (by omega) (by omega) (by omega) (by omega) (by omega) w1 w3 rfl ⟨k15, k20⟩ hq1 e1 e2 (fun z => absurd v1 z) (fun _ _ _ _ => h) (fun _ _ z => absurd dz z))) (fun Q h => yF_dOp H (by omega) w2 hq rfl (by omega) (yO_sel (by omega) (by rw [g2]; exact yO_calc (by omega) (by omega) (by omega) (by omega) (by omega) ⟨k15, k20⟩ f3 w4 o2 hv (fun z => absurd c1 z) (fun _ _ _ _ => h) (fun _ _ z => absurd ⟨dz.1, dz2⟩ z)))) (sf_err PG B.2.2.2.2 L)
    · have dz2 : ¬ (tk_K xtk n (q + 1) = 18 ∧ yca vb = 0) := by rw [← ec]; exact dz
      refine sm_RR (y := y) (by omega) (by omega) (by omega) (fun Q h => xr_last H PG.2.1 (p := it_f (sk_f (tk_K xtk n) n) 1 (q + 2)) (by omega) (by omega) hq1 w1 f2 hA (xF_calc (xop := upd xop (b + 1) (nI va)) (xfp := upd xfp x (-1)) H (by omega) (by omega) (by omega) (by omega) (by omega) w1 w3 rfl ⟨k15, k20⟩ hq1 e1 e2 (fun z => absurd v1 z) (fun _ _ z1 z2 => absurd ⟨z1, z2⟩ dz) (fun _ _ _ => h))) (fun Q h => yF_dOp H (by omega) w2 hq rfl (by omega) (yO_sel (by omega) (by rw [g2]; exact yO_calc (by omega) (by omega) (by omega) (by omega) (by omega) ⟨k15, k20⟩ f3 w4 o2 hv (fun z => absurd c1 z) (fun _ _ z1 z2 => absurd ⟨z1, z2⟩ dz2) (fun _ _ _ => h)))) (so_new PG J' (fun i hi => pk_un (by omega)) (fun i hi => pk_un (by omega)) ?_ ht IHR)
      refine Or.inl ⟨pk_us, pk_us, ?_⟩
      rw [pk_us, pk_us, ea, ec]
  · have c1 : ¬ (yck b0 = 1 ∧ yck vb = 1) := fun z => v1 ⟨kd0.2.2.1 ▸ z.1, kd.2.2.1 ▸ z.2⟩
    exact sm_Rerr (y := y) (r := 6) (u1 := (xdl, nI n, 1, nI vc, nI cc, nI x, nI b, 1, nI va, xex, xfe x, nI F, xac, 6, nI s, xmd, -1, -1, xtk, xtv, xaf, xro, xsc, xho, xvk, xvf, xvs, xcv, xco, xff, upd xfp x (-1), xfe, xfb, upd xop (b + 1) (nI va))) (v2 := (xdl, nI n, 1, ygs, ypo, nI hp, nI (y + 1), nI (b + 1 + 1), nI F, nI s, xmd, xac, yst, yrt, ycu, 0, xtk, xtv, yus, ygk, yga, ygb, yck, yca, ycb, ycc, yfp, yfe, yfS, yfn, yfb, yvs, yds, 50000, 50000, 50000, 50000)) (by omega) (by omega) (by omega) (by decide) (by decide) rfl (fun Q h => xr_last H PG.2.1 (p := it_f (sk_f (tk_K xtk n) n) 1 (q + 2)) (by omega) (by omega) hq1 w1 f2 hA (xF_calc (xop := upd xop (b + 1) (nI va)) (xfp := upd xfp x (-1)) H (by omega) (by omega) (by omega) (by omega) (by omega) w1 w3 rfl ⟨k15, k20⟩ hq1 e1 e2 (fun _ => h) (fun z1 z2 => absurd ⟨z1, z2⟩ v1) (fun z1 z2 => absurd ⟨z1, z2⟩ v1))) (fun Q h => yF_dOp H (by omega) w2 hq rfl (by omega) (yO_sel (by omega) (by rw [g2]; exact yO_calc (by omega) (by omega) (by omega) (by omega) (by omega) ⟨k15, k20⟩ f3 w4 o2 hv (fun _ => h) (fun z1 z2 => absurd ⟨z1, z2⟩ c1) (fun z1 z2 => absurd ⟨z1, z2⟩ c1)))) (sf_err PG B.2.2.2.2 L)
end
end
section
section
variable {xdl xtn xpp xvc xcc xfc xoc xag xan xex xen xfl xac xst xsp xmd xrt xcu : Int32} {xtk xtv xaf xro xsc xho xvk xvf xvs xcv xco xff xfp xfe xfb xop : Nat → Int32} {yli yn ypr ygs ypo yhp yfs yvp yfu ysp ymd yac yst yrt ycu yhv : Int32} {ytk ytv yus ygk yga ygb yck yca ycb ycc yfp yfe yfS yfn yfb yvs yds : Nat → Int32} {ynk yna ynb ync : Nat} {n : Nat} {par : Nat → Nat} {VR : Nat → Nat → Prop} {g nm : Nat → Nat} {vc cc hp y s t it F d x b k q u1 va vb : Nat}
/-- k cells filled from the operands, on both sides -/
theorem sl_cells {c0 e0 s0 : Int32} {tn : Nat → Nat} {m : Nat} {op' : Nat → Int32} (B : hb_B (tk_K xtk n) xtv (xr_c n xro) xsc n VR g nm vc cc hp cc xvk xvf xvs xcv xco yck yca ycb ycc) (hE : hb_E g nm cc c0 e0 s0) (ht : ∀ j, j < m → tn j < n ∧ xsc (tn j) = hb_s s0 tn j) (hO : ∀ j, j < m → ∃ a c, op' (b + j) = nI a ∧ yvs (b + j) = nI c ∧ VR a c) :
    ∃ g' nm', (∀ i, i < cc → g' i = g i ∧ nm' i = nm i) ∧ hb_E g' nm' (cc + m) (hb_e c0 cc m) (hb_e e0 hp m) (hb_s s0 tn m) ∧
      hb_B (tk_K xtk n) xtv (xr_c n xro) xsc n VR g' nm' vc (cc + m) (hp + m) (cc + m) xvk xvf xvs (xc_v xcv (fun i => op' (b + i)) cc m) (xc_v xco (hb_e c0 cc) cc m) (xc_v yck (fun _ => 5) hp m) (xc_v yca (fun i => xtv (tn i)) hp m) (xc_v ycb (fun i => yvs (b + i)) hp m) (xc_v ycc (hb_e e0 hp) hp m) := by
  have B' : hb_B (tk_K xtk n) xtv (xr_c n xro) xsc n VR g nm vc cc hp cc xvk xvf xvs (xc_v xcv (fun i => op' (b + i)) cc m) (xc_v xco (hb_e c0 cc) cc m) (xc_v yck (fun _ => 5) hp m) (xc_v yca (fun i => xtv (tn i)) hp m) (xc_v ycb (fun i => yvs (b + i)) hp m) (xc_v ycc (hb_e e0 hp) hp m) :=
    hb_add (Nat.le_refl _) (Nat.le_refl _) (fun _ _ z => z) (fun _ _ => ⟨rfl, rfl, rfl⟩) (fun i hi => ⟨xc_vn hi, xc_vn hi, xc_vn hi, xc_vn hi⟩) (fun i hi => ⟨xc_vn hi, xc_vn hi⟩) (fun a b z => Or.inl z) B
  obtain ⟨g', nm', h1, _, h3, _, h5⟩ := hb_cells (fil := True) (k := m) hE ht (fun j hj => xc_vs hj) (fun j hj => ⟨xc_vs hj, xc_vs hj, xc_vs hj⟩) (fun _ j hj => by
    obtain ⟨a, c, e1, e2, v⟩ := hO j hj
    exact ⟨a, c, (xc_vs hj).trans e1, (xc_vs hj).trans e2, v⟩) B'
  exact ⟨g', nm', h1, h3, h5 trivial⟩
theorem sl_f (PG : pg_F xtk xtv xaf xro xsc xho n par) (J : (sr_J (tk_K xtk n) xtv (sk_f (tk_K xtk n) n) (xr_c n xro) xsc n VR g nm vc cc hp x b k q y u1 s t it F xvk xvf xvs xcv xco xff xfp xfe xfb xop yck yca ycb ycc yfp yfe yfS yfn yfb yvs va vb)) (k8 : tk_K xtk n (q + 1) = 8) : q + 1 < n ∧ xfp x = nI (it_f (sk_f (tk_K xtk n) n) k (q + 3) + 2) ∧ yfS y = 0 ∧ yfn y = nI (it_f (sk_f (tk_K xtk n) n) (k + 1) (q + 3)) ∧ ∃ c, ls_C (tk_K xtk n) (sk_f (tk_K xtk n) n) (q + 3) c ∧ k < c := by
  obtain ⟨B, O, Wf, R, N, L, hv, v⟩ := J
  obtain ⟨hq, rq, k1, w1, w2, w3, w4, w5, w6⟩ := Wf
  have hq1 : q + 1 < n := tk_lt (tk := xtk) (by omega)
  rcases w6 with w | w | w | w
  · omega
  · omega
  · exact ⟨hq1, w.2.2.1, w.2.2.2.1, w.2.2.2.2, w.2.1⟩
  · omega
theorem sl_let (PG : pg_F xtk xtv xaf xro xsc xho n par) (J : (sr_J (tk_K xtk n) xtv (sk_f (tk_K xtk n) n) (xr_c n xro) xsc n VR g nm vc cc hp x b k q y u1 s t it F xvk xvf xvs xcv xco xff xfp xfe xfb xop yck yca ycb ycc yfp yfe yfS yfn yfb yvs va vb)) (k8 : tk_K xtk n (q + 1) = 8) (ht : t + (d + 1) = 900) (IHE : sm_ET xdl xtk xtv xaf xro xsc xho n F d) : sm_R (xdl, nI n, 1, nI vc, nI cc, nI (x + 1), nI (b + k), 1, nI va, xex, xen, nI F, xac, -1, nI s, xmd, -1, -1, xtk, xtv, xaf, xro, xsc, xho, xvk, xvf, xvs, xcv, xco, xff, xfp, xfe, xfb, xop) (xdl, nI n, 1, ygs, ypo, nI hp, nI (y + 1), nI (b + k + 1), nI F, nI s, xmd, xac, yst, yrt, ycu, 0, xtk, xtv, yus, ygk, yga, ygb, yck, yca, ycb, ycc, yfp, yfe, yfS, yfn, yfb, yvs, yds, 50000, 50000, 50000, 50000) t it := by
  have H := PG.1
  have H1 := H.1
  obtain ⟨hq1, f1, f2, f3, c0, lc0, hk0⟩ := sl_f PG J k8
  have J' := J
  obtain ⟨B, O, Wf, R, N, L, hv, v⟩ := J
  obtain ⟨hq, rq, k1, w1, w2, w3, w4, w5, _⟩ := Wf
  unfold sr_N at N
  have hn0 : ∀ i, n ≤ i → tk_K xtk n i = 0 := fun i => tk_0
  have hBp : ∀ i, i < n → tk_K xtk n i ≠ 2 → dp_I (tk_K xtk n) i (sk_f (tk_K xtk n) n i) := fun i hi hk => (PG.2.1 i hi hk).1
  obtain ⟨c, c1, c4, lc, st, _, h2, k2, e2, h3, r3, sc3⟩ := st_let hn0 hBp PG.2.2.1 PG.2.2.2.1 hq rq k1 (Or.inl k8)
  have ec := ls_C_u lc0 lc
  subst ec
  obtain ⟨b1, b2, b3, b4, b5, b6, b7, b8, b9, b10⟩ := st k hk0
  have hO : op_R VR (upd xop (b + k) (nI va)) yvs (b + k + 1) := op_s (fun _ _ z => z) (fun _ _ => rfl) hv v O
  by_cases hk : k + 1 < c0
  · obtain ⟨d1, d2, d3, d4, d5, d6, d7, d8, d9, d10⟩ := st (k + 1) hk
    have hA : xp_A (tk_K xtk n) (sk_f (tk_K xtk n) n) n q (it_f (sk_f (tk_K xtk n) n) k (q + 3) + 2) (nI (it_f (sk_f (tk_K xtk n) n) (k + 1) (q + 3) + 2)) := by
      refine ⟨b2, b4, Or.inr (Or.inr (Or.inl ⟨Or.inl k8, by omega, by omega, Or.inr ⟨?_, ?_⟩⟩))⟩
      · rw [← b6]; omega
      · rw [b6]
    refine sm_RE (y := y) (v2 := (xdl, nI n, 1, ygs, ypo, nI hp, nI (y + 1), nI (b + k + 1), nI F, nI s, xmd, xac, yst, yrt, ycu, 0, xtk, xtv, yus, ygk, yga, ygb, yck, yca, ycb, ycc, yfp, yfe, yfS, upd yfn y (nI (sk_f (tk_K xtk n) n (it_f (sk_f (tk_K xtk n) n) (k + 1) (q + 3)))), yfb, yvs, yds, 50000, 50000, 50000, 50000)) (q' := nI (it_f (sk_f (tk_K xtk n) n) (k + 1) (q + 3) + 2)) (e' := yfe y) (by omega) (by omega) (by omega) (fun Q h => xr_more H PG.2.1 (p := it_f (sk_f (tk_K xtk n) n) k (q + 3) + 2) (by omega) (by omega) hq1 w1 f1 (by omega) hA h) (fun Q h => yF_dLet H (by omega) w2 hq k8 (yL_n H (by omega) f2 f3 (by omega) d1 h)) ?_
    refine IHE VR g nm vc cc hp (x + 1) (b + k + 1) (y + 1) (u1 + 1) s (t + 1) (it + 1) (it_f (sk_f (tk_K xtk n) n) (k + 1) (q + 3) + 2) _ _ _ _ _ _ _ _ _ _  _ _ _ _ _ _ _ _ _ _ _ _ _ _ _ _ _ _ _ _ _ _ _ _ _  (by omega) ⟨B, hO, Or.inr (Or.inr ⟨x, b, k + 1, u1, q, rfl, rfl, by omega, ⟨hq, rq, k1, w1, w2, w3, w4, w5, Or.inr (Or.inr (Or.inl ⟨k8, ⟨c0, lc, hk⟩, pk_us, f2, ?_⟩))⟩, fr_k (Nat.le_refl _) (fun _ _ => ⟨rfl, rfl⟩) (fun i hi => ⟨rfl, pk_un (by omega), rfl, rfl⟩) (fun i hi => ⟨rfl, rfl, rfl, pk_un (by omega), rfl⟩) R⟩), by unfold sr_N; omega, L⟩ d2 d3 ?_
    · rw [pk_us, ← it_s (sk_f (tk_K xtk n) n) (k + 1) (q + 3)]
    · rw [if_neg (by omega)] at d8
      rw [d8]; exact w5
  · have ek : c0 = k + 1 := by omega
    subst ek
    have hA : xp_A (tk_K xtk n) (sk_f (tk_K xtk n) n) n q (it_f (sk_f (tk_K xtk n) n) k (q + 3) + 2) (-1) := by
      refine ⟨b2, b4, Or.inr (Or.inr (Or.inl ⟨Or.inl k8, by omega, by omega, Or.inl ⟨?_, rfl⟩⟩))⟩
      rw [← b6]; exact lc.2
    obtain ⟨g', nm', h1', hE', B'⟩ := sl_cells (b := b) (op' := upd xop (b + k) (nI va)) (yvs := yvs) (m := k + 1) (tn := fun i => it_f (sk_f (tk_K xtk n) n) i (q + 3) + 1) B w5 (fun j hj => by
      obtain ⟨a1, a2, _, _, _, _, _, _, _, a10⟩ := st j hj
      exact ⟨by omega, a10⟩) (fun j hj => hO (b + j) (by omega))
    refine sm_RE (y := y) (u1 := (xdl, nI n, 1, nI vc, nI (cc + (k + 1)), nI x, nI b, 0, nI va, nI (sk_f (tk_K xtk n) n (q + 2)), hb_e (xfe x) cc (k + 1), nI F, xac, -1, nI s, xmd, -1, -1, xtk, xtv, xaf, xro, xsc, xho, xvk, xvf, xvs, xc_v xcv (fun i => upd xop (b + k) (nI va) (b + i)) cc (k + 1), xc_v xco (hb_e (xfe x) cc) cc (k + 1), xff, upd xfp x (-1), xfe, xfb, upd xop (b + k) (nI va))) (v2 := (xdl, nI n, 1, ygs, ypo, nI (hp + (k + 1)), nI (y + 1), nI b, nI F, nI s, xmd, xac, yst, yrt, ycu, 0, xtk, xtv, yus, ygk, yga, ygb, xc_v yck (fun _ => 5) hp (k + 1), xc_v yca (fun i => xtv (it_f (sk_f (tk_K xtk n) n) i (q + 3) + 1)) hp (k + 1), xc_v ycb (fun i => yvs (b + i)) hp (k + 1), xc_v ycc (hb_e (yfe y) hp) hp (k + 1), yfp, yfe, upd yfS y 1, yfn, yfb, yvs, yds, 50000, 50000, 50000, 50000)) (q' := nI (it_f (sk_f (tk_K xtk n) n) (k + 1) (q + 3) + 1)) (e' := hb_e (yfe y) hp (k + 1)) (by omega) (by omega) (by omega) (fun Q h => xr_last H PG.2.1 (p := it_f (sk_f (tk_K xtk n) n) k (q + 3) + 2) (by omega) (by omega) hq1 w1 f1 hA (xF_let (xop := upd xop (b + k) (nI va)) (xfp := upd xfp x (-1)) (k := k + 1) H PG.2.1 (by omega) (by omega) (by omega) w1 w3 k8 h2 (by omega) (fun cv' co' S => by obtain ⟨rfl, rfl⟩ := S; exact h))) (fun Q h => yF_dLet H (by omega) w2 hq k8 (yL_b H (by omega) f2 w2 w4 c4 lc f3 (fun i hi => by
      obtain ⟨a1, a2, _⟩ := st i hi
      exact ⟨a1, by omega⟩) (by omega) (by omega) (fun ck' ca' cb' cC' S => by obtain ⟨rfl, rfl, rfl, rfl⟩ := S; exact h))) ?_
    rw [← e2]
    refine IHE VR g' nm' vc (cc + (k + 1)) (hp + (k + 1)) x b (y + 1) u1 s (t + 1) (it + 1) (sk_f (tk_K xtk n) n (q + 2)) _ _ _ _ _ _ _ _ _ _  _ _ _ _ _ _ _ _ _ _ _ _ _ _ _ _ _ _ _ _ _ _ _ _ _  (by omega) ⟨B', op_l (by omega) hO, Or.inl ⟨⟨w4, q, hq, w2, Or.inr (Or.inl ⟨k8, pk_us⟩)⟩, fr_k (by omega) h1' (fun i hi => ⟨rfl, pk_un (by omega), rfl, rfl⟩) (fun i hi => ⟨rfl, rfl, pk_un (by omega), rfl, rfl⟩) R⟩, by unfold sr_N; omega, L⟩ h3 r3 (by rw [sc3]; exact hE')
theorem sa_f (PG : pg_F xtk xtv xaf xro xsc xho n par) (J : (sr_J (tk_K xtk n) xtv (sk_f (tk_K xtk n) n) (xr_c n xro) xsc n VR g nm vc cc hp x b k q y u1 s t it F xvk xvf xvs xcv xco xff xfp xfe xfb xop yck yca ycb ycc yfp yfe yfS yfn yfb yvs va vb)) (k6 : tk_K xtk n (q + 1) < 6) : ∃ c, ls_C (tk_K xtk n) (sk_f (tk_K xtk n) n) (q + 1) (c + 1) ∧ ((k < c ∧ xfp x = nI (it_f (sk_f (tk_K xtk n) n) (k + 1) (q + 1)) ∧ yfS y = 0 ∧ yfn y = nI (it_f (sk_f (tk_K xtk n) n) (k + 2) (q + 1))) ∨ (k = c ∧ xfp x = nI (q + 1) ∧ yfS y = 1)) := by
  obtain ⟨B, O, Wf, R, N, L, hv, v⟩ := J
  obtain ⟨hq, rq, k1, w1, w2, w3, w4, w5, w6⟩ := Wf
  rcases w6 with w | w | w | w
  · omega
  · omega
  · omega
  · exact w.2
theorem sa_arg (PG : pg_F xtk xtv xaf xro xsc xho n par) (J : (sr_J (tk_K xtk n) xtv (sk_f (tk_K xtk n) n) (xr_c n xro) xsc n VR g nm vc cc hp x b k q y u1 s t it F xvk xvf xvs xcv xco xff xfp xfe xfb xop yck yca ycb ycc yfp yfe yfS yfn yfb yvs va vb)) (k6 : tk_K xtk n (q + 1) < 6) {c : Nat} (lc0 : ls_C (tk_K xtk n) (sk_f (tk_K xtk n) n) (q + 1) (c + 1)) (hk : k < c) (f1 : xfp x = nI (it_f (sk_f (tk_K xtk n) n) (k + 1) (q + 1))) (f2 : yfS y = 0) (f3 : yfn y = nI (it_f (sk_f (tk_K xtk n) n) (k + 2) (q + 1))) (ht : t + (d + 1) = 900) (IHE : sm_ET xdl xtk xtv xaf xro xsc xho n F d) : sm_R (xdl, nI n, 1, nI vc, nI cc, nI (x + 1), nI (b + k), 1, nI va, xex, xen, nI F, xac, -1, nI s, xmd, -1, -1, xtk, xtv, xaf, xro, xsc, xho, xvk, xvf, xvs, xcv, xco, xff, xfp, xfe, xfb, xop) (xdl, nI n, 1, ygs, ypo, nI hp, nI (y + 1), nI (b + k + 1), nI F, nI s, xmd, xac, yst, yrt, ycu, 0, xtk, xtv, yus, ygk, yga, ygb, yck, yca, ycb, ycc, yfp, yfe, yfS, yfn, yfb, yvs, yds, 50000, 50000, 50000, 50000) t it := by
  have H := PG.1
  have H1 := H.1
  obtain ⟨B, O, Wf, R, N, L, hv, v⟩ := J
  obtain ⟨hq, rq, k1, w1, w2, w3, w4, w5, _⟩ := Wf
  unfold sr_N at N
  have hn0 : ∀ i, n ≤ i → tk_K xtk n i = 0 := fun i => tk_0
  have hBp : ∀ i, i < n → tk_K xtk n i ≠ 2 → dp_I (tk_K xtk n) i (sk_f (tk_K xtk n) n i) := fun i hi hk => (PG.2.1 i hi hk).1
  obtain ⟨c', c4, lc, st, hend⟩ := st_app hn0 hBp PG.2.2.1 PG.2.2.2.1 hq rq k1 k6
  have ec : c' = c := by have := ls_C_u lc0 lc; omega
  subst ec
  have s0 := st 0 (by omega)
  change q + 1 < n ∧ xr_c n xro (q + 1) = 1 ∧ tk_K xtk n (q + 1) ≠ 2 ∧ _ ∧ xsc (q + 1) = xsc q at s0
  have s1 := st (k + 1) (by omega)
  have hO : op_R VR (upd xop (b + k) (nI va)) yvs (b + k + 1) := op_s (fun _ _ z => z) (fun _ _ => rfl) hv v O
  have ei : sk_f (tk_K xtk n) n (it_f (sk_f (tk_K xtk n) n) (k + 1) (q + 1)) = it_f (sk_f (tk_K xtk n) n) (k + 2) (q + 1) := (it_s (sk_f (tk_K xtk n) n) (k + 1) (q + 1)).symm
  by_cases hk2 : k + 1 < c'
  · have s2 := st (k + 2) (by omega)
    have hA : xp_A (tk_K xtk n) (sk_f (tk_K xtk n) n) n q (it_f (sk_f (tk_K xtk n) n) (k + 1) (q + 1)) (nI (it_f (sk_f (tk_K xtk n) n) (k + 2) (q + 1))) := by
      refine ⟨s1.1, s1.2.2.1, Or.inr (Or.inr (Or.inr ⟨Or.inl k6, by omega, ?_, Or.inl ⟨?_, ?_⟩⟩))⟩
      · rw [ei]; exact s2.1
      · rw [ei]; exact s2.2.2.1
      · rw [ei]
    refine sm_RE (y := y) (v2 := (xdl, nI n, 1, ygs, ypo, nI hp, nI (y + 1), nI (b + k + 1), nI F, nI s, xmd, xac, yst, yrt, ycu, 0, xtk, xtv, yus, ygk, yga, ygb, yck, yca, ycb, ycc, yfp, yfe, yfS, upd yfn y (nI (sk_f (tk_K xtk n) n (it_f (sk_f (tk_K xtk n) n) (k + 2) (q + 1)))), yfb, yvs, yds, 50000, 50000, 50000, 50000)) (q' := nI (it_f (sk_f (tk_K xtk n) n) (k + 2) (q + 1))) (e' := yfe y) (by omega) (by omega) (by omega) (fun Q h => xr_more H PG.2.1 (p := it_f (sk_f (tk_K xtk n) n) (k + 1) (q + 1)) (by omega) (by omega) s0.1 w1 f1 (by omega) hA h) (fun Q h => yF_dApp H (by omega) w2 hq k6 (yA_a H (by omega) f2 f3 s2.1 s2.2.2.1 h)) ?_
    refine IHE VR g nm vc cc hp (x + 1) (b + k + 1) (y + 1) (u1 + 1) s (t + 1) (it + 1) (it_f (sk_f (tk_K xtk n) n) (k + 2) (q + 1)) _ _ _ _ _ _ _ _ _ _  _ _ _ _ _ _ _ _ _ _ _ _ _ _ _ _ _ _ _ _ _ _ _ _ _  (by omega) ⟨B, hO, Or.inr (Or.inr ⟨x, b, k + 1, u1, q, rfl, rfl, by omega, ⟨hq, rq, k1, w1, w2, w3, w4, w5, Or.inr (Or.inr (Or.inr ⟨k6, c', lc, Or.inl ⟨hk2, pk_us, f2, ?_⟩⟩))⟩, fr_k (Nat.le_refl _) (fun _ _ => ⟨rfl, rfl⟩) (fun i hi => ⟨rfl, pk_un (by omega), rfl, rfl⟩) (fun i hi => ⟨rfl, rfl, rfl, pk_un (by omega), rfl⟩) R⟩), by unfold sr_N; omega, L⟩ s2.1 s2.2.1 (by rw [s2.2.2.2.2]; exact w5)
    rw [pk_us, ← it_s (sk_f (tk_K xtk n) n) (k + 2) (q + 1)]
  · have ek : c' = k + 1 := by omega
    subst ek
    have hA : xp_A (tk_K xtk n) (sk_f (tk_K xtk n) n) n q (it_f (sk_f (tk_K xtk n) n) (k + 1) (q + 1)) (nI (q + 1)) := by
      refine ⟨s1.1, s1.2.2.1, Or.inr (Or.inr (Or.inr ⟨Or.inl k6, by omega, ?_, Or.inr (Or.inl ⟨?_, k6, rfl⟩)⟩))⟩
      · rw [ei]; exact hend
      · rw [ei]; exact lc.2
    refine sm_RE (y := y) (v2 := (xdl, nI n, 1, ygs, ypo, nI hp, nI (y + 1), nI (b + k + 1), nI F, nI s, xmd, xac, yst, yrt, ycu, 0, xtk, xtv, yus, ygk, yga, ygb, yck, yca, ycb, ycc, yfp, yfe, upd yfS y 1, yfn, yfb, yvs, yds, 50000, 50000, 50000, 50000)) (q' := nI (q + 1)) (e' := yfe y) (by omega) (by omega) (by omega) (fun Q h => xr_more H PG.2.1 (p := it_f (sk_f (tk_K xtk n) n) (k + 1) (q + 1)) (by omega) (by omega) s0.1 w1 f1 (by omega) hA h) (fun Q h => yF_dApp H (by omega) w2 hq k6 (yA_h H (by omega) f2 w2 f3 hend lc.2 h)) ?_
    exact IHE VR g nm vc cc hp (x + 1) (b + k + 1) (y + 1) (u1 + 1) s (t + 1) (it + 1) (q + 1) _ _ _ _ _ _ _ _ _ _  _ _ _ _ _ _ _ _ _ _ _ _ _ _ _ _ _ _ _ _ _ _ _ _ _  (by omega) ⟨B, hO, Or.inr (Or.inr ⟨x, b, k + 1, u1, q, rfl, rfl, by omega, ⟨hq, rq, k1, w1, w2, w3, w4, w5, Or.inr (Or.inr (Or.inr ⟨k6, k + 1, lc, Or.inr ⟨rfl, pk_us, pk_us⟩⟩))⟩, fr_k (Nat.le_refl _) (fun _ _ => ⟨rfl, rfl⟩) (fun i hi => ⟨rfl, pk_un (by omega), rfl, rfl⟩) (fun i hi => ⟨rfl, rfl, pk_un (by omega), rfl, rfl⟩) R⟩), by unfold sr_N; omega, L⟩ s0.1 s0.2.1 (by rw [s0.2.2.2.2]; exact w5)
end
end
section
section
variable {xdl xtn xpp xvc xcc xfc xoc xag xan xex xen xfl xac xst xsp xmd xrt xcu : Int32} {xtk xtv xaf xro xsc xho xvk xvf xvs xcv xco xff xfp xfe xfb xop : Nat → Int32} {yli yn ypr ygs ypo yhp yfs yvp yfu ysp ymd yac yst yrt ycu yhv : Int32} {ytk ytv yus ygk yga ygb yck yca ycb ycc yfp yfe yfS yfn yfb yvs yds : Nat → Int32} {ynk yna ynb ync : Nat} {n : Nat} {par : Nat → Nat} {VR : Nat → Nat → Prop} {g nm : Nat → Nat} {vc cc hp y s t it F d x b k q u1 va vb : Nat}
theorem sa_call (PG : pg_F xtk xtv xaf xro xsc xho n par) (J : (sr_J (tk_K xtk n) xtv (sk_f (tk_K xtk n) n) (xr_c n xro) xsc n VR g nm vc cc hp x b k q y u1 s t it F xvk xvf xvs xcv xco xff xfp xfe xfb xop yck yca ycb ycc yfp yfe yfS yfn yfb yvs va vb)) (k6 : tk_K xtk n (q + 1) < 6) (lc0 : ls_C (tk_K xtk n) (sk_f (tk_K xtk n) n) (q + 1) (k + 1)) (f1 : xfp x = nI (q + 1)) (f2 : yfS y = 1) (ht : t + (d + 1) = 900) (IHE : sm_ET xdl xtk xtv xaf xro xsc xho n F d) : sm_R (xdl, nI n, 1, nI vc, nI cc, nI (x + 1), nI (b + k), 1, nI va, xex, xen, nI F, xac, -1, nI s, xmd, -1, -1, xtk, xtv, xaf, xro, xsc, xho, xvk, xvf, xvs, xcv, xco, xff, xfp, xfe, xfb, xop) (xdl, nI n, 1, ygs, ypo, nI hp, nI (y + 1), nI (b + k + 1), nI F, nI s, xmd, xac, yst, yrt, ycu, 0, xtk, xtv, yus, ygk, yga, ygb, yck, yca, ycb, ycc, yfp, yfe, yfS, yfn, yfb, yvs, yds, 50000, 50000, 50000, 50000) t it := by
  have H := PG.1
  have H1 := H.1
  obtain ⟨B, O, Wf, R, N, L, hv, v⟩ := J
  obtain ⟨hq, rq, k1, w1, w2, w3, w4, w5, _⟩ := Wf
  unfold sr_N at N
  have hn0 : ∀ i, n ≤ i → tk_K xtk n i = 0 := fun i => tk_0
  have hBp : ∀ i, i < n → tk_K xtk n i ≠ 2 → dp_I (tk_K xtk n) i (sk_f (tk_K xtk n) n i) := fun i hi hk => (PG.2.1 i hi hk).1
  obtain ⟨c', c4, lc, st, hend⟩ := st_app hn0 hBp PG.2.2.1 PG.2.2.2.1 hq rq k1 k6
  have ec : c' = k := by have := ls_C_u lc0 lc; omega
  subst ec
  have s0 := st 0 (by omega)
  change q + 1 < n ∧ xr_c n xro (q + 1) = 1 ∧ tk_K xtk n (q + 1) ≠ 2 ∧ _ ∧ xsc (q + 1) = xsc q at s0
  have hO : op_R VR (upd xop (b + c') (nI va)) yvs (b + c' + 1) := op_s (fun _ _ z => z) (fun _ _ => rfl) hv v O
  have hA : xp_A (tk_K xtk n) (sk_f (tk_K xtk n) n) n q (q + 1) (-1) := ⟨s0.1, s0.2.2.1, Or.inr (Or.inl ⟨k6, rfl, rfl⟩)⟩
  have kd := hb_kind B v
  have opk : upd xop (b + c') (nI va) (b + c') = nI va := pk_us
  by_cases v4 : xvk va = 4
  · have c4' : yck vb = 4 := by rw [← kd.2.2.1]; exact v4
    obtain ⟨_, _, hV⟩ := B.1 va vb v
    have pr : ∃ p, p < n ∧ xr_c n xro p = 1 ∧ tk_K xtk n p = 1 ∧ tk_K xtk n (p + 1) = 7 ∧ xvf va = nI p ∧ yca vb = nI p ∧ hb_E g nm cc (xvs va) (ycb vb) (xsc p) := by
      rcases hV with w | w | w | w
      · rw [v4] at w; exact absurd w.1 (by decide)
      · rw [v4] at w; exact absurd w.1 (by decide)
      · rw [v4] at w; exact absurd w.1 (by decide)
      · exact w.2.2
    obtain ⟨p, p1, p2, p3, p4, p5, p6, p7⟩ := pr
    obtain ⟨m, m4, P, lcm, sn, hm3, h2, k2, e2, h3, r3, sc3⟩ := st_lam hn0 hBp PG.2.2.1 PG.2.2.2.1 p1 p2 p3 p4
    by_cases em : m = c'
    · subst em
      by_cases ea : xac = xdl
      · exact sm_Rerr (y := y) (r := 5) (u1 := (xdl, nI n, 1, nI vc, nI cc, nI (x + 1), nI b, 1, nI va, xex, xen, nI F, xac, 5, nI s, xmd, -1, -1, xtk, xtv, xaf, xro, xsc, xho, xvk, xvf, xvs, xcv, xco, xff, upd xfp x (-1), xfe, xfb, upd xop (b + m) (nI va))) (v2 := (xdl, nI n, 1, ygs, ypo, nI hp, nI (y + 1), nI (b + m + 1), nI F, nI s, xmd, xac, yst, yrt, ycu, 0, xtk, xtv, yus, ygk, yga, ygb, yck, yca, ycb, ycc, yfp, yfe, yfS, yfn, yfb, yvs, yds, 50000, 50000, 50000, 50000)) (by omega) (by omega) (by omega) (by decide) (by decide) rfl (fun Q h => xr_last H PG.2.1 (p := q + 1) (by omega) (by omega) s0.1 w1 f1 hA (xF_call (xop := upd xop (b + m) (nI va)) (xfp := upd xfp x (-1)) (k := m) H PG.2.1 (by omega) (by omega) (by omega) (by omega) w1 w3 k6 s0.1 opk (fun z => absurd v4 z) (fun _ => ⟨p, m, p5, h2, by omega, lcm, by omega, fun z => absurd rfl z, fun _ _ => h, fun _ z => absurd ea z⟩))) (fun Q h => yF_dApp H (by omega) w2 hq k6 (yA_c (k := m) H (by omega) f2 w4 (by omega) (by omega) m4 (by omega) hv (fun z => absurd c4' z) (fun _ => ⟨p, m, p6, hm3, P, fun z => absurd rfl z, fun _ _ => h, fun _ z => absurd ea z⟩))) (sf_err PG B.2.2.2.2 L)
      · obtain ⟨g', nm', h1', hE', B'⟩ := sl_cells (b := b) (op' := upd xop (b + m) (nI va)) (yvs := yvs) (m := m) (tn := fun i => p + 3 + i) B p7 sn (fun j hj => hO (b + j) (by omega))
        refine sm_RE (y := y) (u1 := (xdl, nI n, 1, nI vc, nI (cc + m), nI (x + 1), nI b, 0, nI va, nI (sk_f (tk_K xtk n) n (p + 2)), hb_e (xvs va) cc m, nI F, xac + 1, -1, nI s, if xac + 1 ≤ xmd then xmd else xac + 1, -1, -1, xtk, xtv, xaf, xro, xsc, xho, xvk, xvf, xvs, xc_v xcv (fun i => upd xop (b + m) (nI va) (b + i)) cc m, xc_v xco (hb_e (xvs va) cc) cc m, xff, upd xfp x (-1), xfe, xfb, upd xop (b + m) (nI va))) (v2 := (xdl, nI n, 1, ygs, ypo, nI (hp + m), nI (y + 1), nI b, nI F, nI s, if xac + 1 ≤ xmd then xmd else xac + 1, xac + 1, yst, yrt, ycu, 0, xtk, xtv, yus, ygk, yga, ygb, xc_v yck (fun _ => 5) hp m, xc_v yca (fun i => xtv (p + 3 + i)) hp m, xc_v ycb (fun i => yvs (b + i)) hp m, xc_v ycc (hb_e (ycb vb) hp) hp m, yfp, yfe, upd yfS y 2, yfn, yfb, yvs, yds, 50000, 50000, 50000, 50000)) (q' := nI (p + 4 + m)) (e' := hb_e (ycb vb) hp m) (by omega) (by omega) (by omega) (fun Q h => xr_last H PG.2.1 (p := q + 1) (by omega) (by omega) s0.1 w1 f1 hA (xF_call (xop := upd xop (b + m) (nI va)) (xfp := upd xfp x (-1)) (k := m) H PG.2.1 (by omega) (by omega) (by omega) (by omega) w1 w3 k6 s0.1 opk (fun z => absurd v4 z) (fun _ => ⟨p, m, p5, h2, by omega, lcm, by omega, fun z => absurd rfl z, fun _ z => absurd z ea, fun _ _ cv' co' md' emd S => by obtain ⟨rfl, rfl⟩ := S; subst emd; exact h⟩))) (fun Q h => yF_dApp H (by omega) w2 hq k6 (yA_c (k := m) H (by omega) f2 w4 (by omega) (by omega) m4 (by omega) hv (fun z => absurd c4' z) (fun _ => ⟨p, m, p6, hm3, P, fun z => absurd rfl z, fun _ z => absurd z ea, fun _ _ ck' ca' cb' cC' md' emd S => by obtain ⟨rfl, rfl, rfl, rfl⟩ := S; subst emd; exact h⟩))) ?_
        rw [← e2]
        exact IHE VR g' nm' vc (cc + m) (hp + m) (x + 1) b (y + 1) u1 s (t + 1) (it + 1) (sk_f (tk_K xtk n) n (p + 2)) _ _ _ _ _ _ _ _ _ _  _ _ _ _ _ _ _ _ _ _ _ _ _ _ _ _ _ _ _ _ _ _ _ _ _  (by omega) ⟨B', op_l (by omega) hO, Or.inr (Or.inl ⟨x, rfl, ⟨pk_us, ⟨q, hq, w2, k6⟩, pk_us, w4⟩, fr_k (by omega) h1' (fun i hi => ⟨rfl, pk_un (by omega), rfl, rfl⟩) (fun i hi => ⟨rfl, rfl, pk_un (by omega), rfl, rfl⟩) R⟩), by unfold sr_N; omega, L⟩ h3 r3 (by rw [sc3]; exact hE')
    · exact sm_Rerr (y := y) (r := 9) (u1 := (xdl, nI n, 1, nI vc, nI cc, nI (x + 1), nI b, 1, nI va, xex, xen, nI F, xac, 9, nI s, xmd, -1, -1, xtk, xtv, xaf, xro, xsc, xho, xvk, xvf, xvs, xcv, xco, xff, upd xfp x (-1), xfe, xfb, upd xop (b + c') (nI va))) (v2 := (xdl, nI n, 1, ygs, ypo, nI hp, nI (y + 1), nI (b + c' + 1), nI F, nI s, xmd, xac, yst, yrt, ycu, 0, xtk, xtv, yus, ygk, yga, ygb, yck, yca, ycb, ycc, yfp, yfe, yfS, yfn, yfb, yvs, yds, 50000, 50000, 50000, 50000)) (by omega) (by omega) (by omega) (by decide) (by decide) rfl (fun Q h => xr_last H PG.2.1 (p := q + 1) (by omega) (by omega) s0.1 w1 f1 hA (xF_call (xop := upd xop (b + c') (nI va)) (xfp := upd xfp x (-1)) (k := c') H PG.2.1 (by omega) (by omega) (by omega) (by omega) w1 w3 k6 s0.1 opk (fun z => absurd v4 z) (fun _ => ⟨p, m, p5, h2, by omega, lcm, by omega, fun _ => h, fun z => absurd z em, fun z => absurd z em⟩))) (fun Q h => yF_dApp H (by omega) w2 hq k6 (yA_c (k := c') H (by omega) f2 w4 (by omega) (by omega) c4 (by omega) hv (fun z => absurd c4' z) (fun _ => ⟨p, m, p6, hm3, P, fun _ => h, fun z => absurd z em, fun z => absurd z em⟩))) (sf_err PG B.2.2.2.2 L)
  · have c4' : yck vb ≠ 4 := by rw [← kd.2.2.1]; exact v4
    exact sm_Rerr (y := y) (r := 8) (u1 := (xdl, nI n, 1, nI vc, nI cc, nI (x + 1), nI b, 1, nI va, xex, xen, nI F, xac, 8, nI s, xmd, -1, -1, xtk, xtv, xaf, xro, xsc, xho, xvk, xvf, xvs, xcv, xco, xff, upd xfp x (-1), xfe, xfb, upd xop (b + c') (nI va))) (v2 := (xdl, nI n, 1, ygs, ypo, nI hp, nI (y + 1), nI (b + c' + 1), nI F, nI s, xmd, xac, yst, yrt, ycu, 0, xtk, xtv, yus, ygk, yga, ygb, yck, yca, ycb, ycc, yfp, yfe, yfS, yfn, yfb, yvs, yds, 50000, 50000, 50000, 50000)) (by omega) (by omega) (by omega) (by decide) (by decide) rfl (fun Q h => xr_last H PG.2.1 (p := q + 1) (by omega) (by omega) s0.1 w1 f1 hA (xF_call (xop := upd xop (b + c') (nI va)) (xfp := upd xfp x (-1)) (k := c') H PG.2.1 (by omega) (by omega) (by omega) (by omega) w1 w3 k6 s0.1 opk (fun _ => h) (fun z => absurd z v4))) (fun Q h => yF_dApp H (by omega) w2 hq k6 (yA_c (k := c') H (by omega) f2 w4 (by omega) (by omega) c4 (by omega) hv (fun _ => h) (fun z => absurd z c4'))) (sf_err PG B.2.2.2.2 L)
/-- a form's part has been answered -/
theorem sr_W (PG : pg_F xtk xtv xaf xro xsc xho n par) (J : (sr_J (tk_K xtk n) xtv (sk_f (tk_K xtk n) n) (xr_c n xro) xsc n VR g nm vc cc hp x b k q y u1 s t it F xvk xvf xvs xcv xco xff xfp xfe xfb xop yck yca ycb ycc yfp yfe yfS yfn yfb yvs va vb)) (ht : t + (d + 1) = 900) (IHE : sm_ET xdl xtk xtv xaf xro xsc xho n F d) (IHR : sm_RT xdl xtk xtv xaf xro xsc xho n F d) : sm_R (xdl, nI n, 1, nI vc, nI cc, nI (x + 1), nI (b + k), 1, nI va, xex, xen, nI F, xac, -1, nI s, xmd, -1, -1, xtk, xtv, xaf, xro, xsc, xho, xvk, xvf, xvs, xcv, xco, xff, xfp, xfe, xfb, xop) (xdl, nI n, 1, ygs, ypo, nI hp, nI (y + 1), nI (b + k + 1), nI F, nI s, xmd, xac, yst, yrt, ycu, 0, xtk, xtv, yus, ygk, yga, ygb, yck, yca, ycb, ycc, yfp, yfe, yfS, yfn, yfb, yvs, yds, 50000, 50000, 50000, 50000) t it := by
  have k20 := tk_20 PG.1 (q + 1)
  have J' := J
  obtain ⟨B, O, Wf, R, N, L, hv, v⟩ := J'
  obtain ⟨hq, rq, k1, w1, w2, w3, w4, w5, w6⟩ := Wf
  rcases w6 with w | w | w | w
  · exact sr_if PG J w.1 ht IHE
  · by_cases hk : k + 1 < gr_n (tk_K xtk n (q + 1))
    · exact so_more PG J w.1 hk ht IHE
    · have hk' : k + 1 = gr_n (tk_K xtk n (q + 1)) := by have := w.2.1; omega
      by_cases z11 : tk_K xtk n (q + 1) = 11
      · exact so_cons PG J z11 hk' ht IHR
      · by_cases z12 : tk_K xtk n (q + 1) = 12 ∨ tk_K xtk n (q + 1) = 13
        · exact so_part PG J z12 hk' ht IHR
        · by_cases z14 : tk_K xtk n (q + 1) = 14
          · exact so_null PG J z14 hk' ht IHR
          · exact so_calc PG J (by omega) hk' ht IHR
  · exact sl_let PG J w.1 ht IHE
  · obtain ⟨c, lc, w⟩ := w.2
    have k6 : tk_K xtk n (q + 1) < 6 := by
      rename_i w0
      exact w0.1
    rcases w with ⟨z, f1, f2, f3⟩ | ⟨z, f1, f2⟩
    · exact sa_arg PG J k6 lc z f1 f2 f3 ht IHE
    · subst z
      exact sa_call PG J k6 lc f1 f2 ht IHE
end
/-- an answer is there: by the reference's innermost frame -/
theorem sr_all {xdl : Int32} {xtk xtv xaf xro xsc xho : Nat → Int32} {n F d : Nat} {par : Nat → Nat} (PG : pg_F xtk xtv xaf xro xsc xho n par) (IHE : sm_ET xdl xtk xtv xaf xro xsc xho n F d) (IHR : sm_RT xdl xtk xtv xaf xro xsc xho n F d) : sm_RT xdl xtk xtv xaf xro xsc xho n F (d + 1) := by
  intro VR g nm vc cc hp fc oc y
  induction y generalizing fc oc with
  | zero =>
    intro u s t it a b xex xen xac xmd ygs ypo yst yrt ycu xvk xvf xvs xcv xco xff xfp xfe xfb xop yus ygk yga ygb yck yca ycb ycc yfp yfe yfS yfn yfb yvs yds ht I hv v
    have N := I.2.2.2.1
    unfold sr_N at N
    exact sr_fin PG I hv v (by omega) (by omega)
  | succ y ih =>
    intro u s t it a b xex xen xac xmd ygs ypo yst yrt ycu xvk xvf xvs xcv xco xff xfp xfe xfb xop yus ygk yga ygb yck yca ycb ycc yfp yfe yfS yfn yfb yvs yds ht I hv v
    have I' := I
    obtain ⟨B, O, R, N, L⟩ := I
    have H := PG.1
    have H1 := H.1
    have N' := N
    unfold sr_N at N
    rcases R with ⟨⟨hB, q, hq, hP, hS⟩, R⟩ | ⟨x, e, ⟨c1, ⟨q, hq, hP, k6⟩, c3, c4⟩, R⟩ | ⟨x, b', k, u', q, e1, e2, e3, Wf, R⟩
    · have nxt : sm_R (xdl, nI n, 1, nI vc, nI cc, nI fc, nI oc, 1, nI a, xex, xen, nI F, xac, -1, nI s, xmd, -1, -1, xtk, xtv, xaf, xro, xsc, xho, xvk, xvf, xvs, xcv, xco, xff, xfp, xfe, xfb, xop) (xdl, nI n, 1, ygs, ypo, nI hp, nI y, nI (oc + 1), nI F, nI s, xmd, xac, yst, yrt, ycu, 0, xtk, xtv, yus, ygk, yga, ygb, yck, yca, ycb, ycc, yfp, yfe, yfS, yfn, yfb, upd yvs oc (yvs oc), yds, 50000, 50000, 50000, 50000) t (it + 1) := by
        refine ih fc oc u s t (it + 1) a b _ _ _ _ _ _ _ _ _  _ _ _ _ _ _ _ _ _ _ _ _ _ _ _ _ _ _ _ _ _ _ _ _ _  ht ⟨B, op_m (fun _ _ z => z) (fun i hi => ⟨rfl, pk_un (by omega)⟩) O, R, by unfold sr_N; omega, L⟩ (pk_us.trans hv) v
      rcases hS with ⟨k10, h2⟩ | ⟨k8, h2⟩ | ⟨k9, h2⟩
      · exact sm_Rp (y := y) (by omega) (by omega) (fun Q h => yF_dIf H (by omega) hP hq k10 (yI_2 (by omega) h2 hB (by omega) h)) nxt
      · exact sm_Rp (y := y) (by omega) (by omega) (fun Q h => yF_dLet H (by omega) hP hq k8 (yL_p (by omega) h2 hB (by omega) h)) nxt
      · exact sm_Rp (y := y) (by omega) (by omega) (fun Q h => yF_dLr H (by omega) hP hq k9 (yR_p (by omega) h2 hB (by omega) h)) nxt
    · subst e
      refine sm_RR (y := y) (by omega) (by omega) (by omega) (fun Q h => xr_ret (by omega) c1 h) (fun Q h => yF_dApp H (by omega) hP hq k6 (yA_r (by omega) c3 c4 (by omega) h)) ?_
      exact IHR VR g nm vc cc hp x oc y u s (t + 1) (it + 1) a b _ _ _ _ _ _ _ _ _  _ _ _ _ _ _ _ _ _ _ _ _ _ _ _ _ _ _ _ _ _ _ _ _ _  (by omega) ⟨B, op_m (fun _ _ z => z) (fun i hi => ⟨rfl, pk_un (by omega)⟩) O, R, by unfold sr_N; omega, L⟩ (pk_us.trans hv) v
    · subst e1 e2 e3
      exact sr_W PG ⟨B, O, Wf, R, N', L, hv, v⟩ ht IHE IHR
end
section
/-! LETREC -/
theorem hb_fills {K : Nat → Nat} {V R sc : Nat → Int32} {n : Nat} {VR : Nat → Nat → Prop} {g nm : Nat → Nat} {vc cc hp lo : Nat} {vk vf vs cv co ck ca cb cC cv' cb' : Nat → Int32} (B : hb_B K V R sc n VR g nm vc cc hp lo vk vf vs cv co ck ca cb cC) (h1 : ∀ c, c < lo → cv' c = cv c) (h2 : ∀ j, (∀ c, lo ≤ c → c < cc → j ≠ g c) → cb' j = cb j) (h3 : ∀ c, lo ≤ c → c < cc → ∃ a b, cv' c = nI a ∧ cb' (g c) = nI b ∧ VR a b) :
    hb_B K V R sc n VR g nm vc cc hp cc vk vf vs cv' co ck ca cb' cC := by
  obtain ⟨b1, b2, b3, b4, b5⟩ := B
  refine ⟨fun i j hij => ?_, fun c hc => ?_, b3, b4, b5⟩
  · obtain ⟨q1, q2, q3⟩ := b1 i j hij
    refine ⟨q1, q2, hb_Vm (fun _ _ z => z) (Nat.le_refl _) (fun _ _ => ⟨rfl, rfl⟩) ⟨rfl, rfl, rfl⟩ ⟨rfl, rfl, h2 j (fun c hc1 hc2 e => ?_)⟩ q3⟩
    have k5 := (b2 c hc2).2.2.1
    rw [← e] at k5
    rcases q3 with w | w | w | w
    · rw [w.2.1] at k5; exact absurd k5 (by decide)
    · rw [w.2] at k5; exact absurd k5 (by decide)
    · rw [w.2.1] at k5; exact absurd k5 (by decide)
    · rw [w.2.1] at k5; exact absurd k5 (by decide)
  · obtain ⟨g1, g2, g3, g4, g5, g6⟩ := b2 c hc
    refine ⟨g1, g2, g3, g4, g5, fun _ => ?_⟩
    rcases Nat.lt_or_ge c lo with z | z
    · obtain ⟨a, b, e1, e2, v⟩ := g6 z
      refine ⟨a, b, (h1 c z).trans e1, (h2 (g c) (fun c' hc1 hc2 e => ?_)).trans e2, v⟩
      have := b3 c c' (by omega) hc2
      omega
    · exact h3 c z hc
theorem yh_chain {ca cC : Nat → Int32} {e0 x : Int32} {h0 i : Nat} : ∀ d, h0 + i + d < 50000 → ca (h0 + i) = x → (∀ m, i < m → m ≤ i + d → ca (h0 + m) ≠ x) → (∀ m, m ≤ i + d → cC (h0 + m) = hb_e e0 h0 m) → yh_W ca cC x d (hb_e e0 h0 (i + 1 + d)) (h0 + i)
  | 0, hl, h1, _, _ => ⟨rfl, by omega, h1⟩
  | d + 1, hl, h1, h2, h3 => by
    refine ⟨h0 + (i + 1 + d), rfl, by omega, h2 (i + 1 + d) (by omega) (by omega), ?_⟩
    rw [h3 (i + 1 + d) (by omega)]
    exact yh_chain d (by omega) h1 (fun m m1 m2 => h2 m m1 (by omega)) (fun m hm => h3 m (by omega))
def sq_J (K : Nat → Nat) (V : Nat → Int32) (a : Nat → Nat) (R sc : Nat → Int32) (n : Nat) (g nm : Nat → Nat) (c0 h0 c q fc oc y u F : Nat) (e00 e01 : Int32) (VR : Nat → Nat → Prop) (vc hp s t it j : Nat) (xvk xvf xvs xcv xco xff xfp xfe xfb xop yck yca ycb ycc yfp yfe yfS yfn yfb yvs : Nat → Int32) : Prop :=
  hb_B K V R sc n VR g nm vc (c0 + c) hp c0 xvk xvf xvs xcv xco yck yca ycb ycc ∧ op_R VR xop yvs (oc + j) ∧ fr_R K a R sc n g nm (c0 + c) xff xfp xfe xfb yfp yfe yfS yfn yfb y fc oc u ∧
  (xff fc = nI q ∧ xfp fc = nI (it_f a j (q + 3) + 2) ∧ xfe fc = hb_e e00 c0 c ∧ xfb fc = nI oc) ∧ (yfp y = nI q ∧ yfe y = hb_e e01 h0 c ∧ yfS y = 1 ∧ yfn y = nI (it_f a (j + 1) (q + 3)) ∧ yfb y = nI oc) ∧
  hb_E g nm (c0 + c) (hb_e e00 c0 c) (hb_e e01 h0 c) (hb_s (sc q) (fun i => it_f a i (q + 3) + 1) c) ∧ (∀ i, i < c → g (c0 + i) = h0 + i ∧ xco (c0 + i) = hb_e e00 c0 i ∧ yca (h0 + i) = V (it_f a i (q + 3) + 1) ∧ ycc (h0 + i) = hb_e e01 h0 i) ∧ h0 + c ≤ hp ∧
  (vc + u ≤ 128 + s ∧ 128 ≤ vc ∧ c0 + oc + fc + 1 + j ≤ s ∧ c0 + c ≤ 404 ∧ hp + 4 * u ≤ 1 + 122 * s ∧ y + 1 ≤ s ∧ t + (fc + 1) ≤ 2 * s ∧ it + (y + 1) ≤ 3 * s + 1 ∧ s ≤ F ∧ F ≤ 400) ∧ lt_L K V a R xvk xvf xvs n
theorem sq_lam {xdl : Int32} {xtk xtv xaf xro xsc xho : Nat → Int32} {n F d : Nat} {par : Nat → Nat} (PG : pg_F xtk xtv xaf xro xsc xho n par) {g nm : Nat → Nat} {c0 h0 c q fc oc y u : Nat} {e00 e01 : Int32} (hq : q < n) (rq : xr_c n xro q = 1) (k1 : tk_K xtk n q = 1) (k9 : tk_K xtk n (q + 1) = 9) (lc0 : ls_C (tk_K xtk n) (sk_f (tk_K xtk n) n) (q + 3) c) (IHE : ∀ d', d' < d → sm_ET xdl xtk xtv xaf xro xsc xho n F d') :
    ∀ (m j : Nat) (VR : Nat → Nat → Prop) (vc hp s t it : Nat) (xan xac xmd ygs ypo yst yrt ycu : Int32) (xvk xvf xvs xcv xco xff xfp xfe xfb xop yus ygk yga ygb yck yca ycb ycc yfp yfe yfS yfn yfb yvs yds : Nat → Int32), j + (m + 1) = c → 900 ≤ t + d → 
      sq_J (tk_K xtk n) xtv (sk_f (tk_K xtk n) n) (xr_c n xro) xsc n g nm c0 h0 c q fc oc y u F e00 e01 VR vc hp s t it j xvk xvf xvs xcv xco xff xfp xfe xfb xop yck yca ycb ycc yfp yfe yfS yfn yfb yvs →
      sm_E (xdl, nI n, 1, nI vc, nI (c0 + c), nI (fc + 1), nI (oc + j), 0, xan, nI (it_f (sk_f (tk_K xtk n) n) j (q + 3) + 2), hb_e e00 c0 c, nI F, xac, -1, nI s, xmd, -1, -1, xtk, xtv, xaf, xro, xsc, xho, xvk, xvf, xvs, xcv, xco, xff, xfp, xfe, xfb, xop) (xdl, nI n, 1, ygs, ypo, nI hp, nI (y + 1), nI (oc + j), nI F, nI s, xmd, xac, yst, yrt, ycu, 0, xtk, xtv, yus, ygk, yga, ygb, yck, yca, ycb, ycc, yfp, yfe, yfS, yfn, yfb, yvs, yds, 50000, 50000, 50000, 50000) t it (nI (it_f (sk_f (tk_K xtk n) n) j (q + 3) + 2)) (hb_e e01 h0 c) := by
  have H := PG.1
  have H1 := H.1
  have hn0 : ∀ i, n ≤ i → tk_K xtk n i = 0 := fun i => tk_0
  have hBp : ∀ i, i < n → tk_K xtk n i ≠ 2 → dp_I (tk_K xtk n) i (sk_f (tk_K xtk n) n i) := fun i hi hk => (PG.2.1 i hi hk).1
  obtain ⟨c', c1, c4, lc, st, dist, h2, k2, e2, h3, r3, sc3⟩ := st_let hn0 hBp PG.2.2.1 PG.2.2.2.1 hq rq k1 (Or.inr k9)
  have ec := ls_C_u lc lc0
  subst ec
  have hq1 : q + 1 < n := by omega
  intro m
  induction m with
  | zero =>
    intro j VR vc hp s t it xan xac xmd ygs ypo yst yrt ycu xvk xvf xvs xcv xco xff xfp xfe xfb xop yus ygk yga ygb yck yca ycb ycc yfp yfe yfS yfn yfb yvs yds ej hd J
    obtain ⟨B, O, R, ⟨x1, x2, x3, x4⟩, ⟨y1, y2, y3, y4, y5⟩, hE, hC, hh, N, L⟩ := J
    obtain ⟨b1, b2, b3, b4, b5, b6, b7, b8, b9, b10⟩ := st j (by omega)
    obtain ⟨b11, b12⟩ := b9 k9
    have b13 : it_f (sk_f (tk_K xtk n) n) j (q + 3) + 3 < n := tk_lt (tk := xtk) (by omega)
    rw [if_pos k9] at b8
    by_cases hs : s = F
    · subst hs
      exact sm_Efuel (by omega) (by omega) rfl (fun Q h => yq_fuel rfl h) (sf_err PG B.2.2.2.2 L)
    · have ec : c' = j + 1 := by omega
      subst ec
      have hs : s < F := by omega
      have hyy : ∀ i, i < hp → upd yck hp 4 i = yck i ∧ upd yca hp (nI (it_f (sk_f (tk_K xtk n) n) j (q + 3) + 2)) i = yca i ∧ upd ycb hp (hb_e e01 h0 (j + 1)) i = ycb i ∧ upd ycc hp 0 i = ycc i := fun i hi => ⟨pk_un (by omega), pk_un (by omega), pk_un (by omega), pk_un (by omega)⟩
      have hxx : ∀ i, i < vc → upd xvk vc 4 i = xvk i ∧ upd xvf vc (nI (it_f (sk_f (tk_K xtk n) n) j (q + 3) + 2)) i = xvf i ∧ upd xvs vc (hb_e e00 c0 (j + 1)) i = xvs i := fun i hi => ⟨pk_un (by omega), pk_un (by omega), pk_un (by omega)⟩
      have hA : xp_A (tk_K xtk n) (sk_f (tk_K xtk n) n) n q (it_f (sk_f (tk_K xtk n) n) j (q + 3) + 2) (-1) := by
        refine ⟨b2, b4, Or.inr (Or.inr (Or.inl ⟨Or.inr k9, by omega, by omega, Or.inl ⟨?_, rfl⟩⟩))⟩
        rw [← b6]; exact lc.2
      have B1 : hb_B (tk_K xtk n) xtv (xr_c n xro) xsc n (fun a b => VR a b ∨ (a = vc ∧ b = hp)) g nm (vc + 1) (c0 + (j + 1)) (hp + 1) c0 (upd xvk vc 4) (upd xvf vc (nI (it_f (sk_f (tk_K xtk n) n) j (q + 3) + 2))) (upd xvs vc (hb_e e00 c0 (j + 1))) xcv xco (upd yck hp 4) (upd yca hp (nI (it_f (sk_f (tk_K xtk n) n) j (q + 3) + 2))) (upd ycb hp (hb_e e01 h0 (j + 1))) (upd ycc hp 0) := by
        refine hb_add (by omega) (by omega) (fun a b z => Or.inl z) hxx hyy (fun _ _ => ⟨rfl, rfl⟩) (fun a b z => ?_) B
        rcases z with z | ⟨z1, z2⟩
        · exact Or.inl z
        · refine Or.inr ?_
          rw [z1, z2]
          refine ⟨by omega, by omega, Or.inr (Or.inr (Or.inr ⟨pk_us, pk_us, _, b2, b3, b11, b12, pk_us, pk_us, ?_⟩))⟩
          rw [pk_us, pk_us, b8]; exact hE
      have hO1 : op_R (fun a b => VR a b ∨ (a = vc ∧ b = hp)) (upd xop (oc + j) (nI vc)) (upd yvs (oc + j) (nI hp)) (oc + j + 1) := op_s (fun a b z => Or.inl z) (fun i hi => pk_un (by omega)) pk_us (Or.inr ⟨rfl, rfl⟩) O
      have hcl : ∀ i, i < j + 1 → upd yca hp (nI (it_f (sk_f (tk_K xtk n) n) j (q + 3) + 2)) (h0 + i) = xtv (it_f (sk_f (tk_K xtk n) n) i (q + 3) + 1) ∧ upd ycc hp 0 (h0 + i) = hb_e e01 h0 i := fun i hi => by
        have w := hC i hi
        exact ⟨((hyy (h0 + i) (by omega)).2.1).trans w.2.2.1, ((hyy (h0 + i) (by omega)).2.2.2).trans w.2.2.2⟩
      -- the filled cells, as functions
      let cvF : Nat → Int32 := fun z => if c0 ≤ z ∧ z < c0 + (j + 1) then upd xop (oc + j) (nI vc) (oc + (z - c0)) else xcv z
      let cbF : Nat → Int32 := fun z => if h0 ≤ z ∧ z < h0 + (j + 1) then upd yvs (oc + j) (nI hp) (oc + (z - h0)) else upd ycb hp (hb_e e01 h0 (j + 1)) z
      have cvE : ∀ cv' : Nat → Int32, (∀ i, i < j + 1 → cv' (c0 + i) = upd xop (oc + j) (nI vc) (oc + i)) → (∀ z, (∀ i, i < j + 1 → z ≠ c0 + i) → cv' z = xcv z) → cv' = cvF := fun cv' s1 s2 => by
        funext z
        by_cases w : c0 ≤ z ∧ z < c0 + (j + 1)
        · have := s1 (z - c0) (by omega)
          rw [show c0 + (z - c0) = z from by omega] at this
          rw [this]; exact (if_pos w).symm
        · rw [s2 z (fun i hi e => w (by omega))]; exact (if_neg w).symm
      have cbE : ∀ cb' : Nat → Int32, (∀ i, i < j + 1 → cb' (h0 + i) = upd yvs (oc + j) (nI hp) (oc + i)) → (∀ z, (∀ i, i < j + 1 → z ≠ h0 + i) → cb' z = upd ycb hp (hb_e e01 h0 (j + 1)) z) → cb' = cbF := fun cb' s1 s2 => by
        funext z
        by_cases w : h0 ≤ z ∧ z < h0 + (j + 1)
        · have := s1 (z - h0) (by omega)
          rw [show h0 + (z - h0) = z from by omega] at this
          rw [this]; exact (if_pos w).symm
        · rw [s2 z (fun i hi e => w (by omega))]; exact (if_neg w).symm
      have cvI : ∀ i, i < j + 1 → cvF (c0 + i) = upd xop (oc + j) (nI vc) (oc + i) := fun i hi => (if_pos (show c0 ≤ c0 + i ∧ c0 + i < c0 + (j + 1) by omega)).trans (by rw [show c0 + i - c0 = i from by omega])
      have cbI : ∀ i, i < j + 1 → cbF (h0 + i) = upd yvs (oc + j) (nI hp) (oc + i) := fun i hi => (if_pos (show h0 ≤ h0 + i ∧ h0 + i < h0 + (j + 1) by omega)).trans (by rw [show h0 + i - h0 = i from by omega])
      have B2 : hb_B (tk_K xtk n) xtv (xr_c n xro) xsc n (fun a b => VR a b ∨ (a = vc ∧ b = hp)) g nm (vc + 1) (c0 + (j + 1)) (hp + 1) (c0 + (j + 1)) (upd xvk vc 4) (upd xvf vc (nI (it_f (sk_f (tk_K xtk n) n) j (q + 3) + 2))) (upd xvs vc (hb_e e00 c0 (j + 1))) cvF xco (upd yck hp 4) (upd yca hp (nI (it_f (sk_f (tk_K xtk n) n) j (q + 3) + 2))) cbF (upd ycc hp 0) := by
        refine hb_fills B1 (fun z hz => if_neg (by omega)) (fun z hz => if_neg (fun w => ?_)) (fun z z1 z2 => ?_)
        · have := (hC (z - h0) (by omega)).1
          refine hz (c0 + (z - h0)) (by omega) (by omega) ?_
          rw [this]; omega
        · have w := (hC (z - c0) (by omega)).1
          rw [show c0 + (z - c0) = z from by omega] at w
          obtain ⟨a, b, o1, o2, o3⟩ := hO1 (oc + (z - c0)) (by omega)
          refine ⟨a, b, ?_, ?_, o3⟩
          · have := cvI (z - c0) (by omega)
            rw [show c0 + (z - c0) = z from by omega] at this
            exact this.trans o1
          · rw [w]
            exact (cbI (z - c0) (by omega)).trans o2
      refine sm_ER (u1 := (xdl, nI n, 1, nI (vc + 1), nI (c0 + (j + 1)), nI (fc + 1), nI (oc + j), 1, nI vc, nI (it_f (sk_f (tk_K xtk n) n) j (q + 3) + 2), hb_e e00 c0 (j + 1), nI F, xac, -1, nI (s + 1), xmd, -1, -1, xtk, xtv, xaf, xro, xsc, xho, upd xvk vc 4, upd xvf vc (nI (it_f (sk_f (tk_K xtk n) n) j (q + 3) + 2)), upd xvs vc (hb_e e00 c0 (j + 1)), xcv, xco, xff, xfp, xfe, xfb, xop)) (v1 := (xdl, nI n, 1, ygs, ypo, nI (hp + 1), nI (y + 1), nI (oc + j + 1), nI F, nI (s + 1), xmd, xac, yst, yrt, ycu, 0, xtk, xtv, yus, ygk, yga, ygb, upd yck hp 4, upd yca hp (nI (it_f (sk_f (tk_K xtk n) n) j (q + 3) + 2)), upd ycb hp (hb_e e01 h0 (j + 1)), upd ycc hp 0, yfp, yfe, yfS, yfn, yfb, upd yvs (oc + j) (nI hp), yds, 50000, 50000, 50000, 50000)) (by omega) (fun Q h => xr_form H b2 b11 hs (by omega) (xr_lam H b13 b12 (by omega) h)) (fun Q h => yq_lam H b2 b11 b12 hs (by omega) (by omega) (by omega) h) ?_
      refine sm_RE (y := y) (u1 := (xdl, nI n, 1, nI (vc + 1), nI (c0 + (j + 1)), nI fc, nI oc, 0, nI vc, nI (sk_f (tk_K xtk n) n (q + 2)), hb_e e00 c0 (j + 1), nI F, xac, -1, nI (s + 1), xmd, -1, -1, xtk, xtv, xaf, xro, xsc, xho, upd xvk vc 4, upd xvf vc (nI (it_f (sk_f (tk_K xtk n) n) j (q + 3) + 2)), upd xvs vc (hb_e e00 c0 (j + 1)), cvF, xco, xff, upd xfp fc (-1), xfe, xfb, upd xop (oc + j) (nI vc))) (v2 := (xdl, nI n, 1, ygs, ypo, nI (hp + 1), nI (y + 1), nI oc, nI F, nI (s + 1), xmd, xac, yst, yrt, ycu, 0, xtk, xtv, yus, ygk, yga, ygb, upd yck hp 4, upd yca hp (nI (it_f (sk_f (tk_K xtk n) n) j (q + 3) + 2)), cbF, upd ycc hp 0, yfp, yfe, upd yfS y 2, yfn, yfb, upd yvs (oc + j) (nI hp), yds, 50000, 50000, 50000, 50000)) (q' := nI (it_f (sk_f (tk_K xtk n) n) (j + 1) (q + 3) + 1)) (e' := yfe y) (by omega) (by omega) (by omega) (fun Q h => xr_last H PG.2.1 (p := it_f (sk_f (tk_K xtk n) n) j (q + 3) + 2) (by omega) (by omega) hq1 x1 x2 hA (xF_letrec (xop := upd xop (oc + j) (nI vc)) (xfp := upd xfp fc (-1)) (k := j + 1) H PG.2.1 (by omega) (by omega) (by omega) x1 x4 x3 (fun i hi => (hC i hi).2.1) k9 h2 (by omega) (fun cv' s1 s2 => by rw [cvE cv' s1 s2]; exact h))) (fun Q h => yF_dLr H (by omega) y1 hq k9 (yR_b (h0 := h0) (k := j + 1) H (by omega) y3 y1 y5 c4 lc y4 (fun i hi => by
        obtain ⟨a1, a2, _⟩ := st i hi
        exact ⟨a1, by omega⟩) (by omega) (by omega) (fun i hi => ⟨j - i, by omega, ?_⟩) (fun cb' s1 s2 => by rw [cbE cb' s1 s2]; exact h))) ?_
      · have w := yh_chain (ca := upd yca hp (nI (it_f (sk_f (tk_K xtk n) n) j (q + 3) + 2))) (cC := upd ycc hp 0) (e0 := e01) (h0 := h0) (i := i) (x := xtv (it_f (sk_f (tk_K xtk n) n) i (q + 3) + 1)) (j - i) (by omega) (hcl i hi).1 (fun z z1 z2 => by rw [(hcl z (by omega)).1]; exact (dist i z z1 (by omega)).symm) (fun z hz => (hcl z (by omega)).2)
        rw [show i + 1 + (j - i) = j + 1 from by omega] at w
        rw [y2]; exact w
      · rw [← e2, y2]
        have IH := IHE (900 - (t + 1 + 1)) (by omega)
        refine IH (fun a b => VR a b ∨ (a = vc ∧ b = hp)) g nm (vc + 1) (c0 + (j + 1)) (hp + 1) fc oc (y + 1) u (s + 1) (t + 1 + 1) (it + 1) (sk_f (tk_K xtk n) n (q + 2)) _ _ _ _ _ _ _ _ _ _  _ _ _ _ _ _ _ _ _ _ _ _ _ _ _ _ _ _ _ _ _ _ _ _ _  (by omega) ⟨B2, op_l (by omega) hO1, Or.inl ⟨⟨y5, q, hq, y1, Or.inr (Or.inr ⟨k9, pk_us⟩)⟩, fr_k (Nat.le_refl _) (fun _ _ => ⟨rfl, rfl⟩) (fun i hi => ⟨rfl, pk_un (by omega), rfl, rfl⟩) (fun i hi => ⟨rfl, rfl, pk_un (by omega), rfl, rfl⟩) R⟩, by unfold sr_N; omega, lt_Lk L (fun i hi => ⟨hxx i (by omega), hxx (64 + i) (by omega)⟩)⟩ h3 r3 (by rw [sc3]; exact hE)
  | succ m ih =>
    intro j VR vc hp s t it xan xac xmd ygs ypo yst yrt ycu xvk xvf xvs xcv xco xff xfp xfe xfb xop yus ygk yga ygb yck yca ycb ycc yfp yfe yfS yfn yfb yvs yds ej hd J
    obtain ⟨B, O, R, ⟨x1, x2, x3, x4⟩, ⟨y1, y2, y3, y4, y5⟩, hE, hC, hh, N, L⟩ := J
    obtain ⟨b1, b2, b3, b4, b5, b6, b7, b8, b9, b10⟩ := st j (by omega)
    obtain ⟨b11, b12⟩ := b9 k9
    have b13 : it_f (sk_f (tk_K xtk n) n) j (q + 3) + 3 < n := tk_lt (tk := xtk) (by omega)
    rw [if_pos k9] at b8
    by_cases hs : s = F
    · subst hs
      exact sm_Efuel (by omega) (by omega) rfl (fun Q h => yq_fuel rfl h) (sf_err PG B.2.2.2.2 L)
    · have hs : s < F := by omega
      obtain ⟨d1, d2, d3, d4, d5, d6, d7, d8, d9, d10⟩ := st (j + 1) (by omega)
      have hyy : ∀ i, i < hp → upd yck hp 4 i = yck i ∧ upd yca hp (nI (it_f (sk_f (tk_K xtk n) n) j (q + 3) + 2)) i = yca i ∧ upd ycb hp (hb_e e01 h0 c') i = ycb i ∧ upd ycc hp 0 i = ycc i := fun i hi => ⟨pk_un (by omega), pk_un (by omega), pk_un (by omega), pk_un (by omega)⟩
      have hxx : ∀ i, i < vc → upd xvk vc 4 i = xvk i ∧ upd xvf vc (nI (it_f (sk_f (tk_K xtk n) n) j (q + 3) + 2)) i = xvf i ∧ upd xvs vc (hb_e e00 c0 c') i = xvs i := fun i hi => ⟨pk_un (by omega), pk_un (by omega), pk_un (by omega)⟩
      have hA : xp_A (tk_K xtk n) (sk_f (tk_K xtk n) n) n q (it_f (sk_f (tk_K xtk n) n) j (q + 3) + 2) (nI (it_f (sk_f (tk_K xtk n) n) (j + 1) (q + 3) + 2)) := by
        refine ⟨b2, b4, Or.inr (Or.inr (Or.inl ⟨Or.inr k9, by omega, by omega, Or.inr ⟨?_, ?_⟩⟩))⟩
        · rw [← b6]; omega
        · rw [b6]
      have B1 : hb_B (tk_K xtk n) xtv (xr_c n xro) xsc n (fun a b => VR a b ∨ (a = vc ∧ b = hp)) g nm (vc + 1) (c0 + c') (hp + 1) c0 (upd xvk vc 4) (upd xvf vc (nI (it_f (sk_f (tk_K xtk n) n) j (q + 3) + 2))) (upd xvs vc (hb_e e00 c0 c')) xcv xco (upd yck hp 4) (upd yca hp (nI (it_f (sk_f (tk_K xtk n) n) j (q + 3) + 2))) (upd ycb hp (hb_e e01 h0 c')) (upd ycc hp 0) := by
        refine hb_add (by omega) (by omega) (fun a b z => Or.inl z) hxx hyy (fun _ _ => ⟨rfl, rfl⟩) (fun a b z => ?_) B
        rcases z with z | ⟨z1, z2⟩
        · exact Or.inl z
        · refine Or.inr ?_
          rw [z1, z2]
          refine ⟨by omega, by omega, Or.inr (Or.inr (Or.inr ⟨pk_us, pk_us, _, b2, b3, b11, b12, pk_us, pk_us, ?_⟩))⟩
          rw [pk_us, pk_us, b8]; exact hE
      have hO1 : op_R (fun a b => VR a b ∨ (a = vc ∧ b = hp)) (upd xop (oc + j) (nI vc)) (upd yvs (oc + j) (nI hp)) (oc + j + 1) := op_s (fun a b z => Or.inl z) (fun i hi => pk_un (by omega)) pk_us (Or.inr ⟨rfl, rfl⟩) O
      refine sm_ER (u1 := (xdl, nI n, 1, nI (vc + 1), nI (c0 + c'), nI (fc + 1), nI (oc + j), 1, nI vc, nI (it_f (sk_f (tk_K xtk n) n) j (q + 3) + 2), hb_e e00 c0 c', nI F, xac, -1, nI (s + 1), xmd, -1, -1, xtk, xtv, xaf, xro, xsc, xho, upd xvk vc 4, upd xvf vc (nI (it_f (sk_f (tk_K xtk n) n) j (q + 3) + 2)), upd xvs vc (hb_e e00 c0 c'), xcv, xco, xff, xfp, xfe, xfb, xop)) (v1 := (xdl, nI n, 1, ygs, ypo, nI (hp + 1), nI (y + 1), nI (oc + j + 1), nI F, nI (s + 1), xmd, xac, yst, yrt, ycu, 0, xtk, xtv, yus, ygk, yga, ygb, upd yck hp 4, upd yca hp (nI (it_f (sk_f (tk_K xtk n) n) j (q + 3) + 2)), upd ycb hp (hb_e e01 h0 c'), upd ycc hp 0, yfp, yfe, yfS, yfn, yfb, upd yvs (oc + j) (nI hp), yds, 50000, 50000, 50000, 50000)) (by omega) (fun Q h => xr_form H b2 b11 hs (by omega) (xr_lam H b13 b12 (by omega) h)) (fun Q h => yq_lam H b2 b11 b12 hs (by omega) (by omega) (by omega) h) ?_
      refine sm_RE (y := y) (v2 := (xdl, nI n, 1, ygs, ypo, nI (hp + 1), nI (y + 1), nI (oc + j + 1), nI F, nI (s + 1), xmd, xac, yst, yrt, ycu, 0, xtk, xtv, yus, ygk, yga, ygb, upd yck hp 4, upd yca hp (nI (it_f (sk_f (tk_K xtk n) n) j (q + 3) + 2)), upd ycb hp (hb_e e01 h0 c'), upd ycc hp 0, yfp, yfe, yfS, upd yfn y (nI (sk_f (tk_K xtk n) n (it_f (sk_f (tk_K xtk n) n) (j + 1) (q + 3)))), yfb, upd yvs (oc + j) (nI hp), yds, 50000, 50000, 50000, 50000)) (q' := nI (it_f (sk_f (tk_K xtk n) n) (j + 1) (q + 3) + 2)) (e' := yfe y) (by omega) (by omega) (by omega) (fun Q h => xr_more H PG.2.1 (p := it_f (sk_f (tk_K xtk n) n) j (q + 3) + 2) (by omega) (by omega) hq1 x1 x2 (by omega) hA h) (fun Q h => yF_dLr H (by omega) y1 hq k9 (yR_n H (by omega) y3 y4 (by omega) d1 h)) ?_
      rw [y2, x3]
      refine ih (j + 1) (fun a b => VR a b ∨ (a = vc ∧ b = hp)) (vc + 1) (hp + 1) (s + 1) (t + 1 + 1) (it + 1) _ _ _ _ _ _ _ _  _ _ _ _ _ _ _ _ _ _ _ _ _ _ _ _ _ _ _ _ _ _ _ _ _  (by omega) (by omega) ⟨B1, hO1, fr_k (Nat.le_refl _) (fun _ _ => ⟨rfl, rfl⟩) (fun i hi => ⟨rfl, pk_un (by omega), rfl, rfl⟩) (fun i hi => ⟨rfl, rfl, rfl, pk_un (by omega), rfl⟩) R, ⟨x1, pk_us, x3, x4⟩, ⟨y1, y2, y3, ?_, y5⟩, hE, fun i hi => ?_, by omega, by omega, lt_Lk L (fun i hi => ⟨hxx i (by omega), hxx (64 + i) (by omega)⟩)⟩
      · rw [pk_us, ← it_s (sk_f (tk_K xtk n) n) (j + 1) (q + 3)]
      · have w := hC i hi
        exact ⟨w.1, w.2.1, ((hyy (h0 + i) (by omega)).2.1).trans w.2.2.1, ((hyy (h0 + i) (by omega)).2.2.2).trans w.2.2.2⟩
end
section
def sy_fs (v : SY) : Int32 := match v with | (yli, yn, ypr, ygs, ypo, yhp, yfs, yvp, yfu, ysp, ymd, yac, yst, yrt, ycu, yhv, ytk, ytv, yus, ygk, yga, ygb, yck, yca, ycb, ycc, yfp, yfe, yfS, yfn, yfb, yvs, yds, ynk, yna, ynb, ync) => yfs
theorem yr_turn2 {post : Int32 → SY → Prop} {f it y : Nat} {v : SY} (hv : sy_fs v = nI (y + 1)) (ht : it < 100000) (hy : y < 512) (h : ∀ Q : Int32 → SY → Prop, (∀ r u', ry_L post f r (nI (it + 1)) u' → Q r u') → wpY_stepFrame Q v) : ry_L post (f + 1) 0 (nI it) v := by
  obtain ⟨yli, yn, ypr, ygs, ypo, yhp, yfs, yvp, yfu, ysp, ymd, yac, yst, yrt, ycu, yhv, ytk, ytv, yus, ygk, yga, ygb, yck, yca, ycb, ycc, yfp, yfe, yfS, yfn, yfb, yvs, yds, ynk, yna, ynb, ync⟩ := v
  have e : yfs = nI (y + 1) := hv
  subst e
  exact yr_turn ht hy h
section
variable {xdl xtn xpp xvc xcc xfc xoc xag xan xex xen xfl xac xst xsp xmd xrt xcu : Int32} {xtk xtv xaf xro xsc xho xvk xvf xvs xcv xco xff xfp xfe xfb xop : Nat → Int32} {t it : Nat}
theorem sm_EEE {u1 : SX} {v0 v1 v1' v2 : SY} {q e q' e' : Int32} {y : Nat} (ht : t < 990) (hit : it < 1900) (hy : y < 512) (hv1 : sy_fs v1 = nI (y + 1)) (hv2 : sy_fs v1' = nI (y + 1)) (stepX : ∀ Q : SX → Prop, Q u1 → wpX_startExpr Q (xdl, xtn, xpp, xvc, xcc, xfc, xoc, 0, xan, xex, xen, xfl, xac, -1, xsp, xmd, xrt, xcu, xtk, xtv, xaf, xro, xsc, xho, xvk, xvf, xvs, xcv, xco, xff, xfp, xfe, xfb, xop)) (stepY : ∀ Q : Int32 → SY → Prop, Q 0 v1 → wpY_req Q v0 q e) (stepY2 : ∀ Q : Int32 → SY → Prop, Q 0 v1' → wpY_stepFrame Q v1) (stepY3 : ∀ Q : Int32 → SY → Prop, wpY_req Q v2 q' e' → wpY_stepFrame Q v1') (N : sm_E u1 v2 (t + 1) (it + 1 + 1) q' e') : sm_E (xdl, xtn, xpp, xvc, xcc, xfc, xoc, 0, xan, xex, xen, xfl, xac, -1, xsp, xmd, xrt, xcu, xtk, xtv, xaf, xro, xsc, xho, xvk, xvf, xvs, xcv, xco, xff, xfp, xfe, xfb, xop) v0 t it q e := by
  obtain ⟨r, u', v', F, NX, NY⟩ := N
  refine ⟨r, u', v', F, fun post fx hx hp => ?_, fun post fy Q hfy hQ hp => stepY Q (hQ 0 _ ?_)⟩
  · obtain ⟨f, rfl⟩ : ∃ f, fx = f + 1 := ⟨fx - 1, by omega⟩
    exact xr_E (by omega) (fun Q hQ => stepX Q (hQ u1 (NX post f (by omega) hp)))
  · obtain ⟨f, rfl⟩ : ∃ f, fy = f + 1 + 1 := ⟨fy - 2, by omega⟩
    exact yr_turn2 hv1 (by omega) hy (fun Q hQ => stepY2 Q (hQ 0 v1' (yr_turn2 hv2 (by omega) hy (fun Q' hQ' => stepY3 Q' (NY post f Q' (by omega) hQ' hp)))))
end
section
variable {xdl xtn xpp xvc xcc xfc xoc xag xan xex xen xfl xac xst xsp xmd xrt xcu : Int32} {xtk xtv xaf xro xsc xho xvk xvf xvs xcv xco xff xfp xfe xfb xop : Nat → Int32} {yli yn ypr ygs ypo yhp yfs yvp yfu ysp ymd yac yst yrt ycu yhv : Int32} {ytk ytv yus ygk yga ygb yck yca ycb ycc yfp yfe yfS yfn yfb yvs yds : Nat → Int32} {ynk yna ynb ync : Nat} {n : Nat} {par : Nat → Nat} {VR : Nat → Nat → Prop} {g nm : Nat → Nat} {vc cc hp fc oc y u s t it F d : Nat}
theorem se_letrec (PG : pg_F xtk xtv xaf xro xsc xho n par) (I : (sr_I (tk_K xtk n) xtv (sk_f (tk_K xtk n) n) (xr_c n xro) xsc n VR g nm vc cc hp fc oc y u s t it 0 F xvk xvf xvs xcv xco xff xfp xfe xfb xop yck yca ycb ycc yfp yfe yfS yfn yfb yvs)) (hs : s < F) {q : Nat} {e : Int32} (hq : q < n) (rq : xr_c n xro q = 1) (k1 : tk_K xtk n q = 1) (k9 : tk_K xtk n (q + 1) = 9) (hE : hb_E g nm cc xen e (xsc q)) (ht : t + d = 900) (IH : ∀ d', d' < d → sm_ET xdl xtk xtv xaf xro xsc xho n F d') : sm_E (xdl, nI n, 1, nI vc, nI cc, nI fc, nI oc, 0, xan, nI q, xen, nI F, xac, -1, nI s, xmd, -1, -1, xtk, xtv, xaf, xro, xsc, xho, xvk, xvf, xvs, xcv, xco, xff, xfp, xfe, xfb, xop) (xdl, nI n, 1, ygs, ypo, nI hp, nI y, nI oc, nI F, nI s, xmd, xac, yst, yrt, ycu, 0, xtk, xtv, yus, ygk, yga, ygb, yck, yca, ycb, ycc, yfp, yfe, yfS, yfn, yfb, yvs, yds, 50000, 50000, 50000, 50000) t it (nI q) e := by
  obtain ⟨B, O, R, N, L⟩ := I
  have H := PG.1
  have H1 := H.1
  unfold sr_N at N
  have hn0 : ∀ i, n ≤ i → tk_K xtk n i = 0 := fun i => tk_0
  have hBp : ∀ i, i < n → tk_K xtk n i ≠ 2 → dp_I (tk_K xtk n) i (sk_f (tk_K xtk n) n i) := fun i hi hk => (PG.2.1 i hi hk).1
  have hq1 : q + 1 < n := tk_lt (tk := xtk) (by omega)
  obtain ⟨c, c1, c4, lc, st, dist, h2, k2, e2, h3, r3, sc3⟩ := st_let hn0 hBp PG.2.2.1 PG.2.2.2.1 hq rq k1 (Or.inr k9)
  obtain ⟨b1, b2, b3, b4, b5, b6, b7, b8, b9, b10⟩ := st 0 (by omega)
  change tk_K xtk n (q + 3) = 1 at b1
  change q + 3 + 2 < n at b2
  have hk1 : ∀ i, i < c → tk_K xtk n (it_f (sk_f (tk_K xtk n) n) i (q + 3)) = 1 ∧ it_f (sk_f (tk_K xtk n) n) i (q + 3) + 1 < n := fun i hi => by
    obtain ⟨a1, a2, _⟩ := st i hi
    exact ⟨a1, by omega⟩
  have pe : upd yfe y e y = e := pk_us
  have B' : hb_B (tk_K xtk n) xtv (xr_c n xro) xsc n VR g nm vc cc hp cc xvk xvf xvs (xc_v xcv (fun _ => -1) cc c) (xc_v xco (hb_e xen cc) cc c) (xc_v yck (fun _ => 5) hp c) (xc_v yca (fun i => xtv (it_f (sk_f (tk_K xtk n) n) i (q + 3) + 1)) hp c) (xc_v ycb (fun _ => 0) hp c) (xc_v ycc (hb_e e hp) hp c) :=
    hb_add (Nat.le_refl _) (Nat.le_refl _) (fun _ _ z => z) (fun _ _ => ⟨rfl, rfl, rfl⟩) (fun i hi => ⟨xc_vn hi, xc_vn hi, xc_vn hi, xc_vn hi⟩) (fun i hi => ⟨xc_vn hi, xc_vn hi⟩) (fun a b z => Or.inl z) B
  obtain ⟨g', nm', a1, a2, a3, a4, _⟩ := hb_cells (fil := False) (k := c) (t := fun i => it_f (sk_f (tk_K xtk n) n) i (q + 3) + 1) hE (fun j hj => by
    obtain ⟨z1, z2, _, _, _, _, _, _, _, z10⟩ := st j hj
    exact ⟨by omega, z10⟩) (fun j hj => xc_vs hj) (fun j hj => ⟨xc_vs hj, xc_vs hj, xc_vs hj⟩) (fun z => False.elim z) B'
  refine sm_EEE (y := y) (u1 := (xdl, nI n, 1, nI vc, nI (cc + c), nI (fc + 1), nI oc, 0, xan, nI (q + 5), hb_e xen cc c, nI F, xac, -1, nI (s + 1), xmd, -1, -1, xtk, xtv, xaf, xro, xsc, xho, xvk, xvf, xvs, xc_v xcv (fun _ => -1) cc c, xc_v xco (hb_e xen cc) cc c, upd xff fc (nI q), upd xfp fc (nI (q + 5)), upd xfe fc (hb_e xen cc c), upd xfb fc (nI oc), xop))
    (v1 := (xdl, nI n, 1, ygs, ypo, nI hp, nI (y + 1), nI oc, nI F, nI (s + 1), xmd, xac, yst, yrt, ycu, 0, xtk, xtv, yus, ygk, yga, ygb, yck, yca, ycb, ycc, upd yfp y (nI q), upd yfe y e, upd yfS y 0, upd yfn y (nI (q + 3)), upd yfb y (nI oc), yvs, yds, 50000, 50000, 50000, 50000))
    (v1' := (xdl, nI n, 1, ygs, ypo, nI (hp + c), nI (y + 1), nI oc, nI F, nI (s + 1), xmd, xac, yst, yrt, ycu, 0, xtk, xtv, yus, ygk, yga, ygb, xc_v yck (fun _ => 5) hp c, xc_v yca (fun i => xtv (it_f (sk_f (tk_K xtk n) n) i (q + 3) + 1)) hp c, xc_v ycb (fun _ => 0) hp c, xc_v ycc (hb_e e hp) hp c, upd yfp y (nI q), upd (upd yfe y e) y (hb_e e hp c), upd (upd yfS y 0) y 1, upd yfn y (nI (q + 3)), upd yfb y (nI oc), yvs, yds, 50000, 50000, 50000, 50000))
    (v2 := (xdl, nI n, 1, ygs, ypo, nI (hp + c), nI (y + 1), nI oc, nI F, nI (s + 1), xmd, xac, yst, yrt, ycu, 0, xtk, xtv, yus, ygk, yga, ygb, xc_v yck (fun _ => 5) hp c, xc_v yca (fun i => xtv (it_f (sk_f (tk_K xtk n) n) i (q + 3) + 1)) hp c, xc_v ycb (fun _ => 0) hp c, xc_v ycc (hb_e e hp) hp c, upd yfp y (nI q), upd (upd yfe y e) y (hb_e e hp c), upd (upd yfS y 0) y 1, upd (upd yfn y (nI (q + 3))) y (nI (sk_f (tk_K xtk n) n (q + 3))), upd yfb y (nI oc), yvs, yds, 50000, 50000, 50000, 50000)) (q' := nI (q + 3 + 2)) (e' := hb_e e hp c) (by omega) (by omega) (by omega) rfl rfl
    (fun Q h => xr_form H hq k1 hs (by omega) (xr_letrec H PG.2.1 hq1 k9 (by omega) (by omega) lc (fun cv' co' S => by obtain ⟨rfl, rfl⟩ := S; exact h)))
    (fun Q h => yq_open H (q + 3) hq k1 (by omega) (by omega) hs (by omega) (by omega) (Or.inl ⟨Or.inr k9, rfl⟩) h)
    (fun Q h => yF_dLr H (by omega) pk_us hq k9 (yR_0 H (by omega) pk_us pk_us c4 lc hk1 (by omega) (fun ck' ca' cb' cC' S => by obtain ⟨rfl, rfl, rfl, rfl⟩ := S; rw [pe]; exact h)))
    (fun Q h => yF_dLr H (by omega) pk_us hq k9 (yR_n (p := q + 3) H (by omega) pk_us pk_us (by omega) b1 (by rw [pk_us]; exact h))) ?_
  refine sq_lam PG hq rq k1 k9 lc IH (c - 1) 0 VR vc (hp + c) (s + 1) (t + 1) (it + 1 + 1) _ _ _ _ _ _ _ _  _ _ _ _ _ _ _ _ _ _ _ _ _ _ _ _ _ _ _ _ _ _ _ _ _  (by omega) (by omega) ⟨a4, O, fr_k (by omega) a1 (fun i hi => ⟨pk_un (by omega), pk_un (by omega), pk_un (by omega), pk_un (by omega)⟩) (fun i hi => ⟨pk_un (by omega), (pk_un (by omega)).trans (pk_un (by omega)), (pk_un (by omega)).trans (pk_un (by omega)), (pk_un (by omega)).trans (pk_un (by omega)), pk_un (by omega)⟩) R, ⟨pk_us, pk_us, pk_us, pk_us⟩, ⟨pk_us, pk_us, pk_us, pk_us, pk_us⟩, a3, fun i hi => ⟨(a2 i hi).1, xc_vs hi, xc_vs hi, xc_vs hi⟩, Nat.le_refl _, by omega, L⟩
end
theorem sm_main {xdl : Int32} {xtk xtv xaf xro xsc xho : Nat → Int32} {n F : Nat} {par : Nat → Nat} (PG : pg_F xtk xtv xaf xro xsc xho n par) : ∀ D d, d < D → sm_ET xdl xtk xtv xaf xro xsc xho n F d ∧ sm_RT xdl xtk xtv xaf xro xsc xho n F d := by
  intro D
  induction D with
  | zero => intro d hd; omega
  | succ D ih =>
    intro d hd
    have IHE : ∀ d', d' < d → sm_ET xdl xtk xtv xaf xro xsc xho n F d' := fun d' h => (ih d' (by omega)).1
    constructor
    · intro VR g nm vc cc hp fc oc y u s t it q xan xen e xac xmd ygs ypo yst yrt ycu xvk xvf xvs xcv xco xff xfp xfe xfb xop yus ygk yga ygb yck yca ycb ycc yfp yfe yfS yfn yfb yvs yds ht I hq rq hE
      have N := I.2.2.2.1
      unfold sr_N at N
      obtain ⟨d', rfl⟩ : ∃ d', d = d' + 1 := ⟨d - 1, by omega⟩
      obtain ⟨hET, hRT⟩ := ih d' (by omega)
      have k20 := tk_20 PG.1 (q + 1)
      by_cases hs : s = F
      · exact se_fuel PG I (by omega) (by omega) hs
      · have hs : s < F := by omega
        have hS := (PG.2.2.1.2.1 q hq rq).1
        rcases hS with k3 | k4 | k5 | ⟨k1, hF⟩
        · exact se_num PG I hs hq k3 ht hRT
        · exact se_sym PG I hs hq rq k4 hE ht hRT
        · exact se_nil PG I hs hq k5 ht hRT
        · by_cases z6 : tk_K xtk n (q + 1) < 6
          · exact se_app PG I hs hq rq k1 z6 hE ht hET
          · by_cases z : tk_K xtk n (q + 1) = 6
            · exact se_quote PG I hs hq rq k1 z ht hRT
            · by_cases z7 : tk_K xtk n (q + 1) = 7
              · exact se_lam PG I hs hq rq k1 z7 hE ht hRT
              · by_cases z8 : tk_K xtk n (q + 1) = 8
                · exact se_let PG I hs hq rq k1 z8 hE ht hET
                · by_cases z9 : tk_K xtk n (q + 1) = 9
                  · exact se_letrec PG I hs hq rq k1 z9 hE ht IHE
                  · by_cases z10 : tk_K xtk n (q + 1) = 10
                    · exact se_if PG I hs hq rq k1 z10 hE ht hET
                    · exact se_op PG I hs hq rq k1 (by omega) hE ht hET
    · cases d with
      | zero =>
        intro VR g nm vc cc hp fc oc y u s t it a b xex xen xac xmd ygs ypo yst yrt ycu xvk xvf xvs xcv xco xff xfp xfe xfb xop yus ygk yga ygb yck yca ycb ycc yfp yfe yfS yfn yfb yvs yds ht I hv v
        have N := I.2.2.2.1
        unfold sr_N at N
        omega
      | succ d => exact sr_all PG (ih d (by omega)).1 (ih d (by omega)).2
end
section
/-! the owed statements -/
section
variable {xdl xtn xpp xvc xcc xfc xoc xag xan xex xen xfl xac xst xsp xmd xrt xcu : Int32} {xtk xtv xaf xro xsc xho xvk xvf xvs xcv xco xff xfp xfe xfb xop : Nat → Int32} {yli yn ypr ygs ypo yhp yfs yvp yfu ysp ymd yac yst yrt ycu yhv : Int32} {ytk ytv yus ygk yga ygb yck yca ycb ycc yfp yfe yfS yfn yfb yvs yds : Nat → Int32} {ynk yna ynb ync : Nat} {n : Nat}
theorem iv_mk (k : Nat) (H : tk_ok xtk n) (h0 : yck 0 = 2) (hp : xpp = 0 ∨ (xpp = 1 ∧ cp_P xtk xtv n xaf xro xsc xho xvk xvf xvs)) (hv : vl_R xtk xtv xro xsc n xpp yhv xrt xcu yrt ycu xvk xvf xvs xcv xco yck yca ycb ycc) : i_Rel k (xdl, nI n, xpp, xvc, xcc, xfc, xoc, xag, xan, xex, xen, xfl, xac, xst, xsp, xmd, xrt, xcu, xtk, xtv, xaf, xro, xsc, xho, xvk, xvf, xvs, xcv, xco, xff, xfp, xfe, xfb, xop) (xdl, nI n, xpp, ygs, ypo, yhp, yfs, yvp, yfu, xsp, xmd, yac, xst, yrt, ycu, yhv, xtk, xtv, yus, ygk, yga, ygb, yck, yca, ycb, ycc, yfp, yfe, yfS, yfn, yfb, yvs, yds, 50000, 50000, 50000, 50000) :=
  ⟨_, _, _, _, _, _, _, _, _, _, _, _, _, _, _, _, _,  _, _, _, _, _, _, _, _, _, _, _, _, _, _, _, _,  _, _, _, _, _, _, _, _, _, _,  _, _, _, _, _, _, _, _, _, _, _, _, _, _, _,  n, rfl, rfl, H, h0, hp, hv⟩
theorem iv_init (z : Int32) : wY_init_171 (fun v => i_Rel 1 (z, 0, 0, 128, 0, 0, 0, 0, (-1), 0, (-1), 1, 0, (-1), 0, 0, (-1), (-1), (fun _ => 0), (fun _ => 0), (fun _ => 0), (fun _ => 0), (fun _ => 0), (fun _ => 0), (fun _ => 0), (fun _ => 0), (fun _ => 0), (fun _ => 0), (fun _ => 0), (fun _ => 0), (fun _ => 0), (fun _ => 0), (fun _ => 0), (fun _ => 0)) v) z 0 0 0 0 0 0 0 0 0 0 0 0 0 0 0 0 (fun _ => 0) (fun _ => 0) (fun _ => 0) (fun _ => 0) (fun _ => 0) (fun _ => 0) (fun _ => 0) (fun _ => 0) (fun _ => 0) (fun _ => 0) (fun _ => 0) (fun _ => 0) (fun _ => 0) (fun _ => 0) (fun _ => 0) (fun _ => 0) (fun _ => 0) 50000 50000 50000 50000 := by
  refine ⟨vp_in_nI (n := 0) (by omega) (by omega), fun ck e => ?_⟩
  refine iv_mk (n := 0) 1 ⟨by omega, fun i hi => by omega⟩ (by rw [e]; exact pk_us) (Or.inl rfl) (Or.inl ⟨rfl, rfl, rfl⟩)
end
theorem iv_50 : (50000 : Int32).toNatClampNeg = 50000 := nI_clamp (n := 50000) (by omega)
theorem iv_Y {post : SY → Prop} {k0 z : Int32} (hz : (1 ≤ k0 ∧ k0 ≤ 32 ∧ z = k0) ∨ (1 ≤ k0 ∧ ¬ k0 ≤ 32 ∧ z = 32) ∨ (¬ 1 ≤ k0 ∧ z = 1)) (h : wY_init_171 post z 0 0 0 0 0 0 0 0 0 0 0 0 0 0 0 0 (fun _ => 0) (fun _ => 0) (fun _ => 0) (fun _ => 0) (fun _ => 0) (fun _ => 0) (fun _ => 0) (fun _ => 0) (fun _ => 0) (fun _ => 0) (fun _ => 0) (fun _ => 0) (fun _ => 0) (fun _ => 0) (fun _ => 0) (fun _ => 0) (fun _ => 0) 50000 50000 50000 50000) : wpY_init post k0 := by
  refine ⟨by decide, nm_r iv_50 ⟨Nat.le_refl _, by decide, nm_r iv_50 ⟨Nat.le_refl _, by decide, nm_r iv_50 ⟨Nat.le_refl _, by decide, nm_r iv_50 ⟨Nat.le_refl _, ?_⟩⟩⟩⟩⟩
  rcases hz with ⟨a, b, e⟩ | ⟨a, b, e⟩ | ⟨a, e⟩
  · subst e; exact br_t a (br_t b h)
  · subst e; exact br_t a (br_f b h)
  · subst e; exact br_f a h
theorem i_vc0 (k0 : Int32) : wpX_init (fun u => wpY_init (fun v => i_Rel 1 u v) k0) k0 := by
  unfold wpX_init wpX_clamp
  by_cases a : 1 ≤ k0
  · refine br_t a ?_
    by_cases b : k0 ≤ 32
    · exact br_t b (iv_Y (Or.inl ⟨a, b, rfl⟩) (iv_init k0))
    · exact br_f b (iv_Y (Or.inr (Or.inl ⟨a, b, rfl⟩)) (iv_init 32))
  · exact br_f a (iv_Y (Or.inr (Or.inr ⟨a, rfl⟩)) (iv_init 1))
theorem iv_el {k : Nat} {u : SX} {v : SY} (I : i_Rel k u v) {P : SX → SY → Prop} (h : ∀ (xdl xpp xvc xcc xfc xoc xag xan xex xen xfl xac xst xsp xmd xrt xcu : Int32) (xtk xtv xaf xro xsc xho xvk xvf xvs xcv xco xff xfp xfe xfb xop : Nat → Int32) (ygs ypo yhp yfs yvp yfu yac yrt ycu yhv : Int32) (yus ygk yga ygb yck yca ycb ycc yfp yfe yfS yfn yfb yvs yds : Nat → Int32) (n : Nat), i_Rel (k + 3) (xdl, nI n, xpp, xvc, xcc, xfc, xoc, xag, xan, xex, xen, xfl, xac, xst, xsp, xmd, xrt, xcu, xtk, xtv, xaf, xro, xsc, xho, xvk, xvf, xvs, xcv, xco, xff, xfp, xfe, xfb, xop) (xdl, nI n, xpp, ygs, ypo, yhp, yfs, yvp, yfu, xsp, xmd, yac, xst, yrt, ycu, yhv, xtk, xtv, yus, ygk, yga, ygb, yck, yca, ycb, ycc, yfp, yfe, yfS, yfn, yfb, yvs, yds, 50000, 50000, 50000, 50000) → tk_ok xtk n → yck 0 = 2 → (xpp = 0 ∨ (xpp = 1 ∧ cp_P xtk xtv n xaf xro xsc xho xvk xvf xvs)) → vl_R xtk xtv xro xsc n xpp yhv xrt xcu yrt ycu xvk xvf xvs xcv xco yck yca ycb ycc →
    P (xdl, nI n, xpp, xvc, xcc, xfc, xoc, xag, xan, xex, xen, xfl, xac, xst, xsp, xmd, xrt, xcu, xtk, xtv, xaf, xro, xsc, xho, xvk, xvf, xvs, xcv, xco, xff, xfp, xfe, xfb, xop) (xdl, nI n, xpp, ygs, ypo, yhp, yfs, yvp, yfu, xsp, xmd, yac, xst, yrt, ycu, yhv, xtk, xtv, yus, ygk, yga, ygb, yck, yca, ycb, ycc, yfp, yfe, yfS, yfn, yfb, yvs, yds, 50000, 50000, 50000, 50000)) : P u v := by
  obtain ⟨xdl, xpp, xvc, xcc, xfc, xoc, xag, xan, xex, xen, xfl, xac, xst, xsp, xmd, xrt, xcu, xtk, xtv, xaf, xro, xsc, xho, xvk, xvf, xvs, xcv, xco, xff, xfp, xfe, xfb, xop, ygs, ypo, yhp, yfs, yvp, yfu, yac, yrt, ycu, yhv, yus, ygk, yga, ygb, yck, yca, ycb, ycc, yfp, yfe, yfS, yfn, yfb, yvs, yds, n, rfl, rfl, H, h0, hp, hv⟩ := I
  exact h xdl xpp xvc xcc xfc xoc xag xan xex xen xfl xac xst xsp xmd xrt xcu xtk xtv xaf xro xsc xho xvk xvf xvs xcv xco xff xfp xfe xfb xop ygs ypo yhp yfs yvp yfu yac yrt ycu yhv yus ygk yga ygb yck yca ycb ycc yfp yfe yfS yfn yfb yvs yds n (iv_mk (k + 3) H h0 hp hv) H h0 hp hv
end
section
theorem i_vc_depthLimit {k : Nat} {u : SX} {v : SY} (I : i_Rel k u v) (hk : k + 3 ≤ 1537) : wpX_depthLimit (fun r => wpY_depthLimit (fun r' => r' = r ∧ i_Rel (k + 3) u v) v) u := by
  refine iv_el I (P := fun u v => wpX_depthLimit (fun r => wpY_depthLimit (fun r' => r' = r ∧ i_Rel (k + 3) u v) v) u) ?_
  intro xdl xpp xvc xcc xfc xoc xag xan xex xen xfl xac xst xsp xmd xrt xcu xtk xtv xaf xro xsc xho xvk xvf xvs xcv xco xff xfp xfe xfb xop ygs ypo yhp yfs yvp yfu yac yrt ycu yhv yus ygk yga ygb yck yca ycb ycc yfp yfe yfS yfn yfb yvs yds n I' H h0 hp hv
  exact ⟨rfl, I'⟩
theorem i_vc_clear {k : Nat} {u : SX} {v : SY} (I : i_Rel k u v) (hk : k + 3 ≤ 1537) : wpX_clear (fun u' => wpY_clear (fun v' => i_Rel (k + 3) u' v') v) u := by
  refine iv_el I (P := fun u v => wpX_clear (fun u' => wpY_clear (fun v' => i_Rel (k + 3) u' v') v) u) ?_
  intro xdl xpp xvc xcc xfc xoc xag xan xex xen xfl xac xst xsp xmd xrt xcu xtk xtv xaf xro xsc xho xvk xvf xvs xcv xco xff xfp xfe xfb xop ygs ypo yhp yfs yvp yfu yac yrt ycu yhv yus ygk yga ygb yck yca ycb ycc yfp yfe yfS yfn yfb yvs yds n I' H h0 hp hv
  exact iv_mk (n := 0) (k + 3) ⟨by omega, fun i hi => by omega⟩ h0 (Or.inl rfl) (Or.inl ⟨rfl, rfl, rfl⟩)
theorem i_vc_tokenCount {k : Nat} {u : SX} {v : SY} (I : i_Rel k u v) (hk : k + 3 ≤ 1537) : wpX_tokenCount (fun r => wpY_tokenCount (fun r' => r' = r ∧ i_Rel (k + 3) u v) v) u := by
  refine iv_el I (P := fun u v => wpX_tokenCount (fun r => wpY_tokenCount (fun r' => r' = r ∧ i_Rel (k + 3) u v) v) u) ?_
  intro xdl xpp xvc xcc xfc xoc xag xan xex xen xfl xac xst xsp xmd xrt xcu xtk xtv xaf xro xsc xho xvk xvf xvs xcv xco xff xfp xfe xfb xop ygs ypo yhp yfs yvp yfu yac yrt ycu yhv yus ygk yga ygb yck yca ycb ycc yfp yfe yfS yfn yfb yvs yds n I' H h0 hp hv
  exact ⟨rfl, I'⟩
theorem i_vc_status {k : Nat} {u : SX} {v : SY} (I : i_Rel k u v) (hk : k + 3 ≤ 1537) : wpX_status (fun r => wpY_status (fun r' => r' = r ∧ i_Rel (k + 3) u v) v) u := by
  refine iv_el I (P := fun u v => wpX_status (fun r => wpY_status (fun r' => r' = r ∧ i_Rel (k + 3) u v) v) u) ?_
  intro xdl xpp xvc xcc xfc xoc xag xan xex xen xfl xac xst xsp xmd xrt xcu xtk xtv xaf xro xsc xho xvk xvf xvs xcv xco xff xfp xfe xfb xop ygs ypo yhp yfs yvp yfu yac yrt ycu yhv yus ygk yga ygb yck yca ycb ycc yfp yfe yfS yfn yfb yvs yds n I' H h0 hp hv
  exact ⟨rfl, I'⟩
theorem i_vc_steps {k : Nat} {u : SX} {v : SY} (I : i_Rel k u v) (hk : k + 3 ≤ 1537) : wpX_steps (fun r => wpY_steps (fun r' => r' = r ∧ i_Rel (k + 3) u v) v) u := by
  refine iv_el I (P := fun u v => wpX_steps (fun r => wpY_steps (fun r' => r' = r ∧ i_Rel (k + 3) u v) v) u) ?_
  intro xdl xpp xvc xcc xfc xoc xag xan xex xen xfl xac xst xsp xmd xrt xcu xtk xtv xaf xro xsc xho xvk xvf xvs xcv xco xff xfp xfe xfb xop ygs ypo yhp yfs yvp yfu yac yrt ycu yhv yus ygk yga ygb yck yca ycb ycc yfp yfe yfS yfn yfb yvs yds n I' H h0 hp hv
  exact ⟨rfl, I'⟩
theorem i_vc_maxDepth {k : Nat} {u : SX} {v : SY} (I : i_Rel k u v) (hk : k + 3 ≤ 1537) : wpX_maxDepth (fun r => wpY_maxDepth (fun r' => r' = r ∧ i_Rel (k + 3) u v) v) u := by
  refine iv_el I (P := fun u v => wpX_maxDepth (fun r => wpY_maxDepth (fun r' => r' = r ∧ i_Rel (k + 3) u v) v) u) ?_
  intro xdl xpp xvc xcc xfc xoc xag xan xex xen xfl xac xst xsp xmd xrt xcu xtk xtv xaf xro xsc xho xvk xvf xvs xcv xco xff xfp xfe xfb xop ygs ypo yhp yfs yvp yfu yac yrt ycu yhv yus ygk yga ygb yck yca ycb ycc yfp yfe yfS yfn yfb yvs yds n I' H h0 hp hv
  exact ⟨rfl, I'⟩
end
section
section
variable {xdl xtn xpp xvc xcc xfc xoc xag xan xex xen xfl xac xst xsp xmd xrt xcu : Int32} {xtk xtv xaf xro xsc xho xvk xvf xvs xcv xco xff xfp xfe xfb xop : Nat → Int32} {yli yn ypr ygs ypo yhp yfs yvp yfu ysp ymd yac yst yrt ycu yhv : Int32} {ytk ytv yus ygk yga ygb yck yca ycb ycc yfp yfe yfS yfn yfb yvs yds : Nat → Int32} {ynk yna ynb ync : Nat} {n : Nat}
theorem iv_55 (H : tk_ok xtk n) {v1 z0 : Int32} {k : Nat} (hn : n < 64) (h0 : yck 0 = 2) (hk : ∃ k : Nat, 1 ≤ k ∧ k ≤ 20 ∧ v1 = nI k) {J : Int32 → SX → Prop} (hJ : ∀ xr, wY_token_55 (fun r' v' => r' = 1 ∧ i_Rel (k + 3) xr v') z0 (nI n) xdl (nI n) xpp ygs ypo yhp yfs yvp yfu xsp xmd yac xst yrt ycu yhv (upd xtk n v1) xtv yus ygk yga ygb yck yca ycb ycc yfp yfe yfS yfn yfb yvs yds 50000 50000 50000 50000 → J 1 xr) :
    wX_token_55 J z0 (nI n) xdl (nI n) xpp xvc xcc xfc xoc xag xan xex xen xfl xac xst xsp xmd xrt xcu (upd xtk n v1) xtv xaf xro xsc xho xvk xvf xvs xcv xco xff xfp xfe xfb xop := by
  have hi : vp_in (nI n) 64 := vp_in_nI hn (by omega)
  have hc : (nI n).toNatClampNeg = n := nI_clamp (by omega)
  refine ⟨hi, fun tv e => nm_r (nI_1 n) (hJ _ ⟨hi, fun tv' e' => nm_r (nI_1 n) ⟨rfl, ?_⟩⟩)⟩
  have et : tv' = tv := by rw [e, e']
  subst et
  refine iv_mk (n := n + 1) (k + 3) ⟨by omega, fun i hi => ?_⟩ h0 (Or.inl rfl) (Or.inl ⟨rfl, rfl, rfl⟩)
  by_cases z : i = n
  · obtain ⟨kk, a, b, c⟩ := hk
    exact ⟨kk, a, b, by rw [z, pk_us]; exact c⟩
  · obtain ⟨kk, a, b, c⟩ := H.2 i (by omega)
    exact ⟨kk, a, b, by rw [pk_un z]; exact c⟩
end
theorem i_vc_token {k : Nat} {u : SX} {v : SY} (I : i_Rel k u v) (hk : k + 3 ≤ 1537) (v1 : Int32) (v2 : Int32) : wpX_token (fun r u' => wpY_token (fun r' v' => r' = r ∧ i_Rel (k + 3) u' v') v v1 v2) u v1 v2 := by
  refine iv_el I (P := fun u v => wpX_token (fun r u' => wpY_token (fun r' v' => r' = r ∧ i_Rel (k + 3) u' v') v v1 v2) u v1 v2) ?_
  intro xdl xpp xvc xcc xfc xoc xag xan xex xen xfl xac xst xsp xmd xrt xcu xtk xtv xaf xro xsc xho xvk xvf xvs xcv xco xff xfp xfe xfb xop ygs ypo yhp yfs yvp yfu yac yrt ycu yhv yus ygk yga ygb yck yca ycb ycc yfp yfe yfS yfn yfb yvs yds n I' H h0 hp hv
  by_cases a : v1 < 1
  · exact br_t a (br_t a ⟨rfl, I'⟩)
  · by_cases b : 20 < v1
    · exact br_f a (br_t b (br_f a (br_t b ⟨rfl, I'⟩)))
    · have hn := H.1
      have hkk : ∃ k : Nat, 1 ≤ k ∧ k ≤ 20 ∧ v1 = nI k := by
        obtain ⟨j, hj, e⟩ := nI_of (x := v1) (fun z => a (by
          rw [Int32.lt_iff_toInt_lt] at z ⊢
          have e1 : (1 : Int32).toInt = 1 := by decide
          have e0 : (0 : Int32).toInt = 0 := by decide
          omega))
        subst e
        refine ⟨j, ?_, ?_, rfl⟩
        · rcases Nat.lt_or_ge j 1 with z | z
          · exact absurd ((nI_ltI (b := 1) (by omega) (by omega)).mpr z) a
          · exact z
        · rcases Nat.lt_or_ge 20 j with z | z
          · exact absurd ((nI_ltI (a := 20) (by omega) (by omega)).mpr z) b
          · exact z
      by_cases c : n < 64
      · have hlt : nI n < 64 := (nI_ltI (b := 64) (by omega) (by omega)).mpr c
        have hi : vp_in (nI n) 64 := vp_in_nI c (by omega)
        have hc : (nI n).toNatClampNeg = n := nI_clamp (by omega)
        refine br_f a (br_f b (br_t hlt ⟨hi, nm_r (by rw [hc]) ?_⟩))
        by_cases k3 : v1 = 3
        · exact br_t k3 (iv_55 H c h0 hkk (fun xr w => br_f a (br_f b (br_t hlt ⟨hi, nm_r (by rw [hc]) (br_t k3 w)⟩))))
        · by_cases k4 : v1 = 4
          · exact br_f k3 (br_t k4 (iv_55 H c h0 hkk (fun xr w => br_f a (br_f b (br_t hlt ⟨hi, nm_r (by rw [hc]) (br_f k3 (br_t k4 w))⟩)))))
          · exact br_f k3 (br_f k4 (iv_55 H c h0 hkk (fun xr w => br_f a (br_f b (br_t hlt ⟨hi, nm_r (by rw [hc]) (br_f k3 (br_f k4 w))⟩)))))
      · have hlt : ¬ nI n < 64 := fun z => c ((nI_ltI (b := 64) (by omega) (by omega)).mp z)
        exact br_f a (br_f b (br_f hlt (br_f a (br_f b (br_f hlt ⟨rfl, I'⟩)))))
end
section
theorem i_vc_compile {k : Nat} {u : SX} {v : SY} (I : i_Rel k u v) (hk : k + 3 ≤ 1537) : wpX_compile (fun r u' => wpY_compile (fun r' v' => r' = r ∧ i_Rel (k + 3) u' v') v) u := by
  refine iv_el I (P := fun u v => wpX_compile (fun r u' => wpY_compile (fun r' v' => r' = r ∧ i_Rel (k + 3) u' v') v) u) ?_
  intro xdl xpp xvc xcc xfc xoc xag xan xex xen xfl xac xst xsp xmd xrt xcu xtk xtv xaf xro xsc xho xvk xvf xvs xcv xco xff xfp xfe xfb xop ygs ypo yhp yfs yvp yfu yac yrt ycu yhv yus ygk yga ygb yck yca ycb ycc yfp yfe yfS yfn yfb yvs yds n I' H h0 hp hv
  refine xc_comp H (fun af ro no => ?_) (fun af ro sc ho par n0 I0 A W hC ex => ?_) (fun af ro sc ho vk vf vs C => ?_)
  · exact yc_neg H no (fun us' gs' po' gk' ga' gb' => ⟨rfl, iv_mk (k + 3) H h0 (Or.inl rfl) (Or.inl ⟨rfl, rfl, rfl⟩)⟩)
  · have hrn : ∀ c, xr_c n ro c ≠ 0 → c < n := fun c hc => by
      rcases Nat.lt_or_ge c n with z | z
      · exact z
      · exact absurd (xr_out z) hc
    refine yc_pos H n0 I0 (fun i hi hk => (A i hi hk).1) hrn W hC (fun _ us' gs' po' gk' ga' gb' => ⟨rfl, iv_mk (k + 3) H h0 (Or.inl rfl) (Or.inl ⟨rfl, rfl, rfl⟩)⟩) (fun w => ?_)
    obtain ⟨i, a, b, c, d⟩ := ex
    exact absurd (w i a b c) d
  · have C' := C
    obtain ⟨par, n0, I0, A, W, hC, s0, sL, hO, L⟩ := C
    have hrn : ∀ c, xr_c n ro c ≠ 0 → c < n := fun c hc => by
      rcases Nat.lt_or_ge c n with z | z
      · exact z
      · exact absurd (xr_out z) hc
    refine yc_pos H n0 I0 (fun i hi hk => (A i hi hk).1) hrn W hC (fun ex => ?_) (fun _ us' gs' po' gk' ga' gb' => ⟨rfl, iv_mk (k + 3) H h0 (Or.inr ⟨rfl, C'⟩) (Or.inl ⟨rfl, rfl, rfl⟩)⟩)
    obtain ⟨i, a, b, c, d⟩ := ex
    exact absurd (hO i a b c).2 d
end
section
theorem pg_of {xtk xtv xaf xro xsc xho xvk xvf xvs : Nat → Int32} {n : Nat} (H : tk_ok xtk n) (C : cp_P xtk xtv n xaf xro xsc xho xvk xvf xvs) : (∃ par, pg_F xtk xtv xaf xro xsc xho n par) ∧ 0 < n ∧ xr_c n xro 0 = 1 ∧ xsc 0 = -1 ∧ lt_L (tk_K xtk n) xtv (sk_f (tk_K xtk n) n) (xr_c n xro) xvk xvf xvs n := by
  obtain ⟨par, n0, I0, A, W, hC, s0, sL, hO, L⟩ := C
  exact ⟨⟨par, H, A, W, sL, fun i a b c => (hO i a b c).1, fun vk vf vs L' => ⟨par, n0, I0, A, W, hC, s0, sL, hO, L'⟩⟩, n0, W.2.2.2.2, s0, L⟩
section
variable {xdl xtn xpp xvc xcc xfc xoc xag xan xex xen xfl xac xst xsp xmd xrt xcu : Int32} {xtk xtv xaf xro xsc xho xvk xvf xvs xcv xco xff xfp xfe xfb xop : Nat → Int32} {yli yn ypr ygs ypo yhp yfs yvp yfu ysp ymd yac yst yrt ycu yhv : Int32} {ytk ytv yus ygk yga ygb yck yca ycb ycc yfp yfe yfS yfn yfb yvs yds : Nat → Int32} {ynk yna ynb ync : Nat} {n : Nat}
/-- a run, from the start -/
theorem iv_run (H : tk_ok xtk n) (C : cp_P xtk xtv n xaf xro xsc xho xvk xvf xvs) (h0 : yck 0 = 2) {F : Nat} (hF : F ≤ 400) : sm_E (xdl, nI n, 1, nI 128, nI 0, nI 0, nI 0, 0, xan, nI 0, -1, nI F, 0, -1, nI 0, 0, -1, -1, xtk, xtv, xaf, xro, xsc, xho, xvk, xvf, xvs, xcv, xco, xff, xfp, xfe, xfb, xop) (xdl, nI n, 1, ygs, ypo, nI 1, nI 0, nI 0, nI F, nI 0, 0, 0, yst, yrt, ycu, 0, xtk, xtv, yus, ygk, yga, ygb, yck, yca, ycb, ycc, yfp, yfe, yfS, yfn, yfb, yvs, yds, 50000, 50000, 50000, 50000) 0 0 (nI 0) (-1) := by
  obtain ⟨⟨par, PG⟩, n0, r0, s0, L⟩ := pg_of H C
  have M := (sm_main (xdl := xdl) (F := F) PG 901 900 (by omega)).1
  refine M (fun _ _ => False) (fun _ => 0) (fun _ => 0) 128 0 1 0 0 0 0 0 0 0 0 _ _ _ _ _ _ _ _ _ _  _ _ _ _ _ _ _ _ _ _ _ _ _ _ _ _ _ _ _ _ _ _ _ _ _  rfl ⟨⟨fun i j z => False.elim z, fun c hc => by omega, fun c c' _ hc => by omega, Nat.le_refl _, h0⟩, fun i hi => by omega, ⟨rfl, rfl, rfl⟩, by unfold sr_N; omega, L⟩ n0 r0 (Or.inl ⟨rfl, rfl, s0⟩)
end
theorem i_vc_run {k : Nat} {u : SX} {v : SY} (I : i_Rel k u v) (hk : k + 3 ≤ 1537) (v1 : Int32) : wpX_run (fun r u' => wpY_run (fun r' v' => r' = r ∧ i_Rel (k + 3) u' v') v v1) u v1 := by
  refine iv_el I (P := fun u v => wpX_run (fun r u' => wpY_run (fun r' v' => r' = r ∧ i_Rel (k + 3) u' v') v v1) u v1) ?_
  intro xdl xpp xvc xcc xfc xoc xag xan xex xen xfl xac xst xsp xmd xrt xcu xtk xtv xaf xro xsc xho xvk xvf xvs xcv xco xff xfp xfe xfb xop ygs ypo yhp yfs yvp yfu yac yrt ycu yhv yus ygk yga ygb yck yca ycb ycc yfp yfe yfS yfn yfb yvs yds n I' H h0 hp hv
  rcases hp with hp | ⟨hp, C⟩
  · exact br_t hp (br_t hp ⟨rfl, I'⟩)
  · subst hp
    have key : ∀ F : Nat, F ≤ 400 → ((1 ≤ v1 ∧ v1 ≤ 400 ∧ v1 = nI F) ∨ (1 ≤ v1 ∧ ¬ v1 ≤ 400 ∧ nI F = 400) ∨ (¬ 1 ≤ v1 ∧ nI F = 1)) → wpX_run (fun r u' => wpY_run (fun r' v' => r' = r ∧ i_Rel (k + 3) u' v') (xdl, nI n, 1, ygs, ypo, yhp, yfs, yvp, yfu, xsp, xmd, yac, xst, yrt, ycu, yhv, xtk, xtv, yus, ygk, yga, ygb, yck, yca, ycb, ycc, yfp, yfe, yfS, yfn, yfb, yvs, yds, 50000, 50000, 50000, 50000) v1) (xdl, nI n, 1, xvc, xcc, xfc, xoc, xag, xan, xex, xen, xfl, xac, xst, xsp, xmd, xrt, xcu, xtk, xtv, xaf, xro, xsc, xho, xvk, xvf, xvs, xcv, xco, xff, xfp, xfe, xfb, xop) v1 := by
      intro F hF hc
      obtain ⟨r, u', v', Fin, NX, NY⟩ := iv_run (xdl := xdl) (xan := xan) (xcv := xcv) (xco := xco) (xff := xff) (xfp := xfp) (xfe := xfe) (xfb := xfb) (xop := xop) (ygs := ygs) (ypo := ypo) (yst := xst) (yrt := yrt) (ycu := ycu) (yus := yus) (ygk := ygk) (yga := yga) (ygb := ygb) (yca := yca) (ycb := ycb) (ycc := ycc) (yfp := yfp) (yfe := yfe) (yfS := yfS) (yfn := yfn) (yfb := yfb) (yvs := yvs) (yds := yds) H C h0 hF
      have Yw : wpY_run (fun r' v' => r' = r ∧ i_Rel (k + 3) u' v') (xdl, nI n, 1, ygs, ypo, yhp, yfs, yvp, yfu, xsp, xmd, yac, xst, yrt, ycu, yhv, xtk, xtv, yus, ygk, yga, ygb, yck, yca, ycb, ycc, yfp, yfe, yfS, yfn, yfb, yvs, yds, 50000, 50000, 50000, 50000) v1 := by
        have go : wY_run_33 (fun r' v' => r' = r ∧ i_Rel (k + 3) u' v') (nI F) xdl (nI n) 1 ygs ypo yhp yfs yvp yfu xsp xmd yac xst yrt ycu yhv xtk xtv yus ygk yga ygb yck yca ycb ycc yfp yfe yfS yfn yfb yvs yds 50000 50000 50000 50000 :=
          NY (fun r' v' => r' = r ∧ i_Rel (k + 3) u' v') 2000 _ rfl (fun r2 w hw => by
            obtain ⟨yli, yn, ypr, ygs, ypo, yhp, yfs, yvp, yfu, ysp, ymd, yac, yst, yrt, ycu, yhv, ytk, ytv, yus, ygk, yga, ygb, yck, yca, ycb, ycc, yfp, yfe, yfS, yfn, yfb, yvs, yds, ynk, yna, ynb, ync⟩ := w
            exact ⟨2000, hw⟩) ⟨rfl, Fin⟩
        rcases hc with ⟨a, b, e⟩ | ⟨a, b, e⟩ | ⟨a, e⟩
        · rw [← e] at go; exact br_f (by decide) (br_t a (br_t b go))
        · rw [e] at go; exact br_f (by decide) (br_t a (br_f b go))
        · rw [e] at go; exact br_f (by decide) (br_f a go)
      have Xw : wX_run_16 (fun r u' => wpY_run (fun r' v' => r' = r ∧ i_Rel (k + 3) u' v') (xdl, nI n, 1, ygs, ypo, yhp, yfs, yvp, yfu, xsp, xmd, yac, xst, yrt, ycu, yhv, xtk, xtv, yus, ygk, yga, ygb, yck, yca, ycb, ycc, yfp, yfe, yfS, yfn, yfb, yvs, yds, 50000, 50000, 50000, 50000) v1) 1000 (nI 0) xdl (nI n) 1 (nI 128) (nI 0) (nI 0) (nI 0) 0 xan (nI 0) (-1) (nI F) 0 (-1) (nI 0) 0 (-1) (-1) xtk xtv xaf xro xsc xho xvk xvf xvs xcv xco xff xfp xfe xfb xop := NX (fun r u' => wpY_run (fun r' v' => r' = r ∧ i_Rel (k + 3) u' v') (xdl, nI n, 1, ygs, ypo, yhp, yfs, yvp, yfu, xsp, xmd, yac, xst, yrt, ycu, yhv, xtk, xtv, yus, ygk, yga, ygb, yck, yca, ycb, ycc, yfp, yfe, yfS, yfn, yfb, yvs, yds, 50000, 50000, 50000, 50000) v1) 1000 rfl Yw
      refine br_f (by decide) ?_
      unfold wpX_startRun wpX_forgetResult wpX_clamp wpX_evaluate
      dsimp only
      rcases hc with ⟨a, b, e⟩ | ⟨a, b, e⟩ | ⟨a, e⟩
      · rw [← e] at Xw; exact br_t a (br_t b ⟨1000, Xw⟩)
      · rw [e] at Xw; exact br_t a (br_f b ⟨1000, Xw⟩)
      · rw [e] at Xw; exact br_f a ⟨1000, Xw⟩
    by_cases a : 1 ≤ v1
    · by_cases b : v1 ≤ 400
      · obtain ⟨j, hj, e⟩ := nI_of2 (x := v1) (M := 400) (n := 400) (by decide) (fun z => by
          rw [Int32.lt_iff_toInt_lt] at z
          rw [Int32.le_iff_toInt_le] at a
          have e1 : (1 : Int32).toInt = 1 := by decide
          have e0 : (0 : Int32).toInt = 0 := by decide
          omega) b
        exact key j hj (Or.inl ⟨a, b, e⟩)
      · exact key 400 (Nat.le_refl _) (Or.inr (Or.inl ⟨a, b, rfl⟩))
    · exact key 1 (by omega) (Or.inr (Or.inr ⟨a, rfl⟩))
end
section
section
variable {xdl xtn xpp xvc xcc xfc xoc xag xan xex xen xfl xac xst xsp xmd xrt xcu : Int32} {xtk xtv xaf xro xsc xho xvk xvf xvs xcv xco xff xfp xfe xfb xop : Nat → Int32} {yli yn ypr ygs ypo yhp yfs yvp yfu ysp ymd yac yst yrt ycu yhv : Int32} {ytk ytv yus ygk yga ygb yck yca ycb ycc yfp yfe yfS yfn yfb yvs yds : Nat → Int32} {ynk yna ynb ync : Nat} {n : Nat}
theorem ik_X0 {post : Int32 → Prop} (h : post 0) : wpX_kind post (xdl, xtn, xpp, xvc, xcc, xfc, xoc, xag, xan, xex, xen, xfl, xac, xst, xsp, xmd, xrt, -1, xtk, xtv, xaf, xro, xsc, xho, xvk, xvf, xvs, xcv, xco, xff, xfp, xfe, xfb, xop) := br_t rfl h
theorem ik_X {a : Nat} (ha : a < 528) {post : Int32 → Prop} (h : post (xvk a)) : wpX_kind post (xdl, xtn, xpp, xvc, xcc, xfc, xoc, xag, xan, xex, xen, xfl, xac, xst, xsp, xmd, xrt, nI a, xtk, xtv, xaf, xro, xsc, xho, xvk, xvf, xvs, xcv, xco, xff, xfp, xfe, xfb, xop) := by
  refine br_f (ni_nm1 (by omega)) ⟨vp_in_nI ha (by omega), ?_⟩
  rw [nI_clamp (by omega)]; exact h
theorem ik_Y0 {post : Int32 → Prop} (h : post 0) : wpY_kind post (yli, yn, ypr, ygs, ypo, yhp, yfs, yvp, yfu, ysp, ymd, yac, yst, yrt, ycu, 0, ytk, ytv, yus, ygk, yga, ygb, yck, yca, ycb, ycc, yfp, yfe, yfS, yfn, yfb, yvs, yds, ynk, yna, ynb, ync) := br_t rfl h
theorem ik_Y {b : Nat} (hb : b < 50000) {post : Int32 → Prop} (h : post (yck b)) : wpY_kind post (yli, yn, ypr, ygs, ypo, yhp, yfs, yvp, yfu, ysp, ymd, yac, yst, yrt, nI b, 1, ytk, ytv, yus, ygk, yga, ygb, yck, yca, ycb, ycc, yfp, yfe, yfS, yfn, yfb, yvs, yds, 50000, yna, ynb, ync) := by
  refine br_f (by decide) ⟨vp_in_nI hb (by omega), ?_⟩
  rw [nI_clamp (by omega)]; exact h
end
theorem i_vc_kind {k : Nat} {u : SX} {v : SY} (I : i_Rel k u v) (hk : k + 3 ≤ 1537) : wpX_kind (fun r => wpY_kind (fun r' => r' = r ∧ i_Rel (k + 3) u v) v) u := by
  refine iv_el I (P := fun u v => wpX_kind (fun r => wpY_kind (fun r' => r' = r ∧ i_Rel (k + 3) u v) v) u) ?_
  intro xdl xpp xvc xcc xfc xoc xag xan xex xen xfl xac xst xsp xmd xrt xcu xtk xtv xaf xro xsc xho xvk xvf xvs xcv xco xff xfp xfe xfb xop ygs ypo yhp yfs yvp yfu yac yrt ycu yhv yus ygk yga ygb yck yca ycb ycc yfp yfe yfS yfn yfb yvs yds n I' H h0 hp hv
  rcases hv with ⟨e1, e2, e3⟩ | ⟨e1, e2, VR, g, nm, vc, cc, hp', B, b1, b2, a, b, a', b', r1, r2, r3, c1, c2, c3⟩
  · subst e1 e2 e3
    exact ik_X0 (ik_Y0 ⟨rfl, I'⟩)
  · subst e1 c1 c2
    have kd := hb_kind B c3
    exact ik_X (by omega) (ik_Y (by omega) ⟨kd.2.2.1.symm, I'⟩)
theorem i_vc_intValue {k : Nat} {u : SX} {v : SY} (I : i_Rel k u v) (hk : k + 3 ≤ 1537) : wpX_intValue (fun r => wpY_intValue (fun r' => r' = r ∧ i_Rel (k + 3) u v) v) u := by
  refine iv_el I (P := fun u v => wpX_intValue (fun r => wpY_intValue (fun r' => r' = r ∧ i_Rel (k + 3) u v) v) u) ?_
  intro xdl xpp xvc xcc xfc xoc xag xan xex xen xfl xac xst xsp xmd xrt xcu xtk xtv xaf xro xsc xho xvk xvf xvs xcv xco xff xfp xfe xfb xop ygs ypo yhp yfs yvp yfu yac yrt ycu yhv yus ygk yga ygb yck yca ycb ycc yfp yfe yfS yfn yfb yvs yds n I' H h0 hp hv
  unfold wpX_intValue wpY_intValue
  dsimp only
  rcases hv with ⟨e1, e2, e3⟩ | ⟨e1, e2, VR, g, nm, vc, cc, hp', B, b1, b2, a, b, a', b', r1, r2, r3, c1, c2, c3⟩
  · subst e1 e2 e3
    exact ik_X0 (br_f (by decide) (ik_Y0 (br_f (by decide) ⟨rfl, I'⟩)))
  · subst e1 c1 c2
    have kd := hb_kind B c3
    refine ik_X (by omega) ?_
    by_cases k1 : xvk a' = 1
    · have k2 : yck b' = 1 := by rw [← kd.2.2.1]; exact k1
      refine br_t k1 ⟨vp_in_nI (by omega) (by omega), ik_Y (by omega) (br_t k2 ⟨vp_in_nI (by omega) (by omega), ?_, I'⟩)⟩
      rw [nI_clamp (n := a') (by omega), nI_clamp (n := b') (by omega)]
      exact (kd.2.2.2 k1).symm
    · have k2 : ¬ yck b' = 1 := by rw [← kd.2.2.1]; exact k1
      exact br_f k1 (ik_Y (by omega) (br_f k2 ⟨rfl, I'⟩))
theorem i_vc_closureSource {k : Nat} {u : SX} {v : SY} (I : i_Rel k u v) (hk : k + 3 ≤ 1537) : wpX_closureSource (fun r => wpY_closureSource (fun r' => r' = r ∧ i_Rel (k + 3) u v) v) u := by
  refine iv_el I (P := fun u v => wpX_closureSource (fun r => wpY_closureSource (fun r' => r' = r ∧ i_Rel (k + 3) u v) v) u) ?_
  intro xdl xpp xvc xcc xfc xoc xag xan xex xen xfl xac xst xsp xmd xrt xcu xtk xtv xaf xro xsc xho xvk xvf xvs xcv xco xff xfp xfe xfb xop ygs ypo yhp yfs yvp yfu yac yrt ycu yhv yus ygk yga ygb yck yca ycb ycc yfp yfe yfS yfn yfb yvs yds n I' H h0 hp hv
  unfold wpX_closureSource wpY_closureSource
  dsimp only
  rcases hv with ⟨e1, e2, e3⟩ | ⟨e1, e2, VR, g, nm, vc, cc, hp', B, b1, b2, a, b, a', b', r1, r2, r3, c1, c2, c3⟩
  · subst e1 e2 e3
    exact ik_X0 (br_f (by decide) (ik_Y0 (br_f (by decide) ⟨rfl, I'⟩)))
  · subst e1 c1 c2
    have kd := hb_kind B c3
    refine ik_X (by omega) ?_
    by_cases k1 : xvk a' = 4
    · have k2 : yck b' = 4 := by rw [← kd.2.2.1]; exact k1
      refine br_t k1 ⟨vp_in_nI (by omega) (by omega), ik_Y (by omega) (br_t k2 ⟨vp_in_nI (by omega) (by omega), ?_, I'⟩)⟩
      rw [nI_clamp (n := a') (by omega), nI_clamp (n := b') (by omega)]
      rcases (B.1 a' b' c3).2.2 with w | w | w | ⟨_, _, q, _, _, _, _, w1, w2, _⟩
      · rw [k1] at w; exact absurd w.1 (by decide)
      · rw [k1] at w; exact absurd w.1 (by decide)
      · rw [k1] at w; exact absurd w.1 (by decide)
      · rw [w1, w2]
    · have k2 : ¬ yck b' = 4 := by rw [← kd.2.2.1]; exact k1
      exact br_f k1 (ik_Y (by omega) (br_f k2 ⟨rfl, I'⟩))
theorem i_vc_closureArity {k : Nat} {u : SX} {v : SY} (I : i_Rel k u v) (hk : k + 3 ≤ 1537) : wpX_closureArity (fun r => wpY_closureArity (fun r' => r' = r ∧ i_Rel (k + 3) u v) v) u := by
  refine iv_el I (P := fun u v => wpX_closureArity (fun r => wpY_closureArity (fun r' => r' = r ∧ i_Rel (k + 3) u v) v) u) ?_
  intro xdl xpp xvc xcc xfc xoc xag xan xex xen xfl xac xst xsp xmd xrt xcu xtk xtv xaf xro xsc xho xvk xvf xvs xcv xco xff xfp xfe xfb xop ygs ypo yhp yfs yvp yfu yac yrt ycu yhv yus ygk yga ygb yck yca ycb ycc yfp yfe yfS yfn yfb yvs yds n I' H h0 hp hv
  unfold wpX_closureArity wpY_closureArity
  dsimp only
  rcases hv with ⟨e1, e2, e3⟩ | ⟨e1, e2, VR, g, nm, vc, cc, hp', B, b1, b2, a, b, a', b', r1, r2, r3, c1, c2, c3⟩
  · subst e1 e2 e3
    exact ik_X0 (br_f (by decide) (ik_Y0 (br_f (by decide) ⟨rfl, I'⟩)))
  · subst e1 c1 c2
    have kd := hb_kind B c3
    refine ik_X (by omega) ?_
    by_cases k1 : xvk a' = 4
    · have k2 : yck b' = 4 := by rw [← kd.2.2.1]; exact k1
      rcases (B.1 a' b' c3).2.2 with w | w | w | ⟨_, _, q, q1, q2, q3, q4, w1, w2, _⟩
      · rw [k1] at w; exact absurd w.1 (by decide)
      · rw [k1] at w; exact absurd w.1 (by decide)
      · rw [k1] at w; exact absurd w.1 (by decide)
      · have C : cp_P xtk xtv n xaf xro xsc xho xvk xvf xvs := by
          rcases hp with hp | hp
          · rw [e2] at hp; exact absurd hp (by decide)
          · exact hp.2
        obtain ⟨⟨par, PG⟩, _⟩ := pg_of H C
        obtain ⟨m, m4, P, lcm, _⟩ := st_lam (V := xtv) (sc := xsc) (fun i => tk_0) (fun i hi hk => (PG.2.1 i hi hk).1) PG.2.2.1 PG.2.2.2.1 q1 q2 q3 q4
        refine br_t k1 ⟨vp_in_nI (by omega) (by omega), ?_⟩
        rw [nI_clamp (n := a') (by omega), w1]
        unfold wpX_arity
        dsimp only
        rw [ni_2]
        refine xi_items (i := q + 2) H PG.2.1 lcm (ik_Y (by omega) (br_t k2 ⟨vp_in_nI (by omega) (by omega), ?_⟩))
        rw [nI_clamp (n := b') (by omega), w2]
        exact yA_ar H q1 P ⟨rfl, I'⟩
    · have k2 : ¬ yck b' = 4 := by rw [← kd.2.2.1]; exact k1
      exact br_f k1 (ik_Y (by omega) (br_f k2 ⟨rfl, I'⟩))
theorem i_vc_goRoot {k : Nat} {u : SX} {v : SY} (I : i_Rel k u v) (hk : k + 3 ≤ 1537) : wpX_goRoot (fun r u' => wpY_goRoot (fun r' v' => r' = r ∧ i_Rel (k + 3) u' v') v) u := by
  refine iv_el I (P := fun u v => wpX_goRoot (fun r u' => wpY_goRoot (fun r' v' => r' = r ∧ i_Rel (k + 3) u' v') v) u) ?_
  intro xdl xpp xvc xcc xfc xoc xag xan xex xen xfl xac xst xsp xmd xrt xcu xtk xtv xaf xro xsc xho xvk xvf xvs xcv xco xff xfp xfe xfb xop ygs ypo yhp yfs yvp yfu yac yrt ycu yhv yus ygk yga ygb yck yca ycb ycc yfp yfe yfS yfn yfb yvs yds n I' H h0 hp hv
  rcases hv with ⟨e1, e2, e3⟩ | ⟨e1, e2, VR, g, nm, vc, cc, hp', B, b1, b2, a, b, a', b', r1, r2, r3, c1, c2, c3⟩
  · subst e1 e2 e3
    exact br_t rfl (br_t rfl ⟨rfl, I'⟩)
  · subst e1 r1 r2
    have kd := hb_kind B r3
    exact br_f (ni_nm1 (by omega)) (br_f (by decide) ⟨rfl, iv_mk (k + 3) H h0 hp (Or.inr ⟨rfl, e2, VR, g, nm, vc, cc, hp', B, b1, b2, a, b, a, b, rfl, rfl, r3, rfl, rfl, r3⟩)⟩)
theorem i_vc_goCar {k : Nat} {u : SX} {v : SY} (I : i_Rel k u v) (hk : k + 3 ≤ 1537) : wpX_goCar (fun r u' => wpY_goCar (fun r' v' => r' = r ∧ i_Rel (k + 3) u' v') v) u := by
  refine iv_el I (P := fun u v => wpX_goCar (fun r u' => wpY_goCar (fun r' v' => r' = r ∧ i_Rel (k + 3) u' v') v) u) ?_
  intro xdl xpp xvc xcc xfc xoc xag xan xex xen xfl xac xst xsp xmd xrt xcu xtk xtv xaf xro xsc xho xvk xvf xvs xcv xco xff xfp xfe xfb xop ygs ypo yhp yfs yvp yfu yac yrt ycu yhv yus ygk yga ygb yck yca ycb ycc yfp yfe yfS yfn yfb yvs yds n I' H h0 hp hv
  unfold wpX_goCar wpY_goCar
  dsimp only
  rcases hv with ⟨e1, e2, e3⟩ | ⟨e1, e2, VR, g, nm, vc, cc, hp', B, b1, b2, a, b, a', b', r1, r2, r3, c1, c2, c3⟩
  · subst e1 e2 e3
    exact ik_X0 (br_f (by decide) (ik_Y0 (br_f (by decide) ⟨rfl, I'⟩)))
  · subst e1 c1 c2
    have kd := hb_kind B c3
    refine ik_X (by omega) ?_
    by_cases k1 : xvk a' = 3
    · have k2 : yck b' = 3 := by rw [← kd.2.2.1]; exact k1
      rcases (B.1 a' b' c3).2.2 with w | w | ⟨_, _, p1, p2, p3, p4, w1, w2, w3, w4, w5, w6⟩ | w
      · rw [k1] at w; exact absurd w.1 (by decide)
      · rw [k1] at w; exact absurd w.1 (by decide)
      · refine br_t k1 ⟨vp_in_nI (by omega) (by omega), nm_r (show xvf (nI a').toNatClampNeg = nI p1 from by rw [nI_clamp (by omega)]; exact w1) (ik_Y (by omega) (br_t k2 ⟨vp_in_nI (by omega) (by omega), nm_r (show yca (nI b').toNatClampNeg = nI p3 from by rw [nI_clamp (by omega)]; exact w3) ⟨rfl, ?_⟩⟩))⟩
        exact iv_mk (k + 3) H h0 hp (Or.inr ⟨rfl, e2, VR, g, nm, vc, cc, hp', B, b1, b2, a, b, p1, p3, r1, r2, r3, rfl, rfl, w5⟩)
      · rw [k1] at w; exact absurd w.1 (by decide)
    · have k2 : ¬ yck b' = 3 := by rw [← kd.2.2.1]; exact k1
      exact br_f k1 (ik_Y (by omega) (br_f k2 ⟨rfl, I'⟩))
theorem i_vc_goCdr {k : Nat} {u : SX} {v : SY} (I : i_Rel k u v) (hk : k + 3 ≤ 1537) : wpX_goCdr (fun r u' => wpY_goCdr (fun r' v' => r' = r ∧ i_Rel (k + 3) u' v') v) u := by
  refine iv_el I (P := fun u v => wpX_goCdr (fun r u' => wpY_goCdr (fun r' v' => r' = r ∧ i_Rel (k + 3) u' v') v) u) ?_
  intro xdl xpp xvc xcc xfc xoc xag xan xex xen xfl xac xst xsp xmd xrt xcu xtk xtv xaf xro xsc xho xvk xvf xvs xcv xco xff xfp xfe xfb xop ygs ypo yhp yfs yvp yfu yac yrt ycu yhv yus ygk yga ygb yck yca ycb ycc yfp yfe yfS yfn yfb yvs yds n I' H h0 hp hv
  unfold wpX_goCdr wpY_goCdr
  dsimp only
  rcases hv with ⟨e1, e2, e3⟩ | ⟨e1, e2, VR, g, nm, vc, cc, hp', B, b1, b2, a, b, a', b', r1, r2, r3, c1, c2, c3⟩
  · subst e1 e2 e3
    exact ik_X0 (br_f (by decide) (ik_Y0 (br_f (by decide) ⟨rfl, I'⟩)))
  · subst e1 c1 c2
    have kd := hb_kind B c3
    refine ik_X (by omega) ?_
    by_cases k1 : xvk a' = 3
    · have k2 : yck b' = 3 := by rw [← kd.2.2.1]; exact k1
      rcases (B.1 a' b' c3).2.2 with w | w | ⟨_, _, p1, p2, p3, p4, w1, w2, w3, w4, w5, w6⟩ | w
      · rw [k1] at w; exact absurd w.1 (by decide)
      · rw [k1] at w; exact absurd w.1 (by decide)
      · refine br_t k1 ⟨vp_in_nI (by omega) (by omega), nm_r (show xvs (nI a').toNatClampNeg = nI p2 from by rw [nI_clamp (by omega)]; exact w2) (ik_Y (by omega) (br_t k2 ⟨vp_in_nI (by omega) (by omega), nm_r (show ycb (nI b').toNatClampNeg = nI p4 from by rw [nI_clamp (by omega)]; exact w4) ⟨rfl, ?_⟩⟩))⟩
        exact iv_mk (k + 3) H h0 hp (Or.inr ⟨rfl, e2, VR, g, nm, vc, cc, hp', B, b1, b2, a, b, p2, p4, r1, r2, r3, rfl, rfl, w6⟩)
      · rw [k1] at w; exact absurd w.1 (by decide)
    · have k2 : ¬ yck b' = 3 := by rw [← kd.2.2.1]; exact k1
      exact br_f k1 (ik_Y (by omega) (br_f k2 ⟨rfl, I'⟩))
end
