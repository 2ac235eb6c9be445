section
/-! the state of one object -/
abbrev SX : Type := St2
end
section
/-! the depth of the parens; items -/
def dp_d (K : Nat → Nat) : Nat → Int
  | 0 => 0
  | j + 1 => dp_d K j + (if K j = 1 then 1 else if K j = 2 then -1 else 0)
section
variable {K : Nat → Nat}
theorem dp_1 {j : Nat} (h : K j = 1) : dp_d K (j + 1) = dp_d K j + 1 := sorry
theorem dp_2 {j : Nat} (h : K j = 2) : dp_d K (j + 1) = dp_d K j - 1 := sorry
theorem dp_0 {j : Nat} (h1 : K j ≠ 1) (h2 : K j ≠ 2) : dp_d K (j + 1) = dp_d K j := sorry
theorem dp_s (j : Nat) : dp_d K j - 1 ≤ dp_d K (j + 1) ∧ dp_d K (j + 1) ≤ dp_d K j + 1 := sorry
end
def dp_I (K : Nat → Nat) (i j : Nat) : Prop := i < j ∧ dp_d K j = dp_d K i ∧ ∀ m, i < m → m < j → dp_d K i < dp_d K m
def dp_L (K : Nat → Nat) (p q : Nat) : Prop := p ≤ q ∧ dp_d K q = dp_d K p ∧ ∀ m, p ≤ m → m ≤ q → dp_d K p ≤ dp_d K m
section
variable {K : Nat → Nat}
theorem dp_I_u {i j j' : Nat} (h : dp_I K i j) (h' : dp_I K i j') : j = j' := sorry
theorem dp_I_a {i : Nat} (h1 : K i ≠ 1) (h2 : K i ≠ 2) : dp_I K i (i + 1) := sorry
theorem dp_I_n2 {i j : Nat} (h : dp_I K i j) : K i ≠ 2 := sorry
theorem dp_I_at {i j : Nat} (h : dp_I K i j) (h1 : K i ≠ 1) : j = i + 1 := sorry
theorem dp_I_L {i j : Nat} (h : dp_I K i j) : dp_L K i j := sorry
theorem dp_L_r (p : Nat) : dp_L K p p := sorry
theorem dp_L_t {p q r : Nat} (h : dp_L K p q) (h' : dp_L K q r) : dp_L K p r := sorry
theorem dp_I_w {i q : Nat} (h1 : K i = 1) (h : dp_L K (i + 1) q) (h2 : K q = 2) : dp_I K i (q + 1) := sorry
theorem dp_I_1 {i j : Nat} (h : dp_I K i j) (h1 : K i = 1) : i + 1 < j := sorry
theorem dp_nest {i j m m' : Nat} (h : dp_I K i j) (a : i < m) (b : m < j) (h' : dp_I K m m') : m' < j := sorry
theorem dp_ex {p j : Nat} (h : p < j) (hd : dp_d K j < dp_d K p) (h2 : K p ≠ 2) : ∃ p', dp_I K p p' ∧ p' < j := sorry
theorem dp_Iex {i j p : Nat} (h : dp_I K i j) (h1 : K i = 1) (hL : dp_L K (i + 1) p) (hp : p < j) :
    (K p = 2 → p + 1 = j) ∧ (K p ≠ 2 → ∃ p', dp_I K p p' ∧ p' < j ∧ dp_L K (i + 1) p') := sorry
end
/-! the skip function; lists of items -/
noncomputable def sk_f (K : Nat → Nat) (n i : Nat) : Nat := @dite Nat (∃ j, dp_I K i j) (Classical.propDecidable _) (fun h => Classical.choose h) (fun _ => if K i = 1 then n else i + 1)
theorem sk_I {K : Nat → Nat} {n i j : Nat} (h : dp_I K i j) : sk_f K n i = j := sorry
theorem sk_IE {K : Nat → Nat} {n i j : Nat} (h : dp_I K i j) : dp_I K i (sk_f K n i) := sorry
theorem sk_no {K : Nat → Nat} {n i : Nat} (h : ¬ ∃ j, dp_I K i j) (h1 : K i = 1) : sk_f K n i = n := sorry
theorem sk_at {K : Nat → Nat} {n i : Nat} (h1 : K i ≠ 1) : sk_f K n i = i + 1 := sorry
def it_f (a : Nat → Nat) : Nat → Nat → Nat
  | 0, p => p
  | k + 1, p => it_f a k (a p)
theorem it_s (a : Nat → Nat) : ∀ k p, it_f a (k + 1) p = a (it_f a k p) := sorry
theorem it_add (a : Nat → Nat) : ∀ k m p, it_f a (k + m) p = it_f a m (it_f a k p) := sorry
/-- the list from s has c items -/
def ls_C (K a : Nat → Nat) (s c : Nat) : Prop := (∀ j, j < c → K (it_f a j s) ≠ 2) ∧ K (it_f a c s) = 2
/-- p is an item of the list from s -/
def ls_M (K a : Nat → Nat) (s p : Nat) : Prop := ∃ j, p = it_f a j s ∧ ∀ j', j' ≤ j → K (it_f a j' s) ≠ 2
section
variable {K a : Nat → Nat}
theorem ls_C_u {s c c' : Nat} (h : ls_C K a s c) (h' : ls_C K a s c') : c = c' := sorry
theorem ls_CM {s c p : Nat} (h : ls_C K a s c) : ls_M K a s p ↔ ∃ j, j < c ∧ p = it_f a j s := sorry
theorem ls_C_s {s c : Nat} (h1 : K s ≠ 2) (h : ls_C K a (a s) c) : ls_C K a s (c + 1) := sorry
theorem ls_C_0 {s : Nat} (h : K s = 2) : ls_C K a s 0 := sorry
theorem ls_C_t {s c : Nat} (h : ls_C K a s (c + 1)) : K s ≠ 2 ∧ ls_C K a (a s) c := sorry
theorem ls_C_z {s : Nat} (h : ls_C K a s 0) : K s = 2 := sorry
theorem ls_M_0 {s : Nat} (h : K s ≠ 2) : ls_M K a s s := sorry
theorem ls_M_s {s p : Nat} (h1 : K s ≠ 2) (h : ls_M K a (a s) p) : ls_M K a s p := sorry
theorem ls_M_c {s p : Nat} (h : ls_M K a s p) : K s ≠ 2 ∧ (p = s ∨ ls_M K a (a s) p) := sorry
theorem ls_M_n2 {s p : Nat} (h : ls_M K a s p) : K p ≠ 2 := sorry
/-- a list whose items are items: its span -/
theorem ls_L {s : Nat} : ∀ {c : Nat}, (∀ j, j < c → dp_I K (it_f a j s) (a (it_f a j s))) → dp_L K s (it_f a c s) := sorry
end
theorem ls_om {j p p' d : Nat} (a : j - p ≤ d + 1) (b : p < p') : j - p' ≤ d := sorry
theorem ls_om2 {c p p' j : Nat} (a : c + p' < j) (b : p < p') : c + 1 + p < j := sorry
/-- in a matched list every item is an item, and the list ends at its paren -/
theorem ls_ex {K : Nat → Nat} {n i j : Nat} (h : dp_I K i j) (h1 : K i = 1) : ∀ (d p : Nat), j - p ≤ d → dp_L K (i + 1) p → p < j →
    ∃ c, ls_C K (sk_f K n) p c ∧ it_f (sk_f K n) c p + 1 = j ∧ c + p < j ∧ (∀ x, x < c → dp_I K (it_f (sk_f K n) x p) (sk_f K n (it_f (sk_f K n) x p))) := sorry
theorem ls_in {K : Nat → Nat} {n i j : Nat} (h : dp_I K i j) (h1 : K i = 1) :
    ∃ c, ls_C K (sk_f K n) (i + 1) c ∧ it_f (sk_f K n) c (i + 1) + 1 = j ∧ c + (i + 1) < j ∧ (∀ x, x < c → dp_I K (it_f (sk_f K n) x (i + 1)) (sk_f K n (it_f (sk_f K n) x (i + 1)))) := sorry
end
section
/-! the grammar, by the places of its items -/
def gr_dup (V : Nat → Int32) (a : Nat → Nat) (st s : Nat) : Prop := ∃ k, k < 4 ∧ (∀ k', k' ≤ k → it_f a k' (st + 1) < s - 1) ∧ V (it_f a k (st + 1) + 1) = V s
def gr_BS (K : Nat → Nat) (V : Nat → Int32) (a : Nat → Nat) (h st b : Nat) : Prop := K b = 1 ∧ ls_C K a (b + 1) 2 ∧ K (b + 1) = 4 ∧ ¬ gr_dup V a st (b + 1) ∧ (h = 9 → K (b + 2) = 1 ∧ K (b + 3) = 7)
def gr_P (K : Nat → Nat) (V : Nat → Int32) (q c : Nat) : Prop := c ≤ 4 ∧ (∀ j, j < c → K (q + 1 + j) = 4) ∧ K (q + 1 + c) = 2 ∧ ∀ j j', j < j' → j' < c → V (q + 1 + j) ≠ V (q + 1 + j')
def gr_n (h : Nat) : Nat := if h = 10 then 3 else if h = 12 ∨ h = 13 ∨ h = 14 then 1 else 2
def gr_FS (K : Nat → Nat) (V : Nat → Int32) (a : Nat → Nat) (i h : Nat) : Prop :=
  (h = 6 ∧ ls_C K a (i + 2) 1) ∨
  (h = 7 ∧ ls_C K a (i + 2) 2 ∧ K (i + 2) = 1 ∧ ∃ c, gr_P K V (i + 2) c) ∨
  ((h = 8 ∨ h = 9) ∧ ls_C K a (i + 2) 2 ∧ K (i + 2) = 1 ∧ ∃ c, 1 ≤ c ∧ c ≤ 4 ∧ ls_C K a (i + 3) c ∧ ∀ j, j < c → gr_BS K V a h (i + 2) (it_f a j (i + 3))) ∨
  (10 ≤ h ∧ ls_C K a (i + 2) (gr_n h)) ∨
  (h < 6 ∧ ∃ c, c ≤ 4 ∧ ls_C K a (i + 1) (c + 1))
def gr_E (K a : Nat → Nat) (i c : Nat) : Prop := K i = 1 ∧ ((10 ≤ K (i + 1) ∧ ls_M K a (i + 2) c) ∨ (K (i + 1) < 6 ∧ ls_M K a (i + 1) c) ∨ (7 ≤ K (i + 1) ∧ K (i + 1) ≤ 9 ∧ c = a (i + 2)) ∨ ((K (i + 1) = 8 ∨ K (i + 1) = 9) ∧ ∃ b, ls_M K a (i + 3) b ∧ c = b + 2))
def gr_D (K a : Nat → Nat) (i c : Nat) : Prop := K i = 1 ∧ K (i + 1) = 6 ∧ ls_M K a (i + 2) c
def gr_N (K a : Nat → Nat) (i c : Nat) : Prop := K i = 1 ∧ ((K (i + 1) = 7 ∧ ls_M K a (i + 3) c) ∨ ((K (i + 1) = 8 ∨ K (i + 1) = 9) ∧ ∃ b, ls_M K a (i + 3) b ∧ c = b + 1))
def gr_SH (K : Nat → Nat) (V : Nat → Int32) (a : Nat → Nat) (i : Nat) : Prop := K i = 3 ∨ K i = 4 ∨ K i = 5 ∨ (K i = 1 ∧ gr_FS K V a i (K (i + 1)))
def gr_EC (K : Nat → Nat) (V : Nat → Int32) (a : Nat → Nat) (E D : Nat → Prop) (i : Nat) : Prop := gr_SH K V a i ∧ (∀ c, gr_E K a i c → E c) ∧ (∀ c, gr_D K a i c → D c)
def gr_DS (K a : Nat → Nat) (i : Nat) : Prop := K i = 3 ∨ K i = 5 ∨ (K i = 1 ∧ ∃ c, ls_C K a (i + 1) c)
def gr_DM (K a : Nat → Nat) (i c : Nat) : Prop := K i = 1 ∧ ls_M K a (i + 1) c
def gr_DC (K a : Nat → Nat) (D : Nat → Prop) (i : Nat) : Prop := gr_DS K a i ∧ ∀ c, gr_DM K a i c → D c
def gr_X (K : Nat → Nat) (V : Nat → Int32) (a : Nat → Nat) : Nat → Bool → Nat → Prop
  | 0, _, _ => False
  | k + 1, true, i => gr_EC K V a (gr_X K V a k true) (gr_X K V a k false) i
  | k + 1, false, i => gr_DC K a (gr_X K V a k false) i
theorem gr_X_up {K : Nat → Nat} {V : Nat → Int32} {a : Nat → Nat} : ∀ (k : Nat) (b : Bool) (i : Nat), gr_X K V a k b i → gr_X K V a (k + 1) b i := sorry
section
variable {K : Nat → Nat} {V : Nat → Int32} {n : Nat}
theorem it_at {s : Nat} : ∀ {c : Nat}, (∀ j, j < c → K (s + j) ≠ 1) → it_f (sk_f K n) c s = s + c := sorry
theorem gr_end {i s c : Nat} (h1 : K i = 1) (hL : dp_L K (i + 1) s) (hc : ls_C K (sk_f K n) s c) (hI : ∀ j, j < c → dp_I K (it_f (sk_f K n) j s) (sk_f K n (it_f (sk_f K n) j s))) : dp_I K i (it_f (sk_f K n) c s + 1) := sorry
theorem gr_kw {i : Nat} (h : 6 ≤ K (i + 1)) : dp_L K (i + 1) (i + 2) := sorry
theorem gr_PI {q c : Nat} (h1 : K q = 1) (h : gr_P K V q c) : dp_I K q (q + 2 + c) := sorry
theorem gr_Pa {q c : Nat} (h1 : K q = 1) (h : gr_P K V q c) : sk_f K n q = q + 2 + c := sorry
theorem gr_Pi {q c j : Nat} (h : gr_P K V q c) (hj : j ≤ c) : it_f (sk_f K n) j (q + 1) = q + 1 + j := sorry
theorem gr_PC {q c : Nat} (h : gr_P K V q c) : ls_C K (sk_f K n) (q + 1) c := sorry
/-- a bind -/
theorem gr_b1 {h st b : Nat} (hb : gr_BS K V (sk_f K n) h st b) : sk_f K n (b + 1) = b + 2 ∧ K (b + 2) ≠ 2 ∧ K (sk_f K n (b + 2)) = 2 := sorry
theorem gr_bI {h st b : Nat} (hb : gr_BS K V (sk_f K n) h st b) (hI : dp_I K (b + 2) (sk_f K n (b + 2))) : dp_I K b (sk_f K n (b + 2) + 1) := sorry
theorem gr_ba {h st b : Nat} (hb : gr_BS K V (sk_f K n) h st b) (hI : dp_I K (b + 2) (sk_f K n (b + 2))) : sk_f K n b = sk_f K n (b + 2) + 1 := sorry
section
variable {E D : Nat → Prop}
/-- the binds of a LET: the list's end -/
theorem gr_LI {h st s c : Nat} (hb : ∀ j, j < c → gr_BS K V (sk_f K n) h st (it_f (sk_f K n) j s)) (hE : ∀ j, j < c → dp_I K (it_f (sk_f K n) j s + 2) (sk_f K n (it_f (sk_f K n) j s + 2))) (j : Nat) (hj : j < c) : dp_I K (it_f (sk_f K n) j s) (sk_f K n (it_f (sk_f K n) j s)) := sorry
theorem gr_EI (hE : ∀ c, E c → dp_I K c (sk_f K n c)) (hD : ∀ c, D c → dp_I K c (sk_f K n c)) {i : Nat} (h : gr_EC K V (sk_f K n) E D i) : dp_I K i (sk_f K n i) := sorry
theorem gr_DI (hD : ∀ c, D c → dp_I K c (sk_f K n c)) {i : Nat} (h : gr_DC K (sk_f K n) D i) : dp_I K i (sk_f K n i) := sorry
end
theorem gr_XI : ∀ (k : Nat) (b : Bool) (i : Nat), gr_X K V (sk_f K n) k b i → dp_I K i (sk_f K n i) := sorry
end
/-! the reference's goal machine, purely -/
def pm_C (K : Nat → Nat) (V : Nat → Int32) (a : Nat → Nat) (n : Nat) (E D N : Nat → Prop) : List (Nat × Nat × Nat) → Nat → Prop
  | [], p => p = n
  | (g, x, st) :: S, p =>
    (g = 1 ∧ E p ∧ pm_C K V a n E D N S (a p)) ∨
    (g = 2 ∧ D p ∧ pm_C K V a n E D N S (a p)) ∨
    (g = 3 ∧ ∃ c, ls_C K a p c ∧ (∀ j, j < c → D (it_f a j p)) ∧ pm_C K V a n E D N S (it_f a c p + 1)) ∨
    (g = 4 ∧ K p = 2 ∧ pm_C K V a n E D N S (p + 1)) ∨
    (g = 8 ∧ ∃ c, (c = 0 ∨ x + c ≤ 4) ∧ ls_C K a p c ∧ (∀ j, j < c → E (it_f a j p)) ∧ pm_C K V a n E D N S (it_f a c p)) ∨
    ((g = 5 ∨ g = 6) ∧ ∃ c, 0 < x + c ∧ (c = 0 ∨ x + c ≤ 4) ∧ ls_C K a p c ∧ (∀ j, j < c → gr_BS K V a (g + 3) st (it_f a j p) ∧ N (it_f a j p + 1) ∧ E (it_f a j p + 2)) ∧ pm_C K V a n E D N S (it_f a c p + 1)) ∨
    (g = 7 ∧ K p = 1 ∧ K (p + 1) = 7 ∧ E p ∧ pm_C K V a n E D N S (a p))
def pm_T (K : Nat → Nat) (V : Nat → Int32) (a : Nat → Nat) (p g x st p' : Nat) (new : List (Nat × Nat × Nat)) : Prop :=
  (g = 4 ∧ K p = 2 ∧ p' = p + 1 ∧ new = []) ∨
  (g = 3 ∧ K p = 2 ∧ p' = p + 1 ∧ new = []) ∨
  (g = 3 ∧ K p ≠ 2 ∧ p' = p ∧ new = [(2, 0, 0), (3, 0, 0)]) ∨
  (g = 2 ∧ K p = 1 ∧ p' = p + 1 ∧ new = [(3, 0, 0)]) ∨
  (g = 2 ∧ (K p = 3 ∨ K p = 5) ∧ p' = p + 1 ∧ new = []) ∨
  (g = 8 ∧ K p = 2 ∧ p' = p ∧ new = []) ∨
  (g = 8 ∧ K p ≠ 2 ∧ x < 4 ∧ p' = p ∧ new = [(1, 0, 0), (8, x + 1, 0)]) ∨
  ((g = 5 ∨ g = 6) ∧ K p = 2 ∧ 0 < x ∧ p' = p + 1 ∧ new = []) ∨
  ((g = 5 ∨ g = 6) ∧ K p = 1 ∧ x < 4 ∧ K (p + 1) = 4 ∧ ¬ gr_dup V a st (p + 1) ∧ p' = p + 2 ∧ new = [(if g = 5 then 1 else 7, 0, 0), (4, 0, 0), (g, x + 1, st)]) ∨
  ((g = 7 ∨ g = 1) ∧ K p = 1 ∧ K (p + 1) = 7 ∧ K (p + 2) = 1 ∧ ∃ c, gr_P K V (p + 2) c ∧ p' = p + 4 + c ∧ new = [(1, 0, 0), (4, 0, 0)]) ∨
  (g = 1 ∧ (K p = 3 ∨ K p = 4 ∨ K p = 5) ∧ p' = p + 1 ∧ new = []) ∨
  (g = 1 ∧ K p = 1 ∧ (K (p + 1) = 8 ∨ K (p + 1) = 9) ∧ K (p + 2) = 1 ∧ p' = p + 3 ∧ new = [(K (p + 1) - 3, 0, p + 2), (1, 0, 0), (4, 0, 0)]) ∨
  (g = 1 ∧ K p = 1 ∧ K (p + 1) < 6 ∧ p' = p + 1 ∧ new = [(1, 0, 0), (8, 0, 0), (4, 0, 0)]) ∨
  (g = 1 ∧ K p = 1 ∧ K (p + 1) = 6 ∧ p' = p + 2 ∧ new = [(2, 0, 0), (4, 0, 0)]) ∨
  (g = 1 ∧ K p = 1 ∧ 10 ≤ K (p + 1) ∧ p' = p + 2 ∧ new = List.replicate (gr_n (K (p + 1))) (1, 0, 0) ++ [(4, 0, 0)])
section
variable {K : Nat → Nat} {V : Nat → Int32} {n : Nat} {E D N : Nat → Prop}
theorem pm_C1 {x st : Nat} {S : List (Nat × Nat × Nat)} {p : Nat} : pm_C K V (sk_f K n) n E D N ((1, x, st) :: S) p ↔ E p ∧ pm_C K V (sk_f K n) n E D N S (sk_f K n p) := sorry
theorem pm_C2 {x st : Nat} {S : List (Nat × Nat × Nat)} {p : Nat} : pm_C K V (sk_f K n) n E D N ((2, x, st) :: S) p ↔ D p ∧ pm_C K V (sk_f K n) n E D N S (sk_f K n p) := sorry
theorem pm_C3 {x st : Nat} {S : List (Nat × Nat × Nat)} {p : Nat} : pm_C K V (sk_f K n) n E D N ((3, x, st) :: S) p ↔ ∃ c, ls_C K (sk_f K n) p c ∧ (∀ j, j < c → D (it_f (sk_f K n) j p)) ∧ pm_C K V (sk_f K n) n E D N S (it_f (sk_f K n) c p + 1) := sorry
theorem pm_C4 {x st : Nat} {S : List (Nat × Nat × Nat)} {p : Nat} : pm_C K V (sk_f K n) n E D N ((4, x, st) :: S) p ↔ K p = 2 ∧ pm_C K V (sk_f K n) n E D N S (p + 1) := sorry
theorem pm_C8 {x st : Nat} {S : List (Nat × Nat × Nat)} {p : Nat} : pm_C K V (sk_f K n) n E D N ((8, x, st) :: S) p ↔ ∃ c, (c = 0 ∨ x + c ≤ 4) ∧ ls_C K (sk_f K n) p c ∧ (∀ j, j < c → E (it_f (sk_f K n) j p)) ∧ pm_C K V (sk_f K n) n E D N S (it_f (sk_f K n) c p) := sorry
theorem pm_C56 {g x st : Nat} {S : List (Nat × Nat × Nat)} {p : Nat} (hg : g = 5 ∨ g = 6) : pm_C K V (sk_f K n) n E D N ((g, x, st) :: S) p ↔ ∃ c, 0 < x + c ∧ (c = 0 ∨ x + c ≤ 4) ∧ ls_C K (sk_f K n) p c ∧ (∀ j, j < c → gr_BS K V (sk_f K n) (g + 3) st (it_f (sk_f K n) j p) ∧ N (it_f (sk_f K n) j p + 1) ∧ E (it_f (sk_f K n) j p + 2)) ∧ pm_C K V (sk_f K n) n E D N S (it_f (sk_f K n) c p + 1) := sorry
theorem pm_C7 {x st : Nat} {S : List (Nat × Nat × Nat)} {p : Nat} : pm_C K V (sk_f K n) n E D N ((7, x, st) :: S) p ↔ K p = 1 ∧ K (p + 1) = 7 ∧ E p ∧ pm_C K V (sk_f K n) n E D N S (sk_f K n p) := sorry
theorem pm_Cr {S : List (Nat × Nat × Nat)} : ∀ {m p : Nat}, pm_C K V (sk_f K n) n E D N (List.replicate m (1, 0, 0) ++ S) p ↔ (∀ j, j < m → E (it_f (sk_f K n) j p)) ∧ pm_C K V (sk_f K n) n E D N S (it_f (sk_f K n) m p) := sorry
theorem pm_Cm {E' D' : Nat → Prop} (hE : ∀ c, E c → E' c) (hD : ∀ c, D c → D' c) : ∀ (S : List (Nat × Nat × Nat)) (p : Nat), pm_C K V (sk_f K n) n E D N S p → pm_C K V (sk_f K n) n E' D' N S p := sorry
end
end
section
section
variable {K : Nat → Nat} {V : Nat → Int32} {n : Nat} {E D N : Nat → Prop}
theorem pm_Flam (hE : ∀ p, E p → gr_EC K V (sk_f K n) E D p) (hEI : ∀ c, E c → dp_I K c (sk_f K n c)) {S : List (Nat × Nat × Nat)} {p : Nat} (h1 : K p = 1) (h7 : K (p + 1) = 7) (hp : E p) (h : pm_C K V (sk_f K n) n E D N S (sk_f K n p)) :
    K (p + 2) = 1 ∧ ∃ c, gr_P K V (p + 2) c ∧ pm_C K V (sk_f K n) n E D N ([(1, 0, 0), (4, 0, 0)] ++ S) (p + 4 + c) := sorry
theorem pm_Flet (hE : ∀ p, E p → gr_EC K V (sk_f K n) E D p) (hN : ∀ p, E p → ∀ c, gr_N K (sk_f K n) p c → N c) (hEI : ∀ c, E c → dp_I K c (sk_f K n c)) {S : List (Nat × Nat × Nat)} {p : Nat} (h1 : K p = 1) (h8 : K (p + 1) = 8 ∨ K (p + 1) = 9) (hp : E p) (h : pm_C K V (sk_f K n) n E D N S (sk_f K n p)) :
    K (p + 2) = 1 ∧ pm_C K V (sk_f K n) n E D N ((K (p + 1) - 3, 0, p + 2) :: (1, 0, 0) :: (4, 0, 0) :: S) (p + 3) := sorry
theorem pm_F (hE : ∀ p, E p → gr_EC K V (sk_f K n) E D p) (hN : ∀ p, E p → ∀ c, gr_N K (sk_f K n) p c → N c) (hD : ∀ p, D p → gr_DC K (sk_f K n) D p) (hEI : ∀ c, E c → dp_I K c (sk_f K n c)) (hDI : ∀ c, D c → dp_I K c (sk_f K n c))
    {g x st : Nat} {S : List (Nat × Nat × Nat)} {p : Nat} (h : pm_C K V (sk_f K n) n E D N ((g, x, st) :: S) p) :
    K p ≠ 0 ∧ ∃ p' new, pm_T K V (sk_f K n) p g x st p' new ∧ pm_C K V (sk_f K n) n E D N (new ++ S) p' := sorry
end
end
section
section
variable {K : Nat → Nat} {V : Nat → Int32} {n : Nat} {E D E' D' N : Nat → Prop}
theorem pm_B (hNt : ∀ c, N c) (hE : ∀ p, gr_EC K V (sk_f K n) E D p → E' p) (hD : ∀ p, gr_DC K (sk_f K n) D p → D' p) (hm : ∀ c, E c → E' c) (hn : ∀ c, D c → D' c) (hEI : ∀ c, E c → dp_I K c (sk_f K n c)) (hDI : ∀ c, D c → dp_I K c (sk_f K n c))
    {g x st : Nat} {S : List (Nat × Nat × Nat)} {p p' : Nat} {new : List (Nat × Nat × Nat)} (t : pm_T K V (sk_f K n) p g x st p' new) (h : pm_C K V (sk_f K n) n E D N (new ++ S) p') :
    pm_C K V (sk_f K n) n E' D' N ((g, x, st) :: S) p := sorry
end
end
section
/-! the component's walk of roles, purely -/
section
variable {K : Nat → Nat} {V : Nat → Int32} {n : Nat}
theorem dp_cst (hn : ∀ i, n ≤ i → K i = 0) : ∀ d, dp_d K (n + d) = dp_d K n := sorry
theorem dp_le (hn : ∀ i, n ≤ i → K i = 0) {i j : Nat} (h : dp_I K i j) (hi : i < n) : j ≤ n := sorry
/-- a later place of no greater depth lies behind the item -/
theorem dp_aft {c c' j : Nat} (h : dp_I K c j) (hd : dp_d K c' ≤ dp_d K c) (hc : c < c') : j ≤ c' := sorry
theorem ls_Min {i s p : Nat} (hI : dp_I K i (sk_f K n i)) (h1 : K i = 1) (hL : dp_L K (i + 1) s) (hs : s < sk_f K n i) (hM : ls_M K (sk_f K n) s p) :
    s ≤ p ∧ dp_I K p (sk_f K n p) ∧ sk_f K n p < sk_f K n i ∧ dp_d K p = dp_d K i + 1 := sorry
theorem gr_FSof {i : Nat} (h : gr_SH K V (sk_f K n) i) (h1 : K i = 1) : gr_FS K V (sk_f K n) i (K (i + 1)) := sorry
/-- the parts of a form with a keyword lie behind it -/
theorem gr_s2 {i : Nat} (hI : dp_I K i (sk_f K n i)) (h1 : K i = 1) (h6 : 6 ≤ K (i + 1)) : i + 2 < sk_f K n i ∧ dp_L K (i + 1) (i + 2) := sorry
def gr_Ch (K a : Nat → Nat) (i c : Nat) : Prop := gr_E K a i c ∨ gr_D K a i c ∨ gr_N K a i c
/-- the shape of a binding form -/
theorem gr_bind {i : Nat} (hI : dp_I K i (sk_f K n i)) (h1 : K i = 1) (h7 : 7 ≤ K (i + 1)) (h9 : K (i + 1) ≤ 9) (hS : gr_SH K V (sk_f K n) i) :
    K (i + 2) = 1 ∧ dp_I K (i + 2) (sk_f K n (i + 2)) ∧ dp_I K (sk_f K n (i + 2)) (sk_f K n (sk_f K n (i + 2))) ∧ sk_f K n (sk_f K n (i + 2)) < sk_f K n i ∧ dp_d K (sk_f K n (i + 2)) = dp_d K i + 1 := sorry
/-- a bind of a LET, as it lies -/
theorem gr_bnd {i b : Nat} (hI : dp_I K i (sk_f K n i)) (h1 : K i = 1) (h8 : K (i + 1) = 8 ∨ K (i + 1) = 9) (hS : gr_SH K V (sk_f K n) i) (hb : ls_M K (sk_f K n) (i + 3) b) :
    i + 3 ≤ b ∧ K b = 1 ∧ K (b + 1) = 4 ∧ dp_I K b (sk_f K n b) ∧ dp_I K (b + 2) (sk_f K n (b + 2)) ∧ sk_f K n b = sk_f K n (b + 2) + 1 ∧ sk_f K n b < sk_f K n (i + 2) ∧ dp_d K b = dp_d K i + 2 ∧ gr_BS K V (sk_f K n) (K (i + 1)) (i + 2) b := sorry
theorem gr_in {i c : Nat} (hI : dp_I K i (sk_f K n i)) (hS : gr_SH K V (sk_f K n) i) (h : gr_Ch K (sk_f K n) i c) : i < c ∧ dp_I K c (sk_f K n c) ∧ sk_f K n c < sk_f K n i := sorry
/-- where a child of a form lies -/
theorem gr_lev {i c : Nat} (hI : dp_I K i (sk_f K n i)) (hS : gr_SH K V (sk_f K n) i) (h : gr_Ch K (sk_f K n) i c) :
    (dp_d K c = dp_d K i + 1 ∧ ((7 ≤ K (i + 1) ∧ K (i + 1) ≤ 9) → c = sk_f K n (i + 2))) ∨
    (7 ≤ K (i + 1) ∧ K (i + 1) ≤ 9 ∧ K i = 1 ∧ c < sk_f K n (i + 2) ∧ (sk_f K n c = c + 1 ∨ ((K (i + 1) = 8 ∨ K (i + 1) = 9) ∧ ∃ b, ls_M K (sk_f K n) (i + 3) b ∧ c = b + 2))) := sorry
theorem gr_sep {i c c' : Nat} (hI : dp_I K i (sk_f K n i)) (hS : gr_SH K V (sk_f K n) i) (h : gr_Ch K (sk_f K n) i c) (h' : gr_Ch K (sk_f K n) i c') (hc : c < c') : sk_f K n c ≤ c' := sorry
end
end
section
/-- the walk of roles at a token: r the roles, par who gave them -/
def rw_W (K : Nat → Nat) (V : Nat → Int32) (a : Nat → Nat) (n at' : Nat) (r : Nat → Int32) (par : Nat → Nat) : Prop :=
  (∀ i, at' ≤ i → i < n → r i ≠ 0 → ∀ m, i < m → m < a i → r m = 0) ∧
  (∀ i, i < at' → r i = 1 → gr_SH K V a i ∧ (∀ c, gr_E K a i c → r c = 1 ∧ par c = i) ∧ (∀ c, gr_D K a i c → r c = 2 ∧ par c = i) ∧ (∀ c, gr_N K a i c → r c = 3 ∧ par c = i)) ∧
  (∀ i, i < at' → r i = 2 → gr_DS K a i ∧ ∀ c, gr_DM K a i c → r c = 2 ∧ par c = i) ∧
  (∀ c, c < n → r c ≠ 0 → c = 0 ∨ (par c < c ∧ par c < at' ∧ c < a (par c) ∧ ((r (par c) = 1 ∧ ((r c = 1 ∧ gr_E K a (par c) c) ∨ (r c = 2 ∧ gr_D K a (par c) c) ∨ (r c = 3 ∧ gr_N K a (par c) c))) ∨ (r (par c) = 2 ∧ r c = 2 ∧ gr_DM K a (par c) c)))) ∧
  r 0 = 1
section
variable {K : Nat → Nat} {V : Nat → Int32} {n : Nat}
theorem rw_gen {at' : Nat} {r r' : Nat → Int32} {par : Nat → Nat} {Ch : Nat → Prop} (hB : ∀ i, i < n → K i ≠ 2 → dp_I K i (sk_f K n i)) (hat : at' < n) (W : rw_W K V (sk_f K n) n at' r par) (h0 : r at' ≠ 0)
    (hin : ∀ c, Ch c → at' < c ∧ dp_I K c (sk_f K n c) ∧ sk_f K n c < sk_f K n at') (hsep : ∀ c c', Ch c → Ch c' → c < c' → sk_f K n c ≤ c') (hr : ∀ c, ¬ Ch c → r' c = r c) :
    (∀ c, c ≤ at' ∨ r c ≠ 0 → ¬ Ch c ∧ r' c = r c) ∧ (∀ i, at' + 1 ≤ i → i < n → r' i ≠ 0 → ∀ m, i < m → m < sk_f K n i → r' m = 0) := sorry
theorem rw_skip {at' : Nat} {r : Nat → Int32} {par : Nat → Nat} (W : rw_W K V (sk_f K n) n at' r par) (h1 : r at' ≠ 1) (h2 : r at' ≠ 2) : rw_W K V (sk_f K n) n (at' + 1) r par := sorry
theorem rw_atom {at' : Nat} {r : Nat → Int32} {par : Nat → Nat} (W : rw_W K V (sk_f K n) n at' r par) (h1 : r at' = 1) (hk : K at' = 3 ∨ K at' = 4 ∨ K at' = 5) : rw_W K V (sk_f K n) n (at' + 1) r par := sorry
theorem rw_datom {at' : Nat} {r : Nat → Int32} {par : Nat → Nat} (W : rw_W K V (sk_f K n) n at' r par) (h1 : r at' = 2) (hk : K at' = 3 ∨ K at' = 5) : rw_W K V (sk_f K n) n (at' + 1) r par := sorry
theorem rw_form {at' : Nat} {r r' : Nat → Int32} {par : Nat → Nat} (hB : ∀ i, i < n → K i ≠ 2 → dp_I K i (sk_f K n i)) (hat : at' < n) (W : rw_W K V (sk_f K n) n at' r par) (h1 : r at' = 1) (k1 : K at' = 1) (hS : gr_SH K V (sk_f K n) at')
    (e1 : ∀ c, gr_E K (sk_f K n) at' c → r' c = 1) (e2 : ∀ c, gr_D K (sk_f K n) at' c → r' c = 2) (e3 : ∀ c, gr_N K (sk_f K n) at' c → r' c = 3) (e4 : ∀ c, ¬ gr_Ch K (sk_f K n) at' c → r' c = r c) :
    ∃ par', rw_W K V (sk_f K n) n (at' + 1) r' par' := sorry
theorem rw_dform {at' c0 : Nat} {r r' : Nat → Int32} {par : Nat → Nat} (hB : ∀ i, i < n → K i ≠ 2 → dp_I K i (sk_f K n i)) (hat : at' < n) (W : rw_W K V (sk_f K n) n at' r par) (h1 : r at' = 2) (k1 : K at' = 1) (hS : ls_C K (sk_f K n) (at' + 1) c0)
    (e1 : ∀ c, gr_DM K (sk_f K n) at' c → r' c = 2) (e4 : ∀ c, ¬ gr_DM K (sk_f K n) at' c → r' c = r c) :
    ∃ par', rw_W K V (sk_f K n) n (at' + 1) r' par' := sorry
/-- what the grammar says of the root it says of every role -/
theorem rw_X {at' : Nat} {r : Nat → Int32} {par : Nat → Nat} (W : rw_W K V (sk_f K n) n at' r par) {k : Nat} (h : gr_X K V (sk_f K n) k true 0) :
    ∀ d c, c ≤ d → c < n → (r c = 1 → ∃ k', gr_X K V (sk_f K n) k' true c) ∧ (r c = 2 → ∃ k', gr_X K V (sk_f K n) k' false c) := sorry
theorem rw_no {at' : Nat} {r : Nat → Int32} {par : Nat → Nat} (W : rw_W K V (sk_f K n) n at' r par) (hat : at' < n) (h : (r at' = 1 ∧ ¬ gr_SH K V (sk_f K n) at') ∨ (r at' = 2 ∧ ¬ gr_DS K (sk_f K n) at')) (k : Nat) : ¬ gr_X K V (sk_f K n) k true 0 := sorry
end
end
section
/-! scope, purely -/
def sc_nm (K a : Nat → Nat) (i j : Nat) : Nat := if K (i + 1) = 7 then i + 3 + j else it_f a j (i + 3) + 1
def sc_ls (K a : Nat → Nat) (sc : Nat → Int32) (i : Nat) : Nat → Int32
  | 0 => sc i
  | j + 1 => nI (sc_nm K a i j)
def sc_L (K a : Nat → Nat) (sc : Nat → Int32) (i : Nat) : Prop :=
  (K (i + 1) ≤ 6 ∨ 10 ≤ K (i + 1) → ∀ c, gr_E K a i c → sc c = sc i) ∧
  (7 ≤ K (i + 1) → K (i + 1) ≤ 9 → ∀ c, ls_C K a (i + 3) c → (∀ j, j < c → sc (sc_nm K a i j) = sc_ls K a sc i j) ∧ sc (a (i + 2)) = sc_ls K a sc i c ∧ (K (i + 1) ≠ 7 → ∀ j, j < c → sc (it_f a j (i + 3) + 2) = if K (i + 1) = 9 then sc_ls K a sc i c else sc i))
def sc_H (n : Nat) (sc : Nat → Int32) : List Nat → Int32 → Prop
  | [], s => s = -1
  | m :: l, s => s = nI m ∧ m < n ∧ sc_H n sc l (sc m)
def sc_B (K : Nat → Nat) (V : Nat → Int32) (a : Nat → Nat) (i : Nat) (x : Int32) : Prop :=
  ∃ j, j < i ∧ K j = 1 ∧ 7 ≤ K (j + 1) ∧ K (j + 1) ≤ 9 ∧ i < a j ∧ (∃ m, gr_N K a j m ∧ V m = x) ∧ (K (j + 1) = 9 ∨ a (j + 2) ≤ i)
def sc_nl (K a : Nat → Nat) (i : Nat) (l : List Nat) : Nat → List Nat
  | 0 => l
  | j + 1 => sc_nm K a i j :: sc_nl K a i l j
/-- the place of a name in a chain -/
def sc_F (V : Nat → Int32) (x : Int32) : List Nat → Nat → Prop
  | [], _ => False
  | m :: l, h => (V m = x ∧ h = 0) ∨ (V m ≠ x ∧ ∃ h', h = h' + 1 ∧ sc_F V x l h')
section
variable {K : Nat → Nat} {V : Nat → Int32} {n : Nat}
theorem sc_nl_len {i : Nat} {l : List Nat} : ∀ c, (sc_nl K (sk_f K n) i l c).length = l.length + c := sorry
theorem sc_nl_mem {i : Nat} {l : List Nat} {x : Int32} : ∀ c, (∃ m, m ∈ sc_nl K (sk_f K n) i l c ∧ V m = x) ↔ ((∃ j, j < c ∧ V (sc_nm K (sk_f K n) i j) = x) ∨ ∃ m, m ∈ l ∧ V m = x) := sorry
theorem sc_nl_m {i : Nat} {l : List Nat} : ∀ (c m : Nat), m ∈ sc_nl K (sk_f K n) i l c → (∃ j, j < c ∧ m = sc_nm K (sk_f K n) i j) ∨ m ∈ l := sorry
theorem sc_nl_H {sc : Nat → Int32} {i : Nat} {l : List Nat} {c : Nat} (hl : sc_H n sc l (sc i)) (hs : ∀ j, j < c → sc (sc_nm K (sk_f K n) i j) = sc_ls K (sk_f K n) sc i j) (hn : ∀ j, j < c → sc_nm K (sk_f K n) i j < n) :
    ∀ d, d ≤ c → sc_H n sc (sc_nl K (sk_f K n) i l d) (sc_ls K (sk_f K n) sc i d) := sorry
theorem sc_Hc {sc sc' : Nat → Int32} : ∀ {l : List Nat} {s : Int32}, (∀ m, m ∈ l → sc' m = sc m) → sc_H n sc l s → sc_H n sc' l s := sorry
/-- the names of a binding form -/
theorem sc_N {i : Nat} (h1 : K i = 1) (h7 : 7 ≤ K (i + 1)) (h9 : K (i + 1) ≤ 9) (hS : gr_SH K V (sk_f K n) i) :
    ∃ c, c ≤ 4 ∧ ls_C K (sk_f K n) (i + 3) c ∧ (∀ m, gr_N K (sk_f K n) i m ↔ ∃ j, j < c ∧ m = sc_nm K (sk_f K n) i j) ∧ (K (i + 1) = 7 → gr_P K V (i + 2) c) ∧ (K (i + 1) ≠ 7 → 1 ≤ c) := sorry
theorem sc_par {r : Nat → Int32} {par : Nat → Nat} (hB : ∀ i, i < n → K i ≠ 2 → dp_I K i (sk_f K n i)) (hn : ∀ i, n ≤ i → K i = 0) (W : rw_W K V (sk_f K n) n n r par) (hC : ∀ j, K j = 1 → 7 ≤ K (j + 1) → K (j + 1) ≤ 9 → r j = 1)
    {f i : Nat} (hf : r f = 1) (hfn : f < n) (hE : gr_E K (sk_f K n) f i) (hin : i < n) (x : Int32) :
    sc_B K V (sk_f K n) i x ↔ sc_B K V (sk_f K n) f x ∨ (7 ≤ K (f + 1) ∧ K (f + 1) ≤ 9 ∧ (∃ m, gr_N K (sk_f K n) f m ∧ V m = x) ∧ (K (f + 1) = 9 ∨ sk_f K n (f + 2) ≤ i)) := sorry
theorem sc_ch {at' : Nat} {r sc : Nat → Int32} {par : Nat → Nat} (hB : ∀ i, i < n → K i ≠ 2 → dp_I K i (sk_f K n i)) (hn : ∀ i, n ≤ i → K i = 0) (W : rw_W K V (sk_f K n) n n r par) (hC : ∀ j, K j = 1 → 7 ≤ K (j + 1) → K (j + 1) ≤ 9 → r j = 1)
    (h0 : sc 0 = -1) (hS : ∀ i, i < at' → i < n → r i = 1 → K i = 1 → sc_L K (sk_f K n) sc i) :
    ∀ d i, i ≤ d → i < n → i ≤ at' → r i = 1 → ∃ l, sc_H n sc l (sc i) ∧ l.length ≤ i ∧ (∀ m, m ∈ l → r m = 3 ∧ par m < i) ∧ ∀ x, (∃ m, m ∈ l ∧ V m = x) ↔ sc_B K V (sk_f K n) i x := sorry
end
end
section
/-! the machine's measure; every token is spoken of -/
def pm_fl (g : Nat) : Nat := if g = 3 ∨ g = 8 then 1 else 0
def pm_fS : List (Nat × Nat × Nat) → Nat
  | [] => 0
  | (g, _, _) :: _ => pm_fl g
theorem pm_fS1 : ∀ S, pm_fS S ≤ 1 := sorry
section
variable {K : Nat → Nat} {V : Nat → Int32} {n : Nat}
theorem gr_n13 (h : Nat) : 1 ≤ gr_n h ∧ gr_n h ≤ 3 := sorry
theorem pm_dec (hn : ∀ i, n ≤ i → K i = 0) {p g x st p' : Nat} {new S : List (Nat × Nat × Nat)} (hp : p < n) (t : pm_T K V (sk_f K n) p g x st p' new) :
    p' ≤ n ∧ 4 * (n - p') + (new ++ S).length + 2 * pm_fS (new ++ S) < 4 * (n - p) + (S.length + 1) + 2 * pm_fl g ∧ (S.length + 1 + pm_fl g ≤ 2 * p + 2 → (new ++ S).length + pm_fS (new ++ S) ≤ 2 * p' + 2) := sorry
theorem pm_cov {r : Nat → Int32} {par : Nat → Nat} (hn : ∀ i, n ≤ i → K i = 0) (W : rw_W K V (sk_f K n) n n r par)
    {g x st : Nat} {S : List (Nat × Nat × Nat)} {p p' : Nat} {new : List (Nat × Nat × Nat)} (h : pm_C K V (sk_f K n) n (fun c => r c = 1) (fun c => r c = 2) (fun c => r c = 3) ((g, x, st) :: S) p) (t : pm_T K V (sk_f K n) p g x st p' new) :
    ∀ t, p ≤ t → t < p' → (K t = 4 → (r t = 1 ∧ g = 1 ∧ t = p ∧ p' = p + 1 ∧ new = []) ∨ r t = 3) ∧ (K t = 1 → 7 ≤ K (t + 1) → K (t + 1) ≤ 9 → r t = 1) := sorry
/-- the roles are the machine's -/
theorem rw_EC {r : Nat → Int32} {par : Nat → Nat} (hrn : ∀ c, r c ≠ 0 → c < n) (W : rw_W K V (sk_f K n) n n r par) : (∀ p, r p = 1 → gr_EC K V (sk_f K n) (fun c => r c = 1) (fun c => r c = 2) p) ∧ (∀ p, r p = 1 → ∀ c, gr_N K (sk_f K n) p c → r c = 3) ∧ (∀ p, r p = 2 → gr_DC K (sk_f K n) (fun c => r c = 2) p) := sorry
theorem pm_kc {r : Nat → Int32} {par : Nat → Nat} (hB : ∀ i, i < n → K i ≠ 2 → dp_I K i (sk_f K n i)) (hn : ∀ i, n ≤ i → K i = 0) (hrn : ∀ c, r c ≠ 0 → c < n) (hK2 : ∀ c, r c = 1 ∨ r c = 2 → K c ≠ 2) (W : rw_W K V (sk_f K n) n n r par) :
    ∀ (M : Nat) (S : List (Nat × Nat × Nat)) (p : Nat), 4 * (n - p) + S.length + 2 * pm_fS S ≤ M → p ≤ n → pm_C K V (sk_f K n) n (fun c => r c = 1) (fun c => r c = 2) (fun c => r c = 3) S p →
      (∀ t, t < p → K t = 1 → 7 ≤ K (t + 1) → K (t + 1) ≤ 9 → r t = 1) → ∀ t, K t = 1 → 7 ≤ K (t + 1) → K (t + 1) ≤ 9 → r t = 1 := sorry
end
end
section
/-! the tokens as both sides hold them -/
def tk_K (tk : Nat → Int32) (n i : Nat) : Nat := if i < n then (tk i).toNatClampNeg else 0
def tk_ok (tk : Nat → Int32) (n : Nat) : Prop := n ≤ 64 ∧ ∀ i, i < n → ∃ k : Nat, 1 ≤ k ∧ k ≤ 20 ∧ tk i = nI k
section
variable {tk : Nat → Int32} {n : Nat}
theorem tk_v (H : tk_ok tk n) {i : Nat} (hi : i < n) : tk i = nI (tk_K tk n i) ∧ 1 ≤ tk_K tk n i ∧ tk_K tk n i ≤ 20 := sorry
theorem tk_0 {i : Nat} (hi : n ≤ i) : tk_K tk n i = 0 := sorry
theorem tk_lt {i : Nat} (h : tk_K tk n i ≠ 0) : i < n := sorry
theorem tk_20 (H : tk_ok tk n) (i : Nat) : tk_K tk n i ≤ 20 := sorry
theorem tk_c (H : tk_ok tk n) {i : Nat} (hi : i < n) : tk (nI i).toNatClampNeg = nI (tk_K tk n i) := sorry
theorem tk_in (H : tk_ok tk n) {i : Nat} (hi : i < n) : vp_in (nI i) 64 := sorry
/-- a branch on a token's kind -/
theorem tk_b (H : tk_ok tk n) {i : Nat} (hi : i < n) (c : Nat) {A B : Prop} (f : tk_K tk n i = c → A) (g : tk_K tk n i ≠ c → B) {y : Int32} (hy : y = nI c := by rfl) (hc : c < 2 ^ 31 := by omega) : (tk (nI i).toNatClampNeg = y → A) ∧ (¬ tk (nI i).toNatClampNeg = y → B) := sorry
end
theorem ni_2 (a : Nat) : nI a + 2 = nI (a + 2) := sorry
theorem ni_3 (a : Nat) : nI a + 3 = nI (a + 3) := sorry
theorem ni_4 (a : Nat) : nI a + 4 = nI (a + 4) := sorry
theorem ni_5 (a : Nat) : nI a + 5 = nI (a + 5) := sorry
theorem ni_m {a : Nat} (h : 1 ≤ a) : nI a - 1 = nI (a - 1) := sorry
theorem ni_nm1 {a : Nat} (h : a < 2 ^ 31) : ¬ nI a = -1 := sorry
/-- the skip function moves on -/
theorem sk_gt {K : Nat → Nat} {n : Nat} (hn : ∀ i, n ≤ i → K i = 0) (p : Nat) : p < sk_f K n p := sorry
theorem it_gt {K : Nat → Nat} {n : Nat} (hn : ∀ i, n ≤ i → K i = 0) (s x : Nat) : ∀ d, it_f (sk_f K n) x s + d ≤ it_f (sk_f K n) (x + d) s := sorry
theorem ls_bd {K : Nat → Nat} {n s c : Nat} (hn : ∀ i, n ≤ i → K i = 0) (lc : ls_C K (sk_f K n) s c) : (∀ x, x ≤ c → it_f (sk_f K n) x s < n ∧ s + x ≤ it_f (sk_f K n) x s) ∧ s + c < n := sorry
/-- the component's table of ends -/
def xb_A (K : Nat → Nat) (n : Nat) (af : Nat → Int32) : Prop := ∀ i, i < n → K i ≠ 2 → dp_I K i (sk_f K n i) ∧ af i = nI (sk_f K n i)
end
section
/-! the component's parens, item by item -/
def xo_O (K : Nat → Nat) (af : Nat → Int32) (m : Nat) : List Nat → Int32 → Int → Prop
  | [], o, d => o = -1 ∧ d = 0
  | a :: l, o, d => o = nI a ∧ a < m ∧ K a = 1 ∧ dp_d K a = d - 1 ∧ (∀ x, a < x → x ≤ m → dp_d K a < dp_d K x) ∧ xo_O K af m l (af a) (d - 1)
section
variable {K : Nat → Nat}
theorem xo_len {af : Nat → Int32} {m : Nat} : ∀ {l : List Nat} {o : Int32} {d : Int}, xo_O K af m l o d → d = l.length := sorry
theorem xo_mem {af : Nat → Int32} {m b : Nat} : ∀ {l : List Nat} {o : Int32} {d : Int}, xo_O K af m l o d → b ∈ l → b < m ∧ dp_d K b < d := sorry
theorem xo_up {af af' : Nat → Int32} {m : Nat} : ∀ {l : List Nat} {o : Int32} {d : Int}, xo_O K af m l o d → (∀ b, b ∈ l → af' b = af b) → d ≤ dp_d K (m + 1) → xo_O K af' (m + 1) l o d := sorry
end
section
variable {xdl xtn xpp xvc xcc xfc xoc xag xan xex xen xfl xac xst xsp xmd xrt xcu : Int32} {xtk xtv xaf xro xsc xho xvk xvf xvs xcv xco xff xfp xfe xfb xop : Nat → Int32} {n : Nat}
theorem xo_loop (H : tk_ok xtk n) {post : Int32 → SX → Prop}
    (h1 : ∀ af', xb_A (tk_K xtk n) n af' → (0 < n → tk_K xtk n 0 ≠ 2) → post 1 (xdl, nI n, xpp, xvc, xcc, xfc, xoc, xag, xan, xex, xen, xfl, xac, xst, xsp, xmd, xrt, xcu, xtk, xtv, af', xro, xsc, xho, xvk, xvf, xvs, xcv, xco, xff, xfp, xfe, xfb, xop))
    (h0 : ∀ af', ¬ dp_I (tk_K xtk n) 0 n → post 0 (xdl, nI n, xpp, xvc, xcc, xfc, xoc, xag, xan, xex, xen, xfl, xac, xst, xsp, xmd, xrt, xcu, xtk, xtv, af', xro, xsc, xho, xvk, xvf, xvs, xcv, xco, xff, xfp, xfe, xfb, xop)) :
    ∀ (d m : Nat) (l : List Nat) (o : Int32) (af : Nat → Int32), m + d = n → xo_O (tk_K xtk n) af m l o (dp_d (tk_K xtk n) m) → (∀ i, i < m → tk_K xtk n i ≠ 2 → i ∈ l ∨ ∃ j, dp_I (tk_K xtk n) i j ∧ af i = nI j) → (0 < m → tk_K xtk n 0 ≠ 2) →
      wX_parensMatch_4 post xdl (nI n) xpp xvc xcc xfc xoc xag xan xex xen xfl xac xst xsp xmd xrt xcu (d + 1) o (nI m) xtk xtv af xro xsc xho xvk xvf xvs xcv xco xff xfp xfe xfb xop := sorry
theorem xo_parens (H : tk_ok xtk n) {post : Int32 → SX → Prop}
    (h1 : ∀ af', xb_A (tk_K xtk n) n af' → (0 < n → tk_K xtk n 0 ≠ 2) → post 1 (xdl, nI n, xpp, xvc, xcc, xfc, xoc, xag, xan, xex, xen, xfl, xac, xst, xsp, xmd, xrt, xcu, xtk, xtv, af', xro, xsc, xho, xvk, xvf, xvs, xcv, xco, xff, xfp, xfe, xfb, xop))
    (h0 : ∀ af', ¬ dp_I (tk_K xtk n) 0 n → post 0 (xdl, nI n, xpp, xvc, xcc, xfc, xoc, xag, xan, xex, xen, xfl, xac, xst, xsp, xmd, xrt, xcu, xtk, xtv, af', xro, xsc, xho, xvk, xvf, xvs, xcv, xco, xff, xfp, xfe, xfb, xop)) : wpX_parensMatch post (xdl, nI n, xpp, xvc, xcc, xfc, xoc, xag, xan, xex, xen, xfl, xac, xst, xsp, xmd, xrt, xcu, xtk, xtv, xaf, xro, xsc, xho, xvk, xvf, xvs, xcv, xco, xff, xfp, xfe, xfb, xop) := sorry
theorem xi_loop (H : tk_ok xtk n) (A : xb_A (tk_K xtk n) n xaf) {s c : Nat} (lc : ls_C (tk_K xtk n) (sk_f (tk_K xtk n) n) s c) {post : Int32 → Prop} (hp : post (nI c)) :
    ∀ d x, x + d = c → wX_itemCount_6 post xdl xtn xpp xvc xcc xfc xoc xag xan xex xen xfl xac xst xsp xmd xrt xcu xtk xtv xaf xro xsc xho xvk xvf xvs xcv xco xff xfp xfe xfb xop (d + 1) (nI (it_f (sk_f (tk_K xtk n) n) x s)) (nI x) := sorry
theorem xi_items (H : tk_ok xtk n) (A : xb_A (tk_K xtk n) n xaf) {i c : Nat} (lc : ls_C (tk_K xtk n) (sk_f (tk_K xtk n) n) (i + 1) c) {post : Int32 → Prop} (hp : post (nI c)) : wpX_itemCount post (xdl, xtn, xpp, xvc, xcc, xfc, xoc, xag, xan, xex, xen, xfl, xac, xst, xsp, xmd, xrt, xcu, xtk, xtv, xaf, xro, xsc, xho, xvk, xvf, xvs, xcv, xco, xff, xfp, xfe, xfb, xop) (nI i) := sorry
theorem xg_loop (H : tk_ok xtk n) (A : xb_A (tk_K xtk n) n xaf) {s c : Nat} (lc : ls_C (tk_K xtk n) (sk_f (tk_K xtk n) n) s c) {ρ : Int32} {post : SX → Prop}
    (hp : ∀ r', (∀ q, ls_M (tk_K xtk n) (sk_f (tk_K xtk n) n) s q → r' q = ρ) → (∀ q, ¬ ls_M (tk_K xtk n) (sk_f (tk_K xtk n) n) s q → r' q = xro q) → post (xdl, xtn, xpp, xvc, xcc, xfc, xoc, xag, xan, xex, xen, xfl, xac, xst, xsp, xmd, xrt, xcu, xtk, xtv, xaf, r', xsc, xho, xvk, xvf, xvs, xcv, xco, xff, xfp, xfe, xfb, xop)) :
    ∀ d x (r' : Nat → Int32), x + d = c → (∀ q, (∃ y, y < x ∧ q = it_f (sk_f (tk_K xtk n) n) y s) → r' q = ρ) → (∀ q, ¬ (∃ y, y < x ∧ q = it_f (sk_f (tk_K xtk n) n) y s) → r' q = xro q) →
      wX_giveRole_5 post ρ xdl xtn xpp xvc xcc xfc xoc xag xan xex xen xfl xac xst xsp xmd xrt xcu (d + 1) (nI (it_f (sk_f (tk_K xtk n) n) x s)) (nI x) xtk xtv xaf r' xsc xho xvk xvf xvs xcv xco xff xfp xfe xfb xop := sorry
theorem xg_give (H : tk_ok xtk n) (A : xb_A (tk_K xtk n) n xaf) {s c : Nat} (lc : ls_C (tk_K xtk n) (sk_f (tk_K xtk n) n) s c) {ρ : Int32} {post : SX → Prop}
    (hp : ∀ r', (∀ q, ls_M (tk_K xtk n) (sk_f (tk_K xtk n) n) s q → r' q = ρ) → (∀ q, ¬ ls_M (tk_K xtk n) (sk_f (tk_K xtk n) n) s q → r' q = xro q) → post (xdl, xtn, xpp, xvc, xcc, xfc, xoc, xag, xan, xex, xen, xfl, xac, xst, xsp, xmd, xrt, xcu, xtk, xtv, xaf, r', xsc, xho, xvk, xvf, xvs, xcv, xco, xff, xfp, xfe, xfb, xop)) : wpX_giveRole post (xdl, xtn, xpp, xvc, xcc, xfc, xoc, xag, xan, xex, xen, xfl, xac, xst, xsp, xmd, xrt, xcu, xtk, xtv, xaf, xro, xsc, xho, xvk, xvf, xvs, xcv, xco, xff, xfp, xfe, xfb, xop) (nI s) ρ := sorry
theorem xn_loop (H : tk_ok xtk n) {L q : Nat} (hq : q < n) {post : Int32 → SX → Prop}
    (h1 : (∀ x, L < x → x < q → xro x = 3 → xtv x ≠ xtv q) → post 1 (xdl, xtn, xpp, xvc, xcc, xfc, xoc, xag, xan, xex, xen, xfl, xac, xst, xsp, xmd, xrt, xcu, xtk, xtv, xaf, upd xro q 3, xsc, xho, xvk, xvf, xvs, xcv, xco, xff, xfp, xfe, xfb, xop))
    (h0 : (∃ x, L < x ∧ x < q ∧ xro x = 3 ∧ xtv x = xtv q) → post 0 (xdl, xtn, xpp, xvc, xcc, xfc, xoc, xag, xan, xex, xen, xfl, xac, xst, xsp, xmd, xrt, xcu, xtk, xtv, xaf, xro, xsc, xho, xvk, xvf, xvs, xcv, xco, xff, xfp, xfe, xfb, xop)) :
    ∀ d m, m + d = q → L < m → (∀ x, L < x → x < m → xro x = 3 → xtv x ≠ xtv q) → wX_takeName_16 post (nI q) xdl xtn xpp xvc xcc xfc xoc xag xan xex xen xfl xac xst xsp xmd xrt xcu xtk xtv xaf xro xsc xho xvk xvf xvs xcv xco xff xfp xfe xfb xop (d + 1) (nI m) := sorry
theorem xn_take (H : tk_ok xtk n) {L q : Nat} (hL : L < q) (hq : q < n) {post : Int32 → SX → Prop}
    (h1 : tk_K xtk n q = 4 → (∀ x, L < x → x < q → xro x = 3 → xtv x ≠ xtv q) → post 1 (xdl, xtn, xpp, xvc, xcc, xfc, xoc, xag, xan, xex, xen, xfl, xac, xst, xsp, xmd, xrt, xcu, xtk, xtv, xaf, upd xro q 3, xsc, xho, xvk, xvf, xvs, xcv, xco, xff, xfp, xfe, xfb, xop))
    (h0 : (tk_K xtk n q ≠ 4 ∨ ∃ x, L < x ∧ x < q ∧ xro x = 3 ∧ xtv x = xtv q) → post 0 (xdl, xtn, xpp, xvc, xcc, xfc, xoc, xag, xan, xex, xen, xfl, xac, xst, xsp, xmd, xrt, xcu, xtk, xtv, xaf, xro, xsc, xho, xvk, xvf, xvs, xcv, xco, xff, xfp, xfe, xfb, xop)) : wpX_takeName post (xdl, xtn, xpp, xvc, xcc, xfc, xoc, xag, xan, xex, xen, xfl, xac, xst, xsp, xmd, xrt, xcu, xtk, xtv, xaf, xro, xsc, xho, xvk, xvf, xvs, xcv, xco, xff, xfp, xfe, xfb, xop) (nI L) (nI q) := sorry
end
end
section
section
variable {xdl xtn xpp xvc xcc xfc xoc xag xan xex xen xfl xac xst xsp xmd xrt xcu : Int32} {xtk xtv xaf xro xsc xho xvk xvf xvs xcv xco xff xfp xfe xfb xop : Nat → Int32} {n : Nat}
/-- the number of a list's items, for a matched paren -/
theorem xl_cnt (H : tk_ok xtk n) (A : xb_A (tk_K xtk n) n xaf) {i : Nat} (hi : i < n) (k1 : tk_K xtk n i = 1) : ∃ c, ls_C (tk_K xtk n) (sk_f (tk_K xtk n) n) (i + 1) c ∧ it_f (sk_f (tk_K xtk n) n) c (i + 1) + 1 = sk_f (tk_K xtk n) n i ∧ c + (i + 1) < sk_f (tk_K xtk n) n i ∧ sk_f (tk_K xtk n) n i ≤ n := sorry
/-- names so far: no list of names ends before them -/
theorem xl_Px {q x c : Nat} (h : ∀ j, j < x → tk_K xtk n (q + 1 + j) = 4) (p : gr_P (tk_K xtk n) xtv q c) : x ≤ c := sorry
theorem xl_59 (H : tk_ok xtk n) (A : xb_A (tk_K xtk n) n xaf) {i x : Nat} {r' : Nat → Int32} (k1 : tk_K xtk n i = 1) (k7 : tk_K xtk n (i + 1) = 7) (l2 : ls_C (tk_K xtk n) (sk_f (tk_K xtk n) n) (i + 2) 2) (k2 : tk_K xtk n (i + 2) = 1) {post : Int32 → SX → Prop}
    (h1 : ∀ r', gr_FS (tk_K xtk n) xtv (sk_f (tk_K xtk n) n) i 7 → (∀ c, gr_E (tk_K xtk n) (sk_f (tk_K xtk n) n) i c → r' c = 1) → (∀ c, gr_N (tk_K xtk n) (sk_f (tk_K xtk n) n) i c → r' c = 3) → (∀ c, ¬ gr_Ch (tk_K xtk n) (sk_f (tk_K xtk n) n) i c → r' c = xro c) → post 1 (xdl, xtn, xpp, xvc, xcc, xfc, xoc, xag, xan, xex, xen, xfl, xac, xst, xsp, xmd, xrt, xcu, xtk, xtv, xaf, r', xsc, xho, xvk, xvf, xvs, xcv, xco, xff, xfp, xfe, xfb, xop))
    (h0 : ∀ r', ¬ gr_FS (tk_K xtk n) xtv (sk_f (tk_K xtk n) n) i 7 → post 0 (xdl, xtn, xpp, xvc, xcc, xfc, xoc, xag, xan, xex, xen, xfl, xac, xst, xsp, xmd, xrt, xcu, xtk, xtv, xaf, r', xsc, xho, xvk, xvf, xvs, xcv, xco, xff, xfp, xfe, xfb, xop))
    (hx : x ≤ 4) (hp : i + 2 + 1 + x < n) (hk : ∀ j, j < x → tk_K xtk n (i + 2 + 1 + j) = 4) (hd : ∀ j j', j < j' → j' < x → xtv (i + 2 + 1 + j) ≠ xtv (i + 2 + 1 + j')) (hr : ∀ j, j < x → r' (i + 2 + 1 + j) = 3) (hn : ∀ q, (∀ j, j < x → q ≠ i + 2 + 1 + j) → r' q = xro q)
    (hend : tk_K xtk n (i + 2 + 1 + x) ≠ 2 → x = 4) : wX_lambdaFits_59 post (nI (i + 2)) (nI (i + 2 + 1 + x)) xdl xtn xpp xvc xcc xfc xoc xag xan xex xen xfl xac xst xsp xmd xrt xcu xtk xtv xaf r' xsc xho xvk xvf xvs xcv xco xff xfp xfe xfb xop := sorry
theorem xl_lamL (H : tk_ok xtk n) (A : xb_A (tk_K xtk n) n xaf) {i : Nat} (k1 : tk_K xtk n i = 1) (k7 : tk_K xtk n (i + 1) = 7) (l2 : ls_C (tk_K xtk n) (sk_f (tk_K xtk n) n) (i + 2) 2) (k2 : tk_K xtk n (i + 2) = 1) (hz : ∀ m, i < m → m < sk_f (tk_K xtk n) n i → xro m = 0) {post : Int32 → SX → Prop}
    (h1 : ∀ r', gr_FS (tk_K xtk n) xtv (sk_f (tk_K xtk n) n) i 7 → (∀ c, gr_E (tk_K xtk n) (sk_f (tk_K xtk n) n) i c → r' c = 1) → (∀ c, gr_N (tk_K xtk n) (sk_f (tk_K xtk n) n) i c → r' c = 3) → (∀ c, ¬ gr_Ch (tk_K xtk n) (sk_f (tk_K xtk n) n) i c → r' c = xro c) → post 1 (xdl, xtn, xpp, xvc, xcc, xfc, xoc, xag, xan, xex, xen, xfl, xac, xst, xsp, xmd, xrt, xcu, xtk, xtv, xaf, r', xsc, xho, xvk, xvf, xvs, xcv, xco, xff, xfp, xfe, xfb, xop))
    (h0 : ∀ r', ¬ gr_FS (tk_K xtk n) xtv (sk_f (tk_K xtk n) n) i 7 → post 0 (xdl, xtn, xpp, xvc, xcc, xfc, xoc, xag, xan, xex, xen, xfl, xac, xst, xsp, xmd, xrt, xcu, xtk, xtv, xaf, r', xsc, xho, xvk, xvf, xvs, xcv, xco, xff, xfp, xfe, xfb, xop)) :
    ∀ d x (r' : Nat → Int32), x + d = 4 → (∀ j, j < x → tk_K xtk n (i + 2 + 1 + j) = 4) → (∀ j j', j < j' → j' < x → xtv (i + 2 + 1 + j) ≠ xtv (i + 2 + 1 + j')) → (∀ j, j < x → r' (i + 2 + 1 + j) = 3) → (∀ q, (∀ j, j < x → q ≠ i + 2 + 1 + j) → r' q = xro q) →
      wX_lambdaFits_23 post (nI (i + 2)) (d + 1) (nI (i + 2 + 1 + x)) (nI x) xdl xtn xpp xvc xcc xfc xoc xag xan xex xen xfl xac xst xsp xmd xrt xcu xtk xtv xaf r' xsc xho xvk xvf xvs xcv xco xff xfp xfe xfb xop := sorry
theorem xl_lam (H : tk_ok xtk n) (A : xb_A (tk_K xtk n) n xaf) {i : Nat} (k1 : tk_K xtk n i = 1) (k7 : tk_K xtk n (i + 1) = 7) (l2 : ls_C (tk_K xtk n) (sk_f (tk_K xtk n) n) (i + 2) 2) (hz : ∀ m, i < m → m < sk_f (tk_K xtk n) n i → xro m = 0) {post : Int32 → SX → Prop}
    (h1 : ∀ r', gr_FS (tk_K xtk n) xtv (sk_f (tk_K xtk n) n) i 7 → (∀ c, gr_E (tk_K xtk n) (sk_f (tk_K xtk n) n) i c → r' c = 1) → (∀ c, gr_N (tk_K xtk n) (sk_f (tk_K xtk n) n) i c → r' c = 3) → (∀ c, ¬ gr_Ch (tk_K xtk n) (sk_f (tk_K xtk n) n) i c → r' c = xro c) → post 1 (xdl, xtn, xpp, xvc, xcc, xfc, xoc, xag, xan, xex, xen, xfl, xac, xst, xsp, xmd, xrt, xcu, xtk, xtv, xaf, r', xsc, xho, xvk, xvf, xvs, xcv, xco, xff, xfp, xfe, xfb, xop))
    (h0 : ∀ r', ¬ gr_FS (tk_K xtk n) xtv (sk_f (tk_K xtk n) n) i 7 → post 0 (xdl, xtn, xpp, xvc, xcc, xfc, xoc, xag, xan, xex, xen, xfl, xac, xst, xsp, xmd, xrt, xcu, xtk, xtv, xaf, r', xsc, xho, xvk, xvf, xvs, xcv, xco, xff, xfp, xfe, xfb, xop)) : wpX_lambdaFits post (xdl, xtn, xpp, xvc, xcc, xfc, xoc, xag, xan, xex, xen, xfl, xac, xst, xsp, xmd, xrt, xcu, xtk, xtv, xaf, xro, xsc, xho, xvk, xvf, xvs, xcv, xco, xff, xfp, xfe, xfb, xop) (nI i) := sorry
end
end
section
section
variable {xdl xtn xpp xvc xcc xfc xoc xag xan xex xen xfl xac xst xsp xmd xrt xcu : Int32} {xtk xtv xaf xro xsc xho xvk xvf xvs xcv xco xff xfp xfe xfb xop : Nat → Int32} {n : Nat}
theorem xl_dup {K : Nat → Nat} {V : Nat → Int32} {n L x : Nat} (hn : ∀ i, n ≤ i → K i = 0) (hx : x ≤ 4) : gr_dup V (sk_f K n) L (it_f (sk_f K n) x (L + 1) + 1) ↔ ∃ k, k < x ∧ V (it_f (sk_f K n) k (L + 1) + 1) = V (it_f (sk_f K n) x (L + 1) + 1) := sorry
theorem xl_bind (H : tk_ok xtk n) (A : xb_A (tk_K xtk n) n xaf) {L b : Nat} {ol : Int32} (hL : L < b) (hb : b < n) {post : Int32 → SX → Prop}
    (h1 : tk_K xtk n b = 1 → ls_C (tk_K xtk n) (sk_f (tk_K xtk n) n) (b + 1) 2 → tk_K xtk n (b + 1) = 4 → (∀ x, L < x → x < b + 1 → xro x = 3 → xtv x ≠ xtv (b + 1)) → (ol ≠ 0 → tk_K xtk n (b + 2) = 1 ∧ tk_K xtk n (b + 3) = 7) → post 1 (xdl, xtn, xpp, xvc, xcc, xfc, xoc, xag, xan, xex, xen, xfl, xac, xst, xsp, xmd, xrt, xcu, xtk, xtv, xaf, upd (upd xro (b + 1) 3) (b + 2) 1, xsc, xho, xvk, xvf, xvs, xcv, xco, xff, xfp, xfe, xfb, xop))
    (h0 : ∀ r', ¬ (tk_K xtk n b = 1 ∧ ls_C (tk_K xtk n) (sk_f (tk_K xtk n) n) (b + 1) 2 ∧ tk_K xtk n (b + 1) = 4 ∧ (∀ x, L < x → x < b + 1 → xro x = 3 → xtv x ≠ xtv (b + 1)) ∧ (ol ≠ 0 → tk_K xtk n (b + 2) = 1 ∧ tk_K xtk n (b + 3) = 7)) → post 0 (xdl, xtn, xpp, xvc, xcc, xfc, xoc, xag, xan, xex, xen, xfl, xac, xst, xsp, xmd, xrt, xcu, xtk, xtv, xaf, r', xsc, xho, xvk, xvf, xvs, xcv, xco, xff, xfp, xfe, xfb, xop)) :
    wpX_bindFits post (xdl, xtn, xpp, xvc, xcc, xfc, xoc, xag, xan, xex, xen, xfl, xac, xst, xsp, xmd, xrt, xcu, xtk, xtv, xaf, xro, xsc, xho, xvk, xvf, xvs, xcv, xco, xff, xfp, xfe, xfb, xop) (nI L) (nI b) ol := sorry
/-- binds lie apart -/
theorem xl_ap {K : Nat → Nat} {V : Nat → Int32} {n h L s x : Nat} (hn : ∀ i, n ≤ i → K i = 0) (hB : ∀ i, i < n → K i ≠ 2 → dp_I K i (sk_f K n i)) (hb : ∀ j, j < x → gr_BS K V (sk_f K n) h L (it_f (sk_f K n) j s)) {j : Nat} (hj : j < x) : it_f (sk_f K n) j s + 4 ≤ it_f (sk_f K n) x s := sorry
theorem xl_100 (H : tk_ok xtk n) (A : xb_A (tk_K xtk n) n xaf) {i x : Nat} {r' : Nat → Int32} (hi : i < n) (k1 : tk_K xtk n i = 1) (k8 : tk_K xtk n (i + 1) = 8 ∨ tk_K xtk n (i + 1) = 9) (l2 : ls_C (tk_K xtk n) (sk_f (tk_K xtk n) n) (i + 2) 2) (k2 : tk_K xtk n (i + 2) = 1) (k3 : tk_K xtk n (i + 2 + 1) ≠ 2) {post : Int32 → SX → Prop}
    (h1 : ∀ r', gr_FS (tk_K xtk n) xtv (sk_f (tk_K xtk n) n) i (tk_K xtk n (i + 1)) → (∀ c, gr_E (tk_K xtk n) (sk_f (tk_K xtk n) n) i c → r' c = 1) → (∀ c, gr_N (tk_K xtk n) (sk_f (tk_K xtk n) n) i c → r' c = 3) → (∀ c, ¬ gr_Ch (tk_K xtk n) (sk_f (tk_K xtk n) n) i c → r' c = xro c) → post 1 (xdl, xtn, xpp, xvc, xcc, xfc, xoc, xag, xan, xex, xen, xfl, xac, xst, xsp, xmd, xrt, xcu, xtk, xtv, xaf, r', xsc, xho, xvk, xvf, xvs, xcv, xco, xff, xfp, xfe, xfb, xop))
    (h0 : ∀ r', ¬ gr_FS (tk_K xtk n) xtv (sk_f (tk_K xtk n) n) i (tk_K xtk n (i + 1)) → post 0 (xdl, xtn, xpp, xvc, xcc, xfc, xoc, xag, xan, xex, xen, xfl, xac, xst, xsp, xmd, xrt, xcu, xtk, xtv, xaf, r', xsc, xho, xvk, xvf, xvs, xcv, xco, xff, xfp, xfe, xfb, xop))
    (hx : x ≤ 4) (hp : it_f (sk_f (tk_K xtk n) n) x (i + 2 + 1) < n) (hk : ∀ j, j < x → tk_K xtk n (it_f (sk_f (tk_K xtk n) n) j (i + 2 + 1)) ≠ 2) (hb : ∀ j, j < x → gr_BS (tk_K xtk n) xtv (sk_f (tk_K xtk n) n) (tk_K xtk n (i + 1)) (i + 2) (it_f (sk_f (tk_K xtk n) n) j (i + 2 + 1))) (hr : ∀ j, j < x → r' (it_f (sk_f (tk_K xtk n) n) j (i + 2 + 1) + 1) = 3 ∧ r' (it_f (sk_f (tk_K xtk n) n) j (i + 2 + 1) + 2) = 1) (hn : ∀ q, (∀ j, j < x → q ≠ it_f (sk_f (tk_K xtk n) n) j (i + 2 + 1) + 1 ∧ q ≠ it_f (sk_f (tk_K xtk n) n) j (i + 2 + 1) + 2) → r' q = xro q)
    (hend : tk_K xtk n (it_f (sk_f (tk_K xtk n) n) x (i + 2 + 1)) ≠ 2 → x = 4) : wX_letFits_100 post (nI (i + 2)) (nI (it_f (sk_f (tk_K xtk n) n) x (i + 2 + 1))) xdl xtn xpp xvc xcc xfc xoc xag xan xex xen xfl xac xst xsp xmd xrt xcu xtk xtv xaf r' xsc xho xvk xvf xvs xcv xco xff xfp xfe xfb xop := sorry
theorem xl_letL (H : tk_ok xtk n) (A : xb_A (tk_K xtk n) n xaf) {i : Nat} {ol : Int32} (hi : i < n) (k1 : tk_K xtk n i = 1) (k8 : tk_K xtk n (i + 1) = 8 ∨ tk_K xtk n (i + 1) = 9) (ho : ol ≠ 0 ↔ tk_K xtk n (i + 1) = 9) (l2 : ls_C (tk_K xtk n) (sk_f (tk_K xtk n) n) (i + 2) 2) (k2 : tk_K xtk n (i + 2) = 1) (k3 : tk_K xtk n (i + 2 + 1) ≠ 2) (hz : ∀ m, i < m → m < sk_f (tk_K xtk n) n i → xro m = 0) {post : Int32 → SX → Prop}
    (h1 : ∀ r', gr_FS (tk_K xtk n) xtv (sk_f (tk_K xtk n) n) i (tk_K xtk n (i + 1)) → (∀ c, gr_E (tk_K xtk n) (sk_f (tk_K xtk n) n) i c → r' c = 1) → (∀ c, gr_N (tk_K xtk n) (sk_f (tk_K xtk n) n) i c → r' c = 3) → (∀ c, ¬ gr_Ch (tk_K xtk n) (sk_f (tk_K xtk n) n) i c → r' c = xro c) → post 1 (xdl, xtn, xpp, xvc, xcc, xfc, xoc, xag, xan, xex, xen, xfl, xac, xst, xsp, xmd, xrt, xcu, xtk, xtv, xaf, r', xsc, xho, xvk, xvf, xvs, xcv, xco, xff, xfp, xfe, xfb, xop))
    (h0 : ∀ r', ¬ gr_FS (tk_K xtk n) xtv (sk_f (tk_K xtk n) n) i (tk_K xtk n (i + 1)) → post 0 (xdl, xtn, xpp, xvc, xcc, xfc, xoc, xag, xan, xex, xen, xfl, xac, xst, xsp, xmd, xrt, xcu, xtk, xtv, xaf, r', xsc, xho, xvk, xvf, xvs, xcv, xco, xff, xfp, xfe, xfb, xop)) :
    ∀ d x (r' : Nat → Int32), x + d = 4 → (∀ j, j < x → tk_K xtk n (it_f (sk_f (tk_K xtk n) n) j (i + 2 + 1)) ≠ 2) → (∀ j, j < x → gr_BS (tk_K xtk n) xtv (sk_f (tk_K xtk n) n) (tk_K xtk n (i + 1)) (i + 2) (it_f (sk_f (tk_K xtk n) n) j (i + 2 + 1))) → (∀ j, j < x → r' (it_f (sk_f (tk_K xtk n) n) j (i + 2 + 1) + 1) = 3 ∧ r' (it_f (sk_f (tk_K xtk n) n) j (i + 2 + 1) + 2) = 1) → (∀ q, (∀ j, j < x → q ≠ it_f (sk_f (tk_K xtk n) n) j (i + 2 + 1) + 1 ∧ q ≠ it_f (sk_f (tk_K xtk n) n) j (i + 2 + 1) + 2) → r' q = xro q) →
      wX_letFits_55 post (nI (i + 2)) ol (d + 1) (nI (it_f (sk_f (tk_K xtk n) n) x (i + 2 + 1))) (nI x) xdl xtn xpp xvc xcc xfc xoc xag xan xex xen xfl xac xst xsp xmd xrt xcu xtk xtv xaf r' xsc xho xvk xvf xvs xcv xco xff xfp xfe xfb xop := sorry
theorem xl_let (H : tk_ok xtk n) (A : xb_A (tk_K xtk n) n xaf) {i : Nat} (hi : i < n) (k1 : tk_K xtk n i = 1) (k8 : tk_K xtk n (i + 1) = 8 ∨ tk_K xtk n (i + 1) = 9) (l2 : ls_C (tk_K xtk n) (sk_f (tk_K xtk n) n) (i + 2) 2) (hz : ∀ m, i < m → m < sk_f (tk_K xtk n) n i → xro m = 0) {post : Int32 → SX → Prop}
    (h1 : ∀ r', gr_FS (tk_K xtk n) xtv (sk_f (tk_K xtk n) n) i (tk_K xtk n (i + 1)) → (∀ c, gr_E (tk_K xtk n) (sk_f (tk_K xtk n) n) i c → r' c = 1) → (∀ c, gr_N (tk_K xtk n) (sk_f (tk_K xtk n) n) i c → r' c = 3) → (∀ c, ¬ gr_Ch (tk_K xtk n) (sk_f (tk_K xtk n) n) i c → r' c = xro c) → post 1 (xdl, xtn, xpp, xvc, xcc, xfc, xoc, xag, xan, xex, xen, xfl, xac, xst, xsp, xmd, xrt, xcu, xtk, xtv, xaf, r', xsc, xho, xvk, xvf, xvs, xcv, xco, xff, xfp, xfe, xfb, xop))
    (h0 : ∀ r', ¬ gr_FS (tk_K xtk n) xtv (sk_f (tk_K xtk n) n) i (tk_K xtk n (i + 1)) → post 0 (xdl, xtn, xpp, xvc, xcc, xfc, xoc, xag, xan, xex, xen, xfl, xac, xst, xsp, xmd, xrt, xcu, xtk, xtv, xaf, r', xsc, xho, xvk, xvf, xvs, xcv, xco, xff, xfp, xfe, xfb, xop)) : wpX_letFits post (xdl, xtn, xpp, xvc, xcc, xfc, xoc, xag, xan, xex, xen, xfl, xac, xst, xsp, xmd, xrt, xcu, xtk, xtv, xaf, xro, xsc, xho, xvk, xvf, xvs, xcv, xco, xff, xfp, xfe, xfb, xop) (nI i) := sorry
end
end
section
section
variable {xdl xtn xpp xvc xcc xfc xoc xag xan xex xen xfl xac xst xsp xmd xrt xcu : Int32} {xtk xtv xaf xro xsc xho xvk xvf xvs xcv xco xff xfp xfe xfb xop : Nat → Int32} {n : Nat}
theorem xf_form (H : tk_ok xtk n) (A : xb_A (tk_K xtk n) n xaf) {i : Nat} (hi : i < n) (k1 : tk_K xtk n i = 1) (hz : ∀ m, i < m → m < sk_f (tk_K xtk n) n i → xro m = 0) {post : Int32 → SX → Prop}
    (h1 : ∀ r', gr_SH (tk_K xtk n) xtv (sk_f (tk_K xtk n) n) i → (∀ c, gr_E (tk_K xtk n) (sk_f (tk_K xtk n) n) i c → r' c = 1) → (∀ c, gr_D (tk_K xtk n) (sk_f (tk_K xtk n) n) i c → r' c = 2) → (∀ c, gr_N (tk_K xtk n) (sk_f (tk_K xtk n) n) i c → r' c = 3) → (∀ c, ¬ gr_Ch (tk_K xtk n) (sk_f (tk_K xtk n) n) i c → r' c = xro c) → post 1 (xdl, xtn, xpp, xvc, xcc, xfc, xoc, xag, xan, xex, xen, xfl, xac, xst, xsp, xmd, xrt, xcu, xtk, xtv, xaf, r', xsc, xho, xvk, xvf, xvs, xcv, xco, xff, xfp, xfe, xfb, xop))
    (h0 : ∀ r', ¬ gr_SH (tk_K xtk n) xtv (sk_f (tk_K xtk n) n) i → post 0 (xdl, xtn, xpp, xvc, xcc, xfc, xoc, xag, xan, xex, xen, xfl, xac, xst, xsp, xmd, xrt, xcu, xtk, xtv, xaf, r', xsc, xho, xvk, xvf, xvs, xcv, xco, xff, xfp, xfe, xfb, xop)) : wpX_formFits post (xdl, xtn, xpp, xvc, xcc, xfc, xoc, xag, xan, xex, xen, xfl, xac, xst, xsp, xmd, xrt, xcu, xtk, xtv, xaf, xro, xsc, xho, xvk, xvf, xvs, xcv, xco, xff, xfp, xfe, xfb, xop) (nI i) := sorry
theorem xf_datum (H : tk_ok xtk n) (A : xb_A (tk_K xtk n) n xaf) {i : Nat} (hi : i < n) {post : Int32 → SX → Prop}
    (h1 : tk_K xtk n i = 3 ∨ tk_K xtk n i = 5 → post 1 (xdl, xtn, xpp, xvc, xcc, xfc, xoc, xag, xan, xex, xen, xfl, xac, xst, xsp, xmd, xrt, xcu, xtk, xtv, xaf, xro, xsc, xho, xvk, xvf, xvs, xcv, xco, xff, xfp, xfe, xfb, xop))
    (h2 : ∀ r' c, tk_K xtk n i = 1 → ls_C (tk_K xtk n) (sk_f (tk_K xtk n) n) (i + 1) c → (∀ c, gr_DM (tk_K xtk n) (sk_f (tk_K xtk n) n) i c → r' c = 2) → (∀ c, ¬ gr_DM (tk_K xtk n) (sk_f (tk_K xtk n) n) i c → r' c = xro c) → post 1 (xdl, xtn, xpp, xvc, xcc, xfc, xoc, xag, xan, xex, xen, xfl, xac, xst, xsp, xmd, xrt, xcu, xtk, xtv, xaf, r', xsc, xho, xvk, xvf, xvs, xcv, xco, xff, xfp, xfe, xfb, xop))
    (h0 : ¬ gr_DS (tk_K xtk n) (sk_f (tk_K xtk n) n) i → post 0 (xdl, xtn, xpp, xvc, xcc, xfc, xoc, xag, xan, xex, xen, xfl, xac, xst, xsp, xmd, xrt, xcu, xtk, xtv, xaf, xro, xsc, xho, xvk, xvf, xvs, xcv, xco, xff, xfp, xfe, xfb, xop)) : wpX_datumFits post (xdl, xtn, xpp, xvc, xcc, xfc, xoc, xag, xan, xex, xen, xfl, xac, xst, xsp, xmd, xrt, xcu, xtk, xtv, xaf, xro, xsc, xho, xvk, xvf, xvs, xcv, xco, xff, xfp, xfe, xfb, xop) (nI i) := sorry
def xr_c (n : Nat) (r : Nat → Int32) : Nat → Int32 := fun c => if c < n then r c else 0
theorem xr_in {n c : Nat} {r : Nat → Int32} (h : c < n) : xr_c n r c = r c := sorry
theorem xr_out {n c : Nat} {r : Nat → Int32} (h : n ≤ c) : xr_c n r c = 0 := sorry
theorem xw_loop (H : tk_ok xtk n) (A : xb_A (tk_K xtk n) n xaf) {post : Int32 → SX → Prop}
    (h1 : ∀ r' par, rw_W (tk_K xtk n) xtv (sk_f (tk_K xtk n) n) n n (xr_c n r') par → post 1 (xdl, nI n, xpp, xvc, xcc, xfc, xoc, xag, xan, xex, xen, xfl, xac, xst, xsp, xmd, xrt, xcu, xtk, xtv, xaf, r', xsc, xho, xvk, xvf, xvs, xcv, xco, xff, xfp, xfe, xfb, xop))
    (h0 : ∀ r', (∀ k, ¬ gr_X (tk_K xtk n) xtv (sk_f (tk_K xtk n) n) k true 0) → post 0 (xdl, nI n, xpp, xvc, xcc, xfc, xoc, xag, xan, xex, xen, xfl, xac, xst, xsp, xmd, xrt, xcu, xtk, xtv, xaf, r', xsc, xho, xvk, xvf, xvs, xcv, xco, xff, xfp, xfe, xfb, xop)) :
    ∀ d m (r' : Nat → Int32) (par : Nat → Nat), m + d = n → rw_W (tk_K xtk n) xtv (sk_f (tk_K xtk n) n) n m (xr_c n r') par → wX_grammarFits_54 post (d + 1) (nI m) xdl (nI n) xpp xvc xcc xfc xoc xag xan xex xen xfl xac xst xsp xmd xrt xcu xtk xtv xaf r' xsc xho xvk xvf xvs xcv xco xff xfp xfe xfb xop := sorry
theorem xw_init (H : tk_ok xtk n) (h0n : 0 < n) {post : Int32 → SX → Prop} (h : ∀ r', (∀ c, c < n → r' c = 0) → ∃ f, wX_grammarFits_54 post f 0 xdl (nI n) xpp xvc xcc xfc xoc xag xan xex xen xfl xac xst xsp xmd xrt xcu xtk xtv xaf (upd r' 0 1) xsc xho xvk xvf xvs xcv xco xff xfp xfe xfb xop) :
    ∀ d m (r' : Nat → Int32), m + d = n → (∀ c, c < m → r' c = 0) → wX_grammarFits_24 post xdl (nI n) xpp xvc xcc xfc xoc xag xan xex xen xfl xac xst xsp xmd xrt xcu (d + 1) (nI m) xtk xtv xaf r' xsc xho xvk xvf xvs xcv xco xff xfp xfe xfb xop := sorry
theorem xw_gram (H : tk_ok xtk n) (A : xb_A (tk_K xtk n) n xaf) (hK0 : 0 < n → tk_K xtk n 0 ≠ 2) {post : Int32 → SX → Prop}
    (h1 : ∀ r' par, 0 < n → dp_I (tk_K xtk n) 0 n → rw_W (tk_K xtk n) xtv (sk_f (tk_K xtk n) n) n n (xr_c n r') par → post 1 (xdl, nI n, xpp, xvc, xcc, xfc, xoc, xag, xan, xex, xen, xfl, xac, xst, xsp, xmd, xrt, xcu, xtk, xtv, xaf, r', xsc, xho, xvk, xvf, xvs, xcv, xco, xff, xfp, xfe, xfb, xop))
    (h0 : ∀ r', (∀ k, ¬ (0 < n ∧ sk_f (tk_K xtk n) n 0 = n ∧ gr_X (tk_K xtk n) xtv (sk_f (tk_K xtk n) n) k true 0)) → post 0 (xdl, nI n, xpp, xvc, xcc, xfc, xoc, xag, xan, xex, xen, xfl, xac, xst, xsp, xmd, xrt, xcu, xtk, xtv, xaf, r', xsc, xho, xvk, xvf, xvs, xcv, xco, xff, xfp, xfe, xfb, xop)) : wpX_grammarFits post (xdl, nI n, xpp, xvc, xcc, xfc, xoc, xag, xan, xex, xen, xfl, xac, xst, xsp, xmd, xrt, xcu, xtk, xtv, xaf, xro, xsc, xho, xvk, xvf, xvs, xcv, xco, xff, xfp, xfe, xfb, xop) := sorry
end
end
section
section
variable {xdl xtn xpp xvc xcc xfc xoc xag xan xex xen xfl xac xst xsp xmd xrt xcu : Int32} {xtk xtv xaf xro xsc xho xvk xvf xvs xcv xco xff xfp xfe xfb xop : Nat → Int32} {n : Nat}
/-! the component's scopes -/
theorem xs_itL (H : tk_ok xtk n) (A : xb_A (tk_K xtk n) n xaf) {m s c : Nat} (hms : m < s) (lc : ls_C (tk_K xtk n) (sk_f (tk_K xtk n) n) s c) {post : SX → Prop}
    (hp : ∀ sc', (∀ q, ls_M (tk_K xtk n) (sk_f (tk_K xtk n) n) s q → sc' q = xsc m) → (∀ q, ¬ ls_M (tk_K xtk n) (sk_f (tk_K xtk n) n) s q → sc' q = xsc q) → post (xdl, xtn, xpp, xvc, xcc, xfc, xoc, xag, xan, xex, xen, xfl, xac, xst, xsp, xmd, xrt, xcu, xtk, xtv, xaf, xro, sc', xho, xvk, xvf, xvs, xcv, xco, xff, xfp, xfe, xfb, xop)) :
    ∀ d x (sc' : Nat → Int32), x + d = c → (∀ q, (∃ y, y < x ∧ q = it_f (sk_f (tk_K xtk n) n) y s) → sc' q = xsc m) → (∀ q, ¬ (∃ y, y < x ∧ q = it_f (sk_f (tk_K xtk n) n) y s) → sc' q = xsc q) →
      wX_scopeItems_6 post (nI m) xdl xtn xpp xvc xcc xfc xoc xag xan xex xen xfl xac xst xsp xmd xrt xcu (d + 1) (nI (it_f (sk_f (tk_K xtk n) n) x s)) (nI x) xtk xtv xaf xro sc' xho xvk xvf xvs xcv xco xff xfp xfe xfb xop := sorry
theorem xs_items (H : tk_ok xtk n) (A : xb_A (tk_K xtk n) n xaf) {m c : Nat} (lc : ls_C (tk_K xtk n) (sk_f (tk_K xtk n) n) (m + 1) c) {post : SX → Prop}
    (hp : ∀ sc', (∀ q, ls_M (tk_K xtk n) (sk_f (tk_K xtk n) n) (m + 1) q → sc' q = xsc m) → (∀ q, ¬ ls_M (tk_K xtk n) (sk_f (tk_K xtk n) n) (m + 1) q → sc' q = xsc q) → post (xdl, xtn, xpp, xvc, xcc, xfc, xoc, xag, xan, xex, xen, xfl, xac, xst, xsp, xmd, xrt, xcu, xtk, xtv, xaf, xro, sc', xho, xvk, xvf, xvs, xcv, xco, xff, xfp, xfe, xfb, xop)) : wpX_scopeItems post (xdl, xtn, xpp, xvc, xcc, xfc, xoc, xag, xan, xex, xen, xfl, xac, xst, xsp, xmd, xrt, xcu, xtk, xtv, xaf, xro, xsc, xho, xvk, xvf, xvs, xcv, xco, xff, xfp, xfe, xfb, xop) (nI m) := sorry
theorem xs_body (H : tk_ok xtk n) (A : xb_A (tk_K xtk n) n xaf) {m : Nat} (h2 : m + 2 < n) (k2 : tk_K xtk n (m + 2) ≠ 2) {post : Int32 → Prop} (hp : post (nI (sk_f (tk_K xtk n) n (m + 2)))) : wpX_body post (xdl, xtn, xpp, xvc, xcc, xfc, xoc, xag, xan, xex, xen, xfl, xac, xst, xsp, xmd, xrt, xcu, xtk, xtv, xaf, xro, xsc, xho, xvk, xvf, xvs, xcv, xco, xff, xfp, xfe, xfb, xop) (nI m) := sorry
theorem xs_lamL (H : tk_ok xtk n) (A : xb_A (tk_K xtk n) n xaf) {m c : Nat} (P : gr_P (tk_K xtk n) xtv (m + 2) c) (k2 : tk_K xtk n (m + 2) = 1) (hb : sk_f (tk_K xtk n) n (m + 2) < n) {post : SX → Prop}
    (hp : ∀ sc', (∀ j, j < c → sc' (m + 3 + j) = sc_ls (tk_K xtk n) (sk_f (tk_K xtk n) n) xsc m j) → (∀ q, (∀ j, j < c → q ≠ m + 3 + j) → sc' q = xsc q) → post (xdl, xtn, xpp, xvc, xcc, xfc, xoc, xag, xan, xex, xen, xfl, xac, xst, xsp, xmd, xrt, xcu, xtk, xtv, xaf, xro, upd sc' (sk_f (tk_K xtk n) n (m + 2)) (sc_ls (tk_K xtk n) (sk_f (tk_K xtk n) n) xsc m c), xho, xvk, xvf, xvs, xcv, xco, xff, xfp, xfe, xfb, xop)) (k7 : tk_K xtk n (m + 1) = 7) :
    ∀ d x (sc' : Nat → Int32), x + d = c → (∀ j, j < x → sc' (m + 3 + j) = sc_ls (tk_K xtk n) (sk_f (tk_K xtk n) n) xsc m j) → (∀ q, (∀ j, j < x → q ≠ m + 3 + j) → sc' q = xsc q) →
      wX_scopeLambda_14 post (nI m) xdl xtn xpp xvc xcc xfc xoc xag xan xex xen xfl xac xst xsp xmd xrt xcu (d + 1) (sc_ls (tk_K xtk n) (sk_f (tk_K xtk n) n) xsc m x) (nI (m + 3 + x)) (nI x) xtk xtv xaf xro sc' xho xvk xvf xvs xcv xco xff xfp xfe xfb xop := sorry
theorem xs_lam (H : tk_ok xtk n) (A : xb_A (tk_K xtk n) n xaf) {m c : Nat} (P : gr_P (tk_K xtk n) xtv (m + 2) c) (k7 : tk_K xtk n (m + 1) = 7) (k2 : tk_K xtk n (m + 2) = 1) (hb : sk_f (tk_K xtk n) n (m + 2) < n) {post : SX → Prop}
    (hp : ∀ sc', (∀ j, j < c → sc' (m + 3 + j) = sc_ls (tk_K xtk n) (sk_f (tk_K xtk n) n) xsc m j) → (∀ q, (∀ j, j < c → q ≠ m + 3 + j) → sc' q = xsc q) → post (xdl, xtn, xpp, xvc, xcc, xfc, xoc, xag, xan, xex, xen, xfl, xac, xst, xsp, xmd, xrt, xcu, xtk, xtv, xaf, xro, upd sc' (sk_f (tk_K xtk n) n (m + 2)) (sc_ls (tk_K xtk n) (sk_f (tk_K xtk n) n) xsc m c), xho, xvk, xvf, xvs, xcv, xco, xff, xfp, xfe, xfb, xop)) : wpX_scopeLambda post (xdl, xtn, xpp, xvc, xcc, xfc, xoc, xag, xan, xex, xen, xfl, xac, xst, xsp, xmd, xrt, xcu, xtk, xtv, xaf, xro, xsc, xho, xvk, xvf, xvs, xcv, xco, xff, xfp, xfe, xfb, xop) (nI m) := sorry
/-- the places of a LET's binds -/
theorem xs_bp {K : Nat → Nat} {V : Nat → Int32} {n m c : Nat} (hn : ∀ i, n ≤ i → K i = 0) (hB : ∀ i, i < n → K i ≠ 2 → dp_I K i (sk_f K n i)) (hm : m < n) (k1 : K m = 1) (k8 : K (m + 1) = 8 ∨ K (m + 1) = 9) (hS : gr_SH K V (sk_f K n) m) (lc : ls_C K (sk_f K n) (m + 3) c) :
    (∀ j, j < c → it_f (sk_f K n) j (m + 3) + 4 ≤ it_f (sk_f K n) (j + 1) (m + 3) ∧ K (it_f (sk_f K n) j (m + 3)) = 1) ∧ it_f (sk_f K n) c (m + 3) < n ∧ (∀ j, j ≤ c → m + 3 ≤ it_f (sk_f K n) j (m + 3)) ∧ it_f (sk_f K n) c (m + 3) + 1 = sk_f K n (m + 2) ∧ sk_f K n (m + 2) < n := sorry
theorem xs_lamsL (H : tk_ok xtk n) (A : xb_A (tk_K xtk n) n xaf) {m c : Nat} {v : Int32} (hc4 : c ≤ 4) (lc : ls_C (tk_K xtk n) (sk_f (tk_K xtk n) n) (m + 3) c) (bp : ∀ j, j < c → it_f (sk_f (tk_K xtk n) n) j (m + 3) + 4 ≤ it_f (sk_f (tk_K xtk n) n) (j + 1) (m + 3)) {post : SX → Prop}
    (hp : ∀ sc', (∀ j, j < c → sc' (it_f (sk_f (tk_K xtk n) n) j (m + 3) + 2) = v) → (∀ q, (∀ j, j < c → q ≠ it_f (sk_f (tk_K xtk n) n) j (m + 3) + 2) → sc' q = xsc q) → post (xdl, xtn, xpp, xvc, xcc, xfc, xoc, xag, xan, xex, xen, xfl, xac, xst, xsp, xmd, xrt, xcu, xtk, xtv, xaf, xro, sc', xho, xvk, xvf, xvs, xcv, xco, xff, xfp, xfe, xfb, xop)) :
    ∀ d x (sc' : Nat → Int32), x + d = c → (∀ j, j < x → sc' (it_f (sk_f (tk_K xtk n) n) j (m + 3) + 2) = v) → (∀ q, (∀ j, j < x → q ≠ it_f (sk_f (tk_K xtk n) n) j (m + 3) + 2) → sc' q = xsc q) →
      wX_scopeLams_7 post v xdl xtn xpp xvc xcc xfc xoc xag xan xex xen xfl xac xst xsp xmd xrt xcu (d + 1) (nI (it_f (sk_f (tk_K xtk n) n) x (m + 3))) (nI x) xtk xtv xaf xro sc' xho xvk xvf xvs xcv xco xff xfp xfe xfb xop := sorry
end
end
section
section
variable {xdl xtn xpp xvc xcc xfc xoc xag xan xex xen xfl xac xst xsp xmd xrt xcu : Int32} {xtk xtv xaf xro xsc xho xvk xvf xvs xcv xco xff xfp xfe xfb xop : Nat → Int32} {n : Nat}
theorem xs_70 (H : tk_ok xtk n) (A : xb_A (tk_K xtk n) n xaf) {m c : Nat} (hm : m < n) (k1 : tk_K xtk n m = 1) (k8 : tk_K xtk n (m + 1) = 8 ∨ tk_K xtk n (m + 1) = 9) (hS : gr_SH (tk_K xtk n) xtv (sk_f (tk_K xtk n) n) m) (hc4 : c ≤ 4) (lc : ls_C (tk_K xtk n) (sk_f (tk_K xtk n) n) (m + 3) c) {post : SX → Prop}
    (hp : ∀ sF, (∀ j, j < c → sF (it_f (sk_f (tk_K xtk n) n) j (m + 3) + 1) = sc_ls (tk_K xtk n) (sk_f (tk_K xtk n) n) xsc m j) → sF (sk_f (tk_K xtk n) n (m + 2)) = sc_ls (tk_K xtk n) (sk_f (tk_K xtk n) n) xsc m c → (∀ j, j < c → sF (it_f (sk_f (tk_K xtk n) n) j (m + 3) + 2) = if tk_K xtk n (m + 1) = 9 then sc_ls (tk_K xtk n) (sk_f (tk_K xtk n) n) xsc m c else xsc m) → (∀ q, (∀ j, j < c → q ≠ it_f (sk_f (tk_K xtk n) n) j (m + 3) + 1 ∧ q ≠ it_f (sk_f (tk_K xtk n) n) j (m + 3) + 2) → q ≠ sk_f (tk_K xtk n) n (m + 2) → sF q = xsc q) → post (xdl, xtn, xpp, xvc, xcc, xfc, xoc, xag, xan, xex, xen, xfl, xac, xst, xsp, xmd, xrt, xcu, xtk, xtv, xaf, xro, sF, xho, xvk, xvf, xvs, xcv, xco, xff, xfp, xfe, xfb, xop)) :
    ∀ (sc' : Nat → Int32), (∀ j, j < c → sc' (it_f (sk_f (tk_K xtk n) n) j (m + 3) + 1) = sc_ls (tk_K xtk n) (sk_f (tk_K xtk n) n) xsc m j ∧ sc' (it_f (sk_f (tk_K xtk n) n) j (m + 3) + 2) = xsc m) → (∀ q, (∀ j, j < c → q ≠ it_f (sk_f (tk_K xtk n) n) j (m + 3) + 1 ∧ q ≠ it_f (sk_f (tk_K xtk n) n) j (m + 3) + 2) → sc' q = xsc q) → wX_scopeLet_70 post (nI m) (sc_ls (tk_K xtk n) (sk_f (tk_K xtk n) n) xsc m c) xdl xtn xpp xvc xcc xfc xoc xag xan xex xen xfl xac xst xsp xmd xrt xcu xtk xtv xaf xro sc' xho xvk xvf xvs xcv xco xff xfp xfe xfb xop := sorry
theorem xs_letL (H : tk_ok xtk n) (A : xb_A (tk_K xtk n) n xaf) {m c : Nat} (hm : m < n) (k1 : tk_K xtk n m = 1) (k8 : tk_K xtk n (m + 1) = 8 ∨ tk_K xtk n (m + 1) = 9) (hS : gr_SH (tk_K xtk n) xtv (sk_f (tk_K xtk n) n) m) (hc4 : c ≤ 4) (lc : ls_C (tk_K xtk n) (sk_f (tk_K xtk n) n) (m + 3) c) {post : SX → Prop}
    (hp : ∀ (sc' : Nat → Int32), (∀ j, j < c → sc' (it_f (sk_f (tk_K xtk n) n) j (m + 3) + 1) = sc_ls (tk_K xtk n) (sk_f (tk_K xtk n) n) xsc m j ∧ sc' (it_f (sk_f (tk_K xtk n) n) j (m + 3) + 2) = xsc m) → (∀ q, (∀ j, j < c → q ≠ it_f (sk_f (tk_K xtk n) n) j (m + 3) + 1 ∧ q ≠ it_f (sk_f (tk_K xtk n) n) j (m + 3) + 2) → sc' q = xsc q) → wX_scopeLet_70 post (nI m) (sc_ls (tk_K xtk n) (sk_f (tk_K xtk n) n) xsc m c) xdl xtn xpp xvc xcc xfc xoc xag xan xex xen xfl xac xst xsp xmd xrt xcu xtk xtv xaf xro sc' xho xvk xvf xvs xcv xco xff xfp xfe xfb xop) :
    ∀ d x (sc' : Nat → Int32), x + d = c → (∀ j, j < x → sc' (it_f (sk_f (tk_K xtk n) n) j (m + 3) + 1) = sc_ls (tk_K xtk n) (sk_f (tk_K xtk n) n) xsc m j ∧ sc' (it_f (sk_f (tk_K xtk n) n) j (m + 3) + 2) = xsc m) → (∀ q, (∀ j, j < x → q ≠ it_f (sk_f (tk_K xtk n) n) j (m + 3) + 1 ∧ q ≠ it_f (sk_f (tk_K xtk n) n) j (m + 3) + 2) → sc' q = xsc q) →
      wX_scopeLet_14 post (nI m) xdl xtn xpp xvc xcc xfc xoc xag xan xex xen xfl xac xst xsp xmd xrt xcu (d + 1) (sc_ls (tk_K xtk n) (sk_f (tk_K xtk n) n) xsc m x) (nI (it_f (sk_f (tk_K xtk n) n) x (m + 3))) (nI x) xtk xtv xaf xro sc' xho xvk xvf xvs xcv xco xff xfp xfe xfb xop := sorry
theorem xs_form (H : tk_ok xtk n) (A : xb_A (tk_K xtk n) n xaf) {m : Nat} (hm : m < n) (k1 : tk_K xtk n m = 1) (hS : gr_SH (tk_K xtk n) xtv (sk_f (tk_K xtk n) n) m) {post : SX → Prop}
    (hp : ∀ sF, sc_L (tk_K xtk n) (sk_f (tk_K xtk n) n) sF m → (∀ q, ¬ gr_Ch (tk_K xtk n) (sk_f (tk_K xtk n) n) m q → q ≠ m + 1 → sF q = xsc q) → post (xdl, xtn, xpp, xvc, xcc, xfc, xoc, xag, xan, xex, xen, xfl, xac, xst, xsp, xmd, xrt, xcu, xtk, xtv, xaf, xro, sF, xho, xvk, xvf, xvs, xcv, xco, xff, xfp, xfe, xfb, xop)) : wpX_scopeForm post (xdl, xtn, xpp, xvc, xcc, xfc, xoc, xag, xan, xex, xen, xfl, xac, xst, xsp, xmd, xrt, xcu, xtk, xtv, xaf, xro, xsc, xho, xvk, xvf, xvs, xcv, xco, xff, xfp, xfe, xfb, xop) (nI m) := sorry
theorem xs_findL (H : tk_ok xtk n) {i : Nat} (hi : i < n) {post : Int32 → SX → Prop} :
    ∀ (l : List Nat) (s : Int32) (x : Nat), sc_H n xsc l s → x + l.length ≤ i →
      (∀ h, sc_F xtv (xtv i) l h → post 1 (xdl, xtn, xpp, xvc, xcc, xfc, xoc, xag, xan, xex, xen, xfl, xac, xst, xsp, xmd, xrt, xcu, xtk, xtv, xaf, xro, xsc, upd xho i (nI (x + h)), xvk, xvf, xvs, xcv, xco, xff, xfp, xfe, xfb, xop)) → ((∀ m, m ∈ l → xtv m ≠ xtv i) → ∀ ho', post 0 (xdl, xtn, xpp, xvc, xcc, xfc, xoc, xag, xan, xex, xen, xfl, xac, xst, xsp, xmd, xrt, xcu, xtk, xtv, xaf, xro, xsc, ho', xvk, xvf, xvs, xcv, xco, xff, xfp, xfe, xfb, xop)) →
      wX_findBinding_9 post (nI i) xdl xtn xpp xvc xcc xfc xoc xag xan xex xen xfl xac xst xsp xmd xrt xcu xtk xtv xaf xro xsc xho xvk xvf xvs xcv xco xff xfp xfe xfb xop (l.length + 1) s (nI x) := sorry
end
end
section
section
variable {K : Nat → Nat} {V : Nat → Int32} {n : Nat}
theorem rw_K {r : Nat → Int32} {par : Nat → Nat} (W : rw_W K V (sk_f K n) n n r par) {q : Nat} (hq : q < n) (h : r q ≠ 0) : (K q = 1 ∨ K q = 3 ∨ K q = 4 ∨ K q = 5) ∧ (r q = 3 → K q = 4) := sorry
theorem sc_Lc {sc sF : Nat → Int32} {i : Nat} (k1 : K i = 1) (hS : gr_SH K V (sk_f K n) i) (hi : sF i = sc i) (hc : ∀ c, gr_Ch K (sk_f K n) i c → sF c = sc c) (h : sc_L K (sk_f K n) sc i) : sc_L K (sk_f K n) sF i := sorry
end
/-- a used name's place -/
def xs_P (n : Nat) (V : Nat → Int32) (r : Nat → Int32) (par : Nat → Nat) (sc ho : Nat → Int32) (i : Nat) : Prop := ∃ l h, sc_H n sc l (sc i) ∧ (∀ m, m ∈ l → r m = 3 ∧ par m < i) ∧ ho i = nI h ∧ sc_F V (V i) l h ∧ l.length ≤ i
def lt_P (K : Nat → Nat) (vk vf vs : Nat → Int32) (v e : Nat) : Prop := (K e = 2 → vk v = 2) ∧ (K e ≠ 2 → vk v = 3 ∧ vf v = nI e ∧ vs v = nI (64 + e))
def lt_L (K : Nat → Nat) (V : Nat → Int32) (a : Nat → Nat) (r vk vf vs : Nat → Int32) (m : Nat) : Prop := ∀ i, i < m → (K i = 3 → vk i = 1 ∧ vf i = V i) ∧ (K i = 5 → vk i = 2) ∧ (r i = 2 → K i = 1 → lt_P K vk vf vs i (i + 1)) ∧ (r i = 2 → lt_P K vk vf vs (64 + i) (a i))
theorem sc_Fm {V : Nat → Int32} {x : Int32} : ∀ {l : List Nat} {h : Nat}, sc_F V x l h → ∃ m, m ∈ l ∧ V m = x := sorry
section
variable {xdl xtn xpp xvc xcc xfc xoc xag xan xex xen xfl xac xst xsp xmd xrt xcu : Int32} {xtk xtv xaf xro xsc xho xvk xvf xvs xcv xco xff xfp xfe xfb xop : Nat → Int32} {n : Nat}
theorem xs_loop (H : tk_ok xtk n) (A : xb_A (tk_K xtk n) n xaf) {par : Nat → Nat} (W : rw_W (tk_K xtk n) xtv (sk_f (tk_K xtk n) n) n n (xr_c n xro) par) (hC : ∀ j, tk_K xtk n j = 1 → 7 ≤ tk_K xtk n (j + 1) → tk_K xtk n (j + 1) ≤ 9 → xr_c n xro j = 1) {post : Int32 → SX → Prop}
    (h1 : ∀ sc' ho', sc' 0 = -1 → (∀ i, i < n → xr_c n xro i = 1 → tk_K xtk n i = 1 → sc_L (tk_K xtk n) (sk_f (tk_K xtk n) n) sc' i) → (∀ i, i < n → xr_c n xro i = 1 → tk_K xtk n i = 4 → xs_P n xtv (xr_c n xro) par sc' ho' i ∧ sc_B (tk_K xtk n) xtv (sk_f (tk_K xtk n) n) i (xtv i)) → post 1 (xdl, nI n, xpp, xvc, xcc, xfc, xoc, xag, xan, xex, xen, xfl, xac, xst, xsp, xmd, xrt, xcu, xtk, xtv, xaf, xro, sc', ho', xvk, xvf, xvs, xcv, xco, xff, xfp, xfe, xfb, xop))
    (h0 : ∀ sc' ho', (∃ i, i < n ∧ xr_c n xro i = 1 ∧ tk_K xtk n i = 4 ∧ ¬ sc_B (tk_K xtk n) xtv (sk_f (tk_K xtk n) n) i (xtv i)) → post 0 (xdl, nI n, xpp, xvc, xcc, xfc, xoc, xag, xan, xex, xen, xfl, xac, xst, xsp, xmd, xrt, xcu, xtk, xtv, xaf, xro, sc', ho', xvk, xvf, xvs, xcv, xco, xff, xfp, xfe, xfb, xop)) :
    ∀ d m (sc' ho' : Nat → Int32), m + d = n → sc' 0 = -1 → (∀ i, i < m → i < n → xr_c n xro i = 1 → tk_K xtk n i = 1 → sc_L (tk_K xtk n) (sk_f (tk_K xtk n) n) sc' i) → (∀ i, i < m → xr_c n xro i = 1 → tk_K xtk n i = 4 → xs_P n xtv (xr_c n xro) par sc' ho' i ∧ sc_B (tk_K xtk n) xtv (sk_f (tk_K xtk n) n) i (xtv i)) →
      wX_namesAreBound_9 post (d + 1) (nI m) xdl (nI n) xpp xvc xcc xfc xoc xag xan xex xen xfl xac xst xsp xmd xrt xcu xtk xtv xaf xro sc' ho' xvk xvf xvs xcv xco xff xfp xfe xfb xop := sorry
end
end
section
/-- a compiled program -/
def cp_P (tk tv : Nat → Int32) (n : Nat) (af ro sc ho vk vf vs : Nat → Int32) : Prop :=
  ∃ par : Nat → Nat, 0 < n ∧ dp_I (tk_K tk n) 0 n ∧ xb_A (tk_K tk n) n af ∧ rw_W (tk_K tk n) tv (sk_f (tk_K tk n) n) n n (xr_c n ro) par ∧
    (∀ j, tk_K tk n j = 1 → 7 ≤ tk_K tk n (j + 1) → tk_K tk n (j + 1) ≤ 9 → xr_c n ro j = 1) ∧ sc 0 = -1 ∧
    (∀ i, i < n → xr_c n ro i = 1 → tk_K tk n i = 1 → sc_L (tk_K tk n) (sk_f (tk_K tk n) n) sc i) ∧
    (∀ i, i < n → xr_c n ro i = 1 → tk_K tk n i = 4 → xs_P n tv (xr_c n ro) par sc ho i ∧ sc_B (tk_K tk n) tv (sk_f (tk_K tk n) n) i (tv i)) ∧
    lt_L (tk_K tk n) tv (sk_f (tk_K tk n) n) (xr_c n ro) vk vf vs n
section
variable {xdl xtn xpp xvc xcc xfc xoc xag xan xex xen xfl xac xst xsp xmd xrt xcu : Int32} {xtk xtv xaf xro xsc xho xvk xvf xvs xcv xco xff xfp xfe xfb xop : Nat → Int32} {n : Nat}
theorem xv_set {v : Nat} (hv : v < 528) {k f s : Int32} {post : SX → Prop} (hp : post (xdl, xtn, xpp, xvc, xcc, xfc, xoc, xag, xan, xex, xen, xfl, xac, xst, xsp, xmd, xrt, xcu, xtk, xtv, xaf, xro, xsc, xho, upd xvk v k, upd xvf v f, upd xvs v s, xcv, xco, xff, xfp, xfe, xfb, xop)) : wpX_setValue post (xdl, xtn, xpp, xvc, xcc, xfc, xoc, xag, xan, xex, xen, xfl, xac, xst, xsp, xmd, xrt, xcu, xtk, xtv, xaf, xro, xsc, xho, xvk, xvf, xvs, xcv, xco, xff, xfp, xfe, xfb, xop) (nI v) k f s := sorry
theorem xv_list (H : tk_ok xtk n) {v e : Nat} (hv : v < 528) (he : e < n) {post : SX → Prop}
    (hp : ∀ vk' vf' vs', lt_P (tk_K xtk n) vk' vf' vs' v e → (∀ q, q ≠ v → vk' q = xvk q ∧ vf' q = xvf q ∧ vs' q = xvs q) → post (xdl, xtn, xpp, xvc, xcc, xfc, xoc, xag, xan, xex, xen, xfl, xac, xst, xsp, xmd, xrt, xcu, xtk, xtv, xaf, xro, xsc, xho, vk', vf', vs', xcv, xco, xff, xfp, xfe, xfb, xop)) : wpX_placeList post (xdl, xtn, xpp, xvc, xcc, xfc, xoc, xag, xan, xex, xen, xfl, xac, xst, xsp, xmd, xrt, xcu, xtk, xtv, xaf, xro, xsc, xho, xvk, xvf, xvs, xcv, xco, xff, xfp, xfe, xfb, xop) (nI v) (nI e) := sorry
theorem lt_Pk {K : Nat → Nat} {vk vf vs vk' vf' vs' : Nat → Int32} {v e : Nat} (h : lt_P K vk vf vs v e) (hq : vk' v = vk v ∧ vf' v = vf v ∧ vs' v = vs v) : lt_P K vk' vf' vs' v e := sorry
theorem lt_Lk {K : Nat → Nat} {V : Nat → Int32} {a : Nat → Nat} {r vk vf vs vk' vf' vs' : Nat → Int32} {m : Nat} (h : lt_L K V a r vk vf vs m) (hq : ∀ i, i < m → (vk' i = vk i ∧ vf' i = vf i ∧ vs' i = vs i) ∧ (vk' (64 + i) = vk (64 + i) ∧ vf' (64 + i) = vf (64 + i) ∧ vs' (64 + i) = vs (64 + i))) : lt_L K V a r vk' vf' vs' m := sorry
theorem xv_loop (H : tk_ok xtk n) (A : xb_A (tk_K xtk n) n xaf) {par : Nat → Nat} (W : rw_W (tk_K xtk n) xtv (sk_f (tk_K xtk n) n) n n (xr_c n xro) par) {post : SX → Prop}
    (hp : ∀ vk' vf' vs', lt_L (tk_K xtk n) xtv (sk_f (tk_K xtk n) n) (xr_c n xro) vk' vf' vs' n → post (xdl, nI n, xpp, xvc, xcc, xfc, xoc, xag, xan, xex, xen, xfl, xac, xst, xsp, xmd, xrt, xcu, xtk, xtv, xaf, xro, xsc, xho, vk', vf', vs', xcv, xco, xff, xfp, xfe, xfb, xop)) :
    ∀ d m (vk' vf' vs' : Nat → Int32), m + d = n → lt_L (tk_K xtk n) xtv (sk_f (tk_K xtk n) n) (xr_c n xro) vk' vf' vs' m → wX_placeLiterals_2 post (d + 1) (nI m) xdl (nI n) xpp xvc xcc xfc xoc xag xan xex xen xfl xac xst xsp xmd xrt xcu xtk xtv xaf xro xsc xho vk' vf' vs' xcv xco xff xfp xfe xfb xop := sorry
theorem xv_place (H : tk_ok xtk n) (A : xb_A (tk_K xtk n) n xaf) {par : Nat → Nat} (W : rw_W (tk_K xtk n) xtv (sk_f (tk_K xtk n) n) n n (xr_c n xro) par) {post : SX → Prop}
    (hp : ∀ vk' vf' vs', lt_L (tk_K xtk n) xtv (sk_f (tk_K xtk n) n) (xr_c n xro) vk' vf' vs' n → post (xdl, nI n, xpp, xvc, xcc, xfc, xoc, xag, xan, xex, xen, xfl, xac, xst, xsp, xmd, xrt, xcu, xtk, xtv, xaf, xro, xsc, xho, vk', vf', vs', xcv, xco, xff, xfp, xfe, xfb, xop)) : wpX_placeLiterals post (xdl, nI n, xpp, xvc, xcc, xfc, xoc, xag, xan, xex, xen, xfl, xac, xst, xsp, xmd, xrt, xcu, xtk, xtv, xaf, xro, xsc, xho, xvk, xvf, xvs, xcv, xco, xff, xfp, xfe, xfb, xop) := sorry
theorem xs_bound (H : tk_ok xtk n) (A : xb_A (tk_K xtk n) n xaf) {par : Nat → Nat} (W : rw_W (tk_K xtk n) xtv (sk_f (tk_K xtk n) n) n n (xr_c n xro) par) (hC : ∀ j, tk_K xtk n j = 1 → 7 ≤ tk_K xtk n (j + 1) → tk_K xtk n (j + 1) ≤ 9 → xr_c n xro j = 1) {post : Int32 → SX → Prop}
    (h1 : ∀ sc' ho', sc' 0 = -1 → (∀ i, i < n → xr_c n xro i = 1 → tk_K xtk n i = 1 → sc_L (tk_K xtk n) (sk_f (tk_K xtk n) n) sc' i) → (∀ i, i < n → xr_c n xro i = 1 → tk_K xtk n i = 4 → xs_P n xtv (xr_c n xro) par sc' ho' i ∧ sc_B (tk_K xtk n) xtv (sk_f (tk_K xtk n) n) i (xtv i)) → post 1 (xdl, nI n, xpp, xvc, xcc, xfc, xoc, xag, xan, xex, xen, xfl, xac, xst, xsp, xmd, xrt, xcu, xtk, xtv, xaf, xro, sc', ho', xvk, xvf, xvs, xcv, xco, xff, xfp, xfe, xfb, xop))
    (h0 : ∀ sc' ho', (∃ i, i < n ∧ xr_c n xro i = 1 ∧ tk_K xtk n i = 4 ∧ ¬ sc_B (tk_K xtk n) xtv (sk_f (tk_K xtk n) n) i (xtv i)) → post 0 (xdl, nI n, xpp, xvc, xcc, xfc, xoc, xag, xan, xex, xen, xfl, xac, xst, xsp, xmd, xrt, xcu, xtk, xtv, xaf, xro, sc', ho', xvk, xvf, xvs, xcv, xco, xff, xfp, xfe, xfb, xop)) : wpX_namesAreBound post (xdl, nI n, xpp, xvc, xcc, xfc, xoc, xag, xan, xex, xen, xfl, xac, xst, xsp, xmd, xrt, xcu, xtk, xtv, xaf, xro, xsc, xho, xvk, xvf, xvs, xcv, xco, xff, xfp, xfe, xfb, xop) := sorry
theorem xc_comp (H : tk_ok xtk n) {post : Int32 → SX → Prop}
    (h1 : ∀ af ro, (∀ k, ¬ (0 < n ∧ sk_f (tk_K xtk n) n 0 = n ∧ gr_X (tk_K xtk n) xtv (sk_f (tk_K xtk n) n) k true 0)) → post 1 (xdl, nI n, 0, xvc, xcc, xfc, xoc, xag, xan, xex, xen, xfl, xac, -1, 0, 0, -1, -1, xtk, xtv, af, ro, xsc, xho, xvk, xvf, xvs, xcv, xco, xff, xfp, xfe, xfb, xop))
    (h2 : ∀ af ro sc ho par, 0 < n → dp_I (tk_K xtk n) 0 n → xb_A (tk_K xtk n) n af → rw_W (tk_K xtk n) xtv (sk_f (tk_K xtk n) n) n n (xr_c n ro) par → (∀ j, tk_K xtk n j = 1 → 7 ≤ tk_K xtk n (j + 1) → tk_K xtk n (j + 1) ≤ 9 → xr_c n ro j = 1) → (∃ i, i < n ∧ xr_c n ro i = 1 ∧ tk_K xtk n i = 4 ∧ ¬ sc_B (tk_K xtk n) xtv (sk_f (tk_K xtk n) n) i (xtv i)) → post 2 (xdl, nI n, 0, xvc, xcc, xfc, xoc, xag, xan, xex, xen, xfl, xac, -1, 0, 0, -1, -1, xtk, xtv, af, ro, sc, ho, xvk, xvf, xvs, xcv, xco, xff, xfp, xfe, xfb, xop))
    (h3 : ∀ af ro sc ho vk vf vs, cp_P xtk xtv n af ro sc ho vk vf vs → post 0 (xdl, nI n, 1, xvc, xcc, xfc, xoc, xag, xan, xex, xen, xfl, xac, -1, 0, 0, -1, -1, xtk, xtv, af, ro, sc, ho, vk, vf, vs, xcv, xco, xff, xfp, xfe, xfb, xop)) :
    wpX_compile post (xdl, nI n, xpp, xvc, xcc, xfc, xoc, xag, xan, xex, xen, xfl, xac, xst, xsp, xmd, xrt, xcu, xtk, xtv, xaf, xro, xsc, xho, xvk, xvf, xvs, xcv, xco, xff, xfp, xfe, xfb, xop) := sorry
end
end
section
/-! the picture of a run: values, cells, frames of one object, as far as they live -/
def hp_E (nm : Nat → Nat) (cc : Nat) (c s : Int32) : Prop := (c = -1 ∧ s = -1) ∨ ∃ i, i < cc ∧ c = nI i ∧ s = nI (nm i)
def hp_V (K : Nat → Nat) (R sc : Nat → Int32) (n : Nat) (VP : Nat → Prop) (nm : Nat → Nat) (cc : Nat) (vk vf vs : Nat → Int32) (i : Nat) : Prop :=
  vk i = 1 ∨ vk i = 2 ∨ (vk i = 3 ∧ ∃ a b, vf i = nI a ∧ vs i = nI b ∧ VP a ∧ VP b) ∨
  (vk i = 4 ∧ ∃ q, q < n ∧ R q = 1 ∧ K q = 1 ∧ K (q + 1) = 7 ∧ vf i = nI q ∧ hp_E nm cc (vs i) (sc q))
def hp_C (sc : Nat → Int32) (n : Nat) (VP : Nat → Prop) (nm : Nat → Nat) (cc lo : Nat) (cv co : Nat → Int32) (c : Nat) : Prop :=
  nm c < n ∧ hp_E nm cc (co c) (sc (nm c)) ∧ (c < lo → ∃ a, cv c = nI a ∧ VP a)
/-- the literals' places -/
def hp_L (K : Nat → Nat) (R : Nat → Int32) (n i : Nat) : Prop := (i < n ∧ (K i = 3 ∨ K i = 5 ∨ (R i = 2 ∧ K i = 1))) ∨ ∃ j, j < n ∧ R j = 2 ∧ i = 64 + j
def hp_B (K : Nat → Nat) (R sc : Nat → Int32) (n : Nat) (VP : Nat → Prop) (nm : Nat → Nat) (vc cc lo : Nat) (vk vf vs cv co : Nat → Int32) : Prop :=
  (∀ i, VP i → i < vc ∧ hp_V K R sc n VP nm cc vk vf vs i) ∧ (∀ c, c < cc → hp_C sc n VP nm cc lo cv co c) ∧ (∀ i, hp_L K R n i → VP i)
def hb_u (f : Nat → Nat) (k v : Nat) : Nat → Nat := fun i => if i = k then v else f i
theorem hb_us {f : Nat → Nat} {k v : Nat} : hb_u f k v k = v := sorry
theorem hb_un {f : Nat → Nat} {k v i : Nat} (h : i ≠ k) : hb_u f k v i = f i := sorry
section
variable {K : Nat → Nat} {R sc : Nat → Int32} {n : Nat} {VP VP' : Nat → Prop} {nm nm' : Nat → Nat} {vc cc lo vc' cc' : Nat} {vk vf vs cv co vk' vf' vs' cv' co' : Nat → Int32}
theorem hp_Em {c s : Int32} (hc : cc ≤ cc') (hg : ∀ i, i < cc → nm' i = nm i) (h : hp_E nm cc c s) : hp_E nm' cc' c s := sorry
theorem hp_Vm {i : Nat} (hVP : ∀ a, VP a → VP' a) (hc : cc ≤ cc') (hg : ∀ i, i < cc → nm' i = nm i) (hx : vk' i = vk i ∧ vf' i = vf i ∧ vs' i = vs i)
    (h : hp_V K R sc n VP nm cc vk vf vs i) : hp_V K R sc n VP' nm' cc' vk' vf' vs' i := sorry
theorem hp_Cm {c : Nat} (hVP : ∀ a, VP a → VP' a) (hc : cc ≤ cc') (hg : ∀ i, i < cc → nm' i = nm i) (hcc : c < cc) (hx : cv' c = cv c ∧ co' c = co c)
    (h : hp_C sc n VP nm cc lo cv co c) : hp_C sc n VP' nm' cc' lo cv' co' c := sorry
/-- a value is added, no cell -/
theorem hp_add (hv : vc ≤ vc') (hVP : ∀ a, VP a → VP' a) (hx : ∀ i, i < vc → vk' i = vk i ∧ vf' i = vf i ∧ vs' i = vs i) (hcl : ∀ c, c < cc → cv' c = cv c ∧ co' c = co c)
    (hnew : ∀ i, VP' i → VP i ∨ (i < vc' ∧ hp_V K R sc n VP' nm cc vk' vf' vs' i))
    (h : hp_B K R sc n VP nm vc cc lo vk vf vs cv co) : hp_B K R sc n VP' nm vc' cc lo vk' vf' vs' cv' co' := sorry
/-- the innermost cell when j are added to e0 at the place cc -/
def hb_e (e0 : Int32) (cc : Nat) : Nat → Int32
  | 0 => e0
  | j + 1 => nI (cc + j)
/-- the names so far, innermost first -/
def hb_s (s0 : Int32) (t : Nat → Nat) : Nat → Int32
  | 0 => s0
  | j + 1 => nI (t j)
/-- a cell is added, the arrays hold it already; e is its name's token -/
theorem hp_cell {e : Nat} (he : e < n) (hE : hp_E nm cc (co cc) (sc e)) (lo' : Nat) (hlo : (lo' = lo ∧ lo ≤ cc) ∨ (lo' = cc + 1 ∧ lo = cc ∧ ∃ a, cv cc = nI a ∧ VP a))
    (h : hp_B K R sc n VP nm vc cc lo vk vf vs cv co) : hp_B K R sc n VP (hb_u nm cc e) vc (cc + 1) lo' vk vf vs cv co := sorry
/-- k cells are added, filled or not -/
theorem hp_cells {c0 s0 : Int32} {t : Nat → Nat} {k : Nat} {fil : Prop} (hE : hp_E nm cc c0 s0) (ht : ∀ j, j < k → t j < n ∧ sc (t j) = hb_s s0 t j)
    (hX : ∀ j, j < k → co (cc + j) = hb_e c0 cc j) (hf : fil → ∀ j, j < k → ∃ a, cv (cc + j) = nI a ∧ VP a)
    (h : hp_B K R sc n VP nm vc cc cc vk vf vs cv co) :
    ∃ nm', (∀ i, i < cc → nm' i = nm i) ∧ hp_E nm' (cc + k) (hb_e c0 cc k) (hb_s s0 t k) ∧
      hp_B K R sc n VP nm' vc (cc + k) cc vk vf vs cv co ∧ (fil → hp_B K R sc n VP nm' vc (cc + k) (cc + k) vk vf vs cv co) := sorry
/-- all cells filled -/
theorem hp_fills (B : hp_B K R sc n VP nm vc cc lo vk vf vs cv co) (h1 : ∀ c, c < lo → cv' c = cv c) (h3 : ∀ c, lo ≤ c → c < cc → ∃ a, cv' c = nI a ∧ VP a) :
    hp_B K R sc n VP nm vc cc cc vk vf vs cv' co := sorry
end
end
section
/-! the component's turns -/
def rx_L (post : Int32 → SX → Prop) (f : Nat) (t : Int32) (u : SX) : Prop := match u with | (xdl, xtn, xpp, xvc, xcc, xfc, xoc, xag, xan, xex, xen, xfl, xac, xst, xsp, xmd, xrt, xcu, xtk, xtv, xaf, xro, xsc, xho, xvk, xvf, xvs, xcv, xco, xff, xfp, xfe, xfb, xop) => wX_run_16 post f t xdl xtn xpp xvc xcc xfc xoc xag xan xex xen xfl xac xst xsp xmd xrt xcu xtk xtv xaf xro xsc xho xvk xvf xvs xcv xco xff xfp xfe xfb xop
/-- a walk of h hops -/
def xh_W (co : Nat → Int32) : Nat → Int32 → Nat → Prop
  | 0, e, c => e = nI c
  | h + 1, e, c => ∃ c0, e = nI c0 ∧ c0 < 404 ∧ xh_W co h (co c0) c
def al_op (h : Nat) (x y : Int32) : Int32 := if h = 15 then x + y else if h = 16 then x - y else if h = 17 then x * y else if h = 18 then x / y else if h = 19 then (if x = y then 1 else 0) else (if y ≤ x then 0 else 1)
section
variable {xdl xtn xpp xvc xcc xfc xoc xag xan xex xen xfl xac xst xsp xmd xrt xcu : Int32} {xtk xtv xaf xro xsc xho xvk xvf xvs xcv xco xff xfp xfe xfb xop : Nat → Int32} {n : Nat}
theorem xr_E {post : Int32 → SX → Prop} {f t : Nat} (ht : t < 1600) (h : ∀ Q : SX → Prop, (∀ u', rx_L post f (nI (t + 1)) u' → Q u') → wpX_startExpr Q (xdl, xtn, xpp, xvc, xcc, xfc, xoc, 0, xan, xex, xen, xfl, xac, -1, xsp, xmd, xrt, xcu, xtk, xtv, xaf, xro, xsc, xho, xvk, xvf, xvs, xcv, xco, xff, xfp, xfe, xfb, xop)) : wX_run_16 post (f + 1) (nI t) xdl xtn xpp xvc xcc xfc xoc 0 xan xex xen xfl xac (-1) xsp xmd xrt xcu xtk xtv xaf xro xsc xho xvk xvf xvs xcv xco xff xfp xfe xfb xop := sorry
theorem xr_R {post : Int32 → SX → Prop} {f t : Nat} (ht : t < 1600) (h : ∀ Q : SX → Prop, (∀ u', rx_L post f (nI (t + 1)) u' → Q u') → wpX_handOverAnswer Q (xdl, xtn, xpp, xvc, xcc, xfc, xoc, 1, xan, xex, xen, xfl, xac, -1, xsp, xmd, xrt, xcu, xtk, xtv, xaf, xro, xsc, xho, xvk, xvf, xvs, xcv, xco, xff, xfp, xfe, xfb, xop)) : wX_run_16 post (f + 1) (nI t) xdl xtn xpp xvc xcc xfc xoc 1 xan xex xen xfl xac (-1) xsp xmd xrt xcu xtk xtv xaf xro xsc xho xvk xvf xvs xcv xco xff xfp xfe xfb xop := sorry
theorem xr_end {post : Int32 → SX → Prop} {f t : Nat} (ht : t < 1600) (hs : ¬ xst = -1) (h : post xst (xdl, xtn, xpp, xvc, xcc, xfc, xoc, xag, xan, xex, xen, xfl, xac, xst, xsp, xmd, xrt, xcu, xtk, xtv, xaf, xro, xsc, xho, xvk, xvf, xvs, xcv, xco, xff, xfp, xfe, xfb, xop)) : wX_run_16 post (f + 1) (nI t) xdl xtn xpp xvc xcc xfc xoc xag xan xex xen xfl xac xst xsp xmd xrt xcu xtk xtv xaf xro xsc xho xvk xvf xvs xcv xco xff xfp xfe xfb xop := sorry
theorem xr_fuel {Q : SX → Prop} (hs : xsp = xfl) (h : Q (xdl, xtn, xpp, xvc, xcc, xfc, xoc, xag, xan, xex, xen, xfl, xac, 4, xsp, xmd, xrt, xcu, xtk, xtv, xaf, xro, xsc, xho, xvk, xvf, xvs, xcv, xco, xff, xfp, xfe, xfb, xop)) : wpX_startExpr Q (xdl, xtn, xpp, xvc, xcc, xfc, xoc, xag, xan, xex, xen, xfl, xac, xst, xsp, xmd, xrt, xcu, xtk, xtv, xaf, xro, xsc, xho, xvk, xvf, xvs, xcv, xco, xff, xfp, xfe, xfb, xop) := sorry
theorem xr_lit (H : tk_ok xtk n) {q s F : Nat} (hq : q < n) (hk : tk_K xtk n q = 3 ∨ tk_K xtk n q = 5) (hs : s < F) (hF : F ≤ 400) {Q : SX → Prop} (h : Q (xdl, xtn, xpp, xvc, xcc, xfc, xoc, 1, nI q, nI q, xen, nI F, xac, xst, nI (s + 1), xmd, xrt, xcu, xtk, xtv, xaf, xro, xsc, xho, xvk, xvf, xvs, xcv, xco, xff, xfp, xfe, xfb, xop)) : wpX_startExpr Q (xdl, xtn, xpp, xvc, xcc, xfc, xoc, xag, xan, nI q, xen, nI F, xac, xst, nI s, xmd, xrt, xcu, xtk, xtv, xaf, xro, xsc, xho, xvk, xvf, xvs, xcv, xco, xff, xfp, xfe, xfb, xop) := sorry
theorem xr_bvL {c h : Nat} (hc : c < 404) (hh : h < 2 ^ 20) {post : Int32 → Prop} (hp : post (xcv c)) : ∀ d x e, x + d = h → xh_W xco d e c → wX_boundValue_7 post (nI h) xdl xtn xpp xvc xcc xfc xoc xag xan xex xen xfl xac xst xsp xmd xrt xcu xtk xtv xaf xro xsc xho xvk xvf xvs xcv xco xff xfp xfe xfb xop (d + 1) e (nI x) := sorry
theorem xr_bv {c h : Nat} (hc : c < 404) (hh : h < 2 ^ 20) {post : Int32 → Prop} (hp : post (xcv c)) (w : xh_W xco h xen c) : wpX_boundValue post (xdl, xtn, xpp, xvc, xcc, xfc, xoc, xag, xan, xex, xen, xfl, xac, xst, xsp, xmd, xrt, xcu, xtk, xtv, xaf, xro, xsc, xho, xvk, xvf, xvs, xcv, xco, xff, xfp, xfe, xfb, xop) (nI h) := sorry
theorem xr_sym (H : tk_ok xtk n) {q s F c h' : Nat} (hq : q < n) (hk : tk_K xtk n q = 4) (hs : s < F) (hF : F ≤ 400) (hc : c < 404) (hh : h' < 2 ^ 20) (ho : xho q = nI h') (w : xh_W xco h' xen c) {Q : SX → Prop} (h : Q (xdl, xtn, xpp, xvc, xcc, xfc, xoc, 1, xcv c, nI q, xen, nI F, xac, xst, nI (s + 1), xmd, xrt, xcu, xtk, xtv, xaf, xro, xsc, xho, xvk, xvf, xvs, xcv, xco, xff, xfp, xfe, xfb, xop)) : wpX_startExpr Q (xdl, xtn, xpp, xvc, xcc, xfc, xoc, xag, xan, nI q, xen, nI F, xac, xst, nI s, xmd, xrt, xcu, xtk, xtv, xaf, xro, xsc, xho, xvk, xvf, xvs, xcv, xco, xff, xfp, xfe, xfb, xop) := sorry
/-- the steps before a form's own -/
theorem xr_form (H : tk_ok xtk n) {q s F : Nat} (hq : q < n) (hk : tk_K xtk n q = 1) (hs : s < F) (hF : F ≤ 400) {Q : SX → Prop} (h : wpX_startForm Q (xdl, xtn, xpp, xvc, xcc, xfc, xoc, xag, xan, nI q, xen, nI F, xac, xst, nI (s + 1), xmd, xrt, xcu, xtk, xtv, xaf, xro, xsc, xho, xvk, xvf, xvs, xcv, xco, xff, xfp, xfe, xfb, xop)) : wpX_startExpr Q (xdl, xtn, xpp, xvc, xcc, xfc, xoc, xag, xan, nI q, xen, nI F, xac, xst, nI s, xmd, xrt, xcu, xtk, xtv, xaf, xro, xsc, xho, xvk, xvf, xvs, xcv, xco, xff, xfp, xfe, xfb, xop) := sorry
theorem xr_new {k f s : Int32} {vc : Nat} (hv : vc < 528) {Q : Int32 → SX → Prop} (h : Q (nI vc) (xdl, xtn, xpp, nI (vc + 1), xcc, xfc, xoc, xag, xan, xex, xen, xfl, xac, xst, xsp, xmd, xrt, xcu, xtk, xtv, xaf, xro, xsc, xho, upd xvk vc k, upd xvf vc f, upd xvs vc s, xcv, xco, xff, xfp, xfe, xfb, xop)) : wpX_newValue Q (xdl, xtn, xpp, nI vc, xcc, xfc, xoc, xag, xan, xex, xen, xfl, xac, xst, xsp, xmd, xrt, xcu, xtk, xtv, xaf, xro, xsc, xho, xvk, xvf, xvs, xcv, xco, xff, xfp, xfe, xfb, xop) k f s := sorry
theorem xr_quote (H : tk_ok xtk n) {q : Nat} (hq : q + 1 < n) (hk : tk_K xtk n (q + 1) = 6) {Q : SX → Prop} (h : Q (xdl, xtn, xpp, xvc, xcc, xfc, xoc, 1, nI (q + 2), nI q, xen, xfl, xac, xst, xsp, xmd, xrt, xcu, xtk, xtv, xaf, xro, xsc, xho, xvk, xvf, xvs, xcv, xco, xff, xfp, xfe, xfb, xop)) : wpX_startForm Q (xdl, xtn, xpp, xvc, xcc, xfc, xoc, xag, xan, nI q, xen, xfl, xac, xst, xsp, xmd, xrt, xcu, xtk, xtv, xaf, xro, xsc, xho, xvk, xvf, xvs, xcv, xco, xff, xfp, xfe, xfb, xop) := sorry
theorem xr_lam (H : tk_ok xtk n) {q vc : Nat} (hq : q + 1 < n) (hk : tk_K xtk n (q + 1) = 7) (hv : vc < 528) {Q : SX → Prop} (h : Q (xdl, xtn, xpp, nI (vc + 1), xcc, xfc, xoc, 1, nI vc, nI q, xen, xfl, xac, xst, xsp, xmd, xrt, xcu, xtk, xtv, xaf, xro, xsc, xho, upd xvk vc 4, upd xvf vc (nI q), upd xvs vc xen, xcv, xco, xff, xfp, xfe, xfb, xop)) : wpX_startForm Q (xdl, xtn, xpp, nI vc, xcc, xfc, xoc, xag, xan, nI q, xen, xfl, xac, xst, xsp, xmd, xrt, xcu, xtk, xtv, xaf, xro, xsc, xho, xvk, xvf, xvs, xcv, xco, xff, xfp, xfe, xfb, xop) := sorry
/-- a form's first part -/
def xp_1 (K a : Nat → Nat) (n q p : Nat) : Prop := ((K (q + 1) = 8 ∨ K (q + 1) = 9) ∧ p = q + 5) ∨ (10 ≤ K (q + 1) ∧ p = q + 2) ∨ (K (q + 1) < 6 ∧ K (q + 1) ≠ 2 ∧ a (q + 1) < n ∧ ((K (a (q + 1)) = 2 ∧ p = q + 1) ∨ (K (a (q + 1)) ≠ 2 ∧ p = a (q + 1))))
theorem xr_first (H : tk_ok xtk n) (A : xb_A (tk_K xtk n) n xaf) {q p : Nat} (hq : q + 1 < n) (hp : xp_1 (tk_K xtk n) (sk_f (tk_K xtk n) n) n q p) {post : Int32 → Prop} (h : post (nI p)) : wpX_firstPart post (xdl, xtn, xpp, xvc, xcc, xfc, xoc, xag, xan, xex, xen, xfl, xac, xst, xsp, xmd, xrt, xcu, xtk, xtv, xaf, xro, xsc, xho, xvk, xvf, xvs, xcv, xco, xff, xfp, xfe, xfb, xop) (nI q) := sorry
theorem xr_opn (H : tk_ok xtk n) (A : xb_A (tk_K xtk n) n xaf) {q p fc : Nat} (hq : q + 1 < n) (hp : xp_1 (tk_K xtk n) (sk_f (tk_K xtk n) n) n q p) (hf : fc < 400) {Q : SX → Prop} (h : Q (xdl, xtn, xpp, xvc, xcc, nI (fc + 1), xoc, xag, xan, nI p, xen, xfl, xac, xst, xsp, xmd, xrt, xcu, xtk, xtv, xaf, xro, xsc, xho, xvk, xvf, xvs, xcv, xco, upd xff fc (nI q), upd xfp fc (nI p), upd xfe fc xen, upd xfb fc xoc, xop)) : wpX_openFrame Q (xdl, xtn, xpp, xvc, xcc, nI fc, xoc, xag, xan, nI q, xen, xfl, xac, xst, xsp, xmd, xrt, xcu, xtk, xtv, xaf, xro, xsc, xho, xvk, xvf, xvs, xcv, xco, xff, xfp, xfe, xfb, xop) := sorry
theorem xr_open (H : tk_ok xtk n) (A : xb_A (tk_K xtk n) n xaf) {q p fc : Nat} (hq : q + 1 < n) (hp : xp_1 (tk_K xtk n) (sk_f (tk_K xtk n) n) n q p) (h9 : tk_K xtk n (q + 1) ≠ 9) (hf : fc < 400) {Q : SX → Prop} (h : Q (xdl, xtn, xpp, xvc, xcc, nI (fc + 1), xoc, xag, xan, nI p, xen, xfl, xac, xst, xsp, xmd, xrt, xcu, xtk, xtv, xaf, xro, xsc, xho, xvk, xvf, xvs, xcv, xco, upd xff fc (nI q), upd xfp fc (nI p), upd xfe fc xen, upd xfb fc xoc, xop)) : wpX_startForm Q (xdl, xtn, xpp, xvc, xcc, nI fc, xoc, xag, xan, nI q, xen, xfl, xac, xst, xsp, xmd, xrt, xcu, xtk, xtv, xaf, xro, xsc, xho, xvk, xvf, xvs, xcv, xco, xff, xfp, xfe, xfb, xop) := sorry
/-- cells: k of them from cc on -/
def xc_v (cv val : Nat → Int32) (cc : Nat) : Nat → Nat → Int32
  | 0 => cv
  | j + 1 => upd (xc_v cv val cc j) (cc + j) (val j)
theorem xc_vs {cv val : Nat → Int32} {cc : Nat} : ∀ {j i : Nat}, i < j → xc_v cv val cc j (cc + i) = val i := sorry
theorem xc_vn {cv val : Nat → Int32} {cc i : Nat} (h : i < cc) : ∀ {j : Nat}, xc_v cv val cc j i = cv i := sorry
def xc_S (cv co : Nat → Int32) (val : Nat → Int32) (e0 : Int32) (cc j : Nat) (cv' co' : Nat → Int32) : Prop := cv' = xc_v cv val cc j ∧ co' = xc_v co (hb_e e0 cc) cc j
theorem xc_up {cv co val : Nat → Int32} {e0 x : Int32} {cc j : Nat} {cv' co' : Nat → Int32} (h : xc_S cv co val e0 cc j cv' co') (hx : x = val j) : xc_S cv co val e0 cc (j + 1) (upd cv' (cc + j) x) (upd co' (cc + j) (hb_e e0 cc j)) := sorry
theorem xc_add {cc : Nat} {v : Int32} (hc : cc < 404) {Q : SX → Prop} (h : Q (xdl, xtn, xpp, xvc, nI (cc + 1), xfc, xoc, xag, xan, xex, nI cc, xfl, xac, xst, xsp, xmd, xrt, xcu, xtk, xtv, xaf, xro, xsc, xho, xvk, xvf, xvs, upd xcv cc v, upd xco cc xen, xff, xfp, xfe, xfb, xop)) : wpX_addCell Q (xdl, xtn, xpp, xvc, nI cc, xfc, xoc, xag, xan, xex, xen, xfl, xac, xst, xsp, xmd, xrt, xcu, xtk, xtv, xaf, xro, xsc, xho, xvk, xvf, xvs, xcv, xco, xff, xfp, xfe, xfb, xop) v := sorry
theorem xc_cellsL {cc b k : Nat} (hc : cc + k ≤ 404) (hb : b + k ≤ 400) {Q : SX → Prop} (h : ∀ cv' co', xc_S xcv xco (fun i => xop (b + i)) xen cc k cv' co' → Q (xdl, xtn, xpp, xvc, nI (cc + k), xfc, xoc, xag, xan, xex, hb_e xen cc k, xfl, xac, xst, xsp, xmd, xrt, xcu, xtk, xtv, xaf, xro, xsc, xho, xvk, xvf, xvs, cv', co', xff, xfp, xfe, xfb, xop)) :
    ∀ d j (cv' co' : Nat → Int32), j + d = k → xc_S xcv xco (fun i => xop (b + i)) xen cc j cv' co' → wX_addCells_2 Q (nI b) (nI k) (d + 1) (nI j) xdl xtn xpp xvc (nI (cc + j)) xfc xoc xag xan xex (hb_e xen cc j) xfl xac xst xsp xmd xrt xcu xtk xtv xaf xro xsc xho xvk xvf xvs cv' co' xff xfp xfe xfb xop := sorry
theorem xc_cells {cc b k : Nat} (hc : cc + k ≤ 404) (hb : b + k ≤ 400) {Q : SX → Prop} (h : ∀ cv' co', xc_S xcv xco (fun i => xop (b + i)) xen cc k cv' co' → Q (xdl, xtn, xpp, xvc, nI (cc + k), xfc, xoc, xag, xan, xex, hb_e xen cc k, xfl, xac, xst, xsp, xmd, xrt, xcu, xtk, xtv, xaf, xro, xsc, xho, xvk, xvf, xvs, cv', co', xff, xfp, xfe, xfb, xop)) : wpX_addCells Q (xdl, xtn, xpp, xvc, nI cc, xfc, xoc, xag, xan, xex, xen, xfl, xac, xst, xsp, xmd, xrt, xcu, xtk, xtv, xaf, xro, xsc, xho, xvk, xvf, xvs, xcv, xco, xff, xfp, xfe, xfb, xop) (nI b) (nI k) := sorry
theorem xc_emptyL {cc k : Nat} (hc : cc + k ≤ 404) {Q : SX → Prop} (h : ∀ cv' co', xc_S xcv xco (fun _ => -1) xen cc k cv' co' → Q (xdl, xtn, xpp, xvc, nI (cc + k), xfc, xoc, xag, xan, xex, hb_e xen cc k, xfl, xac, xst, xsp, xmd, xrt, xcu, xtk, xtv, xaf, xro, xsc, xho, xvk, xvf, xvs, cv', co', xff, xfp, xfe, xfb, xop)) :
    ∀ d j (cv' co' : Nat → Int32), j + d = k → xc_S xcv xco (fun _ => -1) xen cc j cv' co' → wX_addEmptyCells_10 Q (nI k) (d + 1) (nI j) xdl xtn xpp xvc (nI (cc + j)) xfc xoc xag xan xex (hb_e xen cc j) xfl xac xst xsp xmd xrt xcu xtk xtv xaf xro xsc xho xvk xvf xvs cv' co' xff xfp xfe xfb xop := sorry
theorem xc_empty (H : tk_ok xtk n) (A : xb_A (tk_K xtk n) n xaf) {cc k q : Nat} (hc : cc + k ≤ 404) (lc : ls_C (tk_K xtk n) (sk_f (tk_K xtk n) n) (q + 3) k) {Q : SX → Prop} (h : ∀ cv' co', xc_S xcv xco (fun _ => -1) xen cc k cv' co' → Q (xdl, xtn, xpp, xvc, nI (cc + k), xfc, xoc, xag, xan, xex, hb_e xen cc k, xfl, xac, xst, xsp, xmd, xrt, xcu, xtk, xtv, xaf, xro, xsc, xho, xvk, xvf, xvs, cv', co', xff, xfp, xfe, xfb, xop)) : wpX_addEmptyCells Q (xdl, xtn, xpp, xvc, nI cc, xfc, xoc, xag, xan, xex, xen, xfl, xac, xst, xsp, xmd, xrt, xcu, xtk, xtv, xaf, xro, xsc, xho, xvk, xvf, xvs, xcv, xco, xff, xfp, xfe, xfb, xop) (nI q) := sorry
theorem xr_letrec (H : tk_ok xtk n) (A : xb_A (tk_K xtk n) n xaf) {q fc cc k : Nat} (hq : q + 1 < n) (h9 : tk_K xtk n (q + 1) = 9) (hf : fc < 400) (hc : cc + k ≤ 404) (lc : ls_C (tk_K xtk n) (sk_f (tk_K xtk n) n) (q + 3) k) {Q : SX → Prop} (h : ∀ cv' co', xc_S xcv xco (fun _ => -1) xen cc k cv' co' → Q (xdl, xtn, xpp, xvc, nI (cc + k), nI (fc + 1), xoc, xag, xan, nI (q + 5), hb_e xen cc k, xfl, xac, xst, xsp, xmd, xrt, xcu, xtk, xtv, xaf, xro, xsc, xho, xvk, xvf, xvs, cv', co', upd xff fc (nI q), upd xfp fc (nI (q + 5)), upd xfe fc (hb_e xen cc k), upd xfb fc xoc, xop)) : wpX_startForm Q (xdl, xtn, xpp, xvc, nI cc, nI fc, xoc, xag, xan, nI q, xen, xfl, xac, xst, xsp, xmd, xrt, xcu, xtk, xtv, xaf, xro, xsc, xho, xvk, xvf, xvs, xcv, xco, xff, xfp, xfe, xfb, xop) := sorry
end
end
section
/-- the part behind a part -/
def xp_A (K a : Nat → Nat) (n q p : Nat) (r : Int32) : Prop := p < n ∧ K p ≠ 2 ∧
  ((K (q + 1) = 10 ∧ r = -1) ∨ (K (q + 1) < 6 ∧ p = q + 1 ∧ r = -1) ∨
   ((K (q + 1) = 8 ∨ K (q + 1) = 9) ∧ p ≠ q + 1 ∧ a p + 1 < n ∧ ((K (a p + 1) = 2 ∧ r = -1) ∨ (K (a p + 1) ≠ 2 ∧ r = nI (a p + 3)))) ∨
   ((K (q + 1) < 6 ∨ 10 < K (q + 1)) ∧ p ≠ q + 1 ∧ a p < n ∧ ((K (a p) ≠ 2 ∧ r = nI (a p)) ∨ (K (a p) = 2 ∧ K (q + 1) < 6 ∧ r = nI (q + 1)) ∨ (K (a p) = 2 ∧ 6 ≤ K (q + 1) ∧ r = -1))))
section
variable {xdl xtn xpp xvc xcc xfc xoc xag xan xex xen xfl xac xst xsp xmd xrt xcu : Int32} {xtk xtv xaf xro xsc xho xvk xvf xvs xcv xco xff xfp xfe xfb xop : Nat → Int32} {n : Nat}
theorem xr_pa (H : tk_ok xtk n) (A : xb_A (tk_K xtk n) n xaf) {q p : Nat} {r : Int32} (hq : q + 1 < n) (hA : xp_A (tk_K xtk n) (sk_f (tk_K xtk n) n) n q p r) {post : Int32 → Prop} (h : post r) : wpX_partAfter post (xdl, xtn, xpp, xvc, xcc, xfc, xoc, xag, xan, xex, xen, xfl, xac, xst, xsp, xmd, xrt, xcu, xtk, xtv, xaf, xro, xsc, xho, xvk, xvf, xvs, xcv, xco, xff, xfp, xfe, xfb, xop) (nI q) (nI p) := sorry
theorem xr_fin {Q : SX → Prop} (h : Q (xdl, xtn, xpp, xvc, xcc, nI 0, xoc, xag, xan, xex, xen, xfl, xac, 0, xsp, xmd, xan, xan, xtk, xtv, xaf, xro, xsc, xho, xvk, xvf, xvs, xcv, xco, xff, xfp, xfe, xfb, xop)) : wpX_handOverAnswer Q (xdl, xtn, xpp, xvc, xcc, nI 0, xoc, xag, xan, xex, xen, xfl, xac, xst, xsp, xmd, xrt, xcu, xtk, xtv, xaf, xro, xsc, xho, xvk, xvf, xvs, xcv, xco, xff, xfp, xfe, xfb, xop) := sorry
theorem xr_ret {x : Nat} (hx : x < 400) (hp : xfp x = -1) {Q : SX → Prop} (h : Q (xdl, xtn, xpp, xvc, xcc, nI x, xoc, xag, xan, xex, xen, xfl, xac - 1, xst, xsp, xmd, xrt, xcu, xtk, xtv, xaf, xro, xsc, xho, xvk, xvf, xvs, xcv, xco, xff, xfp, xfe, xfb, xop)) : wpX_handOverAnswer Q (xdl, xtn, xpp, xvc, xcc, nI (x + 1), xoc, xag, xan, xex, xen, xfl, xac, xst, xsp, xmd, xrt, xcu, xtk, xtv, xaf, xro, xsc, xho, xvk, xvf, xvs, xcv, xco, xff, xfp, xfe, xfb, xop) := sorry
theorem xr_more (H : tk_ok xtk n) (A : xb_A (tk_K xtk n) n xaf) {x oc q p p' : Nat} (hx : x < 400) (ho : oc < 400) (hq : q + 1 < n) (hff : xff x = nI q) (hfp : xfp x = nI p) (hp' : p' < 2 ^ 20) (hA : xp_A (tk_K xtk n) (sk_f (tk_K xtk n) n) n q p (nI p')) {Q : SX → Prop} (h : Q (xdl, xtn, xpp, xvc, xcc, nI (x + 1), nI (oc + 1), 0, xan, nI p', xfe x, xfl, xac, xst, xsp, xmd, xrt, xcu, xtk, xtv, xaf, xro, xsc, xho, xvk, xvf, xvs, xcv, xco, xff, upd xfp x (nI p'), xfe, xfb, upd xop oc xan)) : wpX_handOverAnswer Q (xdl, xtn, xpp, xvc, xcc, nI (x + 1), nI oc, xag, xan, xex, xen, xfl, xac, xst, xsp, xmd, xrt, xcu, xtk, xtv, xaf, xro, xsc, xho, xvk, xvf, xvs, xcv, xco, xff, xfp, xfe, xfb, xop) := sorry
theorem xr_last (H : tk_ok xtk n) (A : xb_A (tk_K xtk n) n xaf) {x oc q p : Nat} (hx : x < 400) (ho : oc < 400) (hq : q + 1 < n) (hff : xff x = nI q) (hfp : xfp x = nI p) (hA : xp_A (tk_K xtk n) (sk_f (tk_K xtk n) n) n q p (-1)) {Q : SX → Prop} (h : wpX_finishForm Q (xdl, xtn, xpp, xvc, xcc, nI (x + 1), nI (oc + 1), xag, xan, xex, xen, xfl, xac, xst, xsp, xmd, xrt, xcu, xtk, xtv, xaf, xro, xsc, xho, xvk, xvf, xvs, xcv, xco, xff, upd xfp x (-1), xfe, xfb, upd xop oc xan) (nI x)) : wpX_handOverAnswer Q (xdl, xtn, xpp, xvc, xcc, nI (x + 1), nI oc, xag, xan, xex, xen, xfl, xac, xst, xsp, xmd, xrt, xcu, xtk, xtv, xaf, xro, xsc, xho, xvk, xvf, xvs, xcv, xco, xff, xfp, xfe, xfb, xop) := sorry
theorem xh_body (H : tk_ok xtk n) (A : xb_A (tk_K xtk n) n xaf) {q : Nat} (h2 : q + 2 < n) (k2 : tk_K xtk n (q + 2) ≠ 2) {Q : SX → Prop} (h : Q (xdl, xtn, xpp, xvc, xcc, xfc, xoc, 0, xan, nI (sk_f (tk_K xtk n) n (q + 2)), xen, xfl, xac, xst, xsp, xmd, xrt, xcu, xtk, xtv, xaf, xro, xsc, xho, xvk, xvf, xvs, xcv, xco, xff, xfp, xfe, xfb, xop)) : wpX_evaluateBody Q (xdl, xtn, xpp, xvc, xcc, xfc, xoc, xag, xan, xex, xen, xfl, xac, xst, xsp, xmd, xrt, xcu, xtk, xtv, xaf, xro, xsc, xho, xvk, xvf, xvs, xcv, xco, xff, xfp, xfe, xfb, xop) (nI q) := sorry
theorem xF_if (H : tk_ok xtk n) (A : xb_A (tk_K xtk n) n xaf) {x b q a : Nat} (hx : x < 400) (hb : b < 400) (ha : a < 528) (hff : xff x = nI q) (hfb : xfb x = nI b) (h10 : tk_K xtk n (q + 1) = 10) (h2 : q + 2 < n) (k2 : tk_K xtk n (q + 2) ≠ 2) (h3 : sk_f (tk_K xtk n) n (q + 2) < n) (k3 : tk_K xtk n (sk_f (tk_K xtk n) n (q + 2)) ≠ 2) (hop : xop b = nI a) {Q : SX → Prop}
    (h6 : xvk a ≠ 1 → Q (xdl, xtn, xpp, xvc, xcc, nI x, nI b, xag, xan, xex, xfe x, xfl, xac, 6, xsp, xmd, xrt, xcu, xtk, xtv, xaf, xro, xsc, xho, xvk, xvf, xvs, xcv, xco, xff, xfp, xfe, xfb, xop)) (h1 : xvk a = 1 → ∀ t, (xvf a = 0 → t = sk_f (tk_K xtk n) n (sk_f (tk_K xtk n) n (q + 2))) → (xvf a ≠ 0 → t = sk_f (tk_K xtk n) n (q + 2)) → Q (xdl, xtn, xpp, xvc, xcc, nI x, nI b, 0, xan, nI t, xfe x, xfl, xac, xst, xsp, xmd, xrt, xcu, xtk, xtv, xaf, xro, xsc, xho, xvk, xvf, xvs, xcv, xco, xff, xfp, xfe, xfb, xop)) : wpX_finishForm Q (xdl, xtn, xpp, xvc, xcc, nI (x + 1), nI (b + 1), xag, xan, xex, xen, xfl, xac, xst, xsp, xmd, xrt, xcu, xtk, xtv, xaf, xro, xsc, xho, xvk, xvf, xvs, xcv, xco, xff, xfp, xfe, xfb, xop) (nI x) := sorry
theorem xF_let (H : tk_ok xtk n) (A : xb_A (tk_K xtk n) n xaf) {x b q k cc : Nat} (hx : x < 400) (hb : b + k ≤ 400) (hcc : cc + k ≤ 404) (hff : xff x = nI q) (hfb : xfb x = nI b) (h8 : tk_K xtk n (q + 1) = 8) (h2 : q + 2 < n) (k2 : tk_K xtk n (q + 2) ≠ 2) {Q : SX → Prop}
    (h : ∀ cv' co', xc_S xcv xco (fun i => xop (b + i)) (xfe x) cc k cv' co' → Q (xdl, xtn, xpp, xvc, nI (cc + k), nI x, nI b, 0, xan, nI (sk_f (tk_K xtk n) n (q + 2)), hb_e (xfe x) cc k, xfl, xac, xst, xsp, xmd, xrt, xcu, xtk, xtv, xaf, xro, xsc, xho, xvk, xvf, xvs, cv', co', xff, xfp, xfe, xfb, xop)) : wpX_finishForm Q (xdl, xtn, xpp, xvc, nI cc, nI (x + 1), nI (b + k), xag, xan, xex, xen, xfl, xac, xst, xsp, xmd, xrt, xcu, xtk, xtv, xaf, xro, xsc, xho, xvk, xvf, xvs, xcv, xco, xff, xfp, xfe, xfb, xop) (nI x) := sorry
theorem xF_fillL {b c0 k : Nat} {e0 : Int32} (hb : b + k ≤ 400) (hc : c0 + k ≤ 404) (hco : ∀ i, i < k → xco (c0 + i) = hb_e e0 c0 i) {Q : SX → Prop} (h : ∀ cv', (∀ i, i < k → cv' (c0 + i) = xop (b + i)) → (∀ c, (∀ i, i < k → c ≠ c0 + i) → cv' c = xcv c) → Q (xdl, xtn, xpp, xvc, xcc, xfc, xoc, xag, xan, xex, xen, xfl, xac, xst, xsp, xmd, xrt, xcu, xtk, xtv, xaf, xro, xsc, xho, xvk, xvf, xvs, cv', xco, xff, xfp, xfe, xfb, xop)) :
    ∀ j (cv' : Nat → Int32), j ≤ k → (∀ i, j ≤ i → i < k → cv' (c0 + i) = xop (b + i)) → (∀ c, (∀ i, j ≤ i → i < k → c ≠ c0 + i) → cv' c = xcv c) → wX_fillCells_10 Q (nI b) xdl xtn xpp xvc xcc xfc xoc xag xan xex xen xfl xac xst xsp xmd xrt xcu (j + 1) (hb_e e0 c0 j) (nI j - 1) xtk xtv xaf xro xsc xho xvk xvf xvs cv' xco xff xfp xfe xfb xop := sorry
theorem xF_letrec (H : tk_ok xtk n) (A : xb_A (tk_K xtk n) n xaf) {x b q k c0 : Nat} {e0 : Int32} (hx : x < 400) (hb : b + k ≤ 400) (hcc : c0 + k ≤ 404) (hff : xff x = nI q) (hfb : xfb x = nI b) (hfe : xfe x = hb_e e0 c0 k) (hco : ∀ i, i < k → xco (c0 + i) = hb_e e0 c0 i) (h9 : tk_K xtk n (q + 1) = 9) (h2 : q + 2 < n) (k2 : tk_K xtk n (q + 2) ≠ 2) {Q : SX → Prop}
    (h : ∀ cv', (∀ i, i < k → cv' (c0 + i) = xop (b + i)) → (∀ c, (∀ i, i < k → c ≠ c0 + i) → cv' c = xcv c) → Q (xdl, xtn, xpp, xvc, xcc, nI x, nI b, 0, xan, nI (sk_f (tk_K xtk n) n (q + 2)), hb_e e0 c0 k, xfl, xac, xst, xsp, xmd, xrt, xcu, xtk, xtv, xaf, xro, xsc, xho, xvk, xvf, xvs, cv', xco, xff, xfp, xfe, xfb, xop)) : wpX_finishForm Q (xdl, xtn, xpp, xvc, xcc, nI (x + 1), nI (b + k), xag, xan, xex, xen, xfl, xac, xst, xsp, xmd, xrt, xcu, xtk, xtv, xaf, xro, xsc, xho, xvk, xvf, xvs, xcv, xco, xff, xfp, xfe, xfb, xop) (nI x) := sorry
end
end
section
section
variable {xdl xtn xpp xvc xcc xfc xoc xag xan xex xen xfl xac xst xsp xmd xrt xcu : Int32} {xtk xtv xaf xro xsc xho xvk xvf xvs xcv xco xff xfp xfe xfb xop : Nat → Int32} {n : Nat}
theorem xF_part (H : tk_ok xtk n) {x b q a h' : Nat} (hx : x < 400) (hb : b < 400) (ha : a < 528) (hff : xff x = nI q) (hfb : xfb x = nI b) (hk : tk_K xtk n (q + 1) = h') (hh : h' = 12 ∨ h' = 13) (h2 : q + 1 < n) (hop : xop b = nI a) {Q : SX → Prop}
    (h6 : xvk a ≠ 3 → Q (xdl, xtn, xpp, xvc, xcc, nI x, nI b, xag, xan, xex, xfe x, xfl, xac, 6, xsp, xmd, xrt, xcu, xtk, xtv, xaf, xro, xsc, xho, xvk, xvf, xvs, xcv, xco, xff, xfp, xfe, xfb, xop)) (h1 : xvk a = 3 → Q (xdl, xtn, xpp, xvc, xcc, nI x, nI b, xag, if h' = 12 then xvf a else xvs a, xex, xfe x, xfl, xac, xst, xsp, xmd, xrt, xcu, xtk, xtv, xaf, xro, xsc, xho, xvk, xvf, xvs, xcv, xco, xff, xfp, xfe, xfb, xop)) : wpX_finishForm Q (xdl, xtn, xpp, xvc, xcc, nI (x + 1), nI (b + 1), xag, xan, xex, xen, xfl, xac, xst, xsp, xmd, xrt, xcu, xtk, xtv, xaf, xro, xsc, xho, xvk, xvf, xvs, xcv, xco, xff, xfp, xfe, xfb, xop) (nI x) := sorry
theorem xF_null (H : tk_ok xtk n) {x b q a vc : Nat} (hx : x < 400) (hb : b < 400) (ha : a < 528) (hv : vc < 528) (hff : xff x = nI q) (hfb : xfb x = nI b) (hk : tk_K xtk n (q + 1) = 14) (h2 : q + 1 < n) (hop : xop b = nI a) {Q : SX → Prop}
    (h : Q (xdl, xtn, xpp, nI (vc + 1), xcc, nI x, nI b, xag, nI vc, xex, xfe x, xfl, xac, xst, xsp, xmd, xrt, xcu, xtk, xtv, xaf, xro, xsc, xho, upd xvk vc 1, upd xvf vc (if xvk a = 2 then 1 else 0), upd xvs vc 0, xcv, xco, xff, xfp, xfe, xfb, xop)) : wpX_finishForm Q (xdl, xtn, xpp, nI vc, xcc, nI (x + 1), nI (b + 1), xag, xan, xex, xen, xfl, xac, xst, xsp, xmd, xrt, xcu, xtk, xtv, xaf, xro, xsc, xho, xvk, xvf, xvs, xcv, xco, xff, xfp, xfe, xfb, xop) (nI x) := sorry
theorem xF_cons (H : tk_ok xtk n) {x b q vc : Nat} (hx : x < 400) (hb : b + 1 < 400) (hv : vc < 528) (hff : xff x = nI q) (hfb : xfb x = nI b) (hk : tk_K xtk n (q + 1) = 11) (h2 : q + 1 < n) {Q : SX → Prop}
    (h : Q (xdl, xtn, xpp, nI (vc + 1), xcc, nI x, nI b, xag, nI vc, xex, xfe x, xfl, xac, xst, xsp, xmd, xrt, xcu, xtk, xtv, xaf, xro, xsc, xho, upd xvk vc 3, upd xvf vc (xop b), upd xvs vc (xop (b + 1)), xcv, xco, xff, xfp, xfe, xfb, xop)) : wpX_finishForm Q (xdl, xtn, xpp, nI vc, xcc, nI (x + 1), nI (b + 2), xag, xan, xex, xen, xfl, xac, xst, xsp, xmd, xrt, xcu, xtk, xtv, xaf, xro, xsc, xho, xvk, xvf, xvs, xcv, xco, xff, xfp, xfe, xfb, xop) (nI x) := sorry
theorem xF_op {a c h' vc : Nat} (ha : a < 528) (hc : c < 528) (hv : vc < 528) (hh : 15 ≤ h' ∧ h' ≤ 20) {Q : SX → Prop}
    (h6 : ¬ (xvk a = 1 ∧ xvk c = 1) → Q (xdl, xtn, xpp, nI vc, xcc, xfc, xoc, xag, xan, xex, xen, xfl, xac, 6, xsp, xmd, xrt, xcu, xtk, xtv, xaf, xro, xsc, xho, xvk, xvf, xvs, xcv, xco, xff, xfp, xfe, xfb, xop)) (h7 : xvk a = 1 → xvk c = 1 → h' = 18 → xvf c = 0 → Q (xdl, xtn, xpp, nI vc, xcc, xfc, xoc, xag, xan, xex, xen, xfl, xac, 7, xsp, xmd, xrt, xcu, xtk, xtv, xaf, xro, xsc, xho, xvk, xvf, xvs, xcv, xco, xff, xfp, xfe, xfb, xop))
    (h1 : xvk a = 1 → xvk c = 1 → ¬ (h' = 18 ∧ xvf c = 0) → Q (xdl, xtn, xpp, nI (vc + 1), xcc, xfc, xoc, xag, nI vc, xex, xen, xfl, xac, xst, xsp, xmd, xrt, xcu, xtk, xtv, xaf, xro, xsc, xho, upd xvk vc 1, upd xvf vc (al_op h' (xvf a) (xvf c)), upd xvs vc 0, xcv, xco, xff, xfp, xfe, xfb, xop)) : wpX_calculate Q (xdl, xtn, xpp, nI vc, xcc, xfc, xoc, xag, xan, xex, xen, xfl, xac, xst, xsp, xmd, xrt, xcu, xtk, xtv, xaf, xro, xsc, xho, xvk, xvf, xvs, xcv, xco, xff, xfp, xfe, xfb, xop) (nI h') (nI a) (nI c) := sorry
theorem xF_calc (H : tk_ok xtk n) {x b q a c h' vc : Nat} (hx : x < 400) (hb : b + 1 < 400) (ha : a < 528) (hc : c < 528) (hv : vc < 528) (hff : xff x = nI q) (hfb : xfb x = nI b) (hk : tk_K xtk n (q + 1) = h') (hh : 15 ≤ h' ∧ h' ≤ 20) (h2 : q + 1 < n) (hop : xop b = nI a) (hop2 : xop (b + 1) = nI c) {Q : SX → Prop}
    (h6 : ¬ (xvk a = 1 ∧ xvk c = 1) → Q (xdl, xtn, xpp, nI vc, xcc, nI x, nI b, xag, xan, xex, xfe x, xfl, xac, 6, xsp, xmd, xrt, xcu, xtk, xtv, xaf, xro, xsc, xho, xvk, xvf, xvs, xcv, xco, xff, xfp, xfe, xfb, xop)) (h7 : xvk a = 1 → xvk c = 1 → h' = 18 → xvf c = 0 → Q (xdl, xtn, xpp, nI vc, xcc, nI x, nI b, xag, xan, xex, xfe x, xfl, xac, 7, xsp, xmd, xrt, xcu, xtk, xtv, xaf, xro, xsc, xho, xvk, xvf, xvs, xcv, xco, xff, xfp, xfe, xfb, xop))
    (h1 : xvk a = 1 → xvk c = 1 → ¬ (h' = 18 ∧ xvf c = 0) → Q (xdl, xtn, xpp, nI (vc + 1), xcc, nI x, nI b, xag, nI vc, xex, xfe x, xfl, xac, xst, xsp, xmd, xrt, xcu, xtk, xtv, xaf, xro, xsc, xho, upd xvk vc 1, upd xvf vc (al_op h' (xvf a) (xvf c)), upd xvs vc 0, xcv, xco, xff, xfp, xfe, xfb, xop)) : wpX_finishForm Q (xdl, xtn, xpp, nI vc, xcc, nI (x + 1), nI (b + 2), xag, xan, xex, xen, xfl, xac, xst, xsp, xmd, xrt, xcu, xtk, xtv, xaf, xro, xsc, xho, xvk, xvf, xvs, xcv, xco, xff, xfp, xfe, xfb, xop) (nI x) := sorry
theorem xF_call (H : tk_ok xtk n) (A : xb_A (tk_K xtk n) n xaf) {x b q k f cc : Nat} (hx : x < 400) (hb : b + k < 400) (hcc : cc + k ≤ 404) (hf : f < 528) (hff : xff x = nI q) (hfb : xfb x = nI b) (hk : tk_K xtk n (q + 1) < 6) (h2 : q + 1 < n) (hop : xop (b + k) = nI f) {Q : SX → Prop}
    (h8 : xvk f ≠ 4 → Q (xdl, xtn, xpp, xvc, nI cc, nI (x + 1), nI b, xag, xan, xex, xen, xfl, xac, 8, xsp, xmd, xrt, xcu, xtk, xtv, xaf, xro, xsc, xho, xvk, xvf, xvs, xcv, xco, xff, xfp, xfe, xfb, xop))
    (hcl : xvk f = 4 → ∃ p c, xvf f = nI p ∧ p + 2 < n ∧ tk_K xtk n (p + 2) ≠ 2 ∧ ls_C (tk_K xtk n) (sk_f (tk_K xtk n) n) (p + 3) c ∧ c < 2 ^ 20 ∧ (c ≠ k → Q (xdl, xtn, xpp, xvc, nI cc, nI (x + 1), nI b, xag, xan, xex, xen, xfl, xac, 9, xsp, xmd, xrt, xcu, xtk, xtv, xaf, xro, xsc, xho, xvk, xvf, xvs, xcv, xco, xff, xfp, xfe, xfb, xop)) ∧ (c = k → xac = xdl → Q (xdl, xtn, xpp, xvc, nI cc, nI (x + 1), nI b, xag, xan, xex, xen, xfl, xac, 5, xsp, xmd, xrt, xcu, xtk, xtv, xaf, xro, xsc, xho, xvk, xvf, xvs, xcv, xco, xff, xfp, xfe, xfb, xop)) ∧
      (c = k → xac ≠ xdl → ∀ cv' co' md', md' = (if xac + 1 ≤ xmd then xmd else xac + 1) → xc_S xcv xco (fun i => xop (b + i)) (xvs f) cc k cv' co' → Q (xdl, xtn, xpp, xvc, nI (cc + k), nI (x + 1), nI b, 0, xan, nI (sk_f (tk_K xtk n) n (p + 2)), hb_e (xvs f) cc k, xfl, xac + 1, xst, xsp, md', xrt, xcu, xtk, xtv, xaf, xro, xsc, xho, xvk, xvf, xvs, cv', co', xff, xfp, xfe, xfb, xop))) : wpX_finishForm Q (xdl, xtn, xpp, xvc, nI cc, nI (x + 1), nI (b + (k + 1)), xag, xan, xex, xen, xfl, xac, xst, xsp, xmd, xrt, xcu, xtk, xtv, xaf, xro, xsc, xho, xvk, xvf, xvs, xcv, xco, xff, xfp, xfe, xfb, xop) (nI x) := sorry
end
end
section
/-! the frames of a run, and what is counted -/
def fp_W (K a : Nat → Nat) (R sc : Nat → Int32) (n : Nat) (nm : Nat → Nat) (cc : Nat) (ff fp fe fb : Nat → Int32) (x b k q : Nat) : Prop :=
  q < n ∧ R q = 1 ∧ K q = 1 ∧ ff x = nI q ∧ fb x = nI b ∧ hp_E nm cc (fe x) (sc q) ∧
   ((K (q + 1) = 10 ∧ k = 0 ∧ fp x = nI (q + 2)) ∨
    (11 ≤ K (q + 1) ∧ k < gr_n (K (q + 1)) ∧ fp x = nI (it_f a k (q + 2))) ∨
    (K (q + 1) = 8 ∧ (∃ c, ls_C K a (q + 3) c ∧ k < c) ∧ fp x = nI (it_f a k (q + 3) + 2)) ∨
    (K (q + 1) < 6 ∧ ∃ c, ls_C K a (q + 1) (c + 1) ∧ ((k < c ∧ fp x = nI (it_f a (k + 1) (q + 1))) ∨ (k = c ∧ fp x = nI (q + 1)))))
def fp_R (K a : Nat → Nat) (R sc : Nat → Int32) (n : Nat) (nm : Nat → Nat) (cc : Nat) (ff fp fe fb : Nat → Int32) : Nat → Nat → Nat → Prop
  | 0, o, u => o = 0 ∧ u = 0
  | x + 1, o, u => (fp x = -1 ∧ fp_R K a R sc n nm cc ff fp fe fb x o u) ∨
    (∃ b k u' q, u = u' + 1 ∧ o = b + k ∧ fp_W K a R sc n nm cc ff fp fe fb x b k q ∧ fp_R K a R sc n nm cc ff fp fe fb x b u')
section
variable {K a : Nat → Nat} {R sc : Nat → Int32} {n : Nat} {nm nm' : Nat → Nat} {cc cc' : Nat} {ff fp fe fb ff' fp' fe' fb' : Nat → Int32}
theorem fp_Wk {x b k q : Nat} (hc : cc ≤ cc') (hg : ∀ i, i < cc → nm' i = nm i) (hx : ff' x = ff x ∧ fp' x = fp x ∧ fe' x = fe x ∧ fb' x = fb x)
    (h : fp_W K a R sc n nm cc ff fp fe fb x b k q) : fp_W K a R sc n nm' cc' ff' fp' fe' fb' x b k q := sorry
theorem fp_k (hc : cc ≤ cc') (hg : ∀ i, i < cc → nm' i = nm i) : ∀ {x o u : Nat}, (∀ i, i < x → ff' i = ff i ∧ fp' i = fp i ∧ fe' i = fe i ∧ fb' i = fb i) →
    fp_R K a R sc n nm cc ff fp fe fb x o u → fp_R K a R sc n nm' cc' ff' fp' fe' fb' x o u := sorry
end
def vo_R (VP : Nat → Prop) (op : Nat → Int32) (oc : Nat) : Prop := ∀ k, k < oc → ∃ a, op k = nI a ∧ VP a
theorem vo_m {VP VP' : Nat → Prop} {op op' : Nat → Int32} {oc : Nat} (hV : ∀ a, VP a → VP' a) (h1 : ∀ k, k < oc → op' k = op k) (h : vo_R VP op oc) : vo_R VP' op' oc := sorry
theorem vo_s {VP VP' : Nat → Prop} {op : Nat → Int32} {oc a : Nat} (hV : ∀ a, VP a → VP' a) (v : VP' a) (h : vo_R VP op oc) : vo_R VP' (upd op oc (nI a)) (oc + 1) := sorry
theorem vo_l {VP : Nat → Prop} {op : Nat → Int32} {oc oc' : Nat} (hl : oc' ≤ oc) (h : vo_R VP op oc) : vo_R VP op oc' := sorry
def sn_N (vc cc fc oc u s t ans : Nat) : Prop := vc + u ≤ 128 + s ∧ 128 ≤ vc ∧ cc + oc + fc + ans ≤ s ∧ t + ans + fc ≤ 2 * s ∧ s ≤ 400 ∧ ans ≤ 1
/-- the walk to a name's cell -/
theorem hp_walk {K : Nat → Nat} {R sc : Nat → Int32} {n : Nat} {VP : Nat → Prop} {nm : Nat → Nat} {vc cc lo : Nat} {vk vf vs cv co : Nat → Int32} (hn : n ≤ 64) (hcc : cc ≤ 404) (B : hp_B K R sc n VP nm vc cc lo vk vf vs cv co) :
    ∀ (l : List Nat) (h : Nat) (c s' : Int32), sc_H n sc l s' → h < l.length → hp_E nm cc c s' → ∃ i, i < cc ∧ ∀ co' : Nat → Int32, (∀ c, c < cc → co' c = co c) → xh_W co' h c i := sorry
end
section
/-! the shape of forms, as a run needs it -/
section
variable {K : Nat → Nat} {V r sc : Nat → Int32} {n : Nat} {par : Nat → Nat}
theorem st_in (hn : ∀ i, n ≤ i → K i = 0) (hB : ∀ i, i < n → K i ≠ 2 → dp_I K i (sk_f K n i)) (W : rw_W K V (sk_f K n) n n r par) {q c : Nat} (hq : q < n) (hr : r q = 1) (h : gr_E K (sk_f K n) q c) : c < n ∧ r c = 1 ∧ K c ≠ 2 ∧ q < c ∧ sk_f K n c < sk_f K n q ∧ sk_f K n q ≤ n := sorry
theorem st_op (hn : ∀ i, n ≤ i → K i = 0) (hB : ∀ i, i < n → K i ≠ 2 → dp_I K i (sk_f K n i)) (W : rw_W K V (sk_f K n) n n r par) (hL : ∀ i, i < n → r i = 1 → K i = 1 → sc_L K (sk_f K n) sc i) {q : Nat} (hq : q < n) (hr : r q = 1) (k1 : K q = 1) (k10 : 10 ≤ K (q + 1)) :
    ls_C K (sk_f K n) (q + 2) (gr_n (K (q + 1))) ∧ (∀ k, k < gr_n (K (q + 1)) → it_f (sk_f K n) k (q + 2) < n ∧ r (it_f (sk_f K n) k (q + 2)) = 1 ∧ K (it_f (sk_f K n) k (q + 2)) ≠ 2 ∧ q + 2 ≤ it_f (sk_f K n) k (q + 2) ∧ sc (it_f (sk_f K n) k (q + 2)) = sc q) ∧ it_f (sk_f K n) (gr_n (K (q + 1))) (q + 2) < n := sorry
theorem st_app (hn : ∀ i, n ≤ i → K i = 0) (hB : ∀ i, i < n → K i ≠ 2 → dp_I K i (sk_f K n i)) (W : rw_W K V (sk_f K n) n n r par) (hL : ∀ i, i < n → r i = 1 → K i = 1 → sc_L K (sk_f K n) sc i) {q : Nat} (hq : q < n) (hr : r q = 1) (k1 : K q = 1) (k6 : K (q + 1) < 6) :
    ∃ c, c ≤ 4 ∧ ls_C K (sk_f K n) (q + 1) (c + 1) ∧ (∀ k, k ≤ c → it_f (sk_f K n) k (q + 1) < n ∧ r (it_f (sk_f K n) k (q + 1)) = 1 ∧ K (it_f (sk_f K n) k (q + 1)) ≠ 2 ∧ q + 1 + k ≤ it_f (sk_f K n) k (q + 1) ∧ sc (it_f (sk_f K n) k (q + 1)) = sc q) ∧ it_f (sk_f K n) (c + 1) (q + 1) < n := sorry
theorem st_let (hn : ∀ i, n ≤ i → K i = 0) (hB : ∀ i, i < n → K i ≠ 2 → dp_I K i (sk_f K n i)) (W : rw_W K V (sk_f K n) n n r par) (hL : ∀ i, i < n → r i = 1 → K i = 1 → sc_L K (sk_f K n) sc i) {q : Nat} (hq : q < n) (hr : r q = 1) (k1 : K q = 1) (k8 : K (q + 1) = 8 ∨ K (q + 1) = 9) :
    ∃ c, 1 ≤ c ∧ c ≤ 4 ∧ ls_C K (sk_f K n) (q + 3) c ∧
      (∀ k, k < c → K (it_f (sk_f K n) k (q + 3)) = 1 ∧ it_f (sk_f K n) k (q + 3) + 2 < n ∧ r (it_f (sk_f K n) k (q + 3) + 2) = 1 ∧ K (it_f (sk_f K n) k (q + 3) + 2) ≠ 2 ∧ q + 3 ≤ it_f (sk_f K n) k (q + 3) ∧ it_f (sk_f K n) (k + 1) (q + 3) = sk_f K n (it_f (sk_f K n) k (q + 3) + 2) + 1 ∧ it_f (sk_f K n) (k + 1) (q + 3) < n ∧ sc (it_f (sk_f K n) k (q + 3) + 2) = (if K (q + 1) = 9 then hb_s (sc q) (fun i => it_f (sk_f K n) i (q + 3) + 1) c else sc q) ∧ (K (q + 1) = 9 → K (it_f (sk_f K n) k (q + 3) + 2) = 1 ∧ K (it_f (sk_f K n) k (q + 3) + 3) = 7) ∧ sc (it_f (sk_f K n) k (q + 3) + 1) = hb_s (sc q) (fun i => it_f (sk_f K n) i (q + 3) + 1) k) ∧
      (∀ j k, j < k → k < c → V (it_f (sk_f K n) j (q + 3) + 1) ≠ V (it_f (sk_f K n) k (q + 3) + 1)) ∧
      q + 2 < n ∧ K (q + 2) = 1 ∧ sk_f K n (q + 2) = it_f (sk_f K n) c (q + 3) + 1 ∧ sk_f K n (q + 2) < n ∧ r (sk_f K n (q + 2)) = 1 ∧ sc (sk_f K n (q + 2)) = hb_s (sc q) (fun i => it_f (sk_f K n) i (q + 3) + 1) c := sorry
theorem st_lam (hn : ∀ i, n ≤ i → K i = 0) (hB : ∀ i, i < n → K i ≠ 2 → dp_I K i (sk_f K n i)) (W : rw_W K V (sk_f K n) n n r par) (hL : ∀ i, i < n → r i = 1 → K i = 1 → sc_L K (sk_f K n) sc i) {q : Nat} (hq : q < n) (hr : r q = 1) (k1 : K q = 1) (k7 : K (q + 1) = 7) :
    ∃ c, c ≤ 4 ∧ gr_P K V (q + 2) c ∧ ls_C K (sk_f K n) (q + 3) c ∧ (∀ k, k < c → q + 3 + k < n ∧ sc (q + 3 + k) = hb_s (sc q) (fun i => q + 3 + i) k) ∧ q + 3 + c < n ∧ q + 2 < n ∧ K (q + 2) = 1 ∧ sk_f K n (q + 2) = q + 4 + c ∧ sk_f K n (q + 2) < n ∧ r (sk_f K n (q + 2)) = 1 ∧ sc (sk_f K n (q + 2)) = hb_s (sc q) (fun i => q + 3 + i) c := sorry
end
end
section
/-! one theorem for all objects and all fuels: the picture decides -/
def sx_st (u : SX) : Int32 := match u with | (xdl, xtn, xpp, xvc, xcc, xfc, xoc, xag, xan, xex, xen, xfl, xac, xst, xsp, xmd, xrt, xcu, xtk, xtv, xaf, xro, xsc, xho, xvk, xvf, xvs, xcv, xco, xff, xfp, xfe, xfb, xop) => xst
def sx_sp (u : SX) : Int32 := match u with | (xdl, xtn, xpp, xvc, xcc, xfc, xoc, xag, xan, xex, xen, xfl, xac, xst, xsp, xmd, xrt, xcu, xtk, xtv, xaf, xro, xsc, xho, xvk, xvf, xvs, xcv, xco, xff, xfp, xfe, xfb, xop) => xsp
def sx_ag (u : SX) : Int32 := match u with | (xdl, xtn, xpp, xvc, xcc, xfc, xoc, xag, xan, xex, xen, xfl, xac, xst, xsp, xmd, xrt, xcu, xtk, xtv, xaf, xro, xsc, xho, xvk, xvf, xvs, xcv, xco, xff, xfp, xfe, xfb, xop) => xag
/-- an object that holds this program, compiled -/
def dq_OK (dl : Int32) (tk tv : Nat → Int32) (n : Nat) (u : SX) : Prop := ∃ (xvc xcc xfc xoc xag xan xex xen xfl xac xst xsp xmd xrt xcu : Int32) (xaf xro xsc xho xvk xvf xvs xcv xco xff xfp xfe xfb xop : Nat → Int32), u = (dl, nI n, 1, xvc, xcc, xfc, xoc, xag, xan, xex, xen, xfl, xac, xst, xsp, xmd, xrt, xcu, tk, tv, xaf, xro, xsc, xho, xvk, xvf, xvs, xcv, xco, xff, xfp, xfe, xfb, xop) ∧ cp_P tk tv n xaf xro xsc xho xvk xvf xvs
/-- the object's value agrees with the picture's -/
def ag_V (pvk pvf pvs xvk xvf xvs : Nat → Int32) (i : Nat) : Prop := xvk i = pvk i ∧ (pvk i ≠ 2 → xvf i = pvf i) ∧ (pvk i = 3 ∨ pvk i = 4 → xvs i = pvs i)
/-- after a run: status, steps, depth, root and cursor, and the values that can be seen -/
def fq_S (dl : Int32) (tk tv : Nat → Int32) (n : Nat) (r : Int32) (se : Nat) (md : Int32) (VP : Nat → Prop) (pvk pvf pvs : Nat → Int32) (wr wc : Int32) (u : SX) : Prop :=
  ∃ (xvc xcc xfc xoc xag xan xex xen xfl xac : Int32) (xaf xro xsc xho xvk xvf xvs xcv xco xff xfp xfe xfb xop : Nat → Int32), u = (dl, nI n, 1, xvc, xcc, xfc, xoc, xag, xan, xex, xen, xfl, xac, r, nI se, md, wr, wc, tk, tv, xaf, xro, xsc, xho, xvk, xvf, xvs, xcv, xco, xff, xfp, xfe, xfb, xop) ∧ cp_P tk tv n xaf xro xsc xho xvk xvf xvs ∧ ∀ i, VP i → ag_V pvk pvf pvs xvk xvf xvs i
/-- a closed set of values -/
def fq_G (K a : Nat → Nat) (n : Nat) (VP : Nat → Prop) (vk vf vs : Nat → Int32) : Prop :=
  ∀ i, VP i → i < 528 ∧ (vk i = 1 ∨ vk i = 2 ∨ (vk i = 3 ∧ ∃ a b, vf i = nI a ∧ vs i = nI b ∧ VP a ∧ VP b) ∨ (vk i = 4 ∧ ∃ q c, q + 3 < n ∧ vf i = nI q ∧ ls_C K a (q + 3) c ∧ c ≤ 4))
def sp_T (dl : Int32) (tk tv : Nat → Int32) (n t s : Nat) (P : Nat → SX → Prop) : Prop :=
  ∃ (se : Nat) (r md w : Int32) (VP : Nat → Prop) (vk vf vs : Nat → Int32), s ≤ se ∧ 1 ≤ se ∧ r ≠ 4 ∧ fq_G (tk_K tk n) (sk_f (tk_K tk n) n) n VP vk vf vs ∧ (w = -1 ∨ ∃ a, w = nI a ∧ VP a) ∧
    ∀ (F : Nat) (u : SX) (post : Int32 → SX → Prop) (fx : Nat), s ≤ F → F ≤ 400 → P F u → t + fx = 1000 →
      (F < se → (∀ u', dq_OK dl tk tv n u' → sx_sp u' = nI F → post 4 u') → rx_L post fx (nI t) u) ∧
      (se ≤ F → (∀ u', fq_S dl tk tv n r se md VP vk vf vs w w u' → post r u') → rx_L post fx (nI t) u)
section
variable {xdl xtn xpp xvc xcc xfc xoc xag xan xex xen xfl xac xst xsp xmd xrt xcu : Int32} {xtk xtv xaf xro xsc xho xvk xvf xvs xcv xco xff xfp xfe xfb xop : Nat → Int32} {t : Nat}
theorem sp_xend {post : Int32 → SX → Prop} {f : Nat} {r : Int32} {u : SX} (ht : t < 1600) (hr : ¬ r = -1) (hu : sx_st u = r) (h : post r u) : rx_L post (f + 1) (nI t) u := sorry
theorem sp_xE {post : Int32 → SX → Prop} {f : Nat} {u : SX} (ht : t < 1600) (h1 : sx_ag u = 0) (h2 : sx_st u = -1) (h : ∀ Q : SX → Prop, (∀ u', rx_L post f (nI (t + 1)) u' → Q u') → wpX_startExpr Q u) : rx_L post (f + 1) (nI t) u := sorry
theorem sp_xR {post : Int32 → SX → Prop} {f : Nat} {u : SX} (ht : t < 1600) (h1 : sx_ag u = 1) (h2 : sx_st u = -1) (h : ∀ Q : SX → Prop, (∀ u', rx_L post f (nI (t + 1)) u' → Q u') → wpX_handOverAnswer Q u) : rx_L post (f + 1) (nI t) u := sorry
end
section
variable {dl : Int32} {tk tv : Nat → Int32} {n t s : Nat} {P P1 : Nat → SX → Prop}
theorem fq_st {r md wr wc : Int32} {se : Nat} {VP : Nat → Prop} {pvk pvf pvs : Nat → Int32} {u : SX} (h : fq_S dl tk tv n r se md VP pvk pvf pvs wr wc u) : sx_st u = r := sorry
/-- a turn that evaluates -/
theorem sp_Es (ht : t < 990) (hP : ∀ F u, P F u → sx_ag u = 0 ∧ sx_st u = -1) (out : ∀ u Q, P s u → (∀ u', dq_OK dl tk tv n u' → sx_st u' = 4 → sx_sp u' = nI s → Q u') → wpX_startExpr Q u)
    (step : ∀ F u Q, s < F → F ≤ 400 → P F u → (∀ u1, P1 F u1 → Q u1) → wpX_startExpr Q u) (N : sp_T dl tk tv n (t + 1) (s + 1) P1) : sp_T dl tk tv n t s P := sorry
/-- at 400 steps there is no turn left that evaluates -/
theorem sp_E400 (ht : t < 990) (hP : ∀ F u, P F u → sx_ag u = 0 ∧ sx_st u = -1) (out : ∀ u Q, P s u → (∀ u', dq_OK dl tk tv n u' → sx_st u' = 4 → sx_sp u' = nI s → Q u') → wpX_startExpr Q u) (hs : s = 400) : sp_T dl tk tv n t s P := sorry
/-- a turn that answers -/
theorem sp_Rs (ht : t < 990) (hP : ∀ F u, P F u → sx_ag u = 1 ∧ sx_st u = -1) (step : ∀ F u Q, F ≤ 400 → P F u → (∀ u1, P1 F u1 → Q u1) → wpX_handOverAnswer Q u) (N : sp_T dl tk tv n (t + 1) s P1) : sp_T dl tk tv n t s P := sorry
/-- the turn that ends a run -/
theorem sp_Rf {r md w : Int32} {VP : Nat → Prop} {vk vf vs : Nat → Int32} (ht : t < 990) (hs : 1 ≤ s) (hr : r ≠ 4) (hr1 : ¬ r = -1) (G : fq_G (tk_K tk n) (sk_f (tk_K tk n) n) n VP vk vf vs) (hw : w = -1 ∨ ∃ a, w = nI a ∧ VP a)
    (hP : ∀ F u, P F u → sx_ag u = 1 ∧ sx_st u = -1) (fin : ∀ F u Q, F ≤ 400 → P F u → (∀ u', fq_S dl tk tv n r s md VP vk vf vs w w u' → Q u') → wpX_handOverAnswer Q u) : sp_T dl tk tv n t s P := sorry
end
end
section
/-- the program, as the picture has it: roles, scopes, hops -/
def pq_F (xtk xtv : Nat → Int32) (n : Nat) (R sc : Nat → Int32) (h : Nat → Nat) (par : Nat → Nat) : Prop :=
  tk_ok xtk n ∧ (∀ i, i < n → tk_K xtk n i ≠ 2 → dp_I (tk_K xtk n) i (sk_f (tk_K xtk n) n i)) ∧ rw_W (tk_K xtk n) xtv (sk_f (tk_K xtk n) n) n n R par ∧ (∀ i, i < n → R i = 1 → tk_K xtk n i = 1 → sc_L (tk_K xtk n) (sk_f (tk_K xtk n) n) sc i) ∧
  (∀ i, i < n → R i = 1 → tk_K xtk n i = 4 → ∃ l, sc_H n sc l (sc i) ∧ h i < l.length ∧ l.length ≤ i)
/-- an object's own program -/
def sg_P (xtk xtv : Nat → Int32) (n : Nat) (R : Nat → Int32) (h : Nat → Nat) (xaf xro xsc xho : Nat → Int32) : Prop :=
  xb_A (tk_K xtk n) n xaf ∧ (∀ i, i < n → R i = 1 → tk_K xtk n i = 4 → xho i = nI (h i)) ∧ (∀ vk vf vs, lt_L (tk_K xtk n) xtv (sk_f (tk_K xtk n) n) R vk vf vs n → cp_P xtk xtv n xaf xro xsc xho vk vf vs)
/-- the object agrees with the picture where the picture lives -/
def sg_A (xtk xtv : Nat → Int32) (n : Nat) (R : Nat → Int32) (h : Nat → Nat) (VP : Nat → Prop) (cc fc oc : Nat) (pvk pvf pvs pcv pco pff pfp pfe pfb pop xaf xro xsc xho xvk xvf xvs xcv xco xff xfp xfe xfb xop : Nat → Int32) : Prop :=
  sg_P xtk xtv n R h xaf xro xsc xho ∧ lt_L (tk_K xtk n) xtv (sk_f (tk_K xtk n) n) R xvk xvf xvs n ∧ (∀ i, VP i → ag_V pvk pvf pvs xvk xvf xvs i) ∧ (∀ c, c < cc → xcv c = pcv c ∧ xco c = pco c) ∧
  (∀ i, i < fc → xff i = pff i ∧ xfp i = pfp i ∧ xfe i = pfe i ∧ xfb i = pfb i) ∧ (∀ i, i < oc → xop i = pop i)
def sg_E (dl : Int32) (xtk xtv : Nat → Int32) (n : Nat) (R : Nat → Int32) (h : Nat → Nat) (VP : Nat → Prop) (vc cc fc oc s q : Nat) (pen pac pmd : Int32) (pvk pvf pvs pcv pco pff pfp pfe pfb pop : Nat → Int32) (F : Nat) (u : SX) : Prop :=
  ∃ (xan : Int32) (xaf xro xsc xho xvk xvf xvs xcv xco xff xfp xfe xfb xop : Nat → Int32), u = (dl, nI n, 1, nI vc, nI cc, nI fc, nI oc, 0, xan, nI q, pen, nI F, pac, -1, nI s, pmd, -1, -1, xtk, xtv, xaf, xro, xsc, xho, xvk, xvf, xvs, xcv, xco, xff, xfp, xfe, xfb, xop) ∧
    sg_A xtk xtv n R h VP cc fc oc pvk pvf pvs pcv pco pff pfp pfe pfb pop xaf xro xsc xho xvk xvf xvs xcv xco xff xfp xfe xfb xop
def sg_R (dl : Int32) (xtk xtv : Nat → Int32) (n : Nat) (R : Nat → Int32) (h : Nat → Nat) (VP : Nat → Prop) (vc cc fc oc s va : Nat) (pac pmd : Int32) (pvk pvf pvs pcv pco pff pfp pfe pfb pop : Nat → Int32) (F : Nat) (u : SX) : Prop :=
  ∃ (xex xen : Int32) (xaf xro xsc xho xvk xvf xvs xcv xco xff xfp xfe xfb xop : Nat → Int32), u = (dl, nI n, 1, nI vc, nI cc, nI fc, nI oc, 1, nI va, xex, xen, nI F, pac, -1, nI s, pmd, -1, -1, xtk, xtv, xaf, xro, xsc, xho, xvk, xvf, xvs, xcv, xco, xff, xfp, xfe, xfb, xop) ∧
    sg_A xtk xtv n R h VP cc fc oc pvk pvf pvs pcv pco pff pfp pfe pfb pop xaf xro xsc xho xvk xvf xvs xcv xco xff xfp xfe xfb xop
/-- the invariant of the picture -/
def pi_I (K a : Nat → Nat) (R sc : Nat → Int32) (n ans : Nat) (VP : Nat → Prop) (nm : Nat → Nat) (vc cc fc oc u s t : Nat) (pvk pvf pvs pcv pco pff pfp pfe pfb pop : Nat → Int32) : Prop :=
  hp_B K R sc n VP nm vc cc cc pvk pvf pvs pcv pco ∧ vo_R VP pop oc ∧ fp_R K a R sc n nm cc pff pfp pfe pfb fc oc u ∧ sn_N vc cc fc oc u s t ans
def sp_ET (dl : Int32) (xtk xtv : Nat → Int32) (n : Nat) (R sc : Nat → Int32) (h : Nat → Nat) (d : Nat) : Prop :=
  ∀ (VP : Nat → Prop) (nm : Nat → Nat) (vc cc fc oc u s t q : Nat) (pen pac pmd : Int32) (pvk pvf pvs pcv pco pff pfp pfe pfb pop : Nat → Int32), t + d = 900 → (pi_I (tk_K xtk n) (sk_f (tk_K xtk n) n) R sc n 0 VP nm vc cc fc oc u s t pvk pvf pvs pcv pco pff pfp pfe pfb pop) → q < n → R q = 1 → hp_E nm cc pen (sc q) → sp_T dl xtk xtv n t s (sg_E dl xtk xtv n R h VP vc cc fc oc s q pen pac pmd pvk pvf pvs pcv pco pff pfp pfe pfb pop)
def sp_RT (dl : Int32) (xtk xtv : Nat → Int32) (n : Nat) (R sc : Nat → Int32) (h : Nat → Nat) (d : Nat) : Prop :=
  ∀ (VP : Nat → Prop) (nm : Nat → Nat) (vc cc fc oc u s t va : Nat) (pac pmd : Int32) (pvk pvf pvs pcv pco pff pfp pfe pfb pop : Nat → Int32), t + d = 900 → (pi_I (tk_K xtk n) (sk_f (tk_K xtk n) n) R sc n 1 VP nm vc cc fc oc u s t pvk pvf pvs pcv pco pff pfp pfe pfb pop) → VP va → sp_T dl xtk xtv n t s (sg_R dl xtk xtv n R h VP vc cc fc oc s va pac pmd pvk pvf pvs pcv pco pff pfp pfe pfb pop)
section
variable {dl : Int32} {xtk xtv : Nat → Int32} {n : Nat} {R sc : Nat → Int32} {h : Nat → Nat} {par : Nat → Nat} {VP : Nat → Prop} {nm : Nat → Nat} {vc cc fc oc u s t q va d : Nat} {pen pac pmd : Int32} {pvk pvf pvs pcv pco pff pfp pfe pfb pop : Nat → Int32}
theorem sg_Eh (F : Nat) (u : SX) (hu : (sg_E dl xtk xtv n R h VP vc cc fc oc s q pen pac pmd pvk pvf pvs pcv pco pff pfp pfe pfb pop) F u) : sx_ag u = 0 ∧ sx_st u = -1 := sorry
theorem sg_Rh (F : Nat) (u : SX) (hu : (sg_R dl xtk xtv n R h VP vc cc fc oc s va pac pmd pvk pvf pvs pcv pco pff pfp pfe pfb pop) F u) : sx_ag u = 1 ∧ sx_st u = -1 := sorry
theorem sg_out (u : SX) (Q : SX → Prop) (hu : (sg_E dl xtk xtv n R h VP vc cc fc oc s q pen pac pmd pvk pvf pvs pcv pco pff pfp pfe pfb pop) s u) (hQ : ∀ u', dq_OK dl xtk xtv n u' → sx_st u' = 4 → sx_sp u' = nI s → Q u') : wpX_startExpr Q u := sorry
theorem te_lit (PG : pq_F xtk xtv n R sc h par) (I : (pi_I (tk_K xtk n) (sk_f (tk_K xtk n) n) R sc n 0 VP nm vc cc fc oc u s t pvk pvf pvs pcv pco pff pfp pfe pfb pop)) (hq : q < n) (k3 : tk_K xtk n q = 3 ∨ tk_K xtk n q = 5) (ht : t + (d + 1) = 900) (hs4 : s < 400) (IH : sp_RT dl xtk xtv n R sc h d) : sp_T dl xtk xtv n t s (sg_E dl xtk xtv n R h VP vc cc fc oc s q pen pac pmd pvk pvf pvs pcv pco pff pfp pfe pfb pop) := sorry
theorem te_sym (PG : pq_F xtk xtv n R sc h par) (I : (pi_I (tk_K xtk n) (sk_f (tk_K xtk n) n) R sc n 0 VP nm vc cc fc oc u s t pvk pvf pvs pcv pco pff pfp pfe pfb pop)) (hq : q < n) (rq : R q = 1) (k4 : tk_K xtk n q = 4) (hE : hp_E nm cc pen (sc q)) (ht : t + (d + 1) = 900) (hs4 : s < 400) (IH : sp_RT dl xtk xtv n R sc h d) : sp_T dl xtk xtv n t s (sg_E dl xtk xtv n R h VP vc cc fc oc s q pen pac pmd pvk pvf pvs pcv pco pff pfp pfe pfb pop) := sorry
theorem te_quote (PG : pq_F xtk xtv n R sc h par) (I : (pi_I (tk_K xtk n) (sk_f (tk_K xtk n) n) R sc n 0 VP nm vc cc fc oc u s t pvk pvf pvs pcv pco pff pfp pfe pfb pop)) (hq : q < n) (rq : R q = 1) (k1 : tk_K xtk n q = 1) (k6 : tk_K xtk n (q + 1) = 6) (ht : t + (d + 1) = 900) (hs4 : s < 400) (IH : sp_RT dl xtk xtv n R sc h d) : sp_T dl xtk xtv n t s (sg_E dl xtk xtv n R h VP vc cc fc oc s q pen pac pmd pvk pvf pvs pcv pco pff pfp pfe pfb pop) := sorry
/-- a value is made -/
theorem ag_new {xvk xvf xvs : Nat → Int32} {k f s2 : Int32} (hlt : ∀ i, VP i → i < vc) (A : ∀ i, VP i → ag_V pvk pvf pvs xvk xvf xvs i) : ∀ i, (VP i ∨ i = vc) → ag_V (upd pvk vc k) (upd pvf vc f) (upd pvs vc s2) (upd xvk vc k) (upd xvf vc f) (upd xvs vc s2) i := sorry
theorem lt_new {K a : Nat → Nat} {V r xvk xvf xvs : Nat → Int32} {k f s2 : Int32} (hv : 128 ≤ vc) (hn : n ≤ 64) (L : lt_L K V a r xvk xvf xvs n) : lt_L K V a r (upd xvk vc k) (upd xvf vc f) (upd xvs vc s2) n := sorry
theorem hp_new {K : Nat → Nat} {lo : Nat} {k f s2 : Int32} (hV : hp_V K R sc n (fun i => VP i ∨ i = vc) nm cc (upd pvk vc k) (upd pvf vc f) (upd pvs vc s2) vc) (B : hp_B K R sc n VP nm vc cc lo pvk pvf pvs pcv pco) : hp_B K R sc n (fun i => VP i ∨ i = vc) nm (vc + 1) cc lo (upd pvk vc k) (upd pvf vc f) (upd pvs vc s2) pcv pco := sorry
theorem te_lam (PG : pq_F xtk xtv n R sc h par) (I : (pi_I (tk_K xtk n) (sk_f (tk_K xtk n) n) R sc n 0 VP nm vc cc fc oc u s t pvk pvf pvs pcv pco pff pfp pfe pfb pop)) (hq : q < n) (rq : R q = 1) (k1 : tk_K xtk n q = 1) (k7 : tk_K xtk n (q + 1) = 7) (hE : hp_E nm cc pen (sc q)) (ht : t + (d + 1) = 900) (hs4 : s < 400) (IH : sp_RT dl xtk xtv n R sc h d) : sp_T dl xtk xtv n t s (sg_E dl xtk xtv n R h VP vc cc fc oc s q pen pac pmd pvk pvf pvs pcv pco pff pfp pfe pfb pop) := sorry
end
end
section
theorem up_c {f g : Nat → Int32} {m k : Nat} {v : Int32} (h : ∀ i, i < m → f i = g i) (i : Nat) (hi : i < m) : upd f k v i = upd g k v i := sorry
theorem up_s {f g : Nat → Int32} {m : Nat} {v : Int32} (h : ∀ i, i < m → f i = g i) (i : Nat) (hi : i < m + 1) : upd f m v i = upd g m v i := sorry
/-- cells: on the object as in the picture -/
theorem up_v {f g val val' : Nat → Int32} {cc k : Nat} (h : ∀ i, i < cc → f i = g i) (hv : ∀ i, i < k → val i = val' i) (c : Nat) (hc : c < cc + k) : xc_v f val cc k c = xc_v g val' cc k c := sorry
section
variable {dl : Int32} {xtk xtv : Nat → Int32} {n : Nat} {R sc : Nat → Int32} {h : Nat → Nat} {par : Nat → Nat} {VP : Nat → Prop} {nm : Nat → Nat} {vc cc fc oc u s t q d : Nat} {pen pac pmd : Int32} {pvk pvf pvs pcv pco pff pfp pfe pfb pop : Nat → Int32}
theorem te_open {p : Nat} (PG : pq_F xtk xtv n R sc h par) (I : (pi_I (tk_K xtk n) (sk_f (tk_K xtk n) n) R sc n 0 VP nm vc cc fc oc u s t pvk pvf pvs pcv pco pff pfp pfe pfb pop)) (hq : q < n) (k1 : tk_K xtk n q = 1) (k9 : tk_K xtk n (q + 1) ≠ 9) (hp : xp_1 (tk_K xtk n) (sk_f (tk_K xtk n) n) n q p) (hpn : p < n) (rp : R p = 1) (sp : sc p = sc q) (hE : hp_E nm cc pen (sc q))
    (hW : fp_W (tk_K xtk n) (sk_f (tk_K xtk n) n) R sc n nm cc (upd pff fc (nI q)) (upd pfp fc (nI p)) (upd pfe fc pen) (upd pfb fc (nI oc)) fc oc 0 q) (ht : t + (d + 1) = 900) (hs4 : s < 400) (IH : sp_ET dl xtk xtv n R sc h d) : sp_T dl xtk xtv n t s (sg_E dl xtk xtv n R h VP vc cc fc oc s q pen pac pmd pvk pvf pvs pcv pco pff pfp pfe pfb pop) := sorry
theorem te_if (PG : pq_F xtk xtv n R sc h par) (I : (pi_I (tk_K xtk n) (sk_f (tk_K xtk n) n) R sc n 0 VP nm vc cc fc oc u s t pvk pvf pvs pcv pco pff pfp pfe pfb pop)) (hq : q < n) (rq : R q = 1) (k1 : tk_K xtk n q = 1) (k10 : tk_K xtk n (q + 1) = 10) (hE : hp_E nm cc pen (sc q)) (ht : t + (d + 1) = 900) (hs4 : s < 400) (IH : sp_ET dl xtk xtv n R sc h d) : sp_T dl xtk xtv n t s (sg_E dl xtk xtv n R h VP vc cc fc oc s q pen pac pmd pvk pvf pvs pcv pco pff pfp pfe pfb pop) := sorry
theorem te_op (PG : pq_F xtk xtv n R sc h par) (I : (pi_I (tk_K xtk n) (sk_f (tk_K xtk n) n) R sc n 0 VP nm vc cc fc oc u s t pvk pvf pvs pcv pco pff pfp pfe pfb pop)) (hq : q < n) (rq : R q = 1) (k1 : tk_K xtk n q = 1) (k11 : 11 ≤ tk_K xtk n (q + 1)) (hE : hp_E nm cc pen (sc q)) (ht : t + (d + 1) = 900) (hs4 : s < 400) (IH : sp_ET dl xtk xtv n R sc h d) : sp_T dl xtk xtv n t s (sg_E dl xtk xtv n R h VP vc cc fc oc s q pen pac pmd pvk pvf pvs pcv pco pff pfp pfe pfb pop) := sorry
theorem te_let (PG : pq_F xtk xtv n R sc h par) (I : (pi_I (tk_K xtk n) (sk_f (tk_K xtk n) n) R sc n 0 VP nm vc cc fc oc u s t pvk pvf pvs pcv pco pff pfp pfe pfb pop)) (hq : q < n) (rq : R q = 1) (k1 : tk_K xtk n q = 1) (k8 : tk_K xtk n (q + 1) = 8) (hE : hp_E nm cc pen (sc q)) (ht : t + (d + 1) = 900) (hs4 : s < 400) (IH : sp_ET dl xtk xtv n R sc h d) : sp_T dl xtk xtv n t s (sg_E dl xtk xtv n R h VP vc cc fc oc s q pen pac pmd pvk pvf pvs pcv pco pff pfp pfe pfb pop) := sorry
theorem te_app (PG : pq_F xtk xtv n R sc h par) (I : (pi_I (tk_K xtk n) (sk_f (tk_K xtk n) n) R sc n 0 VP nm vc cc fc oc u s t pvk pvf pvs pcv pco pff pfp pfe pfb pop)) (hq : q < n) (rq : R q = 1) (k1 : tk_K xtk n q = 1) (k6 : tk_K xtk n (q + 1) < 6) (hE : hp_E nm cc pen (sc q)) (ht : t + (d + 1) = 900) (hs4 : s < 400) (IH : sp_ET dl xtk xtv n R sc h d) : sp_T dl xtk xtv n t s (sg_E dl xtk xtv n R h VP vc cc fc oc s q pen pac pmd pvk pvf pvs pcv pco pff pfp pfe pfb pop) := sorry
end
end
section
/-! an answer is there -/
def tj_J (K a : Nat → Nat) (R sc : Nat → Int32) (n : Nat) (VP : Nat → Prop) (nm : Nat → Nat) (vc cc x b k q u1 s t va : Nat) (pvk pvf pvs pcv pco pff pfp pfe pfb pop : Nat → Int32) : Prop :=
  hp_B K R sc n VP nm vc cc cc pvk pvf pvs pcv pco ∧ vo_R VP pop (b + k) ∧ fp_W K a R sc n nm cc pff pfp pfe pfb x b k q ∧ fp_R K a R sc n nm cc pff pfp pfe pfb x b u1 ∧ sn_N vc cc (x + 1) (b + k) (u1 + 1) s t 1 ∧ VP va
section
variable {dl : Int32} {xtk xtv : Nat → Int32} {n : Nat} {R sc : Nat → Int32} {h : Nat → Nat} {par : Nat → Nat} {VP : Nat → Prop} {nm : Nat → Nat} {vc cc fc oc u s t va d x b k q u1 : Nat} {pac pmd : Int32} {pvk pvf pvs pcv pco pff pfp pfe pfb pop : Nat → Int32}
theorem tr_G (PG : pq_F xtk xtv n R sc h par) (hv : vc ≤ 528) (B : hp_B (tk_K xtk n) R sc n VP nm vc cc cc pvk pvf pvs pcv pco) : fq_G (tk_K xtk n) (sk_f (tk_K xtk n) n) n VP pvk pvf pvs := sorry
theorem tr_fin (PG : pq_F xtk xtv n R sc h par) (I : (pi_I (tk_K xtk n) (sk_f (tk_K xtk n) n) R sc n 1 VP nm vc cc 0 oc u s t pvk pvf pvs pcv pco pff pfp pfe pfb pop)) (v : VP va) : sp_T dl xtk xtv n t s (sg_R dl xtk xtv n R h VP vc cc 0 oc s va pac pmd pvk pvf pvs pcv pco pff pfp pfe pfb pop) := sorry
theorem tr_ret (I : (pi_I (tk_K xtk n) (sk_f (tk_K xtk n) n) R sc n 1 VP nm vc cc (x + 1) oc u s t pvk pvf pvs pcv pco pff pfp pfe pfb pop)) (v : VP va) (Rf : fp_R (tk_K xtk n) (sk_f (tk_K xtk n) n) R sc n nm cc pff pfp pfe pfb x oc u) (hp : pfp x = -1) (ht : t + (d + 1) = 900) (IHR : sp_RT dl xtk xtv n R sc h d) : sp_T dl xtk xtv n t s (sg_R dl xtk xtv n R h VP vc cc (x + 1) oc s va pac pmd pvk pvf pvs pcv pco pff pfp pfe pfb pop) := sorry
theorem tr_more {p p' : Nat} (PG : pq_F xtk xtv n R sc h par) (J : (tj_J (tk_K xtk n) (sk_f (tk_K xtk n) n) R sc n VP nm vc cc x b k q u1 s t va pvk pvf pvs pcv pco pff pfp pfe pfb pop)) (hA : xp_A (tk_K xtk n) (sk_f (tk_K xtk n) n) n q p (nI p')) (hq1 : q + 1 < n) (hfp : pfp x = nI p) (hp' : p' < n) (rp : R p' = 1) (sp' : sc p' = sc q) (hW : fp_W (tk_K xtk n) (sk_f (tk_K xtk n) n) R sc n nm cc pff (upd pfp x (nI p')) pfe pfb x b (k + 1) q) (ht : t + (d + 1) = 900) (IHE : sp_ET dl xtk xtv n R sc h d) : sp_T dl xtk xtv n t s (sg_R dl xtk xtv n R h VP vc cc (x + 1) (b + k) s va pac pmd pvk pvf pvs pcv pco pff pfp pfe pfb pop) := sorry
/-- the last part has been answered: how the form is finished -/
theorem tr_last {F : Nat} {u0 : SX} {p : Nat} (PG : pq_F xtk xtv n R sc h par) (J : (tj_J (tk_K xtk n) (sk_f (tk_K xtk n) n) R sc n VP nm vc cc x b k q u1 s t va pvk pvf pvs pcv pco pff pfp pfe pfb pop)) (hA : xp_A (tk_K xtk n) (sk_f (tk_K xtk n) n) n q p (-1)) (hq1 : q + 1 < n) (hfp : pfp x = nI p) (hu : (sg_R dl xtk xtv n R h VP vc cc (x + 1) (b + k) s va pac pmd pvk pvf pvs pcv pco pff pfp pfe pfb pop) F u0) {Q : SX → Prop}
    (fin : ∀ (xex xen : Int32) (xaf xro xsc xho xvk xvf xvs xcv xco xff xfp xfe xfb xop : Nat → Int32), sg_A xtk xtv n R h VP cc (x + 1) (b + k + 1) pvk pvf pvs pcv pco pff (upd pfp x (-1)) pfe pfb (upd pop (b + k) (nI va)) xaf xro xsc xho xvk xvf xvs xcv xco xff xfp xfe xfb xop →
      wpX_finishForm Q (dl, nI n, 1, nI vc, nI cc, nI (x + 1), nI (b + k + 1), 1, nI va, xex, xen, nI F, pac, -1, nI s, pmd, -1, -1, xtk, xtv, xaf, xro, xsc, xho, xvk, xvf, xvs, xcv, xco, xff, xfp, xfe, xfb, xop) (nI x)) : wpX_handOverAnswer Q u0 := sorry
/-- a value's kind is the object's too -/
theorem ag_k {xvk xvf xvs : Nat → Int32} {a : Nat} (A : ag_V pvk pvf pvs xvk xvf xvs a) : xvk a = pvk a ∧ (pvk a = 1 → xvf a = pvf a) ∧ (pvk a = 3 → xvf a = pvf a ∧ xvs a = pvs a) ∧ (pvk a = 4 → xvf a = pvf a ∧ xvs a = pvs a) := sorry
theorem tr_if (PG : pq_F xtk xtv n R sc h par) (J : (tj_J (tk_K xtk n) (sk_f (tk_K xtk n) n) R sc n VP nm vc cc x b k q u1 s t va pvk pvf pvs pcv pco pff pfp pfe pfb pop)) (k10 : tk_K xtk n (q + 1) = 10) (ht : t + (d + 1) = 900) (IHE : sp_ET dl xtk xtv n R sc h d) : sp_T dl xtk xtv n t s (sg_R dl xtk xtv n R h VP vc cc (x + 1) (b + k) s va pac pmd pvk pvf pvs pcv pco pff pfp pfe pfb pop) := sorry
end
end
section
section
variable {dl : Int32} {xtk xtv : Nat → Int32} {n : Nat} {R sc : Nat → Int32} {h : Nat → Nat} {par : Nat → Nat} {VP : Nat → Prop} {nm : Nat → Nat} {vc cc s t va d x b k q u1 : Nat} {pac pmd : Int32} {pvk pvf pvs pcv pco pff pfp pfe pfb pop : Nat → Int32}
/-- the operator's frame -/
theorem to_f (PG : pq_F xtk xtv n R sc h par) (J : (tj_J (tk_K xtk n) (sk_f (tk_K xtk n) n) R sc n VP nm vc cc x b k q u1 s t va pvk pvf pvs pcv pco pff pfp pfe pfb pop)) (k11 : 11 ≤ tk_K xtk n (q + 1)) : q + 1 < n ∧ k < gr_n (tk_K xtk n (q + 1)) ∧ pfp x = nI (it_f (sk_f (tk_K xtk n) n) k (q + 2)) ∧
    (k + 1 < gr_n (tk_K xtk n (q + 1)) → xp_A (tk_K xtk n) (sk_f (tk_K xtk n) n) n q (it_f (sk_f (tk_K xtk n) n) k (q + 2)) (nI (it_f (sk_f (tk_K xtk n) n) (k + 1) (q + 2))) ∧ it_f (sk_f (tk_K xtk n) n) (k + 1) (q + 2) < n ∧ R (it_f (sk_f (tk_K xtk n) n) (k + 1) (q + 2)) = 1 ∧ sc (it_f (sk_f (tk_K xtk n) n) (k + 1) (q + 2)) = sc q) ∧ (k + 1 = gr_n (tk_K xtk n (q + 1)) → xp_A (tk_K xtk n) (sk_f (tk_K xtk n) n) n q (it_f (sk_f (tk_K xtk n) n) k (q + 2)) (-1)) := sorry
theorem to_more (PG : pq_F xtk xtv n R sc h par) (J : (tj_J (tk_K xtk n) (sk_f (tk_K xtk n) n) R sc n VP nm vc cc x b k q u1 s t va pvk pvf pvs pcv pco pff pfp pfe pfb pop)) (k11 : 11 ≤ tk_K xtk n (q + 1)) (hk : k + 1 < gr_n (tk_K xtk n (q + 1))) (ht : t + (d + 1) = 900) (IHE : sp_ET dl xtk xtv n R sc h d) : sp_T dl xtk xtv n t s (sg_R dl xtk xtv n R h VP vc cc (x + 1) (b + k) s va pac pmd pvk pvf pvs pcv pco pff pfp pfe pfb pop) := sorry
/-- an operator has made a value -/
theorem to_new {kd f s2 : Int32} (PG : pq_F xtk xtv n R sc h par) (J : (tj_J (tk_K xtk n) (sk_f (tk_K xtk n) n) R sc n VP nm vc cc x b k q u1 s t va pvk pvf pvs pcv pco pff pfp pfe pfb pop)) (hV : hp_V (tk_K xtk n) R sc n (fun i => VP i ∨ i = vc) nm cc (upd pvk vc kd) (upd pvf vc f) (upd pvs vc s2) vc) (ht : t + (d + 1) = 900) (IHR : sp_RT dl xtk xtv n R sc h d) :
    sp_T dl xtk xtv n (t + 1) s (sg_R dl xtk xtv n R h (fun i => VP i ∨ i = vc) (vc + 1) cc x b s vc pac pmd (upd pvk vc kd) (upd pvf vc f) (upd pvs vc s2) pcv pco pff (upd pfp x (-1)) pfe pfb (upd pop (b + k) (nI va))) := sorry
/-- the object after it -/
theorem to_A {kd f s2 : Int32} {fp' op' : Nat → Int32} {xaf xro xsc xho xvk xvf xvs xcv xco xff xfp xfe xfb xop : Nat → Int32} (H1 : n ≤ 64) (hv : 128 ≤ vc) (hlt : ∀ i, VP i → i < vc) (A : sg_A xtk xtv n R h VP cc (x + 1) (b + k + 1) pvk pvf pvs pcv pco pff fp' pfe pfb op' xaf xro xsc xho xvk xvf xvs xcv xco xff xfp xfe xfb xop) :
    sg_A xtk xtv n R h (fun i => VP i ∨ i = vc) cc x b (upd pvk vc kd) (upd pvf vc f) (upd pvs vc s2) pcv pco pff fp' pfe pfb op' xaf xro xsc xho (upd xvk vc kd) (upd xvf vc f) (upd xvs vc s2) xcv xco xff xfp xfe xfb xop := sorry
theorem to_cons (PG : pq_F xtk xtv n R sc h par) (J : (tj_J (tk_K xtk n) (sk_f (tk_K xtk n) n) R sc n VP nm vc cc x b k q u1 s t va pvk pvf pvs pcv pco pff pfp pfe pfb pop)) (k11 : tk_K xtk n (q + 1) = 11) (hk : k + 1 = gr_n (tk_K xtk n (q + 1))) (ht : t + (d + 1) = 900) (IHR : sp_RT dl xtk xtv n R sc h d) : sp_T dl xtk xtv n t s (sg_R dl xtk xtv n R h VP vc cc (x + 1) (b + k) s va pac pmd pvk pvf pvs pcv pco pff pfp pfe pfb pop) := sorry
theorem to_null (PG : pq_F xtk xtv n R sc h par) (J : (tj_J (tk_K xtk n) (sk_f (tk_K xtk n) n) R sc n VP nm vc cc x b k q u1 s t va pvk pvf pvs pcv pco pff pfp pfe pfb pop)) (k14 : tk_K xtk n (q + 1) = 14) (hk : k + 1 = gr_n (tk_K xtk n (q + 1))) (ht : t + (d + 1) = 900) (IHR : sp_RT dl xtk xtv n R sc h d) : sp_T dl xtk xtv n t s (sg_R dl xtk xtv n R h VP vc cc (x + 1) (b + k) s va pac pmd pvk pvf pvs pcv pco pff pfp pfe pfb pop) := sorry
theorem to_part (PG : pq_F xtk xtv n R sc h par) (J : (tj_J (tk_K xtk n) (sk_f (tk_K xtk n) n) R sc n VP nm vc cc x b k q u1 s t va pvk pvf pvs pcv pco pff pfp pfe pfb pop)) (k12 : tk_K xtk n (q + 1) = 12 ∨ tk_K xtk n (q + 1) = 13) (hk : k + 1 = gr_n (tk_K xtk n (q + 1))) (ht : t + (d + 1) = 900) (IHR : sp_RT dl xtk xtv n R sc h d) : sp_T dl xtk xtv n t s (sg_R dl xtk xtv n R h VP vc cc (x + 1) (b + k) s va pac pmd pvk pvf pvs pcv pco pff pfp pfe pfb pop) := sorry
theorem to_calc (PG : pq_F xtk xtv n R sc h par) (J : (tj_J (tk_K xtk n) (sk_f (tk_K xtk n) n) R sc n VP nm vc cc x b k q u1 s t va pvk pvf pvs pcv pco pff pfp pfe pfb pop)) (k15 : 15 ≤ tk_K xtk n (q + 1)) (hk : k + 1 = gr_n (tk_K xtk n (q + 1))) (ht : t + (d + 1) = 900) (IHR : sp_RT dl xtk xtv n R sc h d) : sp_T dl xtk xtv n t s (sg_R dl xtk xtv n R h VP vc cc (x + 1) (b + k) s va pac pmd pvk pvf pvs pcv pco pff pfp pfe pfb pop) := sorry
end
end
section
section
variable {dl : Int32} {xtk xtv : Nat → Int32} {n : Nat} {R sc : Nat → Int32} {h : Nat → Nat} {par : Nat → Nat} {VP : Nat → Prop} {nm : Nat → Nat} {vc cc s t va d x b k q u1 : Nat} {pac pmd : Int32} {pvk pvf pvs pcv pco pff pfp pfe pfb pop : Nat → Int32}
/-- m cells filled from the operands -/
theorem tl_cells {K : Nat → Nat} {c0 s0 : Int32} {tn : Nat → Nat} {m : Nat} {op' : Nat → Int32} (B : hp_B K R sc n VP nm vc cc cc pvk pvf pvs pcv pco) (hE : hp_E nm cc c0 s0) (ht : ∀ j, j < m → tn j < n ∧ sc (tn j) = hb_s s0 tn j) (hO : ∀ j, j < m → ∃ a, op' (b + j) = nI a ∧ VP a) :
    ∃ nm', (∀ i, i < cc → nm' i = nm i) ∧ hp_E nm' (cc + m) (hb_e c0 cc m) (hb_s s0 tn m) ∧
      hp_B K R sc n VP nm' vc (cc + m) (cc + m) pvk pvf pvs (xc_v pcv (fun i => op' (b + i)) cc m) (xc_v pco (hb_e c0 cc) cc m) := sorry
theorem tl_let (PG : pq_F xtk xtv n R sc h par) (J : (tj_J (tk_K xtk n) (sk_f (tk_K xtk n) n) R sc n VP nm vc cc x b k q u1 s t va pvk pvf pvs pcv pco pff pfp pfe pfb pop)) (k8 : tk_K xtk n (q + 1) = 8) (ht : t + (d + 1) = 900) (IHE : sp_ET dl xtk xtv n R sc h d) : sp_T dl xtk xtv n t s (sg_R dl xtk xtv n R h VP vc cc (x + 1) (b + k) s va pac pmd pvk pvf pvs pcv pco pff pfp pfe pfb pop) := sorry
theorem ta_arg (PG : pq_F xtk xtv n R sc h par) (J : (tj_J (tk_K xtk n) (sk_f (tk_K xtk n) n) R sc n VP nm vc cc x b k q u1 s t va pvk pvf pvs pcv pco pff pfp pfe pfb pop)) (k6 : tk_K xtk n (q + 1) < 6) {c : Nat} (lc0 : ls_C (tk_K xtk n) (sk_f (tk_K xtk n) n) (q + 1) (c + 1)) (hk : k < c) (f1 : pfp x = nI (it_f (sk_f (tk_K xtk n) n) (k + 1) (q + 1))) (ht : t + (d + 1) = 900) (IHE : sp_ET dl xtk xtv n R sc h d) : sp_T dl xtk xtv n t s (sg_R dl xtk xtv n R h VP vc cc (x + 1) (b + k) s va pac pmd pvk pvf pvs pcv pco pff pfp pfe pfb pop) := sorry
theorem ta_call (PG : pq_F xtk xtv n R sc h par) (J : (tj_J (tk_K xtk n) (sk_f (tk_K xtk n) n) R sc n VP nm vc cc x b k q u1 s t va pvk pvf pvs pcv pco pff pfp pfe pfb pop)) (k6 : tk_K xtk n (q + 1) < 6) (lc0 : ls_C (tk_K xtk n) (sk_f (tk_K xtk n) n) (q + 1) (k + 1)) (f1 : pfp x = nI (q + 1)) (ht : t + (d + 1) = 900) (IHE : sp_ET dl xtk xtv n R sc h d) : sp_T dl xtk xtv n t s (sg_R dl xtk xtv n R h VP vc cc (x + 1) (b + k) s va pac pmd pvk pvf pvs pcv pco pff pfp pfe pfb pop) := sorry
end
end
section
/-! LETREC -/
def tq_J (K a : Nat → Nat) (R sc : Nat → Int32) (n : Nat) (nm : Nat → Nat) (c0 c q fc oc u : Nat) (e00 : Int32) (VP : Nat → Prop) (vc s t j : Nat) (pvk pvf pvs pcv pco pff pfp pfe pfb pop : Nat → Int32) : Prop :=
  hp_B K R sc n VP nm vc (c0 + c) c0 pvk pvf pvs pcv pco ∧ vo_R VP pop (oc + j) ∧ fp_R K a R sc n nm (c0 + c) pff pfp pfe pfb fc oc u ∧
  (pff fc = nI q ∧ pfp fc = nI (it_f a j (q + 3) + 2) ∧ pfe fc = hb_e e00 c0 c ∧ pfb fc = nI oc) ∧
  hp_E nm (c0 + c) (hb_e e00 c0 c) (hb_s (sc q) (fun i => it_f a i (q + 3) + 1) c) ∧ (∀ i, i < c → pco (c0 + i) = hb_e e00 c0 i) ∧
  (vc + u ≤ 128 + s ∧ 128 ≤ vc ∧ c0 + oc + fc + 1 + j ≤ s ∧ c0 + c ≤ 404 ∧ t + (fc + 1) ≤ 2 * s ∧ s ≤ 400)
theorem tq_lam {dl : Int32} {xtk xtv : Nat → Int32} {n d : Nat} {R sc : Nat → Int32} {h par : Nat → Nat} (PG : pq_F xtk xtv n R sc h par) {nm : Nat → Nat} {c0 c q fc oc u : Nat} {e00 : Int32} (hq : q < n) (rq : R q = 1) (k1 : tk_K xtk n q = 1) (k9 : tk_K xtk n (q + 1) = 9) (lc0 : ls_C (tk_K xtk n) (sk_f (tk_K xtk n) n) (q + 3) c) (IHE : ∀ d', d' < d → sp_ET dl xtk xtv n R sc h d') :
    ∀ (m j : Nat) (VP : Nat → Prop) (vc s t : Nat) (pac pmd : Int32) (pvk pvf pvs pcv pco pff pfp pfe pfb pop : Nat → Int32), j + (m + 1) = c → 900 ≤ t + d →
      tq_J (tk_K xtk n) (sk_f (tk_K xtk n) n) R sc n nm c0 c q fc oc u e00 VP vc s t j pvk pvf pvs pcv pco pff pfp pfe pfb pop →
      sp_T dl xtk xtv n t s (sg_E dl xtk xtv n R h VP vc (c0 + c) (fc + 1) (oc + j) s (it_f (sk_f (tk_K xtk n) n) j (q + 3) + 2) (hb_e e00 c0 c) pac pmd pvk pvf pvs pcv pco pff pfp pfe pfb pop) := sorry
end
section
section
variable {dl : Int32} {xtk xtv : Nat → Int32} {n : Nat} {R sc : Nat → Int32} {h : Nat → Nat} {par : Nat → Nat} {VP : Nat → Prop} {nm : Nat → Nat} {vc cc fc oc u s t q va d x b k u1 : Nat} {pen pac pmd : Int32} {pvk pvf pvs pcv pco pff pfp pfe pfb pop : Nat → Int32}
theorem te_letrec (PG : pq_F xtk xtv n R sc h par) (I : (pi_I (tk_K xtk n) (sk_f (tk_K xtk n) n) R sc n 0 VP nm vc cc fc oc u s t pvk pvf pvs pcv pco pff pfp pfe pfb pop)) (hq : q < n) (rq : R q = 1) (k1 : tk_K xtk n q = 1) (k9 : tk_K xtk n (q + 1) = 9) (hE : hp_E nm cc pen (sc q)) (ht : t + d = 900) (hs4 : s < 400) (IH : ∀ d', d' < d → sp_ET dl xtk xtv n R sc h d') : sp_T dl xtk xtv n t s (sg_E dl xtk xtv n R h VP vc cc fc oc s q pen pac pmd pvk pvf pvs pcv pco pff pfp pfe pfb pop) := sorry
/-- a form's part has been answered -/
theorem tr_W (PG : pq_F xtk xtv n R sc h par) (J : (tj_J (tk_K xtk n) (sk_f (tk_K xtk n) n) R sc n VP nm vc cc x b k q u1 s t va pvk pvf pvs pcv pco pff pfp pfe pfb pop)) (ht : t + (d + 1) = 900) (IHE : sp_ET dl xtk xtv n R sc h d) (IHR : sp_RT dl xtk xtv n R sc h d) : sp_T dl xtk xtv n t s (sg_R dl xtk xtv n R h VP vc cc (x + 1) (b + k) s va pac pmd pvk pvf pvs pcv pco pff pfp pfe pfb pop) := sorry
end
theorem sp_main {dl : Int32} {xtk xtv : Nat → Int32} {n : Nat} {R sc : Nat → Int32} {h par : Nat → Nat} (PG : pq_F xtk xtv n R sc h par) : ∀ D d, d < D → sp_ET dl xtk xtv n R sc h d ∧ sp_RT dl xtk xtv n R sc h d := sorry
end
section
/-! roles, scopes and hops are what the tokens say: the same in every object -/
section
variable {K : Nat → Nat} {V : Nat → Int32} {n : Nat} {r r' sc sc' : Nat → Int32} {par par' : Nat → Nat}
theorem uq_r1 (W : rw_W K V (sk_f K n) n n r par) (W' : rw_W K V (sk_f K n) n n r' par') {c : Nat} (hc : c < n) (ih : ∀ m, m < c → r m = r' m) (h0 : r c ≠ 0) : r' c = r c := sorry
theorem uq_r (W : rw_W K V (sk_f K n) n n r par) (W' : rw_W K V (sk_f K n) n n r' par') : ∀ c, c < n → r c = r' c := sorry
theorem uq_ls {i : Nat} (e : sc i = sc' i) : ∀ j, sc_ls K (sk_f K n) sc i j = sc_ls K (sk_f K n) sc' i j := sorry
theorem uq_s (W : rw_W K V (sk_f K n) n n r par) (s0 : sc 0 = sc' 0) (hL : ∀ i, i < n → r i = 1 → K i = 1 → sc_L K (sk_f K n) sc i) (hL' : ∀ i, i < n → r i = 1 → K i = 1 → sc_L K (sk_f K n) sc' i) : ∀ c, c < n → r c = 1 ∨ r c = 3 → sc c = sc' c := sorry
theorem uq_H (hn : n ≤ 64) : ∀ {l l' : List Nat} {s : Int32}, (∀ m, m ∈ l → sc m = sc' m) → sc_H n sc l s → sc_H n sc' l' s → l = l' := sorry
theorem uq_F {x : Int32} : ∀ {l : List Nat} {h h' : Nat}, sc_F V x l h → sc_F V x l h' → h = h' := sorry
theorem sc_Fl {x : Int32} : ∀ {l : List Nat} {h : Nat}, sc_F V x l h → h < l.length := sorry
/-- the next of a list of data is one too -/
theorem ls_Mn {K a : Nat → Nat} {s p : Nat} (hM : ls_M K a s p) (hk : K (a p) ≠ 2) : ls_M K a s (a p) := sorry
theorem nx_D (W : rw_W K V (sk_f K n) n n r par) {j : Nat} (hj : j < n) (hr : r j = 2) (hk : K (sk_f K n j) ≠ 2) : r (sk_f K n j) = 2 := sorry
theorem lt_dat (W : rw_W K V (sk_f K n) n n r par) (hrn : ∀ c, r c ≠ 0 → c < n) {j : Nat} (hr : r j = 2) : hp_L K r n j ∧ hp_L K r n (64 + j) := sorry
/-- the literals are values of a picture -/
theorem lt_V {vk vf vs : Nat → Int32} {nm : Nat → Nat} (hn : n ≤ 64) (W : rw_W K V (sk_f K n) n n r par) (hrn : ∀ c, r c ≠ 0 → c < n) (L : lt_L K V (sk_f K n) r vk vf vs n) (i : Nat) (hi : hp_L K r n i) : i < 128 ∧ hp_V K r sc n (hp_L K r n) nm 0 vk vf vs i := sorry
/-- two objects' literals agree -/
theorem lt_ag {vk vf vs vk' vf' vs' : Nat → Int32} (L : lt_L K V (sk_f K n) r vk vf vs n) (L' : lt_L K V (sk_f K n) r vk' vf' vs' n) (i : Nat) (hi : hp_L K r n i) : ag_V vk vf vs vk' vf' vs' i := sorry
end
end
section
/-! a run from its start: one outcome for every object that holds the program -/
theorem rn_P {xtk xtv xaf xro xsc xho xvk xvf xvs : Nat → Int32} {n : Nat} (H : tk_ok xtk n) (C : cp_P xtk xtv n xaf xro xsc xho xvk xvf xvs) :
    ∃ par, pq_F xtk xtv n (xr_c n xro) xsc (fun i => (xho i).toNatClampNeg) par ∧ 0 < n ∧ xr_c n xro 0 = 1 ∧ xsc 0 = -1 ∧ lt_L (tk_K xtk n) xtv (sk_f (tk_K xtk n) n) (xr_c n xro) xvk xvf xvs n := by
  obtain ⟨par, n0, I0, A, W, hC, s0, sL, hO, L⟩ := C
  refine ⟨par, ⟨H, fun i hi hk => (A i hi hk).1, W, sL, fun i a b c => ?_⟩, n0, W.2.2.2.2, s0, L⟩
  obtain ⟨⟨l, hh, p1, p2, p3, p4, p5⟩, _⟩ := hO i a b c
  have hl := sc_Fl p4
  have H1 := H.1
  refine ⟨l, p1, ?_, p5⟩
  show (xho i).toNatClampNeg < l.length
  rw [p3, nI_clamp (by omega)]; exact hl
theorem rn_O {xtk xtv xaf xro xsc xho xvk xvf xvs yaf yro ysc yho yvk yvf yvs : Nat → Int32} {n : Nat} (H : tk_ok xtk n) (C : cp_P xtk xtv n xaf xro xsc xho xvk xvf xvs) (C' : cp_P xtk xtv n yaf yro ysc yho yvk yvf yvs) :
    sg_P xtk xtv n (xr_c n xro) (fun i => (xho i).toNatClampNeg) yaf yro ysc yho ∧ lt_L (tk_K xtk n) xtv (sk_f (tk_K xtk n) n) (xr_c n xro) yvk yvf yvs n := by
  obtain ⟨par, n0, I0, A, W, hC, s0, sL, hO, L⟩ := C
  obtain ⟨par', n0', I0', A', W', hC', s0', sL', hO', L'⟩ := C'
  have H1 := H.1
  have er : xr_c n yro = xr_c n xro := by
    funext c
    rcases Nat.lt_or_ge c n with z | z
    · exact (uq_r W W' c z).symm
    · rw [xr_out z, xr_out z]
  rw [er] at W' hC' sL' hO' L'
  have hs := uq_s W (s0.trans s0'.symm) sL sL'
  refine ⟨⟨A', fun i a b c => ?_, fun vk vf vs L2 => ⟨par', n0', I0', A', by rw [er]; exact W', by rw [er]; exact hC', s0', by rw [er]; exact sL', by rw [er]; exact hO', by rw [er]; exact L2⟩⟩, L'⟩
  obtain ⟨⟨l, hh, p1, p2, p3, p4, p5⟩, _⟩ := hO i a b c
  obtain ⟨⟨l', hh', p1', p2', p3', p4', p5'⟩, _⟩ := hO' i a b c
  rw [← hs i a (Or.inl b)] at p1'
  have el := uq_H H1 (fun m hm => hs m (by
    rcases Nat.lt_or_ge m n with z | z
    · exact z
    · have q := (p2 m hm).1
      rw [xr_out z] at q
      exact absurd q (by decide)) (Or.inr (p2 m hm).1)) p1 p1'
  subst el
  have eh := uq_F p4 p4'
  subst eh
  have hl := sc_Fl p4
  show yho i = nI (xho i).toNatClampNeg
  rw [p3, nI_clamp (by omega)]; exact p3'
section
variable {xdl xtn xpp xvc xcc xfc xoc xag xan xex xen xfl xac xst xsp xmd xrt xcu : Int32} {xtk xtv xaf xro xsc xho xvk xvf xvs xcv xco xff xfp xfe xfb xop : Nat → Int32} {n : Nat}
theorem rn_T {dl : Int32} (H : tk_ok xtk n) (C : cp_P xtk xtv n xaf xro xsc xho xvk xvf xvs) : sp_T dl xtk xtv n 0 0 (sg_E dl xtk xtv n (xr_c n xro) (fun i => (xho i).toNatClampNeg) (hp_L (tk_K xtk n) (xr_c n xro) n) 128 0 0 0 0 0 (-1) 0 0 xvk xvf xvs xcv xco xff xfp xfe xfb xop) := by
  obtain ⟨par, PG, n0, r0, s0, L⟩ := rn_P H C
  have hrn : ∀ c, xr_c n xro c ≠ 0 → c < n := fun c hc => by
    rcases Nat.lt_or_ge c n with z | z
    · exact z
    · exact absurd (xr_out z) hc
  exact (sp_main PG 901 900 (by omega)).1 (hp_L (tk_K xtk n) (xr_c n xro) n) (fun _ => 0) 128 0 0 0 0 0 0 0 (-1) 0 0 xvk xvf xvs xcv xco xff xfp xfe xfb xop (by omega) ⟨⟨fun i hi => lt_V H.1 PG.2.2.1 hrn L i hi, fun c hc => by omega, fun i hi => hi⟩, fun k hk => by omega, ⟨rfl, rfl⟩, by unfold sn_N; omega⟩ n0 r0 (Or.inl ⟨rfl, s0⟩)
/-- the call of run -/
theorem rn_run {v1 : Int32} {F : Nat} {post : Int32 → SX → Prop} (hc : (1 ≤ v1 ∧ v1 ≤ 400 ∧ v1 = nI F) ∨ (1 ≤ v1 ∧ ¬ v1 ≤ 400 ∧ nI F = 400) ∨ (¬ 1 ≤ v1 ∧ nI F = 1))
    (h : rx_L post 1000 (nI 0) (xdl, xtn, 1, nI 128, nI 0, nI 0, nI 0, 0, xan, nI 0, -1, nI F, 0, -1, nI 0, 0, -1, -1, xtk, xtv, xaf, xro, xsc, xho, xvk, xvf, xvs, xcv, xco, xff, xfp, xfe, xfb, xop)) : wpX_run post (xdl, xtn, 1, xvc, xcc, xfc, xoc, xag, xan, xex, xen, xfl, xac, xst, xsp, xmd, xrt, xcu, xtk, xtv, xaf, xro, xsc, xho, xvk, xvf, xvs, xcv, xco, xff, xfp, xfe, xfb, xop) v1 := by
  refine br_f (by decide) ?_
  unfold wpX_startRun wpX_forgetResult wpX_clamp wpX_evaluate
  dsimp only
  have h' : wX_run_16 post 1000 (nI 0) xdl xtn 1 (nI 128) (nI 0) (nI 0) (nI 0) 0 xan (nI 0) (-1) (nI F) 0 (-1) (nI 0) 0 (-1) (-1) xtk xtv xaf xro xsc xho xvk xvf xvs xcv xco xff xfp xfe xfb xop := h
  rcases hc with ⟨a, b, e⟩ | ⟨a, b, e⟩ | ⟨a, e⟩
  · rw [← e] at h'; exact br_t a (br_t b ⟨1000, h'⟩)
  · rw [e] at h'; exact br_t a (br_f b ⟨1000, h'⟩)
  · rw [e] at h'; exact br_f a ⟨1000, h'⟩
end
/-- every run of the program: its outcome by the fuel alone -/
theorem rn_all {dl : Int32} {tk tv : Nat → Int32} {n : Nat} {u0 : SX} (H : tk_ok tk n) (h0 : dq_OK dl tk tv n u0) :
    ∃ (se : Nat) (r md w : Int32) (VP : Nat → Prop) (vk vf vs : Nat → Int32), 1 ≤ se ∧ r ≠ 4 ∧ fq_G (tk_K tk n) (sk_f (tk_K tk n) n) n VP vk vf vs ∧ (w = -1 ∨ ∃ a, w = nI a ∧ VP a) ∧
      ∀ (u : SX) (v1 : Int32) (F : Nat) (post : Int32 → SX → Prop), dq_OK dl tk tv n u → F ≤ 400 → ((1 ≤ v1 ∧ v1 ≤ 400 ∧ v1 = nI F) ∨ (1 ≤ v1 ∧ ¬ v1 ≤ 400 ∧ nI F = 400) ∨ (¬ 1 ≤ v1 ∧ nI F = 1)) →
        (F < se → (∀ u', dq_OK dl tk tv n u' → sx_sp u' = nI F → post 4 u') → wpX_run post u v1) ∧ (se ≤ F → (∀ u', fq_S dl tk tv n r se md VP vk vf vs w w u' → post r u') → wpX_run post u v1) := by
  obtain ⟨xvc, xcc, xfc, xoc, xag, xan, xex, xen, xfl, xac, xst, xsp, xmd, xrt, xcu, xaf, xro, xsc, xho, xvk, xvf, xvs, xcv, xco, xff, xfp, xfe, xfb, xop, _, C⟩ := h0
  obtain ⟨se, r, md, w, VP, vk, vf, vs, a1, a2, a3, a4, a5, T⟩ := rn_T (dl := dl) (xcv := xcv) (xco := xco) (xff := xff) (xfp := xfp) (xfe := xfe) (xfb := xfb) (xop := xop) H C
  refine ⟨se, r, md, w, VP, vk, vf, vs, a2, a3, a4, a5, fun u v1 F post hu hF hc => ?_⟩
  obtain ⟨zvc, zcc, zfc, zoc, zag, zan, zex, zen, zfl, zac, zst, zsp, zmd, zrt, zcu, zaf, zro, zsc, zho, zvk, zvf, zvs, zcv, zco, zff, zfp, zfe, zfb, zop, rfl, C'⟩ := hu
  obtain ⟨P', L'⟩ := rn_O H C C'
  have L := (rn_P H C).choose_spec.2.2.2.2
  have key := fun post => T F _ post 1000 (by omega) hF ⟨zan, zaf, zro, zsc, zho, zvk, zvf, zvs, zcv, zco, zff, zfp, zfe, zfb, zop, rfl, P', L', fun i hi => lt_ag L L' i hi, fun c hc => by omega, fun i hi => by omega, fun i hi => by omega⟩ (by omega)
  exact ⟨fun hl hp => rn_run hc ((key post).1 hl hp), fun hl hp => rn_run hc ((key post).2 hl hp)⟩
end
section
/-! the questions about the result: equal answers where the pictures are the same -/
section
variable {dl : Int32} {tk tv : Nat → Int32} {n : Nat} {r : Int32} {se : Nat} {md : Int32} {VP : Nat → Prop} {pvk pvf pvs : Nat → Int32} {wr wc : Int32}
def cu_W (VP : Nat → Prop) (w : Int32) : Prop := w = -1 ∨ ∃ a, w = nI a ∧ VP a
/-- what kind() answers -/
def cu_k (pvk : Nat → Int32) (w : Int32) : Int32 := if w = -1 then 0 else pvk w.toNatClampNeg
theorem cu_kind (G : fq_G (tk_K tk n) (sk_f (tk_K tk n) n) n VP pvk pvf pvs) (hw : cu_W VP wc) {u : SX} (hu : fq_S dl tk tv n r se md VP pvk pvf pvs wr wc u) {post : Int32 → Prop} (hp : post (cu_k pvk wc)) : wpX_kind post u := by
  obtain ⟨xvc, xcc, xfc, xoc, xag, xan, xex, xen, xfl, xac, xaf, xro, xsc, xho, xvk, xvf, xvs, xcv, xco, xff, xfp, xfe, xfb, xop, rfl, C, A⟩ := hu
  rcases hw with e | ⟨a, e, v⟩
  · subst e; exact br_t rfl hp
  · have h5 := (G a v).1
    have ne := ni_nm1 (a := a) (by omega)
    subst e
    unfold cu_k at hp
    rw [if_neg ne, nI_clamp (by omega), ← (A a v).1] at hp
    refine br_f ne ⟨vp_in_nI h5 (by omega), ?_⟩
    rw [nI_clamp (by omega)]; exact hp
/-- a cursor whose kind is not 0 stands on a value -/
theorem cu_a (hw : cu_W VP wc) {k : Int32} (hk : cu_k pvk wc = k) (h0 : ¬ k = 0) : ∃ a, wc = nI a ∧ VP a ∧ (a < 2 ^ 31 → pvk a = k) := by
  rcases hw with e | ⟨a, e, v⟩
  · rw [e] at hk
    exact absurd hk.symm h0
  · refine ⟨a, e, v, fun h => ?_⟩
    rw [e] at hk
    unfold cu_k at hk
    rw [if_neg (ni_nm1 h), nI_clamp h] at hk
    exact hk
theorem cu_Q1 (G : fq_G (tk_K tk n) (sk_f (tk_K tk n) n) n VP pvk pvf pvs) (hw : cu_W VP wc) : ∃ v : Int32, ∀ (u : SX) (post : Int32 → Prop), fq_S dl tk tv n r se md VP pvk pvf pvs wr wc u → post v → wpX_intValue post u := by
  by_cases k1 : cu_k pvk wc = 1
  · obtain ⟨a, e, v, ka⟩ := cu_a hw k1 (by decide)
    have h5 := (G a v).1
    refine ⟨pvf a, fun u post hu hp => ?_⟩
    have hu' := hu
    obtain ⟨xvc, xcc, xfc, xoc, xag, xan, xex, xen, xfl, xac, xaf, xro, xsc, xho, xvk, xvf, xvs, xcv, xco, xff, xfp, xfe, xfb, xop, rfl, C, A⟩ := hu
    unfold wpX_intValue
    dsimp only
    refine cu_kind G hw hu' ?_
    refine br_t k1 ?_
    rw [e]
    refine ⟨vp_in_nI h5 (by omega), ?_⟩
    rw [nI_clamp (by omega), (A a v).2.1 (by rw [ka (by omega)]; decide)]
    exact hp
  · refine ⟨0, fun u post hu hp => ?_⟩
    have hu' := hu
    obtain ⟨xvc, xcc, xfc, xoc, xag, xan, xex, xen, xfl, xac, xaf, xro, xsc, xho, xvk, xvf, xvs, xcv, xco, xff, xfp, xfe, xfb, xop, rfl, C, A⟩ := hu
    unfold wpX_intValue
    dsimp only
    refine cu_kind G hw hu' ?_
    exact br_f k1 hp
theorem cu_Q3 (G : fq_G (tk_K tk n) (sk_f (tk_K tk n) n) n VP pvk pvf pvs) (hw : cu_W VP wc) : ∃ v : Int32, ∀ (u : SX) (post : Int32 → Prop), fq_S dl tk tv n r se md VP pvk pvf pvs wr wc u → post v → wpX_closureSource post u := by
  by_cases k1 : cu_k pvk wc = 4
  · obtain ⟨a, e, v, ka⟩ := cu_a hw k1 (by decide)
    have h5 := (G a v).1
    refine ⟨pvf a, fun u post hu hp => ?_⟩
    have hu' := hu
    obtain ⟨xvc, xcc, xfc, xoc, xag, xan, xex, xen, xfl, xac, xaf, xro, xsc, xho, xvk, xvf, xvs, xcv, xco, xff, xfp, xfe, xfb, xop, rfl, C, A⟩ := hu
    unfold wpX_closureSource
    dsimp only
    refine cu_kind G hw hu' ?_
    refine br_t k1 ?_
    rw [e]
    refine ⟨vp_in_nI h5 (by omega), ?_⟩
    rw [nI_clamp (by omega), (A a v).2.1 (by rw [ka (by omega)]; decide)]
    exact hp
  · refine ⟨-1, fun u post hu hp => ?_⟩
    have hu' := hu
    obtain ⟨xvc, xcc, xfc, xoc, xag, xan, xex, xen, xfl, xac, xaf, xro, xsc, xho, xvk, xvf, xvs, xcv, xco, xff, xfp, xfe, xfb, xop, rfl, C, A⟩ := hu
    unfold wpX_closureSource
    dsimp only
    refine cu_kind G hw hu' ?_
    exact br_f k1 hp
theorem cu_Q2 (H : tk_ok tk n) (G : fq_G (tk_K tk n) (sk_f (tk_K tk n) n) n VP pvk pvf pvs) (hw : cu_W VP wc) : ∃ v : Int32, ∀ (u : SX) (post : Int32 → Prop), fq_S dl tk tv n r se md VP pvk pvf pvs wr wc u → post v → wpX_closureArity post u := by
  by_cases k1 : cu_k pvk wc = 4
  · obtain ⟨a, e, v, ka⟩ := cu_a hw k1 (by decide)
    obtain ⟨h5, hV⟩ := G a v
    have ka := ka (by omega)
    have pr : ∃ q c, q + 3 < n ∧ pvf a = nI q ∧ ls_C (tk_K tk n) (sk_f (tk_K tk n) n) (q + 3) c ∧ c ≤ 4 := by
      rcases hV with w | w | w | w
      · rw [ka] at w; exact absurd w (by decide)
      · rw [ka] at w; exact absurd w (by decide)
      · rw [ka] at w; exact absurd w.1 (by decide)
      · exact w.2
    obtain ⟨q, c, q1, q2, q3, q4⟩ := pr
    refine ⟨nI c, fun u post hu hp => ?_⟩
    have hu' := hu
    obtain ⟨xvc, xcc, xfc, xoc, xag, xan, xex, xen, xfl, xac, xaf, xro, xsc, xho, xvk, xvf, xvs, xcv, xco, xff, xfp, xfe, xfb, xop, rfl, C, A⟩ := hu
    obtain ⟨par, n0, I0, Af, _⟩ := C
    unfold wpX_closureArity
    dsimp only
    refine cu_kind G hw hu' ?_
    refine br_t k1 ?_
    rw [e]
    refine ⟨vp_in_nI h5 (by omega), ?_⟩
    rw [nI_clamp (by omega), (A a v).2.1 (by rw [ka]; decide), q2]
    unfold wpX_arity
    dsimp only
    rw [ni_2]
    exact xi_items (i := q + 2) H Af q3 hp
  · refine ⟨-1, fun u post hu hp => ?_⟩
    have hu' := hu
    obtain ⟨xvc, xcc, xfc, xoc, xag, xan, xex, xen, xfl, xac, xaf, xro, xsc, xho, xvk, xvf, xvs, xcv, xco, xff, xfp, xfe, xfb, xop, rfl, C, A⟩ := hu
    unfold wpX_closureArity
    dsimp only
    refine cu_kind G hw hu' ?_
    exact br_f k1 hp
theorem cu_Q4 (hw : cu_W VP wr) (hc : cu_W VP wc) : ∃ (v wc' : Int32), cu_W VP wc' ∧ ∀ (u : SX) (post : Int32 → SX → Prop), fq_S dl tk tv n r se md VP pvk pvf pvs wr wc u → (∀ u', fq_S dl tk tv n r se md VP pvk pvf pvs wr wc' u' → post v u') → wpX_goRoot post u := by
  by_cases e : wr = -1
  · refine ⟨0, wc, hc, fun u post hu hp => ?_⟩
    have hp := hp u hu
    obtain ⟨xvc, xcc, xfc, xoc, xag, xan, xex, xen, xfl, xac, xaf, xro, xsc, xho, xvk, xvf, xvs, xcv, xco, xff, xfp, xfe, xfb, xop, rfl, C, A⟩ := hu
    exact br_t e hp
  · refine ⟨1, wr, hw, fun u post hu hp => ?_⟩
    obtain ⟨xvc, xcc, xfc, xoc, xag, xan, xex, xen, xfl, xac, xaf, xro, xsc, xho, xvk, xvf, xvs, xcv, xco, xff, xfp, xfe, xfb, xop, rfl, C, A⟩ := hu
    exact br_f e (hp _ ⟨_, _, _, _, _, _, _, _, _, _,  _, _, _, _, _, _, _, _, _, _, _, _, _, _,  rfl, C, A⟩)
theorem cu_Q5 (G : fq_G (tk_K tk n) (sk_f (tk_K tk n) n) n VP pvk pvf pvs) (hc : cu_W VP wc) : ∃ (v wc' : Int32), cu_W VP wc' ∧ ∀ (u : SX) (post : Int32 → SX → Prop), fq_S dl tk tv n r se md VP pvk pvf pvs wr wc u → (∀ u', fq_S dl tk tv n r se md VP pvk pvf pvs wr wc' u' → post v u') → wpX_goCar post u := by
  by_cases k1 : cu_k pvk wc = 3
  · obtain ⟨a, e, v, ka⟩ := cu_a hc k1 (by decide)
    obtain ⟨h5, hV⟩ := G a v
    have ka := ka (by omega)
    have pr : ∃ a1 b1, pvf a = nI a1 ∧ pvs a = nI b1 ∧ VP a1 ∧ VP b1 := by
      rcases hV with w | w | w | w
      · rw [ka] at w; exact absurd w (by decide)
      · rw [ka] at w; exact absurd w (by decide)
      · exact w.2
      · rw [ka] at w; exact absurd w.1 (by decide)
    obtain ⟨a1, b1, q1, q2, q3, q4⟩ := pr
    refine ⟨1, nI a1, Or.inr ⟨a1, rfl, q3⟩, fun u post hu hp => ?_⟩
    have hu' := hu
    obtain ⟨xvc, xcc, xfc, xoc, xag, xan, xex, xen, xfl, xac, xaf, xro, xsc, xho, xvk, xvf, xvs, xcv, xco, xff, xfp, xfe, xfb, xop, rfl, C, A⟩ := hu
    unfold wpX_goCar
    dsimp only
    refine cu_kind G hc hu' ?_
    refine br_t k1 ?_
    rw [e]
    refine ⟨vp_in_nI h5 (by omega), nm_r (show xvf (nI a).toNatClampNeg = nI a1 from by rw [nI_clamp (by omega), (A a v).2.1 (by rw [ka]; decide), q1]) (hp _ ⟨_, _, _, _, _, _, _, _, _, _,  _, _, _, _, _, _, _, _, _, _, _, _, _, _,  rfl, C, A⟩)⟩
  · refine ⟨0, wc, hc, fun u post hu hp => ?_⟩
    have hu' := hu
    have hp := hp u hu
    obtain ⟨xvc, xcc, xfc, xoc, xag, xan, xex, xen, xfl, xac, xaf, xro, xsc, xho, xvk, xvf, xvs, xcv, xco, xff, xfp, xfe, xfb, xop, rfl, C, A⟩ := hu
    unfold wpX_goCar
    dsimp only
    refine cu_kind G hc hu' ?_
    exact br_f k1 hp
theorem cu_Q6 (G : fq_G (tk_K tk n) (sk_f (tk_K tk n) n) n VP pvk pvf pvs) (hc : cu_W VP wc) : ∃ (v wc' : Int32), cu_W VP wc' ∧ ∀ (u : SX) (post : Int32 → SX → Prop), fq_S dl tk tv n r se md VP pvk pvf pvs wr wc u → (∀ u', fq_S dl tk tv n r se md VP pvk pvf pvs wr wc' u' → post v u') → wpX_goCdr post u := by
  by_cases k1 : cu_k pvk wc = 3
  · obtain ⟨a, e, v, ka⟩ := cu_a hc k1 (by decide)
    obtain ⟨h5, hV⟩ := G a v
    have ka := ka (by omega)
    have pr : ∃ a1 b1, pvf a = nI a1 ∧ pvs a = nI b1 ∧ VP a1 ∧ VP b1 := by
      rcases hV with w | w | w | w
      · rw [ka] at w; exact absurd w (by decide)
      · rw [ka] at w; exact absurd w (by decide)
      · exact w.2
      · rw [ka] at w; exact absurd w.1 (by decide)
    obtain ⟨a1, b1, q1, q2, q3, q4⟩ := pr
    refine ⟨1, nI b1, Or.inr ⟨b1, rfl, q4⟩, fun u post hu hp => ?_⟩
    have hu' := hu
    obtain ⟨xvc, xcc, xfc, xoc, xag, xan, xex, xen, xfl, xac, xaf, xro, xsc, xho, xvk, xvf, xvs, xcv, xco, xff, xfp, xfe, xfb, xop, rfl, C, A⟩ := hu
    unfold wpX_goCdr
    dsimp only
    refine cu_kind G hc hu' ?_
    refine br_t k1 ?_
    rw [e]
    refine ⟨vp_in_nI h5 (by omega), nm_r (show xvs (nI a).toNatClampNeg = nI b1 from by rw [nI_clamp (by omega), (A a v).2.2 (Or.inl ka), q2]) (hp _ ⟨_, _, _, _, _, _, _, _, _, _,  _, _, _, _, _, _, _, _, _, _, _, _, _, _,  rfl, C, A⟩)⟩
  · refine ⟨0, wc, hc, fun u post hu hp => ?_⟩
    have hu' := hu
    have hp := hp u hu
    obtain ⟨xvc, xcc, xfc, xoc, xag, xan, xex, xen, xfl, xac, xaf, xro, xsc, xho, xvk, xvf, xvs, xcv, xco, xff, xfp, xfe, xfb, xop, rfl, C, A⟩ := hu
    unfold wpX_goCdr
    dsimp only
    refine cu_kind G hc hu' ?_
    exact br_f k1 hp
end
end
section
/-! a check of concrete tokens, by computing -/
theorem ck_and {a b : Bool} (h : (a && b) = true) : a = true ∧ b = true := by
  cases a with
  | false => exact absurd h Bool.false_ne_true
  | true => exact ⟨rfl, h⟩
theorem ck_or {a b : Bool} (h : (a || b) = true) : a = true ∨ b = true := by
  cases a with
  | false => exact Or.inr h
  | true => exact Or.inl rfl
def ck_al (p : Nat → Bool) : Nat → Bool
  | 0 => true
  | n + 1 => p n && ck_al p n
def ck_an (p : Nat → Bool) : Nat → Bool
  | 0 => false
  | n + 1 => p n || ck_an p n
theorem ck_alS {p : Nat → Bool} : ∀ {n : Nat}, ck_al p n = true → ∀ i, i < n → p i = true
  | 0, _, i, hi => by omega
  | n + 1, h, i, hi => by
    obtain ⟨a, b⟩ := ck_and h
    by_cases z : i = n
    · rw [z]; exact a
    · exact ck_alS b i (by omega)
theorem ck_anS {p : Nat → Bool} : ∀ {n : Nat}, ck_an p n = true → ∃ i, i < n ∧ p i = true
  | 0, h => absurd h Bool.false_ne_true
  | n + 1, h => by
    rcases ck_or h with a | a
    · exact ⟨n, by omega, a⟩
    · obtain ⟨i, b, c⟩ := ck_anS a
      exact ⟨i, by omega, c⟩
/-- a list of tokens, the last first: kinds and names; a table of ends -/
def ck_g : List (Nat × Nat) → Nat → Nat × Nat
  | [], _ => (0, 0)
  | x :: _, 0 => x
  | _ :: l, i + 1 => ck_g l i
def ck_h : List Nat → Nat → Nat → Nat
  | [], _, d => d
  | x :: _, 0, _ => x
  | _ :: l, i + 1, d => ck_h l i d
theorem ck_ho : ∀ {l : List Nat} {i d : Nat}, l.length ≤ i → ck_h l i d = d
  | [], _, _, _ => rfl
  | x :: l, 0, d, h => by simp at h
  | x :: l, i + 1, d, h => by
    simp only [List.length_cons] at h
    exact ck_ho (l := l) (by omega)
def ck_k (c : List (Nat × Nat)) (n i : Nat) : Nat := if i < n then (ck_g c (n - 1 - i)).1 else 0
def ck_v (c : List (Nat × Nat)) (n i : Nat) : Nat := (ck_g c (n - 1 - i)).2
def ck_a (t : List Nat) (i : Nat) : Nat := ck_h t i (i + 1)
/-- the depth comes back to its start at the end, not before -/
def ck_s (K : Nat → Nat) : Nat → Nat → Nat → Bool
  | 0, _, d => decide (d = 0)
  | f + 1, p, d => if d = 0 then false else if K p = 1 then ck_s K f (p + 1) (d + 1) else if K p = 2 then ck_s K f (p + 1) (d - 1) else ck_s K f (p + 1) d
theorem ck_sS {K : Nat → Nat} {e : Int} : ∀ (f p d : Nat), ck_s K f p d = true → dp_d K p = e + d → dp_d K (p + f) = e ∧ ∀ m, p ≤ m → m < p + f → e < dp_d K m
  | 0, p, d, h, hd => by
    have z : d = 0 := of_decide_eq_true h
    refine ⟨?_, fun m a b => by omega⟩
    rw [Nat.add_zero, hd, z]
    omega
  | f + 1, p, d, h, hd => by
    have h : (if d = 0 then false else if K p = 1 then ck_s K f (p + 1) (d + 1) else if K p = 2 then ck_s K f (p + 1) (d - 1) else ck_s K f (p + 1) d) = true := h
    by_cases z : d = 0
    · rw [if_pos z] at h; exact absurd h Bool.false_ne_true
    · rw [if_neg z] at h
      have key : ∀ d' : Nat, ck_s K f (p + 1) d' = true → dp_d K (p + 1) = e + d' → dp_d K (p + (f + 1)) = e ∧ ∀ m, p ≤ m → m < p + (f + 1) → e < dp_d K m := by
        intro d' h' e'
        obtain ⟨a, b⟩ := ck_sS f (p + 1) d' h' e'
        rw [show p + (f + 1) = p + 1 + f from by omega]
        refine ⟨a, fun m x y => ?_⟩
        by_cases w : m = p
        · rw [w, hd]; omega
        · exact b m (by omega) y
      by_cases k1 : K p = 1
      · rw [if_pos k1] at h
        exact key _ h (by rw [dp_1 k1, hd]; omega)
      · rw [if_neg k1] at h
        by_cases k2 : K p = 2
        · rw [if_pos k2] at h
          exact key _ h (by rw [dp_2 k2, hd]; omega)
        · rw [if_neg k2] at h
          exact key _ h (by rw [dp_0 k1 k2]; exact hd)
theorem ck_I {K : Nat → Nat} {i j : Nat} (k1 : K i = 1) (hj : i + 1 < j) (h : ck_s K (j - (i + 1)) (i + 1) 1 = true) : dp_I K i j := by
  obtain ⟨a, b⟩ := ck_sS (e := dp_d K i) _ _ _ h (by have := dp_1 k1; omega)
  rw [show i + 1 + (j - (i + 1)) = j from by omega] at a b
  exact ⟨by omega, a, fun m x y => b m (by omega) y⟩
def ck_t (K A : Nat → Nat) (n : Nat) : Bool := ck_al (fun i => if K i = 1 then decide (i + 1 < A i) && ck_s K (A i - (i + 1)) (i + 1) 1 else decide (A i = i + 1)) n
section
variable {K A nm : Nat → Nat} {V : Nat → Int32} {n : Nat}
theorem ck_tS (h : ck_t K A n = true) (hn : ∀ i, n ≤ i → K i = 0 ∧ A i = i + 1) : sk_f K n = A := by
  have key : ∀ i, i < n → (if K i = 1 then decide (i + 1 < A i) && ck_s K (A i - (i + 1)) (i + 1) 1 else decide (A i = i + 1)) = true := fun i hi => ck_alS h i hi
  funext i
  by_cases k1 : K i = 1
  · have hi : i < n := by
      rcases Nat.lt_or_ge i n with z | z
      · exact z
      · have := (hn i z).1; omega
    have q := key i hi
    rw [if_pos k1] at q
    obtain ⟨a, b⟩ := ck_and q
    exact sk_I (ck_I k1 (of_decide_eq_true a) b)
  · rw [sk_at k1]
    rcases Nat.lt_or_ge i n with z | z
    · have q := key i z
      rw [if_neg k1] at q
      exact (of_decide_eq_true q).symm
    · exact (hn i z).2.symm
end
/-- the list from s has c items -/
def ck_C (K A : Nat → Nat) : Nat → Nat → Bool
  | 0, s => decide (K s = 2)
  | c + 1, s => decide (K s ≠ 2) && ck_C K A c (A s)
def ck_E (A : Nat → Nat) (f : Nat → Bool) : Nat → Nat → Bool
  | 0, _ => true
  | c + 1, s => f s && ck_E A f c (A s)
def ck_n (K A : Nat → Nat) : Nat → Nat → Nat
  | 0, _ => 0
  | f + 1, s => if K s = 2 then 0 else ck_n K A f (A s) + 1
def ck_P (K nm : Nat → Nat) (q c : Nat) : Bool := decide (c ≤ 4) && ck_al (fun j => decide (K (q + 1 + j) = 4)) c && decide (K (q + 1 + c) = 2) && ck_al (fun j' => ck_al (fun j => decide (nm (q + 1 + j) ≠ nm (q + 1 + j'))) j') c
def ck_U (K A nm : Nat → Nat) (st s : Nat) : Bool := ck_al (fun k => ck_an (fun k' => decide (¬ it_f A k' (st + 1) < s - 1)) (k + 1) || decide (K (it_f A k (st + 1) + 1) = 4 ∧ nm (it_f A k (st + 1) + 1) ≠ nm s)) 4
def ck_b (K A nm : Nat → Nat) (h st b : Nat) : Bool := decide (K b = 1 ∧ K (b + 1) = 4 ∧ (h = 9 → K (b + 2) = 1 ∧ K (b + 3) = 7)) && ck_C K A 2 (b + 1) && ck_U K A nm st (b + 1)
def ck_F (K A nm : Nat → Nat) (e d : Nat → Bool) (i : Nat) : Bool :=
  if K (i + 1) < 6 then decide (1 ≤ ck_n K A 6 (i + 1) ∧ ck_n K A 6 (i + 1) ≤ 5) && ck_C K A (ck_n K A 6 (i + 1)) (i + 1) && ck_E A e (ck_n K A 6 (i + 1)) (i + 1)
  else if K (i + 1) = 6 then ck_C K A 1 (i + 2) && d (i + 2)
  else if K (i + 1) = 7 then decide (K (i + 2) = 1) && ck_C K A 2 (i + 2) && ck_P K nm (i + 2) (ck_n K A 6 (i + 3)) && e (A (i + 2))
  else if K (i + 1) ≤ 9 then decide (K (i + 2) = 1 ∧ 1 ≤ ck_n K A 6 (i + 3) ∧ ck_n K A 6 (i + 3) ≤ 4) && ck_C K A 2 (i + 2) && ck_C K A (ck_n K A 6 (i + 3)) (i + 3) && ck_E A (fun b => ck_b K A nm (K (i + 1)) (i + 2) b && e (b + 2)) (ck_n K A 6 (i + 3)) (i + 3) && e (A (i + 2))
  else ck_C K A (gr_n (K (i + 1))) (i + 2) && ck_E A e (gr_n (K (i + 1))) (i + 2)
def ck_e (K A nm : Nat → Nat) (e d : Nat → Bool) (i : Nat) : Bool := if K i = 3 ∨ K i = 4 ∨ K i = 5 then true else if K i = 1 then ck_F K A nm e d i else false
def ck_d (K A : Nat → Nat) (d : Nat → Bool) (i : Nat) : Bool := if K i = 3 ∨ K i = 5 then true else if K i = 1 then ck_C K A (ck_n K A 6 (i + 1)) (i + 1) && ck_E A d (ck_n K A 6 (i + 1)) (i + 1) else false
def ck_X (K A nm : Nat → Nat) : Nat → Bool → Nat → Bool
  | 0, _, _ => false
  | k + 1, true, i => ck_e K A nm (ck_X K A nm k true) (ck_X K A nm k false) i
  | k + 1, false, i => ck_d K A (ck_X K A nm k false) i
section
variable {K A nm : Nat → Nat} {V : Nat → Int32} {n : Nat}
theorem ck_CS : ∀ (c s : Nat), ck_C K A c s = true → ls_C K A s c
  | 0, s, h => ls_C_0 (of_decide_eq_true h)
  | c + 1, s, h => by
    obtain ⟨a, b⟩ := ck_and h
    exact ls_C_s (of_decide_eq_true a) (ck_CS c (A s) b)
theorem ck_ES {f : Nat → Bool} : ∀ (c s : Nat), ck_E A f c s = true → ∀ j, j < c → f (it_f A j s) = true
  | 0, s, h, j, hj => by omega
  | c + 1, s, h, 0, hj => (ck_and h).1
  | c + 1, s, h, j + 1, hj => ck_ES c (A s) (ck_and h).2 j (by omega)
theorem ck_Em {f : Nat → Bool} {s c p : Nat} (l : ls_C K A s c) (h : ck_E A f c s = true) (hp : ls_M K A s p) : f p = true := by
  obtain ⟨j, hj, e⟩ := (ls_CM l).mp hp
  rw [e]; exact ck_ES c s h j hj
theorem ck_PS {q c : Nat} (hV : ∀ i, K i = 4 → V i = nI (nm i) ∧ nm i < 2 ^ 31) (h : ck_P K nm q c = true) : gr_P K V q c := by
  obtain ⟨h, h4⟩ := ck_and h
  obtain ⟨h, h3⟩ := ck_and h
  obtain ⟨h1, h2⟩ := ck_and h
  have k4 : ∀ j, j < c → K (q + 1 + j) = 4 := fun j hj => by
    have z := ck_alS h2 j hj
    exact of_decide_eq_true z
  refine ⟨of_decide_eq_true h1, k4, of_decide_eq_true h3, fun j j' a b e => ?_⟩
  have v := hV _ (k4 j (by omega))
  have v' := hV _ (k4 j' b)
  rw [v.1, v'.1] at e
  have q1 := ck_alS h4 j' b
  have q2 := ck_alS q1 j a
  have ne : nm (q + 1 + j) ≠ nm (q + 1 + j') := of_decide_eq_true q2
  exact ne ((nI_eq v.2 v'.2).mp e)
theorem ck_US {st s : Nat} (hV : ∀ i, K i = 4 → V i = nI (nm i) ∧ nm i < 2 ^ 31) (hs : K s = 4) (h : ck_U K A nm st s = true) : ¬ gr_dup V A st s := by
  rintro ⟨k, k4, hlt, e⟩
  have q := ck_alS h k k4
  rcases ck_or q with z | z
  · obtain ⟨k', a, b⟩ := ck_anS z
    have b' : ¬ it_f A k' (st + 1) < s - 1 := of_decide_eq_true b
    exact b' (hlt k' (by omega))
  · have z' : K (it_f A k (st + 1) + 1) = 4 ∧ nm (it_f A k (st + 1) + 1) ≠ nm s := of_decide_eq_true z
    have v := hV _ z'.1
    have v' := hV s hs
    rw [v.1, v'.1] at e
    exact z'.2 ((nI_eq v.2 v'.2).mp e)
theorem ck_bS {h st b : Nat} (hV : ∀ i, K i = 4 → V i = nI (nm i) ∧ nm i < 2 ^ 31) (hb : ck_b K A nm h st b = true) : gr_BS K V A h st b := by
  obtain ⟨hb, h3⟩ := ck_and hb
  obtain ⟨h1, h2⟩ := ck_and hb
  have z : K b = 1 ∧ K (b + 1) = 4 ∧ (h = 9 → K (b + 2) = 1 ∧ K (b + 3) = 7) := of_decide_eq_true h1
  exact ⟨z.1, ck_CS _ _ h2, z.2.1, ck_US hV z.2.1 h3, z.2.2⟩
theorem ck_FS {E D : Nat → Prop} {e d : Nat → Bool} {i : Nat} (hV : ∀ i, K i = 4 → V i = nI (nm i) ∧ nm i < 2 ^ 31) (hE : ∀ c, e c = true → E c) (hD : ∀ c, d c = true → D c) (k1 : K i = 1) (h : ck_F K A nm e d i = true) : gr_EC K V A E D i := by
  unfold ck_F at h
  by_cases z5 : K (i + 1) < 6
  · rw [if_pos z5] at h
    obtain ⟨h, h3⟩ := ck_and h
    obtain ⟨h1, h2⟩ := ck_and h
    have b : 1 ≤ ck_n K A 6 (i + 1) ∧ ck_n K A 6 (i + 1) ≤ 5 := of_decide_eq_true h1
    have l := ck_CS _ _ h2
    refine ⟨Or.inr (Or.inr (Or.inr ⟨k1, Or.inr (Or.inr (Or.inr (Or.inr ⟨z5, ck_n K A 6 (i + 1) - 1, by omega, ?_⟩)))⟩)), fun c hc => ?_, fun c hc => ?_⟩
    · rw [show ck_n K A 6 (i + 1) - 1 + 1 = ck_n K A 6 (i + 1) from by omega]; exact l
    · obtain ⟨_, q⟩ := hc
      rcases q with ⟨q, _⟩ | ⟨_, q⟩ | ⟨q, _, _⟩ | ⟨q, _⟩
      · omega
      · exact hE _ (ck_Em l h3 q)
      · omega
      · omega
    · have := hc.2.1; omega
  · rw [if_neg z5] at h
    by_cases z6 : K (i + 1) = 6
    · rw [if_pos z6] at h
      obtain ⟨h1, h2⟩ := ck_and h
      have l := ck_CS _ _ h1
      refine ⟨Or.inr (Or.inr (Or.inr ⟨k1, Or.inl ⟨z6, l⟩⟩)), fun c hc => ?_, fun c hc => ?_⟩
      · obtain ⟨_, q⟩ := hc
        rcases q with ⟨q, _⟩ | ⟨q, _⟩ | ⟨q, _, _⟩ | ⟨q, _⟩ <;> omega
      · obtain ⟨j, hj, ej⟩ := (ls_CM l).mp hc.2.2
        have : j = 0 := by omega
        subst this
        rw [ej]; exact hD _ h2
    · rw [if_neg z6] at h
      by_cases z7 : K (i + 1) = 7
      · rw [if_pos z7] at h
        obtain ⟨h, h4⟩ := ck_and h
        obtain ⟨h, h3⟩ := ck_and h
        obtain ⟨h1, h2⟩ := ck_and h
        have l := ck_CS _ _ h2
        refine ⟨Or.inr (Or.inr (Or.inr ⟨k1, Or.inr (Or.inl ⟨z7, l, of_decide_eq_true h1, _, ck_PS hV h3⟩)⟩)), fun c hc => ?_, fun c hc => ?_⟩
        · obtain ⟨_, q⟩ := hc
          rcases q with ⟨q, _⟩ | ⟨q, _⟩ | ⟨_, _, q⟩ | ⟨q, _⟩
          · omega
          · omega
          · rw [q]; exact hE _ h4
          · omega
        · have := hc.2.1; omega
      · rw [if_neg z7] at h
        by_cases z9 : K (i + 1) ≤ 9
        · rw [if_pos z9] at h
          obtain ⟨h, h5⟩ := ck_and h
          obtain ⟨h, h4⟩ := ck_and h
          obtain ⟨h, h3⟩ := ck_and h
          obtain ⟨h1, h2⟩ := ck_and h
          have b : K (i + 2) = 1 ∧ 1 ≤ ck_n K A 6 (i + 3) ∧ ck_n K A 6 (i + 3) ≤ 4 := of_decide_eq_true h1
          have l2 := ck_CS _ _ h2
          have l := ck_CS _ _ h3
          refine ⟨Or.inr (Or.inr (Or.inr ⟨k1, Or.inr (Or.inr (Or.inl ⟨by omega, l2, b.1, _, b.2.1, b.2.2, l, fun j hj => ?_⟩))⟩)), fun c hc => ?_, fun c hc => ?_⟩
          · have hb := ck_ES _ _ h4 j hj
            exact ck_bS hV (ck_and hb).1
          · obtain ⟨_, q⟩ := hc
            rcases q with ⟨q, _⟩ | ⟨q, _⟩ | ⟨_, _, q⟩ | ⟨_, bb, q, q2⟩
            · omega
            · omega
            · rw [q]; exact hE _ h5
            · have hb := ck_Em l h4 q
              rw [q2]; exact hE _ (ck_and hb).2
          · have := hc.2.1; omega
        · rw [if_neg z9] at h
          obtain ⟨h1, h2⟩ := ck_and h
          have l := ck_CS _ _ h1
          refine ⟨Or.inr (Or.inr (Or.inr ⟨k1, Or.inr (Or.inr (Or.inr (Or.inl ⟨by omega, l⟩)))⟩)), fun c hc => ?_, fun c hc => ?_⟩
          · obtain ⟨_, q⟩ := hc
            rcases q with ⟨_, q⟩ | ⟨q, _⟩ | ⟨_, q, _⟩ | ⟨q, _⟩
            · exact hE _ (ck_Em l h2 q)
            · omega
            · omega
            · omega
          · have := hc.2.1; omega
theorem ck_eS {E D : Nat → Prop} {e d : Nat → Bool} {i : Nat} (hV : ∀ i, K i = 4 → V i = nI (nm i) ∧ nm i < 2 ^ 31) (hE : ∀ c, e c = true → E c) (hD : ∀ c, d c = true → D c) (h : ck_e K A nm e d i = true) : gr_EC K V A E D i := by
  unfold ck_e at h
  by_cases z : K i = 3 ∨ K i = 4 ∨ K i = 5
  · refine ⟨by unfold gr_SH; omega, fun c hc => ?_, fun c hc => ?_⟩
    · have := hc.1; omega
    · have := hc.1; omega
  · rw [if_neg z] at h
    by_cases k1 : K i = 1
    · rw [if_pos k1] at h; exact ck_FS hV hE hD k1 h
    · rw [if_neg k1] at h; exact absurd h Bool.false_ne_true
theorem ck_dS {D : Nat → Prop} {d : Nat → Bool} {i : Nat} (hD : ∀ c, d c = true → D c) (h : ck_d K A d i = true) : gr_DC K A D i := by
  unfold ck_d at h
  by_cases z : K i = 3 ∨ K i = 5
  · refine ⟨by unfold gr_DS; omega, fun c hc => ?_⟩
    have := hc.1; omega
  · rw [if_neg z] at h
    by_cases k1 : K i = 1
    · rw [if_pos k1] at h
      obtain ⟨h1, h2⟩ := ck_and h
      have l := ck_CS _ _ h1
      exact ⟨Or.inr (Or.inr ⟨k1, _, l⟩), fun c hc => hD _ (ck_Em l h2 hc.2)⟩
    · rw [if_neg k1] at h; exact absurd h Bool.false_ne_true
theorem ck_XS (hV : ∀ i, K i = 4 → V i = nI (nm i) ∧ nm i < 2 ^ 31) : ∀ (k : Nat) (b : Bool) (i : Nat), ck_X K A nm k b i = true → gr_X K V A k b i
  | 0, _, _, h => absurd h Bool.false_ne_true
  | k + 1, true, i, h => ck_eS hV (fun c => ck_XS hV k true c) (fun c => ck_XS hV k false c) h
  | k + 1, false, i, h => ck_dS (fun c => ck_XS hV k false c) h
end
/-! the names: bound, or names of binders -/
def ck_M (K A : Nat → Nat) : Nat → Nat → Nat → Bool
  | 0, _, _ => false
  | f + 1, s, p => decide (K s ≠ 2) && (decide (p = s) || ck_M K A f (A s) p)
def ck_N (K A : Nat → Nat) (j m : Nat) : Bool := decide (K j = 1) && ((decide (K (j + 1) = 7) && ck_M K A 5 (j + 3) m) || (decide ((K (j + 1) = 8 ∨ K (j + 1) = 9) ∧ 1 ≤ m) && ck_M K A 5 (j + 3) (m - 1)))
def ck_B (K A nm : Nat → Nat) (n i j : Nat) : Bool := decide (j < i ∧ K j = 1 ∧ 7 ≤ K (j + 1) ∧ K (j + 1) ≤ 9 ∧ i < A j ∧ (K (j + 1) = 9 ∨ A (j + 2) ≤ i)) && ck_an (fun m => decide (K m = 4 ∧ nm m = nm i) && ck_N K A j m) n
def ck_S (K A nm : Nat → Nat) (n : Nat) : Bool := ck_al (fun i => decide (K i ≠ 4) || (ck_an (fun j => ck_N K A j i) n || ck_an (fun j => ck_B K A nm n i j) n)) n
section
variable {K A nm : Nat → Nat} {V : Nat → Int32} {n : Nat}
theorem ck_MS : ∀ (f s p : Nat), ck_M K A f s p = true → ls_M K A s p
  | 0, _, _, h => absurd h Bool.false_ne_true
  | f + 1, s, p, h => by
    obtain ⟨a, b⟩ := ck_and h
    have a' : K s ≠ 2 := of_decide_eq_true a
    rcases ck_or b with z | z
    · have e : p = s := of_decide_eq_true z
      rw [e]; exact ls_M_0 a'
    · exact ls_M_s a' (ck_MS f (A s) p z)
theorem ck_NS {j m : Nat} (h : ck_N K A j m = true) : gr_N K A j m := by
  obtain ⟨a, b⟩ := ck_and h
  refine ⟨of_decide_eq_true a, ?_⟩
  rcases ck_or b with z | z
  · obtain ⟨z1, z2⟩ := ck_and z
    exact Or.inl ⟨of_decide_eq_true z1, ck_MS _ _ _ z2⟩
  · obtain ⟨z1, z2⟩ := ck_and z
    have z1 : (K (j + 1) = 8 ∨ K (j + 1) = 9) ∧ 1 ≤ m := of_decide_eq_true z1
    exact Or.inr ⟨z1.1, m - 1, ck_MS _ _ _ z2, by omega⟩
theorem ck_SS (hV : ∀ i, K i = 4 → V i = nI (nm i) ∧ nm i < 2 ^ 31) (h : ck_S K A nm n = true) {i : Nat} (hi : i < n) (k4 : K i = 4) : (∃ j, gr_N K A j i) ∨ sc_B K V A i (V i) := by
  have q := ck_alS h i hi
  rcases ck_or q with z | z
  · have z' : K i ≠ 4 := of_decide_eq_true z
    exact absurd k4 z'
  · rcases ck_or z with z | z
    · obtain ⟨j, _, b⟩ := ck_anS z
      exact Or.inl ⟨j, ck_NS b⟩
    · obtain ⟨j, _, b⟩ := ck_anS z
      obtain ⟨b1, b2⟩ := ck_and b
      have b1 : j < i ∧ K j = 1 ∧ 7 ≤ K (j + 1) ∧ K (j + 1) ≤ 9 ∧ i < A j ∧ (K (j + 1) = 9 ∨ A (j + 2) ≤ i) := of_decide_eq_true b1
      obtain ⟨m, _, b3⟩ := ck_anS b2
      obtain ⟨b3, b4⟩ := ck_and b3
      have b3 : K m = 4 ∧ nm m = nm i := of_decide_eq_true b3
      obtain ⟨c1, c2, c3, c4, c5, c6⟩ := b1
      refine Or.inr ⟨j, c1, c2, c3, c4, c5, ⟨m, ck_NS b4, ?_⟩, c6⟩
      rw [(hV m b3.1).1, (hV i k4).1, b3.2]
end
def ck_T (c : List (Nat × Nat)) (t : List Nat) (n : Nat) : Bool :=
  decide (t.length = n ∧ 0 < n ∧ n ≤ 64 ∧ ck_a t 0 = n) && ck_al (fun i => decide (1 ≤ ck_k c n i ∧ ck_k c n i ≤ 20 ∧ ck_v c n i < 1000)) n && ck_t (ck_k c n) (ck_a t) n && ck_X (ck_k c n) (ck_a t) (ck_v c n) 20 true 0 && ck_S (ck_k c n) (ck_a t) (ck_v c n) n
theorem ck_TS {c : List (Nat × Nat)} {t : List Nat} {n : Nat} {tk tv : Nat → Int32} (h : ck_T c t n = true) (hk : ∀ i, i < n → tk i = nI (ck_k c n i)) (hv : ∀ i, i < n → ck_k c n i = 4 → tv i = nI (ck_v c n i)) :
    tk_ok tk n ∧ 0 < n ∧ sk_f (tk_K tk n) n 0 = n ∧ gr_X (tk_K tk n) tv (sk_f (tk_K tk n) n) 20 true 0 ∧ ∀ i, i < n → tk_K tk n i = 4 → (∃ j, gr_N (tk_K tk n) (sk_f (tk_K tk n) n) j i) ∨ sc_B (tk_K tk n) tv (sk_f (tk_K tk n) n) i (tv i) := by
  obtain ⟨h, h5⟩ := ck_and h
  obtain ⟨h, h4⟩ := ck_and h
  obtain ⟨h, h3⟩ := ck_and h
  obtain ⟨h1, h2⟩ := ck_and h
  have z : t.length = n ∧ 0 < n ∧ n ≤ 64 ∧ ck_a t 0 = n := of_decide_eq_true h1
  have b : ∀ i, i < n → 1 ≤ ck_k c n i ∧ ck_k c n i ≤ 20 ∧ ck_v c n i < 1000 := fun i hi => by
    have q := ck_alS h2 i hi
    exact of_decide_eq_true q
  have eK : tk_K tk n = ck_k c n := by
    funext i
    unfold tk_K
    by_cases w : i < n
    · have := b i w
      rw [if_pos w, hk i w, nI_clamp (by omega)]
    · rw [if_neg w]
      unfold ck_k
      rw [if_neg w]
  have hlt : ∀ i, ck_k c n i ≠ 0 → i < n := fun i hi => by
    rcases Nat.lt_or_ge i n with w | w
    · exact w
    · exact absurd (if_neg (by omega)) hi
  have eA : sk_f (ck_k c n) n = ck_a t := ck_tS h3 (fun i hi => ⟨if_neg (by omega), ck_ho (by omega)⟩)
  have hV : ∀ i, ck_k c n i = 4 → tv i = nI (ck_v c n i) ∧ ck_v c n i < 2 ^ 31 := fun i hi => by
    have w := hlt i (by omega)
    have := b i w
    exact ⟨hv i w hi, by omega⟩
  rw [eK, eA]
  refine ⟨⟨z.2.2.1, fun i hi => ⟨_, (b i hi).1, (b i hi).2.1, hk i hi⟩⟩, z.2.1, z.2.2.2, ck_XS hV 20 true 0 h4, fun i hi k4 => ck_SS hV h5 hi k4⟩
section
variable {xdl xtn xpp xvc xcc xfc xoc xag xan xex xen xfl xac xst xsp xmd xrt xcu : Int32} {xtk xtv xaf xro xsc xho xvk xvf xvs xcv xco xff xfp xfe xfb xop : Nat → Int32} {n : Nat}
/-- tokens that pass the check compile -/
theorem cq_comp {c : List (Nat × Nat)} {t : List Nat} (hT : ck_T c t n = true) (hk : ∀ i, i < n → xtk i = nI (ck_k c n i)) (hv : ∀ i, i < n → ck_k c n i = 4 → xtv i = nI (ck_v c n i)) {post : Int32 → SX → Prop}
    (h3 : ∀ af ro sc ho vk vf vs, cp_P xtk xtv n af ro sc ho vk vf vs → post 0 (xdl, nI n, 1, xvc, xcc, xfc, xoc, xag, xan, xex, xen, xfl, xac, -1, 0, 0, -1, -1, xtk, xtv, af, ro, sc, ho, vk, vf, vs, xcv, xco, xff, xfp, xfe, xfb, xop)) : wpX_compile post (xdl, nI n, xpp, xvc, xcc, xfc, xoc, xag, xan, xex, xen, xfl, xac, xst, xsp, xmd, xrt, xcu, xtk, xtv, xaf, xro, xsc, xho, xvk, xvf, xvs, xcv, xco, xff, xfp, xfe, xfb, xop) := by
  obtain ⟨H, n0, s0, gx, nb⟩ := ck_TS hT hk hv
  refine xc_comp H (fun af ro w => absurd ⟨n0, s0, gx⟩ (w 20)) (fun af ro sc ho par _ _ A W hC w => ?_) h3
  exfalso
  obtain ⟨i, hi, r1, k4, nB⟩ := w
  rcases nb i hi k4 with ⟨j, hN⟩ | hB
  · have k1 := hN.1
    have k79 : 7 ≤ tk_K xtk n (j + 1) ∧ tk_K xtk n (j + 1) ≤ 9 := by
      rcases hN.2 with ⟨q, _⟩ | ⟨q, _⟩ <;> omega
    have hj : j < n := tk_lt (tk := xtk) (by omega)
    have q := ((W.2.1 j hj (hC j k1 k79.1 k79.2)).2.2.2 i hN).1
    rw [r1] at q
    exact absurd q (by decide)
  · exact nB hB
end
end
section
/-! the tokens that the law hands over, the last first: kind and value -/
def tq_k : List (Nat × Int32) → Nat → Int32
  | [] => fun _ => 0
  | (k, _) :: l => upd (tq_k l) l.length (nI k)
def tq_v : List (Nat × Int32) → Nat → Int32
  | [] => fun _ => 0
  | (_, v) :: l => upd (tq_v l) l.length v
/-- kinds, and names where they are names -/
def tq_M : List (Nat × Int32) → List (Nat × Nat) → Prop
  | [], [] => True
  | (k, v) :: l, (k', v') :: c => k = k' ∧ (k' = 4 → v = nI v') ∧ tq_M l c
  | _, _ => False
theorem tq_MS : ∀ {l : List (Nat × Int32)} {c : List (Nat × Nat)}, tq_M l c → ∀ i, i < l.length → tq_k l i = nI (ck_g c (l.length - 1 - i)).1 ∧ ((ck_g c (l.length - 1 - i)).1 = 4 → tq_v l i = nI (ck_g c (l.length - 1 - i)).2)
  | [], _, _, i, hi => by simp at hi
  | (k, v) :: l, [], h, i, hi => False.elim h
  | (k, v) :: l, (k', v') :: c, h, i, hi => by
    obtain ⟨e, hv, h⟩ := h
    subst e
    have ih := tq_MS h
    simp only [List.length_cons] at hi ⊢
    by_cases z : i = l.length
    · subst z
      rw [show l.length + 1 - 1 - l.length = 0 from by omega]
      exact ⟨pk_us, fun w => pk_us.trans (hv w)⟩
    · rw [show l.length + 1 - 1 - i = l.length - 1 - i + 1 from by omega]
      have q := ih i (by omega)
      exact ⟨(pk_un z).trans q.1, fun w => (pk_un z).trans (q.2 w)⟩
section
variable {xdl xtn xpp xvc xcc xfc xoc xag xan xex xen xfl xac xst xsp xmd xrt xcu : Int32} {xtk xtv xaf xro xsc xho xvk xvf xvs xcv xco xff xfp xfe xfb xop : Nat → Int32} {n : Nat}
theorem tq_55 {z0 : Int32} (hn : n < 64) {post : Int32 → SX → Prop} (h : post 1 (xdl, nI (n + 1), 0, xvc, xcc, xfc, xoc, xag, xan, xex, xen, xfl, xac, -1, 0, 0, -1, -1, xtk, upd xtv n z0, xaf, xro, xsc, xho, xvk, xvf, xvs, xcv, xco, xff, xfp, xfe, xfb, xop)) : wX_token_55 post z0 (nI n) xdl (nI n) xpp xvc xcc xfc xoc xag xan xex xen xfl xac xst xsp xmd xrt xcu xtk xtv xaf xro xsc xho xvk xvf xvs xcv xco xff xfp xfe xfb xop := by
  have hc : (nI n).toNatClampNeg = n := nI_clamp (by omega)
  exact ⟨vp_in_nI hn (by omega), nm_r (show upd xtv (nI n).toNatClampNeg z0 = upd xtv n z0 from by rw [hc]) (nm_r (nI_1 n) h)⟩
theorem tq_tok {k : Nat} {v1 v2 z : Int32} (hn : n < 64) (hk : v1 = nI k) (k1 : 1 ≤ k) (k20 : k ≤ 20) (hz : ((k = 3 ∨ k = 4) ∧ z = v2) ∨ (¬ (k = 3 ∨ k = 4) ∧ z = 0)) {post : Int32 → SX → Prop}
    (h : post 1 (xdl, nI (n + 1), 0, xvc, xcc, xfc, xoc, xag, xan, xex, xen, xfl, xac, -1, 0, 0, -1, -1, upd xtk n v1, upd xtv n z, xaf, xro, xsc, xho, xvk, xvf, xvs, xcv, xco, xff, xfp, xfe, xfb, xop)) : wpX_token post (xdl, nI n, xpp, xvc, xcc, xfc, xoc, xag, xan, xex, xen, xfl, xac, xst, xsp, xmd, xrt, xcu, xtk, xtv, xaf, xro, xsc, xho, xvk, xvf, xvs, xcv, xco, xff, xfp, xfe, xfb, xop) v1 v2 := by
  have a : ¬ v1 < 1 := by
    rw [hk]
    exact fun w => absurd ((nI_ltI (b := 1) (by omega) (by omega)).mp w) (by omega)
  have b : ¬ 20 < v1 := by
    rw [hk]
    exact fun w => absurd ((nI_ltI (a := 20) (by omega) (by omega)).mp w) (by omega)
  have hlt : nI n < 64 := (nI_ltI (b := 64) (by omega) (by omega)).mpr hn
  have hc : (nI n).toNatClampNeg = n := nI_clamp (by omega)
  refine br_f a (br_f b (br_t hlt ⟨vp_in_nI hn (by omega), nm_r (show upd xtk (nI n).toNatClampNeg v1 = upd xtk n v1 from by rw [hc]) ?_⟩))
  have e3 : v1 = 3 → k = 3 := fun e => by
    rw [hk] at e
    exact (nI_eq (b := 3) (by omega) (by omega)).mp e
  have e4 : v1 = 4 → k = 4 := fun e => by
    rw [hk] at e
    exact (nI_eq (b := 4) (by omega) (by omega)).mp e
  rcases hz with ⟨k34, hz⟩ | ⟨k34, hz⟩
  · subst hz
    by_cases k3 : v1 = 3
    · exact br_t k3 (tq_55 (xtk := upd xtk n v1) hn h)
    · have k4 : v1 = 4 := by
        rcases k34 with k34 | k34
        · rw [k34] at hk; exact absurd hk k3
        · rw [k34] at hk; exact hk
      exact br_f k3 (br_t k4 (tq_55 (xtk := upd xtk n v1) hn h))
  · subst hz
    exact br_f (fun e => k34 (Or.inl (e3 e))) (br_f (fun e => k34 (Or.inr (e4 e))) (tq_55 (xtk := upd xtk n v1) hn h))
/-- one token more -/
theorem tq_a {l : List (Nat × Int32)} (k : Nat) (z : Int32) {v1 v2 : Int32} (hl : l.length = n) (hn : n < 64) (hk : v1 = nI k) (k1 : 1 ≤ k) (k20 : k ≤ 20) (hz : ((k = 3 ∨ k = 4) ∧ z = v2) ∨ (¬ (k = 3 ∨ k = 4) ∧ z = 0)) {post : Int32 → SX → Prop}
    (h : post 1 (xdl, nI (n + 1), 0, xvc, xcc, xfc, xoc, xag, xan, xex, xen, xfl, xac, -1, 0, 0, -1, -1, tq_k ((k, z) :: l), tq_v ((k, z) :: l), xaf, xro, xsc, xho, xvk, xvf, xvs, xcv, xco, xff, xfp, xfe, xfb, xop)) : wpX_token post (xdl, nI n, xpp, xvc, xcc, xfc, xoc, xag, xan, xex, xen, xfl, xac, xst, xsp, xmd, xrt, xcu, tq_k l, tq_v l, xaf, xro, xsc, xho, xvk, xvf, xvs, xcv, xco, xff, xfp, xfe, xfb, xop) v1 v2 := by
  subst hl
  subst hk
  exact tq_tok hn rfl k1 k20 hz h
/-- a paren, a keyword -/
theorem tq_p {l : List (Nat × Int32)} (k : Nat) {v1 v2 : Int32} (hl : l.length = n) (hn : n < 64) (hk : v1 = nI k) (k1 : 1 ≤ k) (k20 : k ≤ 20) (hz : ¬ (k = 3 ∨ k = 4)) {post : Int32 → SX → Prop}
    (h : post 1 (xdl, nI (n + 1), 0, xvc, xcc, xfc, xoc, xag, xan, xex, xen, xfl, xac, -1, 0, 0, -1, -1, tq_k ((k, 0) :: l), tq_v ((k, 0) :: l), xaf, xro, xsc, xho, xvk, xvf, xvs, xcv, xco, xff, xfp, xfe, xfb, xop)) : wpX_token post (xdl, nI n, xpp, xvc, xcc, xfc, xoc, xag, xan, xex, xen, xfl, xac, xst, xsp, xmd, xrt, xcu, tq_k l, tq_v l, xaf, xro, xsc, xho, xvk, xvf, xvs, xcv, xco, xff, xfp, xfe, xfb, xop) v1 v2 :=
  tq_a k 0 hl hn hk k1 k20 (Or.inr ⟨hz, rfl⟩) h
theorem tq_n {l : List (Nat × Int32)} {v2 : Int32} (hl : l.length = n) (hn : n < 64) {post : Int32 → SX → Prop}
    (h : post 1 (xdl, nI (n + 1), 0, xvc, xcc, xfc, xoc, xag, xan, xex, xen, xfl, xac, -1, 0, 0, -1, -1, tq_k ((3, v2) :: l), tq_v ((3, v2) :: l), xaf, xro, xsc, xho, xvk, xvf, xvs, xcv, xco, xff, xfp, xfe, xfb, xop)) : wpX_token post (xdl, nI n, xpp, xvc, xcc, xfc, xoc, xag, xan, xex, xen, xfl, xac, xst, xsp, xmd, xrt, xcu, tq_k l, tq_v l, xaf, xro, xsc, xho, xvk, xvf, xvs, xcv, xco, xff, xfp, xfe, xfb, xop) 3 v2 :=
  tq_a 3 v2 hl hn rfl (by omega) (by omega) (Or.inl ⟨Or.inl rfl, rfl⟩) h
theorem tq_s {l : List (Nat × Int32)} {v2 : Int32} (hl : l.length = n) (hn : n < 64) {post : Int32 → SX → Prop}
    (h : post 1 (xdl, nI (n + 1), 0, xvc, xcc, xfc, xoc, xag, xan, xex, xen, xfl, xac, -1, 0, 0, -1, -1, tq_k ((4, v2) :: l), tq_v ((4, v2) :: l), xaf, xro, xsc, xho, xvk, xvf, xvs, xcv, xco, xff, xfp, xfe, xfb, xop)) : wpX_token post (xdl, nI n, xpp, xvc, xcc, xfc, xoc, xag, xan, xex, xen, xfl, xac, xst, xsp, xmd, xrt, xcu, tq_k l, tq_v l, xaf, xro, xsc, xho, xvk, xvf, xvs, xcv, xco, xff, xfp, xfe, xfb, xop) 4 v2 :=
  tq_a 4 v2 hl hn rfl (by omega) (by omega) (Or.inl ⟨Or.inr rfl, rfl⟩) h
/-- they compile -/
theorem tq_comp {l : List (Nat × Int32)} {c : List (Nat × Nat)} {t : List Nat} (M : tq_M l c) (hl : l.length = n) (hT : ck_T c t n = true) {post : Int32 → SX → Prop}
    (h : ∀ u', dq_OK xdl (tq_k l) (tq_v l) n u' → post 0 u') : wpX_compile post (xdl, nI n, xpp, xvc, xcc, xfc, xoc, xag, xan, xex, xen, xfl, xac, xst, xsp, xmd, xrt, xcu, tq_k l, tq_v l, xaf, xro, xsc, xho, xvk, xvf, xvs, xcv, xco, xff, xfp, xfe, xfb, xop) := by
  have S := tq_MS M
  rw [hl] at S
  have e : ∀ i, i < n → ck_k c n i = (ck_g c (n - 1 - i)).1 := fun i hi => if_pos hi
  refine cq_comp hT (fun i hi => by rw [e i hi]; exact (S i hi).1) (fun i hi h4 => (S i hi).2 (by rw [← e i hi]; exact h4)) (fun af ro sc ho vk vf vs C => h _ ⟨_, _, _, _, _, _, _, _, _, _, _, _, _, _, _,  _, _, _, _, _, _, _, _, _, _, _, _, _, _,  rfl, C⟩)
theorem tq_ok {l : List (Nat × Int32)} {c : List (Nat × Nat)} {t : List Nat} (M : tq_M l c) (hl : l.length = n) (hT : ck_T c t n = true) : tk_ok (tq_k l) n := by
  have S := tq_MS M
  rw [hl] at S
  have e : ∀ i, i < n → ck_k c n i = (ck_g c (n - 1 - i)).1 := fun i hi => if_pos hi
  exact (ck_TS hT (tv := tq_v l) (fun i hi => by rw [e i hi]; exact (S i hi).1) (fun i hi h4 => (S i hi).2 (by rw [← e i hi]; exact h4))).1
end
def tp_O (o : Nat) : Prop := o = 11 ∨ o = 15 ∨ o = 16 ∨ o = 17 ∨ o = 18 ∨ o = 19 ∨ o = 20
def tp_0 (o zz : Nat) : List (Nat × Nat) := [(2, 0), (2, 0), (3, 0), (4, 101), (1, 0), (2, 0), (2, 0), (2, 0), (2, 0), (2, 0), (2, 0), (2, 0), (3, 0), (4, 102), (16, 0), (1, 0), (4, 101), (1, 0), (4, 102), (o, 0), (1, 0), (zz, 0), (2, 0), (3, 0), (4, 102), (20, 0), (1, 0), (10, 0), (1, 0), (2, 0), (4, 102), (1, 0), (7, 0), (1, 0), (4, 101), (1, 0), (1, 0), (9, 0), (1, 0)]
def tp_e0 : List Nat := [39, 2, 34, 33, 5, 32, 7, 10, 9, 10, 31, 12, 17, 14, 15, 16, 17, 18, 30, 20, 21, 29, 23, 28, 25, 26, 27, 28, 29, 30, 31, 32, 33, 34, 38, 36, 37, 38, 39]
theorem tp_c0 {o zz : Nat} (ho : tp_O o) (hz : zz = 3 ∨ zz = 5) : ck_T (tp_0 o zz) tp_e0 39 = true := by
  rcases hz with rfl | rfl
  · rcases ho with rfl | rfl | rfl | rfl | rfl | rfl | rfl <;> decide +kernel
  · rcases ho with rfl | rfl | rfl | rfl | rfl | rfl | rfl <;> decide +kernel
def tp_1 (o : Nat) : List (Nat × Nat) := [(2, 0), (2, 0), (3, 0), (3, 0), (4, 101), (1, 0), (2, 0), (2, 0), (2, 0), (2, 0), (2, 0), (2, 0), (4, 102), (4, 103), (o, 0), (1, 0), (2, 0), (3, 0), (4, 102), (16, 0), (1, 0), (4, 101), (1, 0), (4, 103), (2, 0), (3, 0), (4, 102), (19, 0), (1, 0), (10, 0), (1, 0), (2, 0), (4, 103), (4, 102), (1, 0), (7, 0), (1, 0), (4, 101), (1, 0), (1, 0), (9, 0), (1, 0)]
def tp_e1 : List Nat := [42, 2, 36, 35, 5, 34, 7, 11, 9, 10, 11, 33, 13, 18, 15, 16, 17, 18, 19, 32, 21, 26, 23, 24, 25, 26, 31, 28, 29, 30, 31, 32, 33, 34, 35, 36, 41, 38, 39, 40, 41, 42]
theorem tp_c1 {o : Nat} (ho : tp_O o) : ck_T (tp_1 o) tp_e1 42 = true := by
  rcases ho with rfl | rfl | rfl | rfl | rfl | rfl | rfl <;> decide +kernel
def tp_2 (o : Nat) : List (Nat × Nat) := [(2, 0), (2, 0), (2, 0), (2, 0), (2, 0), (3, 0), (2, 0), (1, 0), (3, 0), (1, 0), (6, 0), (1, 0), (2, 0), (4, 105), (4, 104), (o, 0), (1, 0), (11, 0), (1, 0), (2, 0), (2, 0), (4, 106), (4, 104), (o, 0), (1, 0), (2, 0), (4, 106), (1, 0), (7, 0), (1, 0), (11, 0), (1, 0), (2, 0), (2, 0), (3, 0), (4, 105), (1, 0), (2, 0), (3, 0), (4, 104), (1, 0), (1, 0), (8, 0), (1, 0)]
def tp_e2 : List Nat := [44, 2, 12, 7, 5, 6, 7, 11, 9, 10, 11, 12, 43, 14, 25, 16, 19, 18, 19, 24, 21, 22, 23, 24, 25, 42, 27, 32, 29, 30, 31, 32, 41, 34, 40, 36, 38, 38, 39, 40, 41, 42, 43, 44]
theorem tp_c2 {o : Nat} (ho : tp_O o) : ck_T (tp_2 o) tp_e2 44 = true := by
  rcases ho with rfl | rfl | rfl | rfl | rfl | rfl | rfl <;> decide +kernel
def tp_n0 : List (Nat × Nat) := [(2, 0), (3, 0), (1, 0)]
def tp_en0 : List Nat := [3, 2, 3]
theorem tp_cn0 : ck_T tp_n0 tp_en0 3 = true := by decide +kernel
def tp_n1 : List (Nat × Nat) := [(2, 0), (3, 0), (3, 0), (1, 0)]
def tp_en1 : List Nat := [4, 2, 3, 4]
theorem tp_cn1 : ck_T tp_n1 tp_en1 4 = true := by decide +kernel
def tp_n2 : List (Nat × Nat) := [(2, 0), (3, 0), (3, 0), (3, 0), (1, 0)]
def tp_en2 : List Nat := [5, 2, 3, 4, 5]
theorem tp_cn2 : ck_T tp_n2 tp_en2 5 = true := by decide +kernel
def tp_n3 : List (Nat × Nat) := [(2, 0), (3, 0), (3, 0), (3, 0), (3, 0), (1, 0)]
def tp_en3 : List Nat := [6, 2, 3, 4, 5, 6]
theorem tp_cn3 : ck_T tp_n3 tp_en3 6 = true := by decide +kernel
def tp_l0 (o : Nat) : List (Nat × Nat) := [(2, 0), (2, 0), (2, 0), (4, 105), (4, 104), (o, 0), (1, 0), (2, 0), (4, 105), (4, 104), (1, 0), (7, 0), (1, 0), (1, 0)]
def tp_el0 : List Nat := [14, 13, 3, 7, 5, 6, 7, 12, 9, 10, 11, 12, 13, 14]
theorem tp_cl0 {o : Nat} (ho : tp_O o) : ck_T (tp_l0 o) tp_el0 14 = true := by
  rcases ho with rfl | rfl | rfl | rfl | rfl | rfl | rfl <;> decide +kernel
def tp_l1 (o : Nat) : List (Nat × Nat) := [(2, 0), (3, 0), (2, 0), (2, 0), (4, 105), (4, 104), (o, 0), (1, 0), (2, 0), (4, 105), (4, 104), (1, 0), (7, 0), (1, 0), (1, 0)]
def tp_el1 : List Nat := [15, 13, 3, 7, 5, 6, 7, 12, 9, 10, 11, 12, 13, 14, 15]
theorem tp_cl1 {o : Nat} (ho : tp_O o) : ck_T (tp_l1 o) tp_el1 15 = true := by
  rcases ho with rfl | rfl | rfl | rfl | rfl | rfl | rfl <;> decide +kernel
def tp_l2 (o : Nat) : List (Nat × Nat) := [(2, 0), (3, 0), (3, 0), (2, 0), (2, 0), (4, 105), (4, 104), (o, 0), (1, 0), (2, 0), (4, 105), (4, 104), (1, 0), (7, 0), (1, 0), (1, 0)]
def tp_el2 : List Nat := [16, 13, 3, 7, 5, 6, 7, 12, 9, 10, 11, 12, 13, 14, 15, 16]
theorem tp_cl2 {o : Nat} (ho : tp_O o) : ck_T (tp_l2 o) tp_el2 16 = true := by
  rcases ho with rfl | rfl | rfl | rfl | rfl | rfl | rfl <;> decide +kernel
def tp_l3 (o : Nat) : List (Nat × Nat) := [(2, 0), (3, 0), (3, 0), (3, 0), (2, 0), (2, 0), (4, 105), (4, 104), (o, 0), (1, 0), (2, 0), (4, 105), (4, 104), (1, 0), (7, 0), (1, 0), (1, 0)]
def tp_el3 : List Nat := [17, 13, 3, 7, 5, 6, 7, 12, 9, 10, 11, 12, 13, 14, 15, 16, 17]
theorem tp_cl3 {o : Nat} (ho : tp_O o) : ck_T (tp_l3 o) tp_el3 17 = true := by
  rcases ho with rfl | rfl | rfl | rfl | rfl | rfl | rfl <;> decide +kernel
end
section
/-! the law's own numbers: the remainder that is never negative, the cells, the operator, the clamp -/
theorem md_b1 {y P : Nat} (h : P ≤ y) (hy : y ≤ 2 ^ 31) : (-(P : Int)).bmod (2 ^ 32) = -(P : Int) := Int.bmod_eq_of_le (by omega) (by omega)
theorem md_b2 {y P M : Nat} (e : P + M = y) (hy : y ≤ 2 ^ 31) : (-(y : Int) - -(P : Int)).bmod (2 ^ 32) = -(M : Int) := by
  rw [show -(y : Int) - -(P : Int) = -(M : Int) from by omega]
  exact Int.bmod_eq_of_le (by omega) (by omega)
theorem md_neg {x : Int32} {d y : Nat} (hx : x.toInt = -(y : Int)) (hy : y ≤ 2 ^ 31) (hd : d < 2 ^ 31) : (x - x / nI d * nI d).toInt = -((y % d : Nat) : Int) := by
  have e1 := Nat.div_add_mod' y d
  have e2 := Nat.div_le_self y d
  have e3 : y / d * d ≤ y := Nat.div_mul_le_self y d
  have ed : (nI d).toInt = (d : Int) := nI_toInt hd
  have q : (x / nI d).toInt = -((y / d : Nat) : Int) := by
    rw [Int32.toInt_div, hx, ed, Int.neg_tdiv, ← Int.ofNat_tdiv]
    exact md_b1 e2 hy
  have m : (x / nI d * nI d).toInt = -((y / d * d : Nat) : Int) := by
    rw [Int32.toInt_mul, q, ed, Int.neg_mul, ← Int.natCast_mul]
    exact md_b1 e3 hy
  rw [Int32.toInt_sub, hx, m]
  exact md_b2 e1 hy
theorem md_ok (x : Int32) {d : Nat} (h0 : 0 < d) (hd : d < 2 ^ 31) : (¬ 0 ≤ x - x / nI d * nI d ∧ ∃ j, j < d ∧ x - x / nI d * nI d + nI d = nI j) ∨ (0 ≤ x - x / nI d * nI d ∧ ∃ j, j < d ∧ x - x / nI d * nI d = nI j) := by
  have z0 : (0 : Int32).toInt = 0 := by decide
  by_cases h : x < 0
  · rw [Int32.lt_iff_toInt_lt, z0] at h
    obtain ⟨y, hy⟩ : ∃ y : Nat, x.toInt = -(y : Int) := ⟨x.toInt.natAbs, by omega⟩
    have lo := Int32.le_toInt x
    have r := md_neg hy (by omega) hd
    have ml := Nat.mod_lt y h0
    by_cases z : y % d = 0
    · rw [z] at r
      refine Or.inr ⟨?_, 0, h0, Int32.toInt_inj.mp ?_⟩
      · rw [Int32.le_iff_toInt_le, r, z0]; omega
      · rw [r, nI_toInt (by omega)]; omega
    · refine Or.inl ⟨?_, d - y % d, by omega, Int32.toInt_inj.mp ?_⟩
      · rw [Int32.le_iff_toInt_le, r, z0]; omega
      · rw [Int32.toInt_add, r, nI_toInt hd, nI_toInt (by omega), show -((y % d : Nat) : Int) + (d : Int) = ((d - y % d : Nat) : Int) from by omega]
        exact Int.bmod_eq_of_le (by omega) (by omega)
  · obtain ⟨j, hj, e⟩ := nI_of h
    subst e
    rw [pk_rem hj h0 hd]
    have ml := Nat.mod_lt j h0
    exact Or.inr ⟨nI_pos' (by omega), j % d, ml, rfl⟩
def md_f (p0 p1 : Int32) : Int32 := if 0 ≤ p0 - p0 / p1 * p1 then p0 - p0 / p1 * p1 else p0 - p0 / p1 * p1 + p1
theorem md_w {post : Int32 → Prop} {u : St0} {p0 p1 : Int32} (h0 : ¬ p1 = 0) (h : post (md_f p0 p1)) : wpL_mod post u p0 p1 := by
  refine ⟨h0, fun x e => ?_⟩
  subst e
  unfold md_f at h
  by_cases z : 0 ≤ p0 - p0 / p1 * p1
  · rw [if_pos z] at h; exact br_t z h
  · rw [if_neg z] at h; exact br_f z h
theorem md_j (x : Int32) {d : Nat} (h0 : 0 < d) (hd : d < 2 ^ 31) : ∃ j, j < d ∧ md_f x (nI d) = nI j := by
  unfold md_f
  rcases md_ok x h0 hd with ⟨z, j, hj, e⟩ | ⟨z, j, hj, e⟩
  · exact ⟨j, hj, by rw [if_neg z]; exact e⟩
  · exact ⟨j, hj, by rw [if_pos z]; exact e⟩
def ce_f (L : Nat) (xs : Nat → Int32) (p1 : Int32) : Int32 := if (Int32.ofNat L) ≤ p1 then 0 else xs p1.toNatClampNeg
theorem ce_d {post : Int32 → Prop} {L : Nat} {xs : Nat → Int32} {u : St0} {p1 : Int32} {j : Nat} (hj : p1 = nI j) (hjb : j < 2 ^ 31) (hL : L ≤ 260) (h : post (ce_f L xs p1)) : wpL_cell post L xs u p1 := by
  unfold ce_f at h
  by_cases z : (Int32.ofNat L) ≤ p1
  · rw [if_pos z] at h; exact br_t z h
  · rw [if_neg z] at h
    refine br_f z ⟨?_, h⟩
    subst hj
    have w : ¬ L ≤ j := fun w => z (nI_le w hjb)
    exact vp_in_nI (by omega) (by omega)
theorem tp_b {o : Nat} (ho : tp_O o) : 1 ≤ o ∧ o ≤ 20 ∧ ¬ (o = 3 ∨ o = 4) := by
  unfold tp_O at ho
  omega
theorem tp_z {zz : Nat} (hz : zz = 3 ∨ zz = 5) : ((zz = 3 ∨ zz = 4) ∧ (0 : Int32) = 0) ∨ (¬ (zz = 3 ∨ zz = 4) ∧ (0 : Int32) = 0) := by
  rcases hz with rfl | rfl
  · exact Or.inl ⟨Or.inl rfl, rfl⟩
  · exact Or.inr ⟨by decide, rfl⟩
theorem tp_11 {o : Nat} (ho : tp_O o) (e : nI o = 11) : o = 11 := by
  have := tp_b ho
  exact (nI_eq (b := 11) (by omega) (by omega)).mp e
theorem lo_w {post : Int32 → Prop} {u : St0} {p0 : Int32} (h : ∀ o, tp_O o → post (nI o)) : wpL_op post u p0 := by
  obtain ⟨c, hc, e⟩ := md_j p0 (d := 7) (by omega) (by omega)
  refine md_w (by decide) ?_
  rw [show md_f p0 7 = nI c from e]
  refine pk_le 4 c (fun z => pk_eq c 4 (fun _ => h 11 (Or.inl rfl)) (fun w => ?_)) (fun z => ?_)
  · have q := h (c + 14) (by unfold tp_O; omega)
    rw [← nI_add] at q
    exact q
  · have q := h (15 + c) (by unfold tp_O; omega)
    rw [← nI_add] at q
    exact q
/-- the fuel that a run takes -/
def fl_C (v : Int32) (F : Nat) : Prop := (1 ≤ v ∧ v ≤ 400 ∧ v = nI F) ∨ (1 ≤ v ∧ ¬ v ≤ 400 ∧ nI F = 400) ∨ (¬ 1 ≤ v ∧ nI F = 1)
theorem fl_w {post : Int32 → Prop} {u : St0} {v : Int32} (h : ∀ F, 1 ≤ F → F ≤ 400 → fl_C v F → post (nI F)) : wpL_clampFuel post u v := by
  by_cases a : 1 ≤ v
  · by_cases b : v ≤ 400
    · refine br_t a (br_t b ?_)
      have a' := a
      rw [Int32.le_iff_toInt_le, show (1 : Int32).toInt = 1 from by decide] at a'
      have b' := b
      rw [Int32.le_iff_toInt_le, show (400 : Int32).toInt = 400 from by decide] at b'
      have e : v = nI v.toInt.toNat := Int32.toInt_inj.mp (by rw [nI_toInt (by omega)]; omega)
      have q := h v.toInt.toNat (by omega) (by omega) (Or.inl ⟨a, b, e⟩)
      rw [← e] at q
      exact q
    · exact br_t a (br_f b (h 400 (by omega) (by omega) (Or.inr (Or.inl ⟨a, b, rfl⟩))))
  · exact br_f a (h 1 (by omega) (by omega) (Or.inr (Or.inr ⟨a, rfl⟩)))
theorem fl_n {F : Nat} (h1 : 1 ≤ F) (h4 : F ≤ 400) : fl_C (nI F) F := Or.inl ⟨nI_le (a := 1) h1 (by omega), nI_le (b := 400) h4 (by omega), rfl⟩
/-- a new object -/
def cl_f (p0 : Int32) : Int32 := if 1 ≤ p0 then (if p0 ≤ 32 then p0 else 32) else 1
def nw_S (dl : Int32) : SX := (dl, nI 0, 0, 128, 0, 0, 0, 0, -1, 0, -1, 1, 0, -1, 0, 0, -1, -1, tq_k [], tq_v [], fun _ => 0, fun _ => 0, fun _ => 0, fun _ => 0, fun _ => 0, fun _ => 0, fun _ => 0, fun _ => 0, fun _ => 0, fun _ => 0, fun _ => 0, fun _ => 0, fun _ => 0, fun _ => 0)
theorem in_w {post : SX → Prop} {u : St1} {p0 : Int32} (h : post (nw_S (cl_f p0))) : wpX_init post 16 4776 u p0 := by
  obtain ⟨a1, a2, a3, a4, a5, a6, a7, a8, a9, a10, a11, a12, a13, a14, a15, a16, a17, a18⟩ := u
  refine ⟨by decide, by decide, by decide, by decide, by decide, by decide, by decide, by decide, by decide, by decide, by decide, by decide, by decide, by decide, by decide, by decide, by decide, by decide, by decide, by decide, by decide, by decide, by decide, by decide, by decide, by decide, by decide, by decide, by decide, by decide, by decide, by decide, ?_⟩
  unfold cl_f at h
  by_cases a : 1 ≤ p0
  · rw [if_pos a] at h
    by_cases b : p0 ≤ 32
    · rw [if_pos b] at h; exact br_t a (br_t b h)
    · rw [if_neg b] at h; exact br_t a (br_f b h)
  · rw [if_neg a] at h; exact br_f a h
end
section
/-! the law's token programs as lists -/
def tl_0 (o zz : Nat) (a1 : Int32) : List (Nat × Int32) := [(2, 0), (2, 0), (3, a1), (4, 101), (1, 0), (2, 0), (2, 0), (2, 0), (2, 0), (2, 0), (2, 0), (2, 0), (3, 1), (4, 102), (16, 0), (1, 0), (4, 101), (1, 0), (4, 102), (o, 0), (1, 0), (zz, 0), (2, 0), (3, 1), (4, 102), (20, 0), (1, 0), (10, 0), (1, 0), (2, 0), (4, 102), (1, 0), (7, 0), (1, 0), (4, 101), (1, 0), (1, 0), (9, 0), (1, 0)]
theorem tm_0 {o zz : Nat} {a1 : Int32} : tq_M (tl_0 o zz a1) (tp_0 o zz) := ⟨rfl, fun _ => rfl, rfl, fun _ => rfl, rfl, fun h => absurd h (by decide), rfl, fun _ => rfl, rfl, fun _ => rfl, rfl, fun _ => rfl, rfl, fun _ => rfl, rfl, fun _ => rfl, rfl, fun _ => rfl, rfl, fun _ => rfl, rfl, fun _ => rfl, rfl, fun _ => rfl, rfl, fun h => absurd h (by decide), rfl, fun _ => rfl, rfl, fun _ => rfl, rfl, fun _ => rfl, rfl, fun _ => rfl, rfl, fun _ => rfl, rfl, fun _ => rfl, rfl, fun _ => rfl, rfl, fun _ => rfl, rfl, fun _ => rfl, rfl, fun _ => rfl, rfl, fun h => absurd h (by decide), rfl, fun _ => rfl, rfl, fun _ => rfl, rfl, fun _ => rfl, rfl, fun _ => rfl, rfl, fun _ => rfl, rfl, fun _ => rfl, rfl, fun _ => rfl, rfl, fun _ => rfl, rfl, fun _ => rfl, rfl, fun _ => rfl, rfl, fun _ => rfl, rfl, fun _ => rfl, rfl, fun _ => rfl, rfl, fun _ => rfl, rfl, fun _ => rfl, trivial⟩
def tl_1 (o : Nat) (a1 b1 : Int32) : List (Nat × Int32) := [(2, 0), (2, 0), (3, b1), (3, a1), (4, 101), (1, 0), (2, 0), (2, 0), (2, 0), (2, 0), (2, 0), (2, 0), (4, 102), (4, 103), (o, 0), (1, 0), (2, 0), (3, 1), (4, 102), (16, 0), (1, 0), (4, 101), (1, 0), (4, 103), (2, 0), (3, 0), (4, 102), (19, 0), (1, 0), (10, 0), (1, 0), (2, 0), (4, 103), (4, 102), (1, 0), (7, 0), (1, 0), (4, 101), (1, 0), (1, 0), (9, 0), (1, 0)]
theorem tm_1 {o : Nat} {a1 b1 : Int32} : tq_M (tl_1 o a1 b1) (tp_1 o) := ⟨rfl, fun _ => rfl, rfl, fun _ => rfl, rfl, fun h => absurd h (by decide), rfl, fun h => absurd h (by decide), rfl, fun _ => rfl, rfl, fun _ => rfl, rfl, fun _ => rfl, rfl, fun _ => rfl, rfl, fun _ => rfl, rfl, fun _ => rfl, rfl, fun _ => rfl, rfl, fun _ => rfl, rfl, fun _ => rfl, rfl, fun _ => rfl, rfl, fun _ => rfl, rfl, fun _ => rfl, rfl, fun _ => rfl, rfl, fun h => absurd h (by decide), rfl, fun _ => rfl, rfl, fun _ => rfl, rfl, fun _ => rfl, rfl, fun _ => rfl, rfl, fun _ => rfl, rfl, fun _ => rfl, rfl, fun _ => rfl, rfl, fun h => absurd h (by decide), rfl, fun _ => rfl, rfl, fun _ => rfl, rfl, fun _ => rfl, rfl, fun _ => rfl, rfl, fun _ => rfl, rfl, fun _ => rfl, rfl, fun _ => rfl, rfl, fun _ => rfl, rfl, fun _ => rfl, rfl, fun _ => rfl, rfl, fun _ => rfl, rfl, fun _ => rfl, rfl, fun _ => rfl, rfl, fun _ => rfl, rfl, fun _ => rfl, rfl, fun _ => rfl, trivial⟩
def tl_2 (o : Nat) (a1 b1 a b : Int32) : List (Nat × Int32) := [(2, 0), (2, 0), (2, 0), (2, 0), (2, 0), (3, b), (2, 0), (1, 0), (3, a), (1, 0), (6, 0), (1, 0), (2, 0), (4, 105), (4, 104), (o, 0), (1, 0), (11, 0), (1, 0), (2, 0), (2, 0), (4, 106), (4, 104), (o, 0), (1, 0), (2, 0), (4, 106), (1, 0), (7, 0), (1, 0), (11, 0), (1, 0), (2, 0), (2, 0), (3, b1), (4, 105), (1, 0), (2, 0), (3, a1), (4, 104), (1, 0), (1, 0), (8, 0), (1, 0)]
theorem tm_2 {o : Nat} {a1 b1 a b : Int32} : tq_M (tl_2 o a1 b1 a b) (tp_2 o) := ⟨rfl, fun _ => rfl, rfl, fun _ => rfl, rfl, fun _ => rfl, rfl, fun _ => rfl, rfl, fun _ => rfl, rfl, fun h => absurd h (by decide), rfl, fun _ => rfl, rfl, fun _ => rfl, rfl, fun h => absurd h (by decide), rfl, fun _ => rfl, rfl, fun _ => rfl, rfl, fun _ => rfl, rfl, fun _ => rfl, rfl, fun _ => rfl, rfl, fun _ => rfl, rfl, fun _ => rfl, rfl, fun _ => rfl, rfl, fun _ => rfl, rfl, fun _ => rfl, rfl, fun _ => rfl, rfl, fun _ => rfl, rfl, fun _ => rfl, rfl, fun _ => rfl, rfl, fun _ => rfl, rfl, fun _ => rfl, rfl, fun _ => rfl, rfl, fun _ => rfl, rfl, fun _ => rfl, rfl, fun _ => rfl, rfl, fun _ => rfl, rfl, fun _ => rfl, rfl, fun _ => rfl, rfl, fun _ => rfl, rfl, fun _ => rfl, rfl, fun h => absurd h (by decide), rfl, fun _ => rfl, rfl, fun _ => rfl, rfl, fun _ => rfl, rfl, fun h => absurd h (by decide), rfl, fun _ => rfl, rfl, fun _ => rfl, rfl, fun _ => rfl, rfl, fun _ => rfl, rfl, fun _ => rfl, trivial⟩
def tl_n0 (a : Int32) : List (Nat × Int32) := [(2, 0), (3, a), (1, 0)]
theorem tm_n0 {a : Int32} : tq_M (tl_n0 a) tp_n0 := ⟨rfl, fun _ => rfl, rfl, fun h => absurd h (by decide), rfl, fun _ => rfl, trivial⟩
def tl_l0 (o : Nat) : List (Nat × Int32) := [(2, 0), (2, 0), (2, 0), (4, 105), (4, 104), (o, 0), (1, 0), (2, 0), (4, 105), (4, 104), (1, 0), (7, 0), (1, 0), (1, 0)]
theorem tm_l0 {o : Nat} : tq_M (tl_l0 o) (tp_l0 o) := ⟨rfl, fun _ => rfl, rfl, fun _ => rfl, rfl, fun _ => rfl, rfl, fun _ => rfl, rfl, fun _ => rfl, rfl, fun _ => rfl, rfl, fun _ => rfl, rfl, fun _ => rfl, rfl, fun _ => rfl, rfl, fun _ => rfl, rfl, fun _ => rfl, rfl, fun _ => rfl, rfl, fun _ => rfl, rfl, fun _ => rfl, trivial⟩
def tl_n1 (a : Int32) (c0 : Int32) : List (Nat × Int32) := [(2, 0), (3, c0), (3, a), (1, 0)]
theorem tm_n1 {a : Int32} {c0 : Int32} : tq_M (tl_n1 a c0) tp_n1 := ⟨rfl, fun _ => rfl, rfl, fun h => absurd h (by decide), rfl, fun h => absurd h (by decide), rfl, fun _ => rfl, trivial⟩
def tl_l1 (o : Nat) (c0 : Int32) : List (Nat × Int32) := [(2, 0), (3, c0), (2, 0), (2, 0), (4, 105), (4, 104), (o, 0), (1, 0), (2, 0), (4, 105), (4, 104), (1, 0), (7, 0), (1, 0), (1, 0)]
theorem tm_l1 {o : Nat} {c0 : Int32} : tq_M (tl_l1 o c0) (tp_l1 o) := ⟨rfl, fun _ => rfl, rfl, fun h => absurd h (by decide), rfl, fun _ => rfl, rfl, fun _ => rfl, rfl, fun _ => rfl, rfl, fun _ => rfl, rfl, fun _ => rfl, rfl, fun _ => rfl, rfl, fun _ => rfl, rfl, fun _ => rfl, rfl, fun _ => rfl, rfl, fun _ => rfl, rfl, fun _ => rfl, rfl, fun _ => rfl, rfl, fun _ => rfl, trivial⟩
def tl_n2 (a : Int32) (c0 c1 : Int32) : List (Nat × Int32) := [(2, 0), (3, c1), (3, c0), (3, a), (1, 0)]
theorem tm_n2 {a : Int32} {c0 c1 : Int32} : tq_M (tl_n2 a c0 c1) tp_n2 := ⟨rfl, fun _ => rfl, rfl, fun h => absurd h (by decide), rfl, fun h => absurd h (by decide), rfl, fun h => absurd h (by decide), rfl, fun _ => rfl, trivial⟩
def tl_l2 (o : Nat) (c0 c1 : Int32) : List (Nat × Int32) := [(2, 0), (3, c1), (3, c0), (2, 0), (2, 0), (4, 105), (4, 104), (o, 0), (1, 0), (2, 0), (4, 105), (4, 104), (1, 0), (7, 0), (1, 0), (1, 0)]
theorem tm_l2 {o : Nat} {c0 c1 : Int32} : tq_M (tl_l2 o c0 c1) (tp_l2 o) := ⟨rfl, fun _ => rfl, rfl, fun h => absurd h (by decide), rfl, fun h => absurd h (by decide), rfl, fun _ => rfl, rfl, fun _ => rfl, rfl, fun _ => rfl, rfl, fun _ => rfl, rfl, fun _ => rfl, rfl, fun _ => rfl, rfl, fun _ => rfl, rfl, fun _ => rfl, rfl, fun _ => rfl, rfl, fun _ => rfl, rfl, fun _ => rfl, rfl, fun _ => rfl, rfl, fun _ => rfl, trivial⟩
def tl_n3 (a : Int32) (c0 c1 c2 : Int32) : List (Nat × Int32) := [(2, 0), (3, c2), (3, c1), (3, c0), (3, a), (1, 0)]
theorem tm_n3 {a : Int32} {c0 c1 c2 : Int32} : tq_M (tl_n3 a c0 c1 c2) tp_n3 := ⟨rfl, fun _ => rfl, rfl, fun h => absurd h (by decide), rfl, fun h => absurd h (by decide), rfl, fun h => absurd h (by decide), rfl, fun h => absurd h (by decide), rfl, fun _ => rfl, trivial⟩
def tl_l3 (o : Nat) (c0 c1 c2 : Int32) : List (Nat × Int32) := [(2, 0), (3, c2), (3, c1), (3, c0), (2, 0), (2, 0), (4, 105), (4, 104), (o, 0), (1, 0), (2, 0), (4, 105), (4, 104), (1, 0), (7, 0), (1, 0), (1, 0)]
theorem tm_l3 {o : Nat} {c0 c1 c2 : Int32} : tq_M (tl_l3 o c0 c1 c2) (tp_l3 o) := ⟨rfl, fun _ => rfl, rfl, fun h => absurd h (by decide), rfl, fun h => absurd h (by decide), rfl, fun h => absurd h (by decide), rfl, fun _ => rfl, rfl, fun _ => rfl, rfl, fun _ => rfl, rfl, fun _ => rfl, rfl, fun _ => rfl, rfl, fun _ => rfl, rfl, fun _ => rfl, rfl, fun _ => rfl, rfl, fun _ => rfl, rfl, fun _ => rfl, rfl, fun _ => rfl, rfl, fun _ => rfl, rfl, fun _ => rfl, trivial⟩

def lw_69 (post : Int32 → Prop) (L : Nat) (xs : Nat → Int32) (m : Nat) (x4 x5 x6 x7 x8 : Int32) (kc ks : Nat) (g0 g1 : SX) : Prop := match g0, g1 with
  | (xdl, xtn, xpp, xvc, xcc, xfc, xoc, xag, xan, xex, xen, xfl, xac, xst, xsp, xmd, xrt, xcu, xtk, xtv, xaf, xro, xsc, xho, xvk, xvf, xvs, xcv, xco, xff, xfp, xfe, xfb, xop), (zdl, ztn, zpp, zvc, zcc, zfc, zoc, zag, zan, zex, zen, zfl, zac, zst, zsp, zmd, zrt, zcu, ztk, ztv, zaf, zro, zsc, zho, zvk, zvf, zvs, zcv, zco, zff, zfp, zfe, zfb, zop) => wL_law_69 post L xs m x4 x5 x6 x7 x8 kc ks xdl xtn xpp xvc xcc xfc xoc xag xan xex xen xfl xac xst xsp xmd xrt xcu xtk xtv xaf xro xsc xho xvk xvf xvs xcv xco xff xfp xfe xfb xop zdl ztn zpp zvc zcc zfc zoc zag zan zex zen zfl zac zst zsp zmd zrt zcu ztk ztv zaf zro zsc zho zvk zvf zvs zcv zco zff zfp zfe zfb zop
end
