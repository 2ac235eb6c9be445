section
/-! the state of one object -/
abbrev SX : Type := St2
end
section
/-! the depth of the parens; items -/
def dp_d (K : Nat → Nat) : Nat → Int
  | 0 => 0
  | j + 1 => dp_d K j + (if K j = 1 then 1 else if K j = 2 then -1 else 0)
section
variable {K : Nat → Nat}
theorem dp_1 {j : Nat} (h : K j = 1) : dp_d K (j + 1) = dp_d K j + 1 := by simp [dp_d, h]
theorem dp_2 {j : Nat} (h : K j = 2) : dp_d K (j + 1) = dp_d K j - 1 := by simp [dp_d, h]; omega
theorem dp_0 {j : Nat} (h1 : K j ≠ 1) (h2 : K j ≠ 2) : dp_d K (j + 1) = dp_d K j := by simp [dp_d, h1, h2]
theorem dp_s (j : Nat) : dp_d K j - 1 ≤ dp_d K (j + 1) ∧ dp_d K (j + 1) ≤ dp_d K j + 1 := by
  by_cases h : K j = 1
  · rw [dp_1 h]; omega
  · by_cases h2 : K j = 2
    · rw [dp_2 h2]; omega
    · rw [dp_0 h h2]; omega
end
def dp_I (K : Nat → Nat) (i j : Nat) : Prop := i < j ∧ dp_d K j = dp_d K i ∧ ∀ m, i < m → m < j → dp_d K i < dp_d K m
def dp_L (K : Nat → Nat) (p q : Nat) : Prop := p ≤ q ∧ dp_d K q = dp_d K p ∧ ∀ m, p ≤ m → m ≤ q → dp_d K p ≤ dp_d K m
section
variable {K : Nat → Nat}
theorem dp_I_u {i j j' : Nat} (h : dp_I K i j) (h' : dp_I K i j') : j = j' := by
  obtain ⟨a, b, c⟩ := h
  obtain ⟨a', b', c'⟩ := h'
  rcases Nat.lt_trichotomy j j' with z | z | z
  · have := c' j a z; omega
  · exact z
  · have := c j' a' z; omega
theorem dp_I_a {i : Nat} (h1 : K i ≠ 1) (h2 : K i ≠ 2) : dp_I K i (i + 1) := ⟨by omega, dp_0 h1 h2, fun m a b => by omega⟩
theorem dp_I_n2 {i j : Nat} (h : dp_I K i j) : K i ≠ 2 := by
  intro e
  obtain ⟨a, b, c⟩ := h
  have := dp_2 e
  by_cases z : i + 1 = j
  · subst z; omega
  · have := c (i + 1) (by omega) (by omega); omega
theorem dp_I_at {i j : Nat} (h : dp_I K i j) (h1 : K i ≠ 1) : j = i + 1 := dp_I_u h (dp_I_a h1 (dp_I_n2 h))
theorem dp_I_L {i j : Nat} (h : dp_I K i j) : dp_L K i j := by
  obtain ⟨a, b, c⟩ := h
  refine ⟨by omega, b, fun m x y => ?_⟩
  by_cases z : m = i
  · subst z; omega
  · by_cases z2 : m = j
    · subst z2; omega
    · have := c m (by omega) (by omega); omega
theorem dp_L_r (p : Nat) : dp_L K p p := ⟨by omega, rfl, fun m a b => by
  have : m = p := by omega
  subst this; omega⟩
theorem dp_L_t {p q r : Nat} (h : dp_L K p q) (h' : dp_L K q r) : dp_L K p r := by
  obtain ⟨a, b, c⟩ := h
  obtain ⟨a', b', c'⟩ := h'
  refine ⟨by omega, by omega, fun m x y => ?_⟩
  by_cases z : m ≤ q
  · exact c m x z
  · have := c' m (by omega) y; omega
theorem dp_I_w {i q : Nat} (h1 : K i = 1) (h : dp_L K (i + 1) q) (h2 : K q = 2) : dp_I K i (q + 1) := by
  obtain ⟨a, b, c⟩ := h
  have e1 := dp_1 h1
  have e2 := dp_2 h2
  refine ⟨by omega, by omega, fun m x y => ?_⟩
  have := c m (by omega) (by omega); omega
theorem dp_I_1 {i j : Nat} (h : dp_I K i j) (h1 : K i = 1) : i + 1 < j := by
  obtain ⟨a, b, c⟩ := h
  have e1 := dp_1 h1
  by_cases z : j = i + 1
  · subst z; omega
  · omega
theorem dp_nest {i j m m' : Nat} (h : dp_I K i j) (a : i < m) (b : m < j) (h' : dp_I K m m') : m' < j := by
  obtain ⟨a1, b1, c1⟩ := h
  obtain ⟨a2, b2, c2⟩ := h'
  have := c1 m a b
  rcases Nat.lt_trichotomy m' j with z | z | z
  · exact z
  · subst z; omega
  · have := c2 j b z; omega
theorem dp_ex {p j : Nat} (h : p < j) (hd : dp_d K j < dp_d K p) (h2 : K p ≠ 2) : ∃ p', dp_I K p p' ∧ p' < j := by
  by_cases h1 : K p = 1
  · have key : ∀ d m : Nat, m + d = j → p < m → (∀ x, p < x → x ≤ m → dp_d K p < dp_d K x) → ∃ p', dp_I K p p' ∧ p' < j := by
      intro d
      induction d with
      | zero => intro m e hm hx; have := hx m hm (by omega); have e2 : m = j := by omega
                subst e2; omega
      | succ d ih =>
        intro m e hm hx
        have s := dp_s (K := K) m
        have hmm := hx m hm (by omega)
        by_cases z : dp_d K (m + 1) ≤ dp_d K p
        · have e1 : dp_d K (m + 1) = dp_d K p := by omega
          refine ⟨m + 1, ⟨by omega, e1, fun x a b => hx x a (by omega)⟩, ?_⟩
          by_cases zz : m + 1 = j
          · rw [zz] at e1; omega
          · omega
        · exact ih (m + 1) (by omega) (by omega) (fun x a b => by
            by_cases zz : x = m + 1
            · subst zz; omega
            · exact hx x a (by omega))
    have e1 := dp_1 h1
    refine key (j - (p + 1)) (p + 1) (by omega) (by omega) (fun x a b => ?_)
    have : x = p + 1 := by omega
    subst this; omega
  · refine ⟨p + 1, dp_I_a h1 h2, ?_⟩
    by_cases z : p + 1 = j
    · subst z; rw [dp_0 h1 h2] at hd; omega
    · omega
theorem dp_Iex {i j p : Nat} (h : dp_I K i j) (h1 : K i = 1) (hL : dp_L K (i + 1) p) (hp : p < j) :
    (K p = 2 → p + 1 = j) ∧ (K p ≠ 2 → ∃ p', dp_I K p p' ∧ p' < j ∧ dp_L K (i + 1) p') := by
  have e1 := dp_1 h1
  have hp2 := hL.2.1
  have hl := hL.1
  constructor
  · intro e
    exact dp_I_u (dp_I_w h1 hL e) h
  · intro e
    obtain ⟨p', a, b⟩ := dp_ex hp (by rw [h.2.1]; omega) e
    exact ⟨p', a, b, dp_L_t hL (dp_I_L a)⟩
end
/-! the skip function; lists of items -/
noncomputable def sk_f (K : Nat → Nat) (n i : Nat) : Nat := @dite Nat (∃ j, dp_I K i j) (Classical.propDecidable _) (fun h => Classical.choose h) (fun _ => if K i = 1 then n else i + 1)
theorem sk_I {K : Nat → Nat} {n i j : Nat} (h : dp_I K i j) : sk_f K n i = j := by
  have e : ∃ j, dp_I K i j := ⟨j, h⟩
  unfold sk_f
  rw [dif_pos e]
  exact dp_I_u (Classical.choose_spec e) h
theorem sk_IE {K : Nat → Nat} {n i j : Nat} (h : dp_I K i j) : dp_I K i (sk_f K n i) := by rw [sk_I h]; exact h
theorem sk_no {K : Nat → Nat} {n i : Nat} (h : ¬ ∃ j, dp_I K i j) (h1 : K i = 1) : sk_f K n i = n := by
  unfold sk_f
  rw [dif_neg h, if_pos h1]
theorem sk_at {K : Nat → Nat} {n i : Nat} (h1 : K i ≠ 1) : sk_f K n i = i + 1 := by
  by_cases h : ∃ j, dp_I K i j
  · obtain ⟨j, h⟩ := h
    rw [sk_I h, dp_I_at h h1]
  · unfold sk_f
    rw [dif_neg h, if_neg h1]
def it_f (a : Nat → Nat) : Nat → Nat → Nat
  | 0, p => p
  | k + 1, p => it_f a k (a p)
theorem it_s (a : Nat → Nat) : ∀ k p, it_f a (k + 1) p = a (it_f a k p)
  | 0, _ => rfl
  | k + 1, p => it_s a k (a p)
theorem it_add (a : Nat → Nat) : ∀ k m p, it_f a (k + m) p = it_f a m (it_f a k p)
  | 0, m, p => by rw [Nat.zero_add]; rfl
  | k + 1, m, p => by rw [Nat.add_right_comm]; exact it_add a k m (a p)
/-- the list from s has c items -/
def ls_C (K a : Nat → Nat) (s c : Nat) : Prop := (∀ j, j < c → K (it_f a j s) ≠ 2) ∧ K (it_f a c s) = 2
/-- p is an item of the list from s -/
def ls_M (K a : Nat → Nat) (s p : Nat) : Prop := ∃ j, p = it_f a j s ∧ ∀ j', j' ≤ j → K (it_f a j' s) ≠ 2
section
variable {K a : Nat → Nat}
theorem ls_C_u {s c c' : Nat} (h : ls_C K a s c) (h' : ls_C K a s c') : c = c' := by
  rcases Nat.lt_trichotomy c c' with z | z | z
  · exact absurd h.2 (h'.1 c z)
  · exact z
  · exact absurd h'.2 (h.1 c' z)
theorem ls_CM {s c p : Nat} (h : ls_C K a s c) : ls_M K a s p ↔ ∃ j, j < c ∧ p = it_f a j s := by
  constructor
  · rintro ⟨j, e, hj⟩
    refine ⟨j, ?_, e⟩
    rcases Nat.lt_or_ge j c with z | z
    · exact z
    · exact absurd h.2 (hj c z)
  · rintro ⟨j, hj, e⟩
    exact ⟨j, e, fun j' h' => h.1 j' (by omega)⟩
theorem ls_C_s {s c : Nat} (h1 : K s ≠ 2) (h : ls_C K a (a s) c) : ls_C K a s (c + 1) := by
  refine ⟨fun j hj => ?_, h.2⟩
  cases j with
  | zero => exact h1
  | succ j => exact h.1 j (by omega)
theorem ls_C_0 {s : Nat} (h : K s = 2) : ls_C K a s 0 := ⟨fun j hj => by omega, h⟩
theorem ls_C_t {s c : Nat} (h : ls_C K a s (c + 1)) : K s ≠ 2 ∧ ls_C K a (a s) c :=
  ⟨h.1 0 (by omega), fun j hj => h.1 (j + 1) (by omega), h.2⟩
theorem ls_C_z {s : Nat} (h : ls_C K a s 0) : K s = 2 := h.2
theorem ls_M_0 {s : Nat} (h : K s ≠ 2) : ls_M K a s s := ⟨0, rfl, fun j hj => by
  have : j = 0 := by omega
  subst this; exact h⟩
theorem ls_M_s {s p : Nat} (h1 : K s ≠ 2) (h : ls_M K a (a s) p) : ls_M K a s p := by
  obtain ⟨j, e, hj⟩ := h
  refine ⟨j + 1, e, fun j' h' => ?_⟩
  cases j' with
  | zero => exact h1
  | succ j' => exact hj j' (by omega)
theorem ls_M_c {s p : Nat} (h : ls_M K a s p) : K s ≠ 2 ∧ (p = s ∨ ls_M K a (a s) p) := by
  obtain ⟨j, e, hj⟩ := h
  refine ⟨hj 0 (by omega), ?_⟩
  cases j with
  | zero => exact Or.inl e
  | succ j => exact Or.inr ⟨j, e, fun j' h' => hj (j' + 1) (by omega)⟩
theorem ls_M_n2 {s p : Nat} (h : ls_M K a s p) : K p ≠ 2 := by
  obtain ⟨j, e, hj⟩ := h
  rw [e]; exact hj j (Nat.le_refl _)
/-- a list whose items are items: its span -/
theorem ls_L {s : Nat} : ∀ {c : Nat}, (∀ j, j < c → dp_I K (it_f a j s) (a (it_f a j s))) → dp_L K s (it_f a c s)
  | 0, _ => dp_L_r s
  | c + 1, h => by
    rw [it_s]
    exact dp_L_t (ls_L (fun j hj => h j (by omega))) (dp_I_L (h c (by omega)))
end
theorem ls_om {j p p' d : Nat} (a : j - p ≤ d + 1) (b : p < p') : j - p' ≤ d := by omega
theorem ls_om2 {c p p' j : Nat} (a : c + p' < j) (b : p < p') : c + 1 + p < j := by omega
/-- in a matched list every item is an item, and the list ends at its paren -/
theorem ls_ex {K : Nat → Nat} {n i j : Nat} (h : dp_I K i j) (h1 : K i = 1) : ∀ (d p : Nat), j - p ≤ d → dp_L K (i + 1) p → p < j →
    ∃ c, ls_C K (sk_f K n) p c ∧ it_f (sk_f K n) c p + 1 = j ∧ c + p < j ∧ (∀ x, x < c → dp_I K (it_f (sk_f K n) x p) (sk_f K n (it_f (sk_f K n) x p)))
  | 0, p, hd, _, hp => by omega
  | d + 1, p, hd, hL, hp => by
    have ex := dp_Iex h h1 hL hp
    by_cases z : K p = 2
    · exact ⟨0, ls_C_0 z, ex.1 z, by omega, fun x hx => by omega⟩
    · obtain ⟨p', a, b, c⟩ := ex.2 z
      have ha := a.1
      have e := sk_I (n := n) a
      obtain ⟨c', x1, x2, x3, x4⟩ := ls_ex (n := n) h h1 d p' (ls_om hd ha) c b
      refine ⟨c' + 1, ls_C_s z (by rw [e]; exact x1), ?_, ls_om2 x3 ha, fun x hx => ?_⟩
      · show it_f (sk_f K n) c' (sk_f K n p) + 1 = j
        rw [e]; exact x2
      · cases x with
        | zero => show dp_I K p (sk_f K n p); rw [e]; exact a
        | succ x =>
          show dp_I K (it_f (sk_f K n) x (sk_f K n p)) (sk_f K n (it_f (sk_f K n) x (sk_f K n p)))
          rw [e]; exact x4 x (by omega)
theorem ls_in {K : Nat → Nat} {n i j : Nat} (h : dp_I K i j) (h1 : K i = 1) :
    ∃ c, ls_C K (sk_f K n) (i + 1) c ∧ it_f (sk_f K n) c (i + 1) + 1 = j ∧ c + (i + 1) < j ∧ (∀ x, x < c → dp_I K (it_f (sk_f K n) x (i + 1)) (sk_f K n (it_f (sk_f K n) x (i + 1)))) :=
  ls_ex h h1 _ (i + 1) (Nat.le_refl _) (dp_L_r _) (dp_I_1 h h1)
end
section
/-! the grammar, by the places of its items -/
def gr_dup (V : Nat → Int32) (a : Nat → Nat) (st s : Nat) : Prop := ∃ k, k < 4 ∧ (∀ k', k' ≤ k → it_f a k' (st + 1) < s - 1) ∧ V (it_f a k (st + 1) + 1) = V s
def gr_BS (K : Nat → Nat) (V : Nat → Int32) (a : Nat → Nat) (h st b : Nat) : Prop := K b = 1 ∧ ls_C K a (b + 1) 2 ∧ K (b + 1) = 4 ∧ ¬ gr_dup V a st (b + 1) ∧ (h = 9 → K (b + 2) = 1 ∧ K (b + 3) = 7)
def gr_P (K : Nat → Nat) (V : Nat → Int32) (q c : Nat) : Prop := c ≤ 4 ∧ (∀ j, j < c → K (q + 1 + j) = 4) ∧ K (q + 1 + c) = 2 ∧ ∀ j j', j < j' → j' < c → V (q + 1 + j) ≠ V (q + 1 + j')
def gr_n (h : Nat) : Nat := if h = 10 then 3 else if h = 12 ∨ h = 13 ∨ h = 14 then 1 else 2
def gr_FS (K : Nat → Nat) (V : Nat → Int32) (a : Nat → Nat) (i h : Nat) : Prop :=
  (h = 6 ∧ ls_C K a (i + 2) 1) ∨
  (h = 7 ∧ ls_C K a (i + 2) 2 ∧ K (i + 2) = 1 ∧ ∃ c, gr_P K V (i + 2) c) ∨
  ((h = 8 ∨ h = 9) ∧ ls_C K a (i + 2) 2 ∧ K (i + 2) = 1 ∧ ∃ c, 1 ≤ c ∧ c ≤ 4 ∧ ls_C K a (i + 3) c ∧ ∀ j, j < c → gr_BS K V a h (i + 2) (it_f a j (i + 3))) ∨
  (10 ≤ h ∧ ls_C K a (i + 2) (gr_n h)) ∨
  (h < 6 ∧ ∃ c, c ≤ 4 ∧ ls_C K a (i + 1) (c + 1))
def gr_E (K a : Nat → Nat) (i c : Nat) : Prop := K i = 1 ∧ ((10 ≤ K (i + 1) ∧ ls_M K a (i + 2) c) ∨ (K (i + 1) < 6 ∧ ls_M K a (i + 1) c) ∨ (7 ≤ K (i + 1) ∧ K (i + 1) ≤ 9 ∧ c = a (i + 2)) ∨ ((K (i + 1) = 8 ∨ K (i + 1) = 9) ∧ ∃ b, ls_M K a (i + 3) b ∧ c = b + 2))
def gr_D (K a : Nat → Nat) (i c : Nat) : Prop := K i = 1 ∧ K (i + 1) = 6 ∧ ls_M K a (i + 2) c
def gr_N (K a : Nat → Nat) (i c : Nat) : Prop := K i = 1 ∧ ((K (i + 1) = 7 ∧ ls_M K a (i + 3) c) ∨ ((K (i + 1) = 8 ∨ K (i + 1) = 9) ∧ ∃ b, ls_M K a (i + 3) b ∧ c = b + 1))
def gr_SH (K : Nat → Nat) (V : Nat → Int32) (a : Nat → Nat) (i : Nat) : Prop := K i = 3 ∨ K i = 4 ∨ K i = 5 ∨ (K i = 1 ∧ gr_FS K V a i (K (i + 1)))
def gr_EC (K : Nat → Nat) (V : Nat → Int32) (a : Nat → Nat) (E D : Nat → Prop) (i : Nat) : Prop := gr_SH K V a i ∧ (∀ c, gr_E K a i c → E c) ∧ (∀ c, gr_D K a i c → D c)
def gr_DS (K a : Nat → Nat) (i : Nat) : Prop := K i = 3 ∨ K i = 5 ∨ (K i = 1 ∧ ∃ c, ls_C K a (i + 1) c)
def gr_DM (K a : Nat → Nat) (i c : Nat) : Prop := K i = 1 ∧ ls_M K a (i + 1) c
def gr_DC (K a : Nat → Nat) (D : Nat → Prop) (i : Nat) : Prop := gr_DS K a i ∧ ∀ c, gr_DM K a i c → D c
def gr_X (K : Nat → Nat) (V : Nat → Int32) (a : Nat → Nat) : Nat → Bool → Nat → Prop
  | 0, _, _ => False
  | k + 1, true, i => gr_EC K V a (gr_X K V a k true) (gr_X K V a k false) i
  | k + 1, false, i => gr_DC K a (gr_X K V a k false) i
theorem gr_X_up {K : Nat → Nat} {V : Nat → Int32} {a : Nat → Nat} : ∀ (k : Nat) (b : Bool) (i : Nat), gr_X K V a k b i → gr_X K V a (k + 1) b i
  | 0, _, _, h => False.elim h
  | k + 1, true, i, h => ⟨h.1, fun c hc => gr_X_up k true c (h.2.1 c hc), fun c hc => gr_X_up k false c (h.2.2 c hc)⟩
  | k + 1, false, i, h => ⟨h.1, fun c hc => gr_X_up k false c (h.2 c hc)⟩
section
variable {K : Nat → Nat} {V : Nat → Int32} {n : Nat}
theorem it_at {s : Nat} : ∀ {c : Nat}, (∀ j, j < c → K (s + j) ≠ 1) → it_f (sk_f K n) c s = s + c
  | 0, _ => rfl
  | c + 1, h => by
    rw [it_s, it_at (fun j hj => h j (by omega)), sk_at (h c (by omega))]
    omega
theorem gr_end {i s c : Nat} (h1 : K i = 1) (hL : dp_L K (i + 1) s) (hc : ls_C K (sk_f K n) s c) (hI : ∀ j, j < c → dp_I K (it_f (sk_f K n) j s) (sk_f K n (it_f (sk_f K n) j s))) : dp_I K i (it_f (sk_f K n) c s + 1) :=
  dp_I_w h1 (dp_L_t hL (ls_L hI)) hc.2
theorem gr_kw {i : Nat} (h : 6 ≤ K (i + 1)) : dp_L K (i + 1) (i + 2) := dp_I_L (dp_I_a (by omega) (by omega))
theorem gr_PI {q c : Nat} (h1 : K q = 1) (h : gr_P K V q c) : dp_I K q (q + 2 + c) := by
  obtain ⟨h4, hs, h2, hd⟩ := h
  have key : ∀ d, d ≤ c → dp_L K (q + 1) (q + 1 + d) := by
    intro d
    induction d with
    | zero => intro _; exact dp_L_r _
    | succ d ih =>
      intro hd
      have := hs d (by omega)
      exact dp_L_t (ih (by omega)) (dp_I_L (dp_I_a (by omega) (by omega)))
  have := dp_I_w h1 (key c (Nat.le_refl _)) h2
  rw [show q + 2 + c = q + 1 + c + 1 from by omega]
  exact this
theorem gr_Pa {q c : Nat} (h1 : K q = 1) (h : gr_P K V q c) : sk_f K n q = q + 2 + c := sk_I (gr_PI h1 h)
theorem gr_Pi {q c j : Nat} (h : gr_P K V q c) (hj : j ≤ c) : it_f (sk_f K n) j (q + 1) = q + 1 + j :=
  it_at (fun x hx => by have := h.2.1 x (by omega); omega)
theorem gr_PC {q c : Nat} (h : gr_P K V q c) : ls_C K (sk_f K n) (q + 1) c := by
  refine ⟨fun j hj => ?_, ?_⟩
  · rw [gr_Pi h (by omega)]
    have := h.2.1 j hj; omega
  · rw [gr_Pi h (Nat.le_refl _)]; exact h.2.2.1
/-- a bind -/
theorem gr_b1 {h st b : Nat} (hb : gr_BS K V (sk_f K n) h st b) : sk_f K n (b + 1) = b + 2 ∧ K (b + 2) ≠ 2 ∧ K (sk_f K n (b + 2)) = 2 := by
  obtain ⟨h1, h2, h3, h4, h5⟩ := hb
  have e : sk_f K n (b + 1) = b + 2 := sk_at (by omega)
  have t := (ls_C_t h2).2
  rw [e] at t
  have t2 := ls_C_t t
  exact ⟨e, t2.1, t2.2.2⟩
theorem gr_bI {h st b : Nat} (hb : gr_BS K V (sk_f K n) h st b) (hI : dp_I K (b + 2) (sk_f K n (b + 2))) : dp_I K b (sk_f K n (b + 2) + 1) := by
  have e := gr_b1 hb
  have h4 := hb.2.2.1
  exact dp_I_w hb.1 (dp_L_t (dp_I_L (dp_I_a (i := b + 1) (by omega) (by omega))) (dp_I_L hI)) e.2.2
theorem gr_ba {h st b : Nat} (hb : gr_BS K V (sk_f K n) h st b) (hI : dp_I K (b + 2) (sk_f K n (b + 2))) : sk_f K n b = sk_f K n (b + 2) + 1 := sk_I (gr_bI hb hI)
section
variable {E D : Nat → Prop}
/-- the binds of a LET: the list's end -/
theorem gr_LI {h st s c : Nat} (hb : ∀ j, j < c → gr_BS K V (sk_f K n) h st (it_f (sk_f K n) j s)) (hE : ∀ j, j < c → dp_I K (it_f (sk_f K n) j s + 2) (sk_f K n (it_f (sk_f K n) j s + 2))) (j : Nat) (hj : j < c) : dp_I K (it_f (sk_f K n) j s) (sk_f K n (it_f (sk_f K n) j s)) :=
  sk_IE (gr_bI (hb j hj) (hE j hj))
theorem gr_EI (hE : ∀ c, E c → dp_I K c (sk_f K n c)) (hD : ∀ c, D c → dp_I K c (sk_f K n c)) {i : Nat} (h : gr_EC K V (sk_f K n) E D i) : dp_I K i (sk_f K n i) := by
  obtain ⟨hs, he, hd⟩ := h
  rcases hs with z | z | z | ⟨h1, z⟩
  · exact sk_IE (dp_I_a (by omega) (by omega))
  · exact sk_IE (dp_I_a (by omega) (by omega))
  · exact sk_IE (dp_I_a (by omega) (by omega))
  · rcases z with ⟨k, l⟩ | ⟨k, l, k2, c, p⟩ | ⟨k, l, k2, c, c1, c4, lc, b⟩ | ⟨k, l⟩ | ⟨k, c, c4, l⟩
    · exact sk_IE (gr_end h1 (gr_kw (by omega)) l (fun j hj => hD _ (hd _ ⟨h1, k, (ls_CM l).mpr ⟨j, hj, rfl⟩⟩)))
    · refine sk_IE (gr_end h1 (gr_kw (by omega)) l (fun j hj => ?_))
      have e := gr_PI k2 p
      match j, hj with
      | 0, _ => exact sk_IE e
      | 1, _ => exact hE _ (he _ ⟨h1, Or.inr (Or.inr (Or.inl ⟨by omega, by omega, rfl⟩))⟩)
    · refine sk_IE (gr_end h1 (gr_kw (by omega)) l (fun j hj => ?_))
      have hb2 : ∀ j, j < c → dp_I K (it_f (sk_f K n) j (i + 3) + 2) (sk_f K n (it_f (sk_f K n) j (i + 3) + 2)) := fun j hj => hE _ (he _ ⟨h1, Or.inr (Or.inr (Or.inr ⟨k, _, (ls_CM lc).mpr ⟨j, hj, rfl⟩, rfl⟩))⟩)
      match j, hj with
      | 0, _ => exact sk_IE (gr_end (i := i + 2) k2 (dp_L_r _) lc (gr_LI b hb2))
      | 1, _ => exact hE _ (he _ ⟨h1, Or.inr (Or.inr (Or.inl ⟨by omega, by omega, rfl⟩))⟩)
    · exact sk_IE (gr_end h1 (gr_kw (by omega)) l (fun j hj => hE _ (he _ ⟨h1, Or.inl ⟨k, (ls_CM l).mpr ⟨j, hj, rfl⟩⟩⟩)))
    · exact sk_IE (gr_end h1 (dp_L_r _) l (fun j hj => hE _ (he _ ⟨h1, Or.inr (Or.inl ⟨k, (ls_CM l).mpr ⟨j, hj, rfl⟩⟩)⟩)))
theorem gr_DI (hD : ∀ c, D c → dp_I K c (sk_f K n c)) {i : Nat} (h : gr_DC K (sk_f K n) D i) : dp_I K i (sk_f K n i) := by
  obtain ⟨hs, hd⟩ := h
  rcases hs with z | z | ⟨h1, c, l⟩
  · exact sk_IE (dp_I_a (by omega) (by omega))
  · exact sk_IE (dp_I_a (by omega) (by omega))
  · exact sk_IE (gr_end h1 (dp_L_r _) l (fun j hj => hD _ (hd _ ⟨h1, (ls_CM l).mpr ⟨j, hj, rfl⟩⟩)))
end
theorem gr_XI : ∀ (k : Nat) (b : Bool) (i : Nat), gr_X K V (sk_f K n) k b i → dp_I K i (sk_f K n i)
  | 0, _, _, h => False.elim h
  | k + 1, true, i, h => gr_EI (fun c => gr_XI k true c) (fun c => gr_XI k false c) h
  | k + 1, false, i, h => gr_DI (fun c => gr_XI k false c) h
end
/-! the reference's goal machine, purely -/
def pm_C (K : Nat → Nat) (V : Nat → Int32) (a : Nat → Nat) (n : Nat) (E D N : Nat → Prop) : List (Nat × Nat × Nat) → Nat → Prop
  | [], p => p = n
  | (g, x, st) :: S, p =>
    (g = 1 ∧ E p ∧ pm_C K V a n E D N S (a p)) ∨
    (g = 2 ∧ D p ∧ pm_C K V a n E D N S (a p)) ∨
    (g = 3 ∧ ∃ c, ls_C K a p c ∧ (∀ j, j < c → D (it_f a j p)) ∧ pm_C K V a n E D N S (it_f a c p + 1)) ∨
    (g = 4 ∧ K p = 2 ∧ pm_C K V a n E D N S (p + 1)) ∨
    (g = 8 ∧ ∃ c, (c = 0 ∨ x + c ≤ 4) ∧ ls_C K a p c ∧ (∀ j, j < c → E (it_f a j p)) ∧ pm_C K V a n E D N S (it_f a c p)) ∨
    ((g = 5 ∨ g = 6) ∧ ∃ c, 0 < x + c ∧ (c = 0 ∨ x + c ≤ 4) ∧ ls_C K a p c ∧ (∀ j, j < c → gr_BS K V a (g + 3) st (it_f a j p) ∧ N (it_f a j p + 1) ∧ E (it_f a j p + 2)) ∧ pm_C K V a n E D N S (it_f a c p + 1)) ∨
    (g = 7 ∧ K p = 1 ∧ K (p + 1) = 7 ∧ E p ∧ pm_C K V a n E D N S (a p))
def pm_T (K : Nat → Nat) (V : Nat → Int32) (a : Nat → Nat) (p g x st p' : Nat) (new : List (Nat × Nat × Nat)) : Prop :=
  (g = 4 ∧ K p = 2 ∧ p' = p + 1 ∧ new = []) ∨
  (g = 3 ∧ K p = 2 ∧ p' = p + 1 ∧ new = []) ∨
  (g = 3 ∧ K p ≠ 2 ∧ p' = p ∧ new = [(2, 0, 0), (3, 0, 0)]) ∨
  (g = 2 ∧ K p = 1 ∧ p' = p + 1 ∧ new = [(3, 0, 0)]) ∨
  (g = 2 ∧ (K p = 3 ∨ K p = 5) ∧ p' = p + 1 ∧ new = []) ∨
  (g = 8 ∧ K p = 2 ∧ p' = p ∧ new = []) ∨
  (g = 8 ∧ K p ≠ 2 ∧ x < 4 ∧ p' = p ∧ new = [(1, 0, 0), (8, x + 1, 0)]) ∨
  ((g = 5 ∨ g = 6) ∧ K p = 2 ∧ 0 < x ∧ p' = p + 1 ∧ new = []) ∨
  ((g = 5 ∨ g = 6) ∧ K p = 1 ∧ x < 4 ∧ K (p + 1) = 4 ∧ ¬ gr_dup V a st (p + 1) ∧ p' = p + 2 ∧ new = [(if g = 5 then 1 else 7, 0, 0), (4, 0, 0), (g, x + 1, st)]) ∨
  ((g = 7 ∨ g = 1) ∧ K p = 1 ∧ K (p + 1) = 7 ∧ K (p + 2) = 1 ∧ ∃ c, gr_P K V (p + 2) c ∧ p' = p + 4 + c ∧ new = [(1, 0, 0), (4, 0, 0)]) ∨
  (g = 1 ∧ (K p = 3 ∨ K p = 4 ∨ K p = 5) ∧ p' = p + 1 ∧ new = []) ∨
  (g = 1 ∧ K p = 1 ∧ (K (p + 1) = 8 ∨ K (p + 1) = 9) ∧ K (p + 2) = 1 ∧ p' = p + 3 ∧ new = [(K (p + 1) - 3, 0, p + 2), (1, 0, 0), (4, 0, 0)]) ∨
  (g = 1 ∧ K p = 1 ∧ K (p + 1) < 6 ∧ p' = p + 1 ∧ new = [(1, 0, 0), (8, 0, 0), (4, 0, 0)]) ∨
  (g = 1 ∧ K p = 1 ∧ K (p + 1) = 6 ∧ p' = p + 2 ∧ new = [(2, 0, 0), (4, 0, 0)]) ∨
  (g = 1 ∧ K p = 1 ∧ 10 ≤ K (p + 1) ∧ p' = p + 2 ∧ new = List.replicate (gr_n (K (p + 1))) (1, 0, 0) ++ [(4, 0, 0)])
section
variable {K : Nat → Nat} {V : Nat → Int32} {n : Nat} {E D N : Nat → Prop}
theorem pm_C1 {x st : Nat} {S : List (Nat × Nat × Nat)} {p : Nat} : pm_C K V (sk_f K n) n E D N ((1, x, st) :: S) p ↔ E p ∧ pm_C K V (sk_f K n) n E D N S (sk_f K n p) := by simp [pm_C]
theorem pm_C2 {x st : Nat} {S : List (Nat × Nat × Nat)} {p : Nat} : pm_C K V (sk_f K n) n E D N ((2, x, st) :: S) p ↔ D p ∧ pm_C K V (sk_f K n) n E D N S (sk_f K n p) := by simp [pm_C]
theorem pm_C3 {x st : Nat} {S : List (Nat × Nat × Nat)} {p : Nat} : pm_C K V (sk_f K n) n E D N ((3, x, st) :: S) p ↔ ∃ c, ls_C K (sk_f K n) p c ∧ (∀ j, j < c → D (it_f (sk_f K n) j p)) ∧ pm_C K V (sk_f K n) n E D N S (it_f (sk_f K n) c p + 1) := by simp [pm_C]
theorem pm_C4 {x st : Nat} {S : List (Nat × Nat × Nat)} {p : Nat} : pm_C K V (sk_f K n) n E D N ((4, x, st) :: S) p ↔ K p = 2 ∧ pm_C K V (sk_f K n) n E D N S (p + 1) := by simp [pm_C]
theorem pm_C8 {x st : Nat} {S : List (Nat × Nat × Nat)} {p : Nat} : pm_C K V (sk_f K n) n E D N ((8, x, st) :: S) p ↔ ∃ c, (c = 0 ∨ x + c ≤ 4) ∧ ls_C K (sk_f K n) p c ∧ (∀ j, j < c → E (it_f (sk_f K n) j p)) ∧ pm_C K V (sk_f K n) n E D N S (it_f (sk_f K n) c p) := by simp [pm_C]
theorem pm_C56 {g x st : Nat} {S : List (Nat × Nat × Nat)} {p : Nat} (hg : g = 5 ∨ g = 6) : pm_C K V (sk_f K n) n E D N ((g, x, st) :: S) p ↔ ∃ c, 0 < x + c ∧ (c = 0 ∨ x + c ≤ 4) ∧ ls_C K (sk_f K n) p c ∧ (∀ j, j < c → gr_BS K V (sk_f K n) (g + 3) st (it_f (sk_f K n) j p) ∧ N (it_f (sk_f K n) j p + 1) ∧ E (it_f (sk_f K n) j p + 2)) ∧ pm_C K V (sk_f K n) n E D N S (it_f (sk_f K n) c p + 1) := by
  rcases hg with rfl | rfl <;> simp [pm_C]
theorem pm_C7 {x st : Nat} {S : List (Nat × Nat × Nat)} {p : Nat} : pm_C K V (sk_f K n) n E D N ((7, x, st) :: S) p ↔ K p = 1 ∧ K (p + 1) = 7 ∧ E p ∧ pm_C K V (sk_f K n) n E D N S (sk_f K n p) := by simp [pm_C]
theorem pm_Cr {S : List (Nat × Nat × Nat)} : ∀ {m p : Nat}, pm_C K V (sk_f K n) n E D N (List.replicate m (1, 0, 0) ++ S) p ↔ (∀ j, j < m → E (it_f (sk_f K n) j p)) ∧ pm_C K V (sk_f K n) n E D N S (it_f (sk_f K n) m p)
  | 0, p => by
    constructor
    · intro h; exact ⟨fun j hj => by omega, h⟩
    · intro h; exact h.2
  | m + 1, p => by
    show pm_C K V (sk_f K n) n E D N ((1, 0, 0) :: (List.replicate m (1, 0, 0) ++ S)) p ↔ _
    rw [pm_C1, pm_Cr]
    constructor
    · rintro ⟨h1, h2, h3⟩
      refine ⟨fun j hj => ?_, h3⟩
      cases j with
      | zero => exact h1
      | succ j => exact h2 j (by omega)
    · rintro ⟨h1, h2⟩
      exact ⟨h1 0 (by omega), fun j hj => h1 (j + 1) (by omega), h2⟩
theorem pm_Cm {E' D' : Nat → Prop} (hE : ∀ c, E c → E' c) (hD : ∀ c, D c → D' c) : ∀ (S : List (Nat × Nat × Nat)) (p : Nat), pm_C K V (sk_f K n) n E D N S p → pm_C K V (sk_f K n) n E' D' N S p
  | [], p, h => h
  | (g, x, st) :: S, p, h => by
    rcases h with ⟨e, h1, h2⟩ | ⟨e, h1, h2⟩ | ⟨e, c, h0, h1, h2⟩ | ⟨e, h1, h2⟩ | ⟨e, c, hx, h0, h1, h2⟩ | ⟨e, c, hx, hy, h0, h1, h2⟩ | ⟨e, h0, h3, h1, h2⟩
    · exact Or.inl ⟨e, hE _ h1, pm_Cm hE hD S _ h2⟩
    · exact Or.inr (Or.inl ⟨e, hD _ h1, pm_Cm hE hD S _ h2⟩)
    · exact Or.inr (Or.inr (Or.inl ⟨e, c, h0, fun j hj => hD _ (h1 j hj), pm_Cm hE hD S _ h2⟩))
    · exact Or.inr (Or.inr (Or.inr (Or.inl ⟨e, h1, pm_Cm hE hD S _ h2⟩)))
    · exact Or.inr (Or.inr (Or.inr (Or.inr (Or.inl ⟨e, c, hx, h0, fun j hj => hE _ (h1 j hj), pm_Cm hE hD S _ h2⟩))))
    · exact Or.inr (Or.inr (Or.inr (Or.inr (Or.inr (Or.inl ⟨e, c, hx, hy, h0, fun j hj => ⟨(h1 j hj).1, (h1 j hj).2.1, hE _ (h1 j hj).2.2⟩, pm_Cm hE hD S _ h2⟩)))))
    · exact Or.inr (Or.inr (Or.inr (Or.inr (Or.inr (Or.inr ⟨e, h0, h3, hE _ h1, pm_Cm hE hD S _ h2⟩)))))
end
end
section
section
variable {K : Nat → Nat} {V : Nat → Int32} {n : Nat} {E D N : Nat → Prop}
theorem pm_Flam (hE : ∀ p, E p → gr_EC K V (sk_f K n) E D p) (hEI : ∀ c, E c → dp_I K c (sk_f K n c)) {S : List (Nat × Nat × Nat)} {p : Nat} (h1 : K p = 1) (h7 : K (p + 1) = 7) (hp : E p) (h : pm_C K V (sk_f K n) n E D N S (sk_f K n p)) :
    K (p + 2) = 1 ∧ ∃ c, gr_P K V (p + 2) c ∧ pm_C K V (sk_f K n) n E D N ([(1, 0, 0), (4, 0, 0)] ++ S) (p + 4 + c) := by
  obtain ⟨hs, he, hd⟩ := hE p hp
  rcases hs with z | z | z | ⟨_, z⟩
  · omega
  · omega
  · omega
  · rcases z with ⟨k, l⟩ | ⟨k, l, k2, c, q⟩ | ⟨k, l, k2, c, c1, c4, lc, b⟩ | ⟨k, l⟩ | ⟨k, c, c4, l⟩
    · omega
    · refine ⟨k2, c, q, ?_⟩
      have e : sk_f K n (p + 2) = p + 4 + c := (gr_Pa k2 q).trans (by omega)
      have hb : E (p + 4 + c) := by rw [← e]; exact he _ ⟨h1, Or.inr (Or.inr (Or.inl ⟨by omega, by omega, rfl⟩))⟩
      have t := (ls_C_t l).2
      rw [e] at t
      have t2 := (ls_C_t t).2
      show pm_C K V (sk_f K n) n E D N ((1, 0, 0) :: (4, 0, 0) :: S) (p + 4 + c)
      rw [pm_C1, pm_C4]
      refine ⟨hb, t2.2, ?_⟩
      have ea : sk_f K n p = sk_f K n (p + 4 + c) + 1 := sk_I (dp_I_w h1 (dp_L_t (gr_kw (by omega)) (dp_L_t (dp_I_L (gr_PI k2 q)) (by rw [show p + 2 + 2 + c = p + 4 + c from by omega]; exact dp_I_L (hEI _ hb)))) t2.2)
      rw [← ea]; exact h
    · omega
    · omega
    · omega
theorem pm_Flet (hE : ∀ p, E p → gr_EC K V (sk_f K n) E D p) (hN : ∀ p, E p → ∀ c, gr_N K (sk_f K n) p c → N c) (hEI : ∀ c, E c → dp_I K c (sk_f K n c)) {S : List (Nat × Nat × Nat)} {p : Nat} (h1 : K p = 1) (h8 : K (p + 1) = 8 ∨ K (p + 1) = 9) (hp : E p) (h : pm_C K V (sk_f K n) n E D N S (sk_f K n p)) :
    K (p + 2) = 1 ∧ pm_C K V (sk_f K n) n E D N ((K (p + 1) - 3, 0, p + 2) :: (1, 0, 0) :: (4, 0, 0) :: S) (p + 3) := by
  obtain ⟨hs, he, hd⟩ := hE p hp
  rcases hs with z | z | z | ⟨_, z⟩
  · omega
  · omega
  · omega
  · rcases z with ⟨k, l⟩ | ⟨k, l, k2, c, q⟩ | ⟨k, l, k2, c, c1, c4, lc, b⟩ | ⟨k, l⟩ | ⟨k, c, c4, l⟩
    · omega
    · omega
    · refine ⟨k2, ?_⟩
      have hb2 : ∀ j, j < c → E (it_f (sk_f K n) j (p + 3) + 2) := fun j hj => he _ ⟨h1, Or.inr (Or.inr (Or.inr ⟨k, _, (ls_CM lc).mpr ⟨j, hj, rfl⟩, rfl⟩))⟩
      have hI := gr_LI b (fun j hj => hEI _ (hb2 j hj))
      have eI := gr_end (i := p + 2) k2 (dp_L_r _) lc hI
      have e := sk_I (n := n) eI
      have hb : E (sk_f K n (p + 2)) := he _ ⟨h1, Or.inr (Or.inr (Or.inl ⟨by omega, by omega, rfl⟩))⟩
      have t2 := (ls_C_t (ls_C_t l).2).2
      rw [pm_C56 (by omega)]
      refine ⟨c, by omega, by omega, lc, fun j hj => ⟨?_, hN p hp _ ⟨h1, Or.inr ⟨k, _, (ls_CM lc).mpr ⟨j, hj, rfl⟩, rfl⟩⟩, hb2 j hj⟩, ?_⟩
      · rw [show K (p + 1) - 3 + 3 = K (p + 1) from by omega]; exact b j hj
      · rw [← e, pm_C1, pm_C4]
        refine ⟨hb, t2.2, ?_⟩
        have ea : sk_f K n p = sk_f K n (sk_f K n (p + 2)) + 1 := sk_I (dp_I_w h1 (dp_L_t (gr_kw (by omega)) (dp_L_t (dp_I_L (sk_IE eI)) (dp_I_L (hEI _ hb)))) t2.2)
        rw [← ea]; exact h
    · omega
    · omega
theorem pm_F (hE : ∀ p, E p → gr_EC K V (sk_f K n) E D p) (hN : ∀ p, E p → ∀ c, gr_N K (sk_f K n) p c → N c) (hD : ∀ p, D p → gr_DC K (sk_f K n) D p) (hEI : ∀ c, E c → dp_I K c (sk_f K n c)) (hDI : ∀ c, D c → dp_I K c (sk_f K n c))
    {g x st : Nat} {S : List (Nat × Nat × Nat)} {p : Nat} (h : pm_C K V (sk_f K n) n E D N ((g, x, st) :: S) p) :
    K p ≠ 0 ∧ ∃ p' new, pm_T K V (sk_f K n) p g x st p' new ∧ pm_C K V (sk_f K n) n E D N (new ++ S) p' := by
  rcases h with ⟨rfl, h1, h2⟩ | ⟨rfl, h1, h2⟩ | ⟨rfl, c, h0, h1, h2⟩ | ⟨rfl, h1, h2⟩ | ⟨rfl, c, hx, h0, h1, h2⟩ | ⟨e, c, hx, hy, h0, h1, h2⟩ | ⟨rfl, h0, h3, h1, h2⟩
  · have hh := hE p h1
    obtain ⟨hs, he, hd⟩ := hh
    have atom : (K p = 3 ∨ K p = 4 ∨ K p = 5) → K p ≠ 0 ∧ ∃ p' new, pm_T K V (sk_f K n) p 1 x st p' new ∧ pm_C K V (sk_f K n) n E D N (new ++ S) p' := by
      intro z
      refine ⟨by omega, p + 1, [], ?_, ?_⟩
      · simp [pm_T, z]
      · rw [← sk_at (K := K) (n := n) (show K p ≠ 1 by omega)]; exact h2
    rcases hs with z | z | z | ⟨k1, z⟩
    · exact atom (by omega)
    · exact atom (by omega)
    · exact atom (by omega)
    · refine ⟨by omega, ?_⟩
      rcases z with ⟨k, l⟩ | ⟨k, l, k2, c, q⟩ | ⟨k, l, k2, c, c1, c4, lc, b⟩ | ⟨k, l⟩ | ⟨k, c, c4, l⟩
      · have t := ls_C_t l
        have hb : D (p + 2) := hd _ ⟨k1, k, ls_M_0 t.1⟩
        refine ⟨p + 2, [(2, 0, 0), (4, 0, 0)], by simp [pm_T, k1, k], ?_⟩
        show pm_C K V (sk_f K n) n E D N ((2, 0, 0) :: (4, 0, 0) :: S) (p + 2)
        rw [pm_C2, pm_C4]
        refine ⟨hb, t.2.2, ?_⟩
        have ea : sk_f K n p = sk_f K n (p + 2) + 1 := sk_I (dp_I_w k1 (dp_L_t (gr_kw (by omega)) (dp_I_L (hDI _ hb))) t.2.2)
        rw [← ea]; exact h2
      · obtain ⟨_, c, q, w⟩ := pm_Flam hE hEI k1 k h1 h2
        exact ⟨p + 4 + c, [(1, 0, 0), (4, 0, 0)], Or.inr (Or.inr (Or.inr (Or.inr (Or.inr (Or.inr (Or.inr (Or.inr (Or.inr (Or.inl ⟨Or.inr rfl, k1, k, k2, c, q, rfl, rfl⟩))))))))), w⟩
      · obtain ⟨_, w⟩ := pm_Flet hE hN hEI k1 k h1 h2
        refine ⟨p + 3, [(K (p + 1) - 3, 0, p + 2), (1, 0, 0), (4, 0, 0)], ?_, w⟩
        unfold pm_T
        exact Or.inr (Or.inr (Or.inr (Or.inr (Or.inr (Or.inr (Or.inr (Or.inr (Or.inr (Or.inr (Or.inr (Or.inl ⟨rfl, k1, k, k2, rfl, rfl⟩)))))))))))
      · refine ⟨p + 2, List.replicate (gr_n (K (p + 1))) (1, 0, 0) ++ [(4, 0, 0)], ?_, ?_⟩
        · unfold pm_T
          exact Or.inr (Or.inr (Or.inr (Or.inr (Or.inr (Or.inr (Or.inr (Or.inr (Or.inr (Or.inr (Or.inr (Or.inr (Or.inr (Or.inr ⟨rfl, k1, k, rfl, rfl⟩)))))))))))))
        · rw [List.append_assoc, pm_Cr]
          have hc : ∀ j, j < gr_n (K (p + 1)) → E (it_f (sk_f K n) j (p + 2)) := fun j hj => he _ ⟨k1, Or.inl ⟨k, (ls_CM l).mpr ⟨j, hj, rfl⟩⟩⟩
          refine ⟨hc, ?_⟩
          show pm_C K V (sk_f K n) n E D N ((4, 0, 0) :: S) _
          rw [pm_C4]
          refine ⟨l.2, ?_⟩
          rw [← sk_I (n := n) (gr_end k1 (gr_kw (by omega)) l (fun j hj => hEI _ (hc j hj)))]
          exact h2
      · refine ⟨p + 1, [(1, 0, 0), (8, 0, 0), (4, 0, 0)], by simp [pm_T, k1, k], ?_⟩
        have hc : ∀ j, j < c + 1 → E (it_f (sk_f K n) j (p + 1)) := fun j hj => he _ ⟨k1, Or.inr (Or.inl ⟨k, (ls_CM l).mpr ⟨j, hj, rfl⟩⟩)⟩
        show pm_C K V (sk_f K n) n E D N ((1, 0, 0) :: (8, 0, 0) :: (4, 0, 0) :: S) (p + 1)
        rw [pm_C1, pm_C8]
        refine ⟨hc 0 (by omega), c, by omega, (ls_C_t l).2, fun j hj => hc (j + 1) (by omega), ?_⟩
        rw [pm_C4]
        refine ⟨l.2, ?_⟩
        have ea := sk_I (n := n) (gr_end k1 (dp_L_r _) l (fun j hj => hEI _ (hc j hj)))
        show pm_C K V (sk_f K n) n E D N S (it_f (sk_f K n) (c + 1) (p + 1) + 1)
        rw [← ea]
        exact h2
  · obtain ⟨hs, hd⟩ := hD p h1
    rcases hs with z | z | ⟨k1, c, l⟩
    · refine ⟨by omega, p + 1, [], by simp [pm_T, z], ?_⟩
      rw [← sk_at (K := K) (n := n) (show K p ≠ 1 by omega)]; exact h2
    · refine ⟨by omega, p + 1, [], by simp [pm_T, z], ?_⟩
      rw [← sk_at (K := K) (n := n) (show K p ≠ 1 by omega)]; exact h2
    · refine ⟨by omega, p + 1, [(3, 0, 0)], by simp [pm_T, k1], ?_⟩
      have hc : ∀ j, j < c → D (it_f (sk_f K n) j (p + 1)) := fun j hj => hd _ ⟨k1, (ls_CM l).mpr ⟨j, hj, rfl⟩⟩
      show pm_C K V (sk_f K n) n E D N ((3, 0, 0) :: S) (p + 1)
      rw [pm_C3]
      refine ⟨c, l, hc, ?_⟩
      rw [← sk_I (n := n) (gr_end k1 (dp_L_r _) l (fun j hj => hDI _ (hc j hj)))]
      exact h2
  · cases c with
    | zero =>
      have z : K p = 2 := h0.2
      exact ⟨by omega, p + 1, [], by simp [pm_T, z], h2⟩
    | succ c =>
      have t := ls_C_t h0
      have d := h1 0 (by omega)
      have d2 := (hD _ d).1
      have z : K p ≠ 0 := by
        change gr_DS K (sk_f K n) p at d2
        rcases d2 with z | z | ⟨z, _⟩ <;> omega
      refine ⟨z, p, [(2, 0, 0), (3, 0, 0)], by simp [pm_T, t.1], ?_⟩
      show pm_C K V (sk_f K n) n E D N ((2, 0, 0) :: (3, 0, 0) :: S) p
      rw [pm_C2, pm_C3]
      exact ⟨d, c, t.2, fun j hj => h1 (j + 1) (by omega), h2⟩
  · exact ⟨by omega, p + 1, [], by simp [pm_T, h1], h2⟩
  · cases c with
    | zero =>
      have z : K p = 2 := h0.2
      exact ⟨by omega, p, [], by simp [pm_T, z], h2⟩
    | succ c =>
      have t := ls_C_t h0
      have d := h1 0 (by omega)
      have d2 := (hE _ d).1
      have z : K p ≠ 0 := by
        change gr_SH K V (sk_f K n) p at d2
        rcases d2 with z | z | z | ⟨z, _⟩ <;> omega
      have x4 : x < 4 := by omega
      refine ⟨z, p, [(1, 0, 0), (8, x + 1, 0)], by simp [pm_T, t.1, x4], ?_⟩
      show pm_C K V (sk_f K n) n E D N ((1, 0, 0) :: (8, x + 1, 0) :: S) p
      rw [pm_C1, pm_C8]
      exact ⟨d, c, by omega, t.2, fun j hj => h1 (j + 1) (by omega), h2⟩
  · cases c with
    | zero =>
      have z : K p = 2 := h0.2
      have x0 : 0 < x := by omega
      exact ⟨by omega, p + 1, [], by simp [pm_T, z, e, x0], h2⟩
    | succ c =>
      have t := ls_C_t h0
      obtain ⟨b, _, d⟩ := h1 0 (by omega)
      change gr_BS K V (sk_f K n) (g + 3) st p at b
      change E (p + 2) at d
      have b1 := gr_b1 b
      have ba := gr_ba b (hEI _ d)
      have bb := b
      obtain ⟨y1, y2, y3, y4, y5⟩ := bb
      have x4 : x < 4 := by omega
      refine ⟨by omega, p + 2, [(if g = 5 then 1 else 7, 0, 0), (4, 0, 0), (g, x + 1, st)], ?_, ?_⟩
      · unfold pm_T
        exact Or.inr (Or.inr (Or.inr (Or.inr (Or.inr (Or.inr (Or.inr (Or.inr (Or.inl ⟨e, y1, x4, y3, y4, rfl, rfl⟩))))))))
      · have rest : pm_C K V (sk_f K n) n E D N ((4, 0, 0) :: (g, x + 1, st) :: S) (sk_f K n (p + 2)) := by
          rw [pm_C4, pm_C56 e]
          refine ⟨b1.2.2, c, by omega, by omega, ?_, fun j hj => ?_, ?_⟩
          · rw [← ba]; exact t.2
          · rw [← ba]; exact h1 (j + 1) (by omega)
          · rw [← ba]; exact h2
        rcases e with rfl | rfl
        · exact pm_C1.mpr ⟨d, rest⟩
        · exact pm_C7.mpr ⟨(y5 rfl).1, (y5 rfl).2, d, rest⟩
  · obtain ⟨k2, c, q, w⟩ := pm_Flam hE hEI h0 h3 h1 h2
    exact ⟨by omega, p + 4 + c, [(1, 0, 0), (4, 0, 0)], Or.inr (Or.inr (Or.inr (Or.inr (Or.inr (Or.inr (Or.inr (Or.inr (Or.inr (Or.inl ⟨Or.inl rfl, h0, h3, k2, c, q, rfl, rfl⟩))))))))), w⟩
end
end
section
section
variable {K : Nat → Nat} {V : Nat → Int32} {n : Nat} {E D E' D' N : Nat → Prop}
theorem pm_B (hNt : ∀ c, N c) (hE : ∀ p, gr_EC K V (sk_f K n) E D p → E' p) (hD : ∀ p, gr_DC K (sk_f K n) D p → D' p) (hm : ∀ c, E c → E' c) (hn : ∀ c, D c → D' c) (hEI : ∀ c, E c → dp_I K c (sk_f K n c)) (hDI : ∀ c, D c → dp_I K c (sk_f K n c))
    {g x st : Nat} {S : List (Nat × Nat × Nat)} {p p' : Nat} {new : List (Nat × Nat × Nat)} (t : pm_T K V (sk_f K n) p g x st p' new) (h : pm_C K V (sk_f K n) n E D N (new ++ S) p') :
    pm_C K V (sk_f K n) n E' D' N ((g, x, st) :: S) p := by
  have lam : K p = 1 → K (p + 1) = 7 → K (p + 2) = 1 → ∀ c, gr_P K V (p + 2) c → pm_C K V (sk_f K n) n E D N ((1, 0, 0) :: (4, 0, 0) :: S) (p + 4 + c) → E' p ∧ pm_C K V (sk_f K n) n E' D' N S (sk_f K n p) := by
    intro k1 k7 k2 c q w
    rw [pm_C1, pm_C4] at w
    obtain ⟨w1, w2, w3⟩ := w
    have e : sk_f K n (p + 2) = p + 4 + c := (gr_Pa k2 q).trans (by omega)
    have n2 := dp_I_n2 (hEI _ w1)
    constructor
    · refine hE p ⟨Or.inr (Or.inr (Or.inr ⟨k1, Or.inr (Or.inl ⟨k7, ?_, k2, c, q⟩)⟩)), fun y hy => ?_, fun y hy => ?_⟩
      · refine ls_C_s (by omega) ?_
        rw [e]
        exact ls_C_s n2 (ls_C_0 w2)
      · obtain ⟨_, hy⟩ := hy
        rcases hy with ⟨z, _⟩ | ⟨z, _⟩ | ⟨_, _, z⟩ | ⟨z, _⟩
        · omega
        · omega
        · rw [z, e]; exact w1
        · omega
      · have := hy.2.1; omega
    · have ea : sk_f K n p = sk_f K n (p + 4 + c) + 1 := sk_I (dp_I_w k1 (dp_L_t (gr_kw (by omega)) (dp_L_t (dp_I_L (gr_PI k2 q)) (by rw [show p + 2 + 2 + c = p + 4 + c from by omega]; exact dp_I_L (hEI _ w1)))) w2)
      rw [ea]; exact pm_Cm hm hn S _ w3
  rcases t with ⟨rfl, z, rfl, rfl⟩ | ⟨rfl, z, rfl, rfl⟩ | ⟨rfl, z, rfl, rfl⟩ | ⟨rfl, z, rfl, rfl⟩ | ⟨rfl, z, rfl, rfl⟩ | ⟨rfl, z, rfl, rfl⟩ | ⟨rfl, z, x4, rfl, rfl⟩ | ⟨hg, z, x0, rfl, rfl⟩ | ⟨hg, z, x4, z1, nd, rfl, rfl⟩ | ⟨hg, k1, k7, k2, c, q, rfl, rfl⟩ | ⟨rfl, z, rfl, rfl⟩ | ⟨rfl, k1, k, k2, rfl, rfl⟩ | ⟨rfl, k1, k, rfl, rfl⟩ | ⟨rfl, k1, k, rfl, rfl⟩ | ⟨rfl, k1, k, rfl, rfl⟩
  · exact pm_C4.mpr ⟨z, pm_Cm hm hn S _ h⟩
  · exact pm_C3.mpr ⟨0, ls_C_0 z, fun j hj => by omega, pm_Cm hm hn S _ h⟩
  · replace h := pm_C2.mp h
    obtain ⟨h1, h2⟩ := h
    obtain ⟨c, l, hd, h3⟩ := pm_C3.mp h2
    refine pm_C3.mpr ⟨c + 1, ls_C_s z l, fun j hj => ?_, pm_Cm hm hn S _ h3⟩
    cases j with
    | zero => exact hn _ h1
    | succ j => exact hn _ (hd j (by omega))
  · obtain ⟨c, l, hd, h3⟩ := pm_C3.mp h
    refine pm_C2.mpr ⟨hD p ⟨Or.inr (Or.inr ⟨z, c, l⟩), fun y hy => ?_⟩, ?_⟩
    · obtain ⟨j, hj, e⟩ := (ls_CM l).mp hy.2
      rw [e]; exact hd j hj
    · rw [sk_I (n := n) (gr_end z (dp_L_r _) l (fun j hj => hDI _ (hd j hj)))]
      exact pm_Cm hm hn S _ h3
  · refine pm_C2.mpr ⟨hD p ⟨by unfold gr_DS; omega, fun y hy => ?_⟩, ?_⟩
    · have := hy.1; omega
    · rw [sk_at (K := K) (n := n) (by omega)]; exact pm_Cm hm hn S _ h
  · exact pm_C8.mpr ⟨0, Or.inl rfl, ls_C_0 z, fun j hj => by omega, pm_Cm hm hn S _ h⟩
  · replace h := pm_C1.mp h
    obtain ⟨h1, h2⟩ := h
    obtain ⟨c, hx, l, hd, h3⟩ := pm_C8.mp h2
    refine pm_C8.mpr ⟨c + 1, by omega, ls_C_s z l, fun j hj => ?_, pm_Cm hm hn S _ h3⟩
    cases j with
    | zero => exact hm _ h1
    | succ j => exact hm _ (hd j (by omega))
  · exact (pm_C56 hg).mpr ⟨0, by omega, Or.inl rfl, ls_C_0 z, fun j hj => by omega, pm_Cm hm hn S _ h⟩
  · have hh : E (p + 2) ∧ (g = 6 → K (p + 2) = 1 ∧ K (p + 3) = 7) ∧ pm_C K V (sk_f K n) n E D N ((4, 0, 0) :: (g, x + 1, st) :: S) (sk_f K n (p + 2)) := by
      rcases hg with rfl | rfl
      · have w := pm_C1.mp h
        exact ⟨w.1, fun y => by omega, w.2⟩
      · have w := pm_C7.mp h
        exact ⟨w.2.2.1, fun y => ⟨w.1, w.2.1⟩, w.2.2.2⟩
    obtain ⟨h1, h6, h2⟩ := hh
    obtain ⟨h3, h4⟩ := pm_C4.mp h2
    obtain ⟨c, hx, hy, l, hd, h5⟩ := (pm_C56 hg).mp h4
    have e1 : sk_f K n (p + 1) = p + 2 := sk_at (by omega)
    have b : gr_BS K V (sk_f K n) (g + 3) st p := by
      refine ⟨z, ls_C_s (by omega) ?_, z1, nd, fun y => h6 (by omega)⟩
      rw [e1]
      exact ls_C_s (dp_I_n2 (hEI _ h1)) (ls_C_0 h3)
    have ba := gr_ba b (hEI _ h1)
    refine (pm_C56 hg).mpr ⟨c + 1, by omega, by omega, ls_C_s (by omega) (by rw [ba]; exact l), fun j hj => ?_, ?_⟩
    · cases j with
      | zero => exact ⟨b, hNt _, hm _ h1⟩
      | succ j =>
        show gr_BS K V (sk_f K n) (g + 3) st (it_f (sk_f K n) j (sk_f K n p)) ∧ N (it_f (sk_f K n) j (sk_f K n p) + 1) ∧ E' (it_f (sk_f K n) j (sk_f K n p) + 2)
        rw [ba]
        exact ⟨(hd j (by omega)).1, hNt _, hm _ (hd j (by omega)).2.2⟩
    · show pm_C K V (sk_f K n) n E' D' N S (it_f (sk_f K n) c (sk_f K n p) + 1)
      rw [ba]; exact pm_Cm hm hn S _ h5
  · have w := lam k1 k7 k2 c q h
    rcases hg with rfl | rfl
    · exact pm_C7.mpr ⟨k1, k7, w.1, w.2⟩
    · exact pm_C1.mpr ⟨w.1, w.2⟩
  · refine pm_C1.mpr ⟨hE p ⟨by unfold gr_SH; omega, fun y hy => ?_, fun y hy => ?_⟩, ?_⟩
    · have := hy.1; omega
    · have := hy.1; omega
    · rw [sk_at (K := K) (n := n) (by omega)]; exact pm_Cm hm hn S _ h
  · replace h : pm_C K V (sk_f K n) n E D N ((K (p + 1) - 3, 0, p + 2) :: (1, 0, 0) :: (4, 0, 0) :: S) (p + 3) := h
    obtain ⟨c, hx, hy, l, hd, h5⟩ := (pm_C56 (by omega)).mp h
    rw [pm_C1, pm_C4] at h5
    obtain ⟨h6, h7, h8⟩ := h5
    have b : ∀ j, j < c → gr_BS K V (sk_f K n) (K (p + 1)) (p + 2) (it_f (sk_f K n) j (p + 3)) := fun j hj => by
      have := (hd j hj).1
      rw [show K (p + 1) - 3 + 3 = K (p + 1) from by omega] at this
      exact this
    have hI := gr_LI b (fun j hj => hEI _ (hd j hj).2.2)
    have eI := gr_end (i := p + 2) k2 (dp_L_r _) l hI
    have e := sk_I (n := n) eI
    rw [← e] at h6 h7 h8
    refine pm_C1.mpr ⟨hE p ⟨Or.inr (Or.inr (Or.inr ⟨k1, Or.inr (Or.inr (Or.inl ⟨k, ?_, k2, c, by omega, by omega, l, b⟩))⟩)), fun y hy => ?_, fun y hy => ?_⟩, ?_⟩
    · exact ls_C_s (by omega) (ls_C_s (dp_I_n2 (hEI _ h6)) (ls_C_0 h7))
    · obtain ⟨_, hy⟩ := hy
      rcases hy with ⟨z, _⟩ | ⟨z, _⟩ | ⟨_, _, z⟩ | ⟨_, bb, z, z2⟩
      · omega
      · omega
      · rw [z]; exact h6
      · obtain ⟨j, hj, ej⟩ := (ls_CM l).mp z
        rw [z2, ej]; exact (hd j hj).2.2
    · have := hy.2.1; omega
    · rw [sk_I (n := n) (dp_I_w k1 (dp_L_t (gr_kw (by omega)) (dp_L_t (dp_I_L (sk_IE eI)) (dp_I_L (hEI _ h6)))) h7)]
      exact pm_Cm hm hn S _ h8
  · replace h : pm_C K V (sk_f K n) n E D N ((1, 0, 0) :: (8, 0, 0) :: (4, 0, 0) :: S) (p + 1) := h
    rw [pm_C1] at h
    obtain ⟨h1, h2⟩ := h
    obtain ⟨c, hx, l, hd, h3⟩ := pm_C8.mp h2
    rw [pm_C4] at h3
    have l2 : ls_C K (sk_f K n) (p + 1) (c + 1) := ls_C_s (dp_I_n2 (hEI _ h1)) l
    have hc : ∀ j, j < c + 1 → E (it_f (sk_f K n) j (p + 1)) := fun j hj => by
      cases j with
      | zero => exact h1
      | succ j => exact hd j (by omega)
    refine pm_C1.mpr ⟨hE p ⟨Or.inr (Or.inr (Or.inr ⟨k1, Or.inr (Or.inr (Or.inr (Or.inr ⟨k, c, by omega, l2⟩)))⟩)), fun y hy => ?_, fun y hy => ?_⟩, ?_⟩
    · obtain ⟨_, hy⟩ := hy
      rcases hy with ⟨z, _⟩ | ⟨_, z⟩ | ⟨z, _, _⟩ | ⟨z, _⟩
      · omega
      · obtain ⟨j, hj, ej⟩ := (ls_CM l2).mp z
        rw [ej]; exact hc j hj
      · omega
      · omega
    · have := hy.2.1; omega
    · rw [sk_I (n := n) (gr_end k1 (dp_L_r _) l2 (fun j hj => hEI _ (hc j hj)))]
      exact pm_Cm hm hn S _ h3.2
  · replace h : pm_C K V (sk_f K n) n E D N ((2, 0, 0) :: (4, 0, 0) :: S) (p + 2) := h
    rw [pm_C2, pm_C4] at h
    obtain ⟨h1, h2, h3⟩ := h
    have l : ls_C K (sk_f K n) (p + 2) 1 := ls_C_s (dp_I_n2 (hDI _ h1)) (ls_C_0 h2)
    refine pm_C1.mpr ⟨hE p ⟨Or.inr (Or.inr (Or.inr ⟨k1, Or.inl ⟨k, l⟩⟩)), fun y hy => ?_, fun y hy => ?_⟩, ?_⟩
    · obtain ⟨_, hy⟩ := hy
      rcases hy with ⟨z, _⟩ | ⟨z, _⟩ | ⟨z, _, _⟩ | ⟨z, _⟩ <;> omega
    · obtain ⟨j, hj, ej⟩ := (ls_CM l).mp hy.2.2
      have : j = 0 := by omega
      subst this
      rw [ej]; exact h1
    · rw [sk_I (n := n) (dp_I_w k1 (dp_L_t (gr_kw (by omega)) (dp_I_L (hDI _ h1))) h2)]
      exact pm_Cm hm hn S _ h3
  · rw [List.append_assoc] at h
    obtain ⟨h1, h2⟩ := pm_Cr.mp h
    replace h2 := pm_C4.mp h2
    have l : ls_C K (sk_f K n) (p + 2) (gr_n (K (p + 1))) := ⟨fun j hj => dp_I_n2 (hEI _ (h1 j hj)), h2.1⟩
    refine pm_C1.mpr ⟨hE p ⟨Or.inr (Or.inr (Or.inr ⟨k1, Or.inr (Or.inr (Or.inr (Or.inl ⟨k, l⟩)))⟩)), fun y hy => ?_, fun y hy => ?_⟩, ?_⟩
    · obtain ⟨_, hy⟩ := hy
      rcases hy with ⟨_, z⟩ | ⟨z, _⟩ | ⟨_, z, _⟩ | ⟨z, _⟩
      · obtain ⟨j, hj, ej⟩ := (ls_CM l).mp z
        rw [ej]; exact h1 j hj
      · omega
      · omega
      · omega
    · have := hy.2.1; omega
    · rw [sk_I (n := n) (gr_end k1 (gr_kw (by omega)) l (fun j hj => hEI _ (h1 j hj)))]
      exact pm_Cm hm hn S _ h2.2
end
end
section
/-! the component's walk of roles, purely -/
section
variable {K : Nat → Nat} {V : Nat → Int32} {n : Nat}
theorem dp_cst (hn : ∀ i, n ≤ i → K i = 0) : ∀ d, dp_d K (n + d) = dp_d K n
  | 0 => rfl
  | d + 1 => by
    have h := hn (n + d) (by omega)
    rw [show n + (d + 1) = n + d + 1 from rfl, dp_0 (by omega) (by omega)]
    exact dp_cst hn d
theorem dp_le (hn : ∀ i, n ≤ i → K i = 0) {i j : Nat} (h : dp_I K i j) (hi : i < n) : j ≤ n := by
  rcases Nat.lt_or_ge n j with z | z
  · have h1 := h.2.2 n hi z
    have h2 := dp_cst hn (j - n)
    rw [show n + (j - n) = j from by omega, h.2.1] at h2
    omega
  · exact z
/-- a later place of no greater depth lies behind the item -/
theorem dp_aft {c c' j : Nat} (h : dp_I K c j) (hd : dp_d K c' ≤ dp_d K c) (hc : c < c') : j ≤ c' := by
  rcases Nat.lt_or_ge c' j with z | z
  · have := h.2.2 c' hc z; omega
  · exact z
theorem ls_Min {i s p : Nat} (hI : dp_I K i (sk_f K n i)) (h1 : K i = 1) (hL : dp_L K (i + 1) s) (hs : s < sk_f K n i) (hM : ls_M K (sk_f K n) s p) :
    s ≤ p ∧ dp_I K p (sk_f K n p) ∧ sk_f K n p < sk_f K n i ∧ dp_d K p = dp_d K i + 1 := by
  obtain ⟨c, lc, _, _, hx⟩ := ls_ex (n := n) hI h1 _ s (Nat.le_refl _) hL hs
  obtain ⟨j, hj, e⟩ := (ls_CM lc).mp hM
  have hl := ls_L (K := K) (a := sk_f K n) (s := s) (c := j) (fun x hx' => hx x (by omega))
  have d1 := dp_1 h1
  have hpI := hx j hj
  rw [← e] at hl hpI
  have l1 := hl.1
  have l2 := hl.2.1
  have l3 := hL.2.1
  have l4 := hL.1
  refine ⟨l1, hpI, ?_, by omega⟩
  -- the item ends inside
  have hpi : i < p := by omega
  have hpn : p < sk_f K n i := by
    rcases Nat.lt_or_ge p (sk_f K n i) with z | z
    · exact z
    · have q := dp_L_t hL hl
      have := q.2.2 (sk_f K n i) (by have := hI.1; have := dp_I_1 hI h1; omega) z
      have := hI.2.1
      omega
  exact dp_nest hI hpi hpn hpI
theorem gr_FSof {i : Nat} (h : gr_SH K V (sk_f K n) i) (h1 : K i = 1) : gr_FS K V (sk_f K n) i (K (i + 1)) := by
  rcases h with z | z | z | z
  · omega
  · omega
  · omega
  · exact z.2
/-- the parts of a form with a keyword lie behind it -/
theorem gr_s2 {i : Nat} (hI : dp_I K i (sk_f K n i)) (h1 : K i = 1) (h6 : 6 ≤ K (i + 1)) : i + 2 < sk_f K n i ∧ dp_L K (i + 1) (i + 2) := by
  have a := dp_I_1 hI h1
  have b := gr_kw h6
  refine ⟨?_, b⟩
  rcases Nat.lt_or_ge (i + 2) (sk_f K n i) with z | z
  · exact z
  · have e : sk_f K n i = i + 2 := by omega
    have d1 := dp_1 h1
    have := b.2.1
    have := hI.2.1
    rw [e] at this
    omega
def gr_Ch (K a : Nat → Nat) (i c : Nat) : Prop := gr_E K a i c ∨ gr_D K a i c ∨ gr_N K a i c
/-- the shape of a binding form -/
theorem gr_bind {i : Nat} (hI : dp_I K i (sk_f K n i)) (h1 : K i = 1) (h7 : 7 ≤ K (i + 1)) (h9 : K (i + 1) ≤ 9) (hS : gr_SH K V (sk_f K n) i) :
    K (i + 2) = 1 ∧ dp_I K (i + 2) (sk_f K n (i + 2)) ∧ dp_I K (sk_f K n (i + 2)) (sk_f K n (sk_f K n (i + 2))) ∧ sk_f K n (sk_f K n (i + 2)) < sk_f K n i ∧ dp_d K (sk_f K n (i + 2)) = dp_d K i + 1 := by
  have s2 := gr_s2 hI h1 (by omega)
  have key : K (i + 2) = 1 ∧ ls_C K (sk_f K n) (i + 2) 2 := by
    rcases gr_FSof hS h1 with ⟨k, l⟩ | ⟨k, l, k2, c, q⟩ | ⟨k, l, k2, c, c1, c4, lc, b⟩ | ⟨k, l⟩ | ⟨k, c, c4, l⟩
    · omega
    · exact ⟨k2, l⟩
    · exact ⟨k2, l⟩
    · omega
    · omega
  have m0 : ls_M K (sk_f K n) (i + 2) (i + 2) := (ls_CM key.2).mpr ⟨0, by omega, rfl⟩
  have m1 : ls_M K (sk_f K n) (i + 2) (sk_f K n (i + 2)) := (ls_CM key.2).mpr ⟨1, by omega, rfl⟩
  have a0 := ls_Min hI h1 s2.2 s2.1 m0
  have a1 := ls_Min hI h1 s2.2 s2.1 m1
  exact ⟨key.1, a0.2.1, a1.2.1, a1.2.2.1, a1.2.2.2⟩
/-- a bind of a LET, as it lies -/
theorem gr_bnd {i b : Nat} (hI : dp_I K i (sk_f K n i)) (h1 : K i = 1) (h8 : K (i + 1) = 8 ∨ K (i + 1) = 9) (hS : gr_SH K V (sk_f K n) i) (hb : ls_M K (sk_f K n) (i + 3) b) :
    i + 3 ≤ b ∧ K b = 1 ∧ K (b + 1) = 4 ∧ dp_I K b (sk_f K n b) ∧ dp_I K (b + 2) (sk_f K n (b + 2)) ∧ sk_f K n b = sk_f K n (b + 2) + 1 ∧ sk_f K n b < sk_f K n (i + 2) ∧ dp_d K b = dp_d K i + 2 ∧ gr_BS K V (sk_f K n) (K (i + 1)) (i + 2) b := by
  have g := gr_bind hI h1 (by omega) (by omega) hS
  have key : gr_BS K V (sk_f K n) (K (i + 1)) (i + 2) b := by
    rcases gr_FSof hS h1 with ⟨k, l⟩ | ⟨k, l, k2, c, q⟩ | ⟨k, l, k2, c, c1, c4, lc, bb⟩ | ⟨k, l⟩ | ⟨k, c, c4, l⟩
    · omega
    · omega
    · obtain ⟨j, hj, e⟩ := (ls_CM lc).mp hb
      rw [e]; exact bb j hj
    · omega
    · omega
  have m := ls_Min (i := i + 2) g.2.1 g.1 (dp_L_r _) (dp_I_1 g.2.1 g.1) hb
  have d1 := dp_1 h1
  have d2 : dp_d K (i + 2) = dp_d K i + 1 := by rw [show i + 2 = i + 1 + 1 from rfl, dp_0 (by omega) (by omega)]; exact d1
  have b1 := gr_b1 key
  have kb := key.1
  have kb4 := key.2.2.1
  have hl : dp_L K (b + 1) (b + 2) := dp_I_L (dp_I_a (by omega) (by omega))
  have lt : b + 2 < sk_f K n b := by
    have := dp_I_1 m.2.1 kb
    rcases Nat.lt_or_ge (b + 2) (sk_f K n b) with z | z
    · exact z
    · have e : sk_f K n b = b + 2 := by omega
      have := m.2.1.2.1
      have := dp_1 kb
      have := hl.2.1
      rw [e] at *
      omega
  have m2 := ls_Min (i := b) m.2.1 kb hl lt (ls_M_0 b1.2.1)
  refine ⟨m.1, kb, kb4, m.2.1, m2.2.1, gr_ba key m2.2.1, m.2.2.1, by omega, key⟩
theorem gr_in {i c : Nat} (hI : dp_I K i (sk_f K n i)) (hS : gr_SH K V (sk_f K n) i) (h : gr_Ch K (sk_f K n) i c) : i < c ∧ dp_I K c (sk_f K n c) ∧ sk_f K n c < sk_f K n i := by
  have lamN : K i = 1 → K (i + 1) = 7 → ls_M K (sk_f K n) (i + 3) c → i < c ∧ dp_I K c (sk_f K n c) ∧ sk_f K n c < sk_f K n i := by
    intro h1 h7 hm
    have g := gr_bind hI h1 (by omega) (by omega) hS
    have m := ls_Min (i := i + 2) g.2.1 g.1 (dp_L_r _) (dp_I_1 g.2.1 g.1) hm
    have := g.2.2.1.1
    exact ⟨by omega, m.2.1, by omega⟩
  rcases h with ⟨h1, h⟩ | ⟨h1, h6, h⟩ | ⟨h1, h⟩
  · rcases h with ⟨k, hm⟩ | ⟨k, hm⟩ | ⟨k, k', e⟩ | ⟨k, b, hb, e⟩
    · have s2 := gr_s2 hI h1 (by omega)
      have m := ls_Min hI h1 s2.2 s2.1 hm
      exact ⟨by omega, m.2.1, m.2.2.1⟩
    · have m := ls_Min hI h1 (dp_L_r _) (dp_I_1 hI h1) hm
      exact ⟨by omega, m.2.1, m.2.2.1⟩
    · have g := gr_bind hI h1 k k' hS
      subst e
      have := g.2.1.1
      exact ⟨by omega, g.2.2.1, g.2.2.2.1⟩
    · have g := gr_bind hI h1 (by omega) (by omega) hS
      have m := gr_bnd hI h1 k hS hb
      subst e
      obtain ⟨m1, m2, m3, m4, m5, m6, m7, m8, m9⟩ := m
      have := g.2.2.1.1
      have := g.2.2.2.1
      exact ⟨by omega, m5, by omega⟩
  · have s2 := gr_s2 hI h1 (by omega)
    have m := ls_Min hI h1 s2.2 s2.1 h
    exact ⟨by omega, m.2.1, m.2.2.1⟩
  · rcases h with ⟨k, hm⟩ | ⟨k, b, hb, e⟩
    · exact lamN h1 k hm
    · have g := gr_bind hI h1 (by omega) (by omega) hS
      have m := gr_bnd hI h1 k hS hb
      subst e
      obtain ⟨m1, m2, m3, m4, m5, m6, m7, m8, m9⟩ := m
      have := g.2.2.1.1
      have := g.2.2.2.1
      have := m5.1
      have ei : dp_I K (b + 1) (b + 1 + 1) := dp_I_a (by omega) (by omega)
      have es : sk_f K n (b + 1) = b + 1 + 1 := sk_I ei
      refine ⟨by omega, by rw [es]; exact ei, by omega⟩
/-- where a child of a form lies -/
theorem gr_lev {i c : Nat} (hI : dp_I K i (sk_f K n i)) (hS : gr_SH K V (sk_f K n) i) (h : gr_Ch K (sk_f K n) i c) :
    (dp_d K c = dp_d K i + 1 ∧ ((7 ≤ K (i + 1) ∧ K (i + 1) ≤ 9) → c = sk_f K n (i + 2))) ∨
    (7 ≤ K (i + 1) ∧ K (i + 1) ≤ 9 ∧ K i = 1 ∧ c < sk_f K n (i + 2) ∧ (sk_f K n c = c + 1 ∨ ((K (i + 1) = 8 ∨ K (i + 1) = 9) ∧ ∃ b, ls_M K (sk_f K n) (i + 3) b ∧ c = b + 2))) := by
  rcases h with ⟨h1, h⟩ | ⟨h1, h6, h⟩ | ⟨h1, h⟩
  · rcases h with ⟨k, hm⟩ | ⟨k, hm⟩ | ⟨k, k', e⟩ | ⟨k, b, hb, e⟩
    · have s2 := gr_s2 hI h1 (by omega)
      have m := ls_Min hI h1 s2.2 s2.1 hm
      exact Or.inl ⟨m.2.2.2, fun z => by omega⟩
    · have m := ls_Min hI h1 (dp_L_r _) (dp_I_1 hI h1) hm
      exact Or.inl ⟨m.2.2.2, fun z => by omega⟩
    · have g := gr_bind hI h1 k k' hS
      subst e
      exact Or.inl ⟨g.2.2.2.2, fun z => rfl⟩
    · obtain ⟨m1, m2, m3, m4, m5, m6, m7, m8, m9⟩ := gr_bnd hI h1 k hS hb
      have := m5.1
      exact Or.inr ⟨by omega, by omega, h1, by omega, Or.inr ⟨k, b, hb, e⟩⟩
  · have s2 := gr_s2 hI h1 (by omega)
    have m := ls_Min hI h1 s2.2 s2.1 h
    exact Or.inl ⟨m.2.2.2, fun z => by omega⟩
  · rcases h with ⟨k, hm⟩ | ⟨k, b, hb, e⟩
    · have g := gr_bind hI h1 (by omega) (by omega) hS
      have m := ls_Min (i := i + 2) g.2.1 g.1 (dp_L_r _) (dp_I_1 g.2.1 g.1) hm
      have := m.2.1.1
      refine Or.inr ⟨by omega, by omega, h1, by omega, Or.inl ?_⟩
      refine sk_at ?_
      rcases gr_FSof hS h1 with ⟨k, l⟩ | ⟨k, l, k2, c', q⟩ | ⟨k, l, k2, c', c1, c4, lc, bb⟩ | ⟨k, l⟩ | ⟨k, c', c4, l⟩
      · omega
      · obtain ⟨j, hj, e⟩ := (ls_CM (gr_PC (n := n) q)).mp hm
        rw [gr_Pi q (by omega)] at e
        have := q.2.1 j hj
        rw [e]; omega
      · omega
      · omega
      · omega
    · obtain ⟨m1, m2, m3, m4, m5, m6, m7, m8, m9⟩ := gr_bnd hI h1 k hS hb
      have := m5.1
      exact Or.inr ⟨by omega, by omega, h1, by omega, Or.inl (by rw [e]; exact sk_at (by omega))⟩
theorem gr_sep {i c c' : Nat} (hI : dp_I K i (sk_f K n i)) (hS : gr_SH K V (sk_f K n) i) (h : gr_Ch K (sk_f K n) i c) (h' : gr_Ch K (sk_f K n) i c') (hc : c < c') : sk_f K n c ≤ c' := by
  have gi := gr_in hI hS h
  rcases gr_lev hI hS h with ⟨d, e⟩ | ⟨k7, k9, k1, lt, z⟩
  · rcases gr_lev hI hS h' with ⟨d', e'⟩ | ⟨k7, k9, k1, lt, z⟩
    · exact dp_aft gi.2.1 (by omega) hc
    · have := e ⟨k7, k9⟩; omega
  · rcases z with z | ⟨k, b, hb, eb⟩
    · omega
    · obtain ⟨m1, m2, m3, m4, m5, m6, m7, m8, m9⟩ := gr_bnd hI k1 k hS hb
      subst eb
      rcases gr_lev hI hS h' with ⟨d', e'⟩ | ⟨_, _, _, lt', z'⟩
      · have := e' ⟨k7, k9⟩; omega
      · -- another name or bound: its bind lies behind
        have hb' : ∃ b', ls_M K (sk_f K n) (i + 3) b' ∧ (c' = b' + 1 ∨ c' = b' + 2) := by
          rcases h' with ⟨_, h'⟩ | ⟨_, q, _⟩ | ⟨_, h'⟩
          · rcases h' with ⟨q, _⟩ | ⟨q, _⟩ | ⟨_, _, e⟩ | ⟨_, b', hb', e⟩
            · omega
            · omega
            · omega
            · exact ⟨b', hb', Or.inr e⟩
          · omega
          · rcases h' with ⟨q, _⟩ | ⟨_, b', hb', e⟩
            · omega
            · exact ⟨b', hb', Or.inl e⟩
        obtain ⟨b', hb', e'⟩ := hb'
        obtain ⟨w1, w2, w3, w4, w5, w6, w7, w8, w9⟩ := gr_bnd hI k1 k hS hb'
        have := m5.1
        have := w5.1
        rcases Nat.lt_trichotomy b b' with y | y | y
        · have := dp_aft m4 (by omega) y; omega
        · subst y; omega
        · have := dp_aft w4 (by omega) y; omega
end
end
section
/-- the walk of roles at a token: r the roles, par who gave them -/
def rw_W (K : Nat → Nat) (V : Nat → Int32) (a : Nat → Nat) (n at' : Nat) (r : Nat → Int32) (par : Nat → Nat) : Prop :=
  (∀ i, at' ≤ i → i < n → r i ≠ 0 → ∀ m, i < m → m < a i → r m = 0) ∧
  (∀ i, i < at' → r i = 1 → gr_SH K V a i ∧ (∀ c, gr_E K a i c → r c = 1 ∧ par c = i) ∧ (∀ c, gr_D K a i c → r c = 2 ∧ par c = i) ∧ (∀ c, gr_N K a i c → r c = 3 ∧ par c = i)) ∧
  (∀ i, i < at' → r i = 2 → gr_DS K a i ∧ ∀ c, gr_DM K a i c → r c = 2 ∧ par c = i) ∧
  (∀ c, c < n → r c ≠ 0 → c = 0 ∨ (par c < c ∧ par c < at' ∧ c < a (par c) ∧ ((r (par c) = 1 ∧ ((r c = 1 ∧ gr_E K a (par c) c) ∨ (r c = 2 ∧ gr_D K a (par c) c) ∨ (r c = 3 ∧ gr_N K a (par c) c))) ∨ (r (par c) = 2 ∧ r c = 2 ∧ gr_DM K a (par c) c)))) ∧
  r 0 = 1
section
variable {K : Nat → Nat} {V : Nat → Int32} {n : Nat}
theorem rw_gen {at' : Nat} {r r' : Nat → Int32} {par : Nat → Nat} {Ch : Nat → Prop} (hB : ∀ i, i < n → K i ≠ 2 → dp_I K i (sk_f K n i)) (hat : at' < n) (W : rw_W K V (sk_f K n) n at' r par) (h0 : r at' ≠ 0)
    (hin : ∀ c, Ch c → at' < c ∧ dp_I K c (sk_f K n c) ∧ sk_f K n c < sk_f K n at') (hsep : ∀ c c', Ch c → Ch c' → c < c' → sk_f K n c ≤ c') (hr : ∀ c, ¬ Ch c → r' c = r c) :
    (∀ c, c ≤ at' ∨ r c ≠ 0 → ¬ Ch c ∧ r' c = r c) ∧ (∀ i, at' + 1 ≤ i → i < n → r' i ≠ 0 → ∀ m, i < m → m < sk_f K n i → r' m = 0) := by
  have W1 := W.1
  have mono : ∀ c, c ≤ at' ∨ r c ≠ 0 → ¬ Ch c ∧ r' c = r c := by
    intro c hc
    have : ¬ Ch c := by
      intro z
      have i := hin c z
      have i2 := i.2.1.1
      rcases hc with hc | hc
      · omega
      · exact hc (W1 at' (Nat.le_refl _) hat h0 c i.1 (by omega))
    exact ⟨this, hr c this⟩
  refine ⟨mono, ?_⟩
  intro i hi hn hri m hm1 hm2
  by_cases ci : Ch i
  · have ii := hin i ci
    have hm0 : r m = 0 := W1 at' (Nat.le_refl _) hat h0 m (by omega) (by omega)
    have : ¬ Ch m := by
      intro z
      have := hsep i m ci z hm1
      omega
    rw [hr m this]; exact hm0
  · rw [hr i ci] at hri
    have hm0 := W1 i (by omega) hn hri m hm1 hm2
    have : ¬ Ch m := by
      intro z
      have im := hin m z
      have im2 := im.2.1.1
      exact hri (W1 at' (Nat.le_refl _) hat h0 i (by omega) (by omega))
    rw [hr m this]; exact hm0
theorem rw_skip {at' : Nat} {r : Nat → Int32} {par : Nat → Nat} (W : rw_W K V (sk_f K n) n at' r par) (h1 : r at' ≠ 1) (h2 : r at' ≠ 2) : rw_W K V (sk_f K n) n (at' + 1) r par := by
  obtain ⟨W1, W2, W3, W4, W5⟩ := W
  refine ⟨fun i hi => W1 i (by omega), fun i hi hr => ?_, fun i hi hr => ?_, fun c hc hr => ?_, W5⟩
  · by_cases z : i = at'
    · subst z; exact absurd hr h1
    · exact W2 i (by omega) hr
  · by_cases z : i = at'
    · subst z; exact absurd hr h2
    · exact W3 i (by omega) hr
  · rcases W4 c hc hr with z | ⟨z1, z2, z3⟩
    · exact Or.inl z
    · exact Or.inr ⟨z1, by omega, z3⟩
theorem rw_atom {at' : Nat} {r : Nat → Int32} {par : Nat → Nat} (W : rw_W K V (sk_f K n) n at' r par) (h1 : r at' = 1) (hk : K at' = 3 ∨ K at' = 4 ∨ K at' = 5) : rw_W K V (sk_f K n) n (at' + 1) r par := by
  obtain ⟨W1, W2, W3, W4, W5⟩ := W
  refine ⟨fun i hi => W1 i (by omega), fun i hi hr => ?_, fun i hi hr => ?_, fun c hc hr => ?_, W5⟩
  · by_cases z : i = at'
    · subst z
      refine ⟨by unfold gr_SH; omega, fun c hc => ?_, fun c hc => ?_, fun c hc => ?_⟩
      · have := hc.1; omega
      · have := hc.1; omega
      · have := hc.1; omega
    · exact W2 i (by omega) hr
  · by_cases z : i = at'
    · subst z; rw [h1] at hr; exact absurd hr (by decide)
    · exact W3 i (by omega) hr
  · rcases W4 c hc hr with z | ⟨z1, z2, z3⟩
    · exact Or.inl z
    · exact Or.inr ⟨z1, by omega, z3⟩
theorem rw_datom {at' : Nat} {r : Nat → Int32} {par : Nat → Nat} (W : rw_W K V (sk_f K n) n at' r par) (h1 : r at' = 2) (hk : K at' = 3 ∨ K at' = 5) : rw_W K V (sk_f K n) n (at' + 1) r par := by
  obtain ⟨W1, W2, W3, W4, W5⟩ := W
  refine ⟨fun i hi => W1 i (by omega), fun i hi hr => ?_, fun i hi hr => ?_, fun c hc hr => ?_, W5⟩
  · by_cases z : i = at'
    · subst z; rw [h1] at hr; exact absurd hr (by decide)
    · exact W2 i (by omega) hr
  · by_cases z : i = at'
    · subst z
      refine ⟨by unfold gr_DS; omega, fun c hc => ?_⟩
      have := hc.1; omega
    · exact W3 i (by omega) hr
  · rcases W4 c hc hr with z | ⟨z1, z2, z3⟩
    · exact Or.inl z
    · exact Or.inr ⟨z1, by omega, z3⟩
theorem rw_form {at' : Nat} {r r' : Nat → Int32} {par : Nat → Nat} (hB : ∀ i, i < n → K i ≠ 2 → dp_I K i (sk_f K n i)) (hat : at' < n) (W : rw_W K V (sk_f K n) n at' r par) (h1 : r at' = 1) (k1 : K at' = 1) (hS : gr_SH K V (sk_f K n) at')
    (e1 : ∀ c, gr_E K (sk_f K n) at' c → r' c = 1) (e2 : ∀ c, gr_D K (sk_f K n) at' c → r' c = 2) (e3 : ∀ c, gr_N K (sk_f K n) at' c → r' c = 3) (e4 : ∀ c, ¬ gr_Ch K (sk_f K n) at' c → r' c = r c) :
    ∃ par', rw_W K V (sk_f K n) n (at' + 1) r' par' := by
  have hI := hB at' hat (by omega)
  obtain ⟨mono, W1'⟩ := rw_gen (Ch := gr_Ch K (sk_f K n) at') hB hat W (by rw [h1]; decide) (fun c hc => gr_in hI hS hc) (fun c c' hc hc' => gr_sep hI hS hc hc') e4
  obtain ⟨W1, W2, W3, W4, W5⟩ := W
  refine ⟨fun c => @ite _ (gr_Ch K (sk_f K n) at' c) (Classical.propDecidable _) at' (par c), W1', fun i hi hr => ?_, fun i hi hr => ?_, fun c hc hr => ?_, ?_⟩
  · by_cases z : i = at'
    · subst z
      refine ⟨hS, fun c hc => ⟨e1 c hc, ?_⟩, fun c hc => ⟨e2 c hc, ?_⟩, fun c hc => ⟨e3 c hc, ?_⟩⟩
      · exact if_pos (Or.inl hc)
      · exact if_pos (Or.inr (Or.inl hc))
      · exact if_pos (Or.inr (Or.inr hc))
    · rw [(mono i (Or.inl (by omega))).2] at hr
      obtain ⟨a1, a2, a3, a4⟩ := W2 i (by omega) hr
      have key : ∀ c, r c ≠ 0 → r' c = r c ∧ (@ite _ (gr_Ch K (sk_f K n) at' c) (Classical.propDecidable _) at' (par c)) = par c := fun c hc => ⟨(mono c (Or.inr hc)).2, if_neg (mono c (Or.inr hc)).1⟩
      refine ⟨a1, fun c hc => ?_, fun c hc => ?_, fun c hc => ?_⟩
      · have q := a2 c hc
        have w := key c (by rw [q.1]; decide)
        exact ⟨w.1.trans q.1, w.2.trans q.2⟩
      · have q := a3 c hc
        have w := key c (by rw [q.1]; decide)
        exact ⟨w.1.trans q.1, w.2.trans q.2⟩
      · have q := a4 c hc
        have w := key c (by rw [q.1]; decide)
        exact ⟨w.1.trans q.1, w.2.trans q.2⟩
  · rw [(mono i (Or.inl (by omega))).2] at hr
    by_cases z : i = at'
    · subst z; rw [h1] at hr; exact absurd hr (by decide)
    · obtain ⟨a1, a2⟩ := W3 i (by omega) hr
      refine ⟨a1, fun c hc => ?_⟩
      have q := a2 c hc
      have w := mono c (Or.inr (by rw [q.1]; decide))
      exact ⟨w.2.trans q.1, (if_neg w.1).trans q.2⟩
  · by_cases z : gr_Ch K (sk_f K n) at' c
    · have gi := gr_in hI hS z
      have gi2 := gi.2.1.1
      refine Or.inr ?_
      dsimp only
      rw [if_pos z]
      refine ⟨gi.1, by omega, by omega, Or.inl ⟨(mono at' (Or.inl (Nat.le_refl _))).2.trans h1, ?_⟩⟩
      rcases z with z | z | z
      · exact Or.inl ⟨e1 c z, z⟩
      · exact Or.inr (Or.inl ⟨e2 c z, z⟩)
      · exact Or.inr (Or.inr ⟨e3 c z, z⟩)
    · rw [e4 c z] at hr ⊢
      dsimp only
      rw [if_neg z]
      rcases W4 c hc hr with y | ⟨y1, y2, y3, y4⟩
      · exact Or.inl y
      · rw [(mono (par c) (Or.inl (by omega))).2]
        exact Or.inr ⟨y1, by omega, y3, y4⟩
  · exact (mono 0 (Or.inl (by omega))).2.trans W5
theorem rw_dform {at' c0 : Nat} {r r' : Nat → Int32} {par : Nat → Nat} (hB : ∀ i, i < n → K i ≠ 2 → dp_I K i (sk_f K n i)) (hat : at' < n) (W : rw_W K V (sk_f K n) n at' r par) (h1 : r at' = 2) (k1 : K at' = 1) (hS : ls_C K (sk_f K n) (at' + 1) c0)
    (e1 : ∀ c, gr_DM K (sk_f K n) at' c → r' c = 2) (e4 : ∀ c, ¬ gr_DM K (sk_f K n) at' c → r' c = r c) :
    ∃ par', rw_W K V (sk_f K n) n (at' + 1) r' par' := by
  have hI := hB at' hat (by omega)
  have hM : ∀ c, gr_DM K (sk_f K n) at' c → at' + 1 ≤ c ∧ dp_I K c (sk_f K n c) ∧ sk_f K n c < sk_f K n at' ∧ dp_d K c = dp_d K at' + 1 := fun c hc => ls_Min hI k1 (dp_L_r _) (dp_I_1 hI k1) hc.2
  obtain ⟨mono, W1'⟩ := rw_gen (Ch := gr_DM K (sk_f K n) at') hB hat W (by rw [h1]; decide) (fun c hc => ⟨by have := hM c hc; omega, (hM c hc).2.1, (hM c hc).2.2.1⟩) (fun c c' hc hc' z => dp_aft (hM c hc).2.1 (by have := hM c hc; have := hM c' hc'; omega) z) e4
  obtain ⟨W1, W2, W3, W4, W5⟩ := W
  refine ⟨fun c => @ite _ (gr_DM K (sk_f K n) at' c) (Classical.propDecidable _) at' (par c), W1', fun i hi hr => ?_, fun i hi hr => ?_, fun c hc hr => ?_, ?_⟩
  · rw [(mono i (Or.inl (by omega))).2] at hr
    by_cases z : i = at'
    · subst z; rw [h1] at hr; exact absurd hr (by decide)
    · obtain ⟨a1, a2, a3, a4⟩ := W2 i (by omega) hr
      have key : ∀ c, r c ≠ 0 → r' c = r c ∧ (@ite _ (gr_DM K (sk_f K n) at' c) (Classical.propDecidable _) at' (par c)) = par c := fun c hc => ⟨(mono c (Or.inr hc)).2, if_neg (mono c (Or.inr hc)).1⟩
      refine ⟨a1, fun c hc => ?_, fun c hc => ?_, fun c hc => ?_⟩
      · have q := a2 c hc
        have w := key c (by rw [q.1]; decide)
        exact ⟨w.1.trans q.1, w.2.trans q.2⟩
      · have q := a3 c hc
        have w := key c (by rw [q.1]; decide)
        exact ⟨w.1.trans q.1, w.2.trans q.2⟩
      · have q := a4 c hc
        have w := key c (by rw [q.1]; decide)
        exact ⟨w.1.trans q.1, w.2.trans q.2⟩
  · by_cases z : i = at'
    · subst z
      exact ⟨Or.inr (Or.inr ⟨k1, c0, hS⟩), fun c hc => ⟨e1 c hc, if_pos hc⟩⟩
    · rw [(mono i (Or.inl (by omega))).2] at hr
      obtain ⟨a1, a2⟩ := W3 i (by omega) hr
      refine ⟨a1, fun c hc => ?_⟩
      have q := a2 c hc
      have w := mono c (Or.inr (by rw [q.1]; decide))
      exact ⟨w.2.trans q.1, (if_neg w.1).trans q.2⟩
  · by_cases z : gr_DM K (sk_f K n) at' c
    · have gi := hM c z
      have gi2 := gi.2.1.1
      refine Or.inr ?_
      dsimp only
      rw [if_pos z]
      exact ⟨by omega, by omega, by omega, Or.inr ⟨(mono at' (Or.inl (Nat.le_refl _))).2.trans h1, e1 c z, z⟩⟩
    · rw [e4 c z] at hr ⊢
      dsimp only
      rw [if_neg z]
      rcases W4 c hc hr with y | ⟨y1, y2, y3, y4⟩
      · exact Or.inl y
      · rw [(mono (par c) (Or.inl (by omega))).2]
        exact Or.inr ⟨y1, by omega, y3, y4⟩
  · exact (mono 0 (Or.inl (by omega))).2.trans W5
/-- what the grammar says of the root it says of every role -/
theorem rw_X {at' : Nat} {r : Nat → Int32} {par : Nat → Nat} (W : rw_W K V (sk_f K n) n at' r par) {k : Nat} (h : gr_X K V (sk_f K n) k true 0) :
    ∀ d c, c ≤ d → c < n → (r c = 1 → ∃ k', gr_X K V (sk_f K n) k' true c) ∧ (r c = 2 → ∃ k', gr_X K V (sk_f K n) k' false c) := by
  obtain ⟨W1, W2, W3, W4, W5⟩ := W
  have zero : (r 0 = 1 → ∃ k', gr_X K V (sk_f K n) k' true 0) ∧ (r 0 = 2 → ∃ k', gr_X K V (sk_f K n) k' false 0) :=
    ⟨fun _ => ⟨k, h⟩, fun z => by rw [W5] at z; exact absurd z (by decide)⟩
  intro d
  induction d with
  | zero => intro c hc hn; have : c = 0 := by omega
            subst this; exact zero
  | succ d ih =>
    intro c hc hn
    by_cases z : r c = 0
    · rw [z]; exact ⟨fun y => absurd y (by decide), fun y => absurd y (by decide)⟩
    · rcases W4 c hn z with y | ⟨y1, y2, y3, y4⟩
      · subst y; exact zero
      · have ihp := ih (par c) (by omega) (by omega)
        rcases y4 with ⟨p1, q⟩ | ⟨p1, q1, q2⟩
        · obtain ⟨k', hk⟩ := ihp.1 p1
          cases k' with
          | zero => exact False.elim hk
          | succ k' =>
            rcases q with ⟨a, b⟩ | ⟨a, b⟩ | ⟨a, b⟩
            · exact ⟨fun _ => ⟨k', hk.2.1 c b⟩, fun y => by rw [a] at y; exact absurd y (by decide)⟩
            · exact ⟨fun y => by rw [a] at y; exact absurd y (by decide), fun _ => ⟨k', hk.2.2 c b⟩⟩
            · exact ⟨fun y => by rw [a] at y; exact absurd y (by decide), fun y => by rw [a] at y; exact absurd y (by decide)⟩
        · obtain ⟨k', hk⟩ := ihp.2 p1
          cases k' with
          | zero => exact False.elim hk
          | succ k' => exact ⟨fun y => by rw [q1] at y; exact absurd y (by decide), fun _ => ⟨k', hk.2 c q2⟩⟩
theorem rw_no {at' : Nat} {r : Nat → Int32} {par : Nat → Nat} (W : rw_W K V (sk_f K n) n at' r par) (hat : at' < n) (h : (r at' = 1 ∧ ¬ gr_SH K V (sk_f K n) at') ∨ (r at' = 2 ∧ ¬ gr_DS K (sk_f K n) at')) (k : Nat) : ¬ gr_X K V (sk_f K n) k true 0 := by
  intro z
  have q := rw_X W z at' at' (Nat.le_refl _) hat
  rcases h with ⟨a, b⟩ | ⟨a, b⟩
  · obtain ⟨k', hk⟩ := q.1 a
    cases k' with
    | zero => exact hk
    | succ k' => exact b hk.1
  · obtain ⟨k', hk⟩ := q.2 a
    cases k' with
    | zero => exact hk
    | succ k' => exact b hk.1
end
end
section
/-! scope, purely -/
def sc_nm (K a : Nat → Nat) (i j : Nat) : Nat := if K (i + 1) = 7 then i + 3 + j else it_f a j (i + 3) + 1
def sc_ls (K a : Nat → Nat) (sc : Nat → Int32) (i : Nat) : Nat → Int32
  | 0 => sc i
  | j + 1 => nI (sc_nm K a i j)
def sc_L (K a : Nat → Nat) (sc : Nat → Int32) (i : Nat) : Prop :=
  (K (i + 1) ≤ 6 ∨ 10 ≤ K (i + 1) → ∀ c, gr_E K a i c → sc c = sc i) ∧
  (7 ≤ K (i + 1) → K (i + 1) ≤ 9 → ∀ c, ls_C K a (i + 3) c → (∀ j, j < c → sc (sc_nm K a i j) = sc_ls K a sc i j) ∧ sc (a (i + 2)) = sc_ls K a sc i c ∧ (K (i + 1) ≠ 7 → ∀ j, j < c → sc (it_f a j (i + 3) + 2) = if K (i + 1) = 9 then sc_ls K a sc i c else sc i))
def sc_H (n : Nat) (sc : Nat → Int32) : List Nat → Int32 → Prop
  | [], s => s = -1
  | m :: l, s => s = nI m ∧ m < n ∧ sc_H n sc l (sc m)
def sc_B (K : Nat → Nat) (V : Nat → Int32) (a : Nat → Nat) (i : Nat) (x : Int32) : Prop :=
  ∃ j, j < i ∧ K j = 1 ∧ 7 ≤ K (j + 1) ∧ K (j + 1) ≤ 9 ∧ i < a j ∧ (∃ m, gr_N K a j m ∧ V m = x) ∧ (K (j + 1) = 9 ∨ a (j + 2) ≤ i)
def sc_nl (K a : Nat → Nat) (i : Nat) (l : List Nat) : Nat → List Nat
  | 0 => l
  | j + 1 => sc_nm K a i j :: sc_nl K a i l j
/-- the place of a name in a chain -/
def sc_F (V : Nat → Int32) (x : Int32) : List Nat → Nat → Prop
  | [], _ => False
  | m :: l, h => (V m = x ∧ h = 0) ∨ (V m ≠ x ∧ ∃ h', h = h' + 1 ∧ sc_F V x l h')
section
variable {K : Nat → Nat} {V : Nat → Int32} {n : Nat}
theorem sc_nl_len {i : Nat} {l : List Nat} : ∀ c, (sc_nl K (sk_f K n) i l c).length = l.length + c
  | 0 => rfl
  | c + 1 => by simp [sc_nl, sc_nl_len c]; omega
theorem sc_nl_mem {i : Nat} {l : List Nat} {x : Int32} : ∀ c, (∃ m, m ∈ sc_nl K (sk_f K n) i l c ∧ V m = x) ↔ ((∃ j, j < c ∧ V (sc_nm K (sk_f K n) i j) = x) ∨ ∃ m, m ∈ l ∧ V m = x)
  | 0 => by
    constructor
    · intro h; exact Or.inr h
    · rintro (⟨j, hj, _⟩ | h)
      · omega
      · exact h
  | c + 1 => by
    have ih := sc_nl_mem (i := i) (l := l) (x := x) c
    constructor
    · rintro ⟨m, hm, hv⟩
      rcases List.mem_cons.mp hm with e | e
      · exact Or.inl ⟨c, by omega, by rw [← e]; exact hv⟩
      · rcases ih.mp ⟨m, e, hv⟩ with ⟨j, hj, h⟩ | h
        · exact Or.inl ⟨j, by omega, h⟩
        · exact Or.inr h
    · rintro (⟨j, hj, hv⟩ | h)
      · by_cases z : j = c
        · subst z; exact ⟨_, List.mem_cons_self, hv⟩
        · obtain ⟨m, hm, h⟩ := ih.mpr (Or.inl ⟨j, by omega, hv⟩)
          exact ⟨m, List.mem_cons_of_mem _ hm, h⟩
      · obtain ⟨m, hm, h⟩ := ih.mpr (Or.inr h)
        exact ⟨m, List.mem_cons_of_mem _ hm, h⟩
theorem sc_nl_m {i : Nat} {l : List Nat} : ∀ (c m : Nat), m ∈ sc_nl K (sk_f K n) i l c → (∃ j, j < c ∧ m = sc_nm K (sk_f K n) i j) ∨ m ∈ l
  | 0, m, h => Or.inr h
  | c + 1, m, h => by
    rcases List.mem_cons.mp h with e | e
    · exact Or.inl ⟨c, by omega, e⟩
    · rcases sc_nl_m c m e with ⟨j, hj, e⟩ | e
      · exact Or.inl ⟨j, by omega, e⟩
      · exact Or.inr e
theorem sc_nl_H {sc : Nat → Int32} {i : Nat} {l : List Nat} {c : Nat} (hl : sc_H n sc l (sc i)) (hs : ∀ j, j < c → sc (sc_nm K (sk_f K n) i j) = sc_ls K (sk_f K n) sc i j) (hn : ∀ j, j < c → sc_nm K (sk_f K n) i j < n) :
    ∀ d, d ≤ c → sc_H n sc (sc_nl K (sk_f K n) i l d) (sc_ls K (sk_f K n) sc i d)
  | 0, _ => hl
  | d + 1, hd => ⟨rfl, hn d (by omega), by rw [hs d (by omega)]; exact sc_nl_H hl hs hn d (by omega)⟩
theorem sc_Hc {sc sc' : Nat → Int32} : ∀ {l : List Nat} {s : Int32}, (∀ m, m ∈ l → sc' m = sc m) → sc_H n sc l s → sc_H n sc' l s
  | [], _, _, h => h
  | m :: l, _, hm, h => ⟨h.1, h.2.1, by rw [hm m List.mem_cons_self]; exact sc_Hc (fun x hx => hm x (List.mem_cons_of_mem _ hx)) h.2.2⟩
/-- the names of a binding form -/
theorem sc_N {i : Nat} (h1 : K i = 1) (h7 : 7 ≤ K (i + 1)) (h9 : K (i + 1) ≤ 9) (hS : gr_SH K V (sk_f K n) i) :
    ∃ c, c ≤ 4 ∧ ls_C K (sk_f K n) (i + 3) c ∧ (∀ m, gr_N K (sk_f K n) i m ↔ ∃ j, j < c ∧ m = sc_nm K (sk_f K n) i j) ∧ (K (i + 1) = 7 → gr_P K V (i + 2) c) ∧ (K (i + 1) ≠ 7 → 1 ≤ c) := by
  rcases gr_FSof hS h1 with ⟨k, l⟩ | ⟨k, l, k2, c, q⟩ | ⟨k, l, k2, c, c1, c4, lc, bb⟩ | ⟨k, l⟩ | ⟨k, c', c4, l⟩
  · omega
  · have lc : ls_C K (sk_f K n) (i + 3) c := gr_PC (n := n) q
    refine ⟨c, q.1, lc, fun m => ?_, fun _ => q, fun z => absurd k z⟩
    have e : ∀ j, j ≤ c → it_f (sk_f K n) j (i + 3) = i + 3 + j := fun j hj => gr_Pi q hj
    have en : ∀ j, sc_nm K (sk_f K n) i j = i + 3 + j := fun j => if_pos k
    unfold gr_N
    simp only [en]
    constructor
    · rintro ⟨_, ⟨_, hm⟩ | ⟨z, _⟩⟩
      · obtain ⟨j, hj, em⟩ := (ls_CM lc).mp hm
        exact ⟨j, hj, by rw [em, e j (by omega)]⟩
      · omega
    · rintro ⟨j, hj, em⟩
      exact ⟨h1, Or.inl ⟨k, (ls_CM lc).mpr ⟨j, hj, by rw [em, e j (by omega)]⟩⟩⟩
  · refine ⟨c, c4, lc, fun m => ?_, fun z => by omega, fun _ => c1⟩
    have en : ∀ j, sc_nm K (sk_f K n) i j = it_f (sk_f K n) j (i + 3) + 1 := fun j => if_neg (by omega)
    unfold gr_N
    simp only [en]
    constructor
    · rintro ⟨_, ⟨z, _⟩ | ⟨_, b, hb, em⟩⟩
      · omega
      · obtain ⟨j, hj, eb⟩ := (ls_CM lc).mp hb
        exact ⟨j, hj, by rw [em, eb]⟩
    · rintro ⟨j, hj, em⟩
      exact ⟨h1, Or.inr ⟨k, _, (ls_CM lc).mpr ⟨j, hj, rfl⟩, em⟩⟩
  · omega
  · omega
theorem sc_par {r : Nat → Int32} {par : Nat → Nat} (hB : ∀ i, i < n → K i ≠ 2 → dp_I K i (sk_f K n i)) (hn : ∀ i, n ≤ i → K i = 0) (W : rw_W K V (sk_f K n) n n r par) (hC : ∀ j, K j = 1 → 7 ≤ K (j + 1) → K (j + 1) ≤ 9 → r j = 1)
    {f i : Nat} (hf : r f = 1) (hfn : f < n) (hE : gr_E K (sk_f K n) f i) (hin : i < n) (x : Int32) :
    sc_B K V (sk_f K n) i x ↔ sc_B K V (sk_f K n) f x ∨ (7 ≤ K (f + 1) ∧ K (f + 1) ≤ 9 ∧ (∃ m, gr_N K (sk_f K n) f m ∧ V m = x) ∧ (K (f + 1) = 9 ∨ sk_f K n (f + 2) ≤ i)) := by
  have kn : ∀ j, K j ≠ 0 → j < n := fun j hj => by
    rcases Nat.lt_or_ge j n with z | z
    · exact z
    · exact absurd (hn j z) hj
  have hS := (W.2.1 f hfn hf).1
  have k1 := hE.1
  have hI := hB f hfn (by omega)
  have gi := gr_in hI hS (Or.inl hE)
  have gi1 := gi.2.1.1
  constructor
  · rintro ⟨j, hj, kj, k7, k9, hij, hm, hv⟩
    have jn := kn j (by omega)
    have hIj := hB j jn (by omega)
    have rj := hC j kj k7 k9
    have hSj := (W.2.1 j jn rj).1
    have g := gr_bind hIj kj k7 k9 hSj
    rcases Nat.lt_trichotomy j f with z | z | z
    · refine Or.inl ⟨j, z, kj, k7, k9, by omega, hm, ?_⟩
      rcases hv with hv | hv
      · exact Or.inl hv
      · refine Or.inr ?_
        rcases Nat.lt_or_ge f (sk_f K n (j + 2)) with y | y
        · exfalso
          by_cases y1 : f = j + 1
          · rw [← y1] at k7; omega
          · by_cases y2 : f = j + 2
            · rw [← y2] at hv; omega
            · have := dp_nest g.2.1 (show j + 2 < f by omega) y hI
              omega
        · exact y
    · subst z
      exact Or.inr ⟨k7, k9, hm, hv⟩
    · exfalso
      have d1 := hI.2.2 j z (by omega)
      have d2 := hIj.2.2 i hj hij
      obtain ⟨_, hE⟩ := hE
      rcases hE with ⟨q, hM⟩ | ⟨q, hM⟩ | ⟨q, q', e⟩ | ⟨q, b, hb, e⟩
      · have s2 := gr_s2 hI k1 (by omega)
        have := (ls_Min hI k1 s2.2 s2.1 hM).2.2.2
        omega
      · have := (ls_Min hI k1 (dp_L_r _) (dp_I_1 hI k1) hM).2.2.2
        omega
      · have gf := gr_bind hI k1 q q' hS
        have := gf.2.2.2.2
        rw [← e] at this
        omega
      · obtain ⟨m1, m2, m3, m4, m5, m6, m7, m8, m9⟩ := gr_bnd hI k1 q hS hb
        have gf := gr_bind hI k1 (by omega) (by omega) hS
        have b3 : K (f + 3) = 1 := by
          have := gr_bnd hI k1 q hS (ls_M_0 (ls_M_c hb).1)
          exact this.2.1
        by_cases y1 : j = f + 1
        · subst y1; omega
        · by_cases y2 : j = f + 2
          · subst y2
            rw [show f + 2 + 1 = f + 3 from rfl] at k7
            omega
          · by_cases y3 : j = b
            · subst y3; omega
            · by_cases y4 : j = b + 1
              · subst y4; omega
              · have e1 := gf.2.1.2.2 j (by omega) (by have := m4.1; omega)
                have e2 := hIj.2.2 b (by omega) (by omega)
                have e3 := dp_1 k1
                have e4 : dp_d K (f + 1 + 1) = dp_d K (f + 1) := dp_0 (by omega) (by omega)
                rw [show f + 1 + 1 = f + 2 from rfl] at e4
                omega
  · rintro (⟨j, hj, kj, k7, k9, hij, hm, hv⟩ | ⟨k7, k9, hm, hv⟩)
    · have jn := kn j (by omega)
      have hIj := hB j jn (by omega)
      have := dp_nest hIj hj hij hI
      exact ⟨j, by omega, kj, k7, k9, by omega, hm, by omega⟩
    · exact ⟨f, by omega, k1, k7, k9, by omega, hm, hv⟩
theorem sc_ch {at' : Nat} {r sc : Nat → Int32} {par : Nat → Nat} (hB : ∀ i, i < n → K i ≠ 2 → dp_I K i (sk_f K n i)) (hn : ∀ i, n ≤ i → K i = 0) (W : rw_W K V (sk_f K n) n n r par) (hC : ∀ j, K j = 1 → 7 ≤ K (j + 1) → K (j + 1) ≤ 9 → r j = 1)
    (h0 : sc 0 = -1) (hS : ∀ i, i < at' → i < n → r i = 1 → K i = 1 → sc_L K (sk_f K n) sc i) :
    ∀ d i, i ≤ d → i < n → i ≤ at' → r i = 1 → ∃ l, sc_H n sc l (sc i) ∧ l.length ≤ i ∧ (∀ m, m ∈ l → r m = 3 ∧ par m < i) ∧ ∀ x, (∃ m, m ∈ l ∧ V m = x) ↔ sc_B K V (sk_f K n) i x := by
  have zero : ∃ l, sc_H n sc l (sc 0) ∧ l.length ≤ 0 ∧ (∀ m, m ∈ l → r m = 3 ∧ par m < 0) ∧ ∀ x, (∃ m, m ∈ l ∧ V m = x) ↔ sc_B K V (sk_f K n) 0 x := by
    refine ⟨[], h0, Nat.le_refl _, fun m hm => absurd hm List.not_mem_nil, fun x => ⟨?_, ?_⟩⟩
    · rintro ⟨m, hm, _⟩; exact absurd hm List.not_mem_nil
    · rintro ⟨j, hj, _⟩; omega
  intro d
  induction d with
  | zero => intro i hi _ _ _; have : i = 0 := by omega
            subst this; exact zero
  | succ d ih =>
    intro i hi hin hat hr
    rcases W.2.2.2.1 i hin (by rw [hr]; decide) with z | ⟨z1, z2, z3, z4⟩
    · subst z; exact zero
    · have hE : r (par i) = 1 ∧ gr_E K (sk_f K n) (par i) i := by
        rcases z4 with ⟨a, ⟨_, b⟩ | ⟨b, _⟩ | ⟨b, _⟩⟩ | ⟨a, b, _⟩
        · exact ⟨a, b⟩
        · rw [hr] at b; exact absurd b (by decide)
        · rw [hr] at b; exact absurd b (by decide)
        · rw [hr] at b; exact absurd b (by decide)
      generalize hf : par i = f at *
      obtain ⟨l, hl, hlen, hrl, hmem⟩ := ih f (by omega) (by omega) (by omega) hE.1
      have hSf := (W.2.1 f (by omega) hE.1).1
      have k1 := hE.2.1
      have hI := hB f (by omega) (by omega)
      have L := hS f (by omega) (by omega) hE.1 k1
      have key := sc_par hB hn W hC hE.1 (by omega) hE.2 hin
      have bindc : 7 ≤ K (f + 1) → K (f + 1) ≤ 9 → (K (f + 1) = 9 ∨ sk_f K n (f + 2) ≤ i) → (∀ c, ls_C K (sk_f K n) (f + 3) c → sc i = sc_ls K (sk_f K n) sc f c) → ∃ l, sc_H n sc l (sc i) ∧ l.length ≤ i ∧ (∀ m, m ∈ l → r m = 3 ∧ par m < i) ∧ ∀ x, (∃ m, m ∈ l ∧ V m = x) ↔ sc_B K V (sk_f K n) i x := by
        intro k7 k9 hv hsc
        obtain ⟨c, c4, lc, hN, hP, hc1⟩ := sc_N k1 k7 k9 hSf
        have L2 := L.2 k7 k9 c lc
        have gb := gr_bind hI k1 k7 k9 hSf
        have hnm : ∀ j, j < c → sc_nm K (sk_f K n) f j < n := fun j hj => by
          have := gr_in hI hSf (Or.inr (Or.inr ((hN _).mpr ⟨j, hj, rfl⟩)))
          have t := this.2.1.1
          have := dp_le hn hI (by omega)
          omega
        refine ⟨sc_nl K (sk_f K n) f l c, ?_, ?_, fun m hm => ?_, fun x => ?_⟩
        · rw [hsc c lc]
          exact sc_nl_H hl L2.1 hnm c (Nat.le_refl _)
        · rw [sc_nl_len]
          by_cases y : K (f + 1) = 7
          · have q := hP y
            have := gr_Pa (n := n) gb.1 q
            rcases hv with hv | hv <;> omega
          · have : f + 5 ≤ i := by
              have b0 : ls_M K (sk_f K n) (f + 3) (f + 3) := (ls_CM lc).mpr ⟨0, hc1 y, rfl⟩
              obtain ⟨m1, m2, m3, m4, m5, m6, m7, m8, m9⟩ := gr_bnd hI k1 (by omega) hSf b0
              have := m5.1
              obtain ⟨_, q⟩ := hE.2
              rcases q with ⟨q, _⟩ | ⟨q, _⟩ | ⟨q, q', e⟩ | ⟨q, b, hb, e⟩
              · omega
              · omega
              · omega
              · have := (gr_bnd hI k1 q hSf hb).1
                omega
            omega
        · rcases sc_nl_m c m hm with ⟨j, hj, e⟩ | e
          · have q := (W.2.1 f (by omega) hE.1).2.2.2 m (e ▸ (hN _).mpr ⟨j, hj, rfl⟩)
            exact ⟨q.1, by omega⟩
          · have := hrl m e; exact ⟨this.1, by omega⟩
        · rw [sc_nl_mem, key x, hmem x]
          constructor
          · rintro (⟨j, hj, h⟩ | h)
            · exact Or.inr ⟨k7, k9, ⟨_, (hN _).mpr ⟨j, hj, rfl⟩, h⟩, hv⟩
            · exact Or.inl h
          · rintro (h | ⟨_, _, ⟨m, hm, h⟩, _⟩)
            · exact Or.inr h
            · obtain ⟨j, hj, e⟩ := (hN m).mp hm
              exact Or.inl ⟨j, hj, by rw [← e]; exact h⟩
      have same : sc i = sc f → (7 ≤ K (f + 1) → K (f + 1) ≤ 9 → ¬ (K (f + 1) = 9 ∨ sk_f K n (f + 2) ≤ i)) → ∃ l, sc_H n sc l (sc i) ∧ l.length ≤ i ∧ (∀ m, m ∈ l → r m = 3 ∧ par m < i) ∧ ∀ x, (∃ m, m ∈ l ∧ V m = x) ↔ sc_B K V (sk_f K n) i x := by
        intro e no
        refine ⟨l, by rw [e]; exact hl, by omega, fun m hm => ⟨(hrl m hm).1, by have := (hrl m hm).2; omega⟩, fun x => ?_⟩
        rw [key x, hmem x]
        exact ⟨Or.inl, fun h => h.elim id (fun h => absurd h.2.2.2 (no h.1 h.2.1))⟩
      have hE2 := hE.2
      obtain ⟨_, q⟩ := hE.2
      rcases q with ⟨q, _⟩ | ⟨q, _⟩ | ⟨q, q', e⟩ | ⟨q, b, hb, e⟩
      · exact same (L.1 (by omega) i hE2) (fun _ _ => by omega)
      · exact same (L.1 (by omega) i hE2) (fun _ _ => by omega)
      · exact bindc q q' (Or.inr (by omega)) (fun c lc => by rw [e]; exact (L.2 q q' c lc).2.1)
      · obtain ⟨c, c4, lc, hN, hP, hc1⟩ := sc_N k1 (by omega) (by omega) hSf
        have L2 := (L.2 (by omega) (by omega) c lc).2.2 (by omega)
        obtain ⟨j, hj, eb⟩ := (ls_CM lc).mp hb
        have L3 := L2 j hj
        rw [← eb, ← e] at L3
        by_cases y : K (f + 1) = 9
        · rw [if_pos y] at L3
          exact bindc (by omega) (by omega) (Or.inl y) (fun c' lc' => by rw [ls_C_u lc' lc]; exact L3)
        · rw [if_neg y] at L3
          refine same L3 (fun _ _ => ?_)
          obtain ⟨m1, m2, m3, m4, m5, m6, m7, m8, m9⟩ := gr_bnd hI k1 q hSf hb
          have := m5.1
          omega
end
end
section
/-! the machine's measure; every token is spoken of -/
def pm_fl (g : Nat) : Nat := if g = 3 ∨ g = 8 then 1 else 0
def pm_fS : List (Nat × Nat × Nat) → Nat
  | [] => 0
  | (g, _, _) :: _ => pm_fl g
theorem pm_fS1 : ∀ S, pm_fS S ≤ 1
  | [] => by simp [pm_fS]
  | (g, _, _) :: _ => by simp only [pm_fS, pm_fl]; split <;> omega
section
variable {K : Nat → Nat} {V : Nat → Int32} {n : Nat}
theorem gr_n13 (h : Nat) : 1 ≤ gr_n h ∧ gr_n h ≤ 3 := by
  unfold gr_n
  split
  · omega
  · split <;> omega
theorem pm_dec (hn : ∀ i, n ≤ i → K i = 0) {p g x st p' : Nat} {new S : List (Nat × Nat × Nat)} (hp : p < n) (t : pm_T K V (sk_f K n) p g x st p' new) :
    p' ≤ n ∧ 4 * (n - p') + (new ++ S).length + 2 * pm_fS (new ++ S) < 4 * (n - p) + (S.length + 1) + 2 * pm_fl g ∧ (S.length + 1 + pm_fl g ≤ 2 * p + 2 → (new ++ S).length + pm_fS (new ++ S) ≤ 2 * p' + 2) := by
  have kn : ∀ j, K j ≠ 0 → j < n := fun j hj => by
    rcases Nat.lt_or_ge j n with z | z
    · exact z
    · exact absurd (hn j z) hj
  have f1 := pm_fS1 S
  have s1 := kn (p + 1)
  have s2 := kn (p + 2)
  rcases t with ⟨rfl, z, rfl, rfl⟩ | ⟨rfl, z, rfl, rfl⟩ | ⟨rfl, z, rfl, rfl⟩ | ⟨rfl, z, rfl, rfl⟩ | ⟨rfl, z, rfl, rfl⟩ | ⟨rfl, z, rfl, rfl⟩ | ⟨rfl, z, x4, rfl, rfl⟩ | ⟨hg, z, x0, rfl, rfl⟩ | ⟨hg, z, x4, z1, nd, rfl, rfl⟩ | ⟨hg, k1, k7, k2, c, q, rfl, rfl⟩ | ⟨rfl, z, rfl, rfl⟩ | ⟨rfl, k1, k, k2, rfl, rfl⟩ | ⟨rfl, k1, k, rfl, rfl⟩ | ⟨rfl, k1, k, rfl, rfl⟩ | ⟨rfl, k1, k, rfl, rfl⟩
  · simp only [List.nil_append, pm_fl]; simp; omega
  · simp only [List.nil_append, pm_fl]; simp; omega
  · simp [pm_fS, pm_fl]; omega
  · simp [pm_fS, pm_fl]; omega
  · simp only [List.nil_append, pm_fl]; simp; omega
  · simp only [List.nil_append, pm_fl]; simp; omega
  · simp [pm_fS, pm_fl]; omega
  · have e : pm_fl g = 0 := by unfold pm_fl; rw [if_neg (by omega)]
    rw [e]
    simp only [List.nil_append]; omega
  · have e : pm_fl g = 0 := by unfold pm_fl; rw [if_neg (by omega)]
    have e2 : pm_fl (if g = 5 then 1 else 7) = 0 := by unfold pm_fl; rw [if_neg]; split <;> omega
    rw [e]
    simp [pm_fS, e2]; omega
  · have e : pm_fl g = 0 := by unfold pm_fl; rw [if_neg (by omega)]
    have := kn (p + 2 + 1 + c) (by rw [q.2.2.1]; omega)
    rw [e]
    simp [pm_fS, pm_fl]; omega
  · simp only [List.nil_append, pm_fl]; simp; omega
  · have e2 : pm_fl (K (p + 1) - 3) = 0 := by unfold pm_fl; rw [if_neg]; omega
    simp only [List.cons_append, List.nil_append, List.length_cons, pm_fS, e2]
    simp only [pm_fl]; simp; omega
  · simp [pm_fS, pm_fl]; omega
  · simp [pm_fS, pm_fl]; omega
  · have g13 := gr_n13 (K (p + 1))
    obtain ⟨m, hm⟩ : ∃ m, gr_n (K (p + 1)) = m + 1 := ⟨gr_n (K (p + 1)) - 1, by omega⟩
    rw [hm] at g13 ⊢
    simp only [List.replicate_succ, List.cons_append, List.length_cons, List.length_append, List.length_replicate, List.length_nil, pm_fS]
    simp only [pm_fl]; simp; omega
theorem pm_cov {r : Nat → Int32} {par : Nat → Nat} (hn : ∀ i, n ≤ i → K i = 0) (W : rw_W K V (sk_f K n) n n r par)
    {g x st : Nat} {S : List (Nat × Nat × Nat)} {p p' : Nat} {new : List (Nat × Nat × Nat)} (h : pm_C K V (sk_f K n) n (fun c => r c = 1) (fun c => r c = 2) (fun c => r c = 3) ((g, x, st) :: S) p) (t : pm_T K V (sk_f K n) p g x st p' new) :
    ∀ t, p ≤ t → t < p' → (K t = 4 → (r t = 1 ∧ g = 1 ∧ t = p ∧ p' = p + 1 ∧ new = []) ∨ r t = 3) ∧ (K t = 1 → 7 ≤ K (t + 1) → K (t + 1) ≤ 9 → r t = 1) := by
  have kn : ∀ j, K j ≠ 0 → j < n := fun j hj => by
    rcases Nat.lt_or_ge j n with z | z
    · exact z
    · exact absurd (hn j z) hj
  intro u hu1 hu2
  rcases t with ⟨rfl, z, rfl, rfl⟩ | ⟨rfl, z, rfl, rfl⟩ | ⟨rfl, z, rfl, rfl⟩ | ⟨rfl, z, rfl, rfl⟩ | ⟨rfl, z, rfl, rfl⟩ | ⟨rfl, z, rfl, rfl⟩ | ⟨rfl, z, x4, rfl, rfl⟩ | ⟨hg, z, x0, rfl, rfl⟩ | ⟨hg, z, x4, z1, nd, rfl, rfl⟩ | ⟨hg, k1, k7, k2, c, q, rfl, rfl⟩ | ⟨rfl, z, rfl, rfl⟩ | ⟨rfl, k1, k, k2, rfl, rfl⟩ | ⟨rfl, k1, k, rfl, rfl⟩ | ⟨rfl, k1, k, rfl, rfl⟩ | ⟨rfl, k1, k, rfl, rfl⟩
  · have : u = p := by omega
    subst this; exact ⟨fun y => by omega, fun y => by omega⟩
  · have : u = p := by omega
    subst this; exact ⟨fun y => by omega, fun y => by omega⟩
  · omega
  · have : u = p := by omega
    subst this
    refine ⟨fun y => by omega, fun y y7 y9 => ?_⟩
    exfalso
    obtain ⟨hd, _⟩ := pm_C2.mp h
    obtain ⟨a1, a2⟩ := W.2.2.1 u (kn u (by omega)) hd
    have m := a2 (u + 1) ⟨z, ls_M_0 (by omega)⟩
    have b1 := (W.2.2.1 (u + 1) (kn (u + 1) (by omega)) m.1).1
    rcases b1 with b | b | ⟨b, _⟩ <;> omega
  · have : u = p := by omega
    subst this; exact ⟨fun y => by omega, fun y => by omega⟩
  · omega
  · omega
  · have : u = p := by omega
    subst this; exact ⟨fun y => by omega, fun y => by omega⟩
  · by_cases y : u = p
    · subst y; exact ⟨fun y => by omega, fun y => by omega⟩
    · have : u = p + 1 := by omega
      subst this
      refine ⟨fun _ => Or.inr ?_, fun y => by omega⟩
      obtain ⟨c, c0, c1, lc, hb, _⟩ := (pm_C56 hg).mp h
      cases c with
      | zero => have := ls_C_z lc; omega
      | succ c => exact (hb 0 (by omega)).2.1
  · have hp : r p = 1 := by
      rcases hg with rfl | rfl
      · exact (pm_C7.mp h).2.2.1
      · exact (pm_C1.mp h).1
    by_cases y : u = p
    · subst y; exact ⟨fun y => by omega, fun _ _ _ => hp⟩
    · by_cases y1 : u = p + 1
      · subst y1; exact ⟨fun y => by omega, fun y => by omega⟩
      · by_cases y2 : u = p + 2
        · subst y2
          refine ⟨fun y => by omega, fun _ y7 y9 => ?_⟩
          exfalso
          have q1 := q.2.2.1
          have q2 := q.2.1 0
          by_cases c0 : c = 0
          · subst c0
            change K (p + 2 + 1) = 2 at q1
            omega
          · have := q2 (by omega)
            change K (p + 2 + 1) = 4 at this
            omega
        · by_cases y3 : u = p + 3 + c
          · have q1 := q.2.2.1
            rw [show p + 2 + 1 + c = u from by omega] at q1
            exact ⟨fun y => by omega, fun y => by omega⟩
          · have e : u = p + 2 + 1 + (u - (p + 3)) := by omega
            have q2 := q.2.1 (u - (p + 3)) (by omega)
            rw [← e] at q2
            refine ⟨fun _ => Or.inr ?_, fun y => by omega⟩
            refine ((W.2.1 p (kn p (by omega)) hp).2.2.2 u ⟨k1, Or.inl ⟨k7, ?_⟩⟩).1
            exact (ls_CM (gr_PC (n := n) q)).mpr ⟨u - (p + 3), by omega, by rw [gr_Pi q (by omega)]; omega⟩
  · have : u = p := by omega
    subst this
    exact ⟨fun _ => Or.inl ⟨(pm_C1.mp h).1, rfl, rfl, rfl, rfl⟩, fun y => by omega⟩
  · have hp : r p = 1 := (pm_C1.mp h).1
    by_cases y : u = p
    · subst y; exact ⟨fun y => by omega, fun _ _ _ => hp⟩
    · by_cases y1 : u = p + 1
      · subst y1; exact ⟨fun y => by omega, fun y => by omega⟩
      · have : u = p + 2 := by omega
        subst this
        refine ⟨fun y => by omega, fun _ y7 y9 => ?_⟩
        exfalso
        rcases gr_FSof (W.2.1 p (kn p (by omega)) hp).1 k1 with ⟨k', l⟩ | ⟨k', l, k2', c, q⟩ | ⟨k', l, k2', c, c1, c4, lc, bb⟩ | ⟨k', l⟩ | ⟨k', c', c4, l⟩
        · omega
        · omega
        · have := (bb 0 (by omega)).1
          change K (p + 3) = 1 at this
          change 7 ≤ K (p + 3) at y7
          omega
        · omega
        · omega
  · have : u = p := by omega
    subst this; exact ⟨fun y => by omega, fun y => by omega⟩
  · by_cases y : u = p
    · subst y; exact ⟨fun y => by omega, fun y => by omega⟩
    · have : u = p + 1 := by omega
      subst this; exact ⟨fun y => by omega, fun y => by omega⟩
  · by_cases y : u = p
    · subst y; exact ⟨fun y => by omega, fun y => by omega⟩
    · have : u = p + 1 := by omega
      subst this; exact ⟨fun y => by omega, fun y => by omega⟩
/-- the roles are the machine's -/
theorem rw_EC {r : Nat → Int32} {par : Nat → Nat} (hrn : ∀ c, r c ≠ 0 → c < n) (W : rw_W K V (sk_f K n) n n r par) : (∀ p, r p = 1 → gr_EC K V (sk_f K n) (fun c => r c = 1) (fun c => r c = 2) p) ∧ (∀ p, r p = 1 → ∀ c, gr_N K (sk_f K n) p c → r c = 3) ∧ (∀ p, r p = 2 → gr_DC K (sk_f K n) (fun c => r c = 2) p) := by
  refine ⟨fun p hp => ?_, fun p hp c hc => ?_, fun p hp => ?_⟩
  · obtain ⟨a, b, c, d⟩ := W.2.1 p (hrn p (by rw [hp]; decide)) hp
    exact ⟨a, fun x hx => (b x hx).1, fun x hx => (c x hx).1⟩
  · exact ((W.2.1 p (hrn p (by rw [hp]; decide)) hp).2.2.2 c hc).1
  · obtain ⟨a, b⟩ := W.2.2.1 p (hrn p (by rw [hp]; decide)) hp
    exact ⟨a, fun x hx => (b x hx).1⟩
theorem pm_kc {r : Nat → Int32} {par : Nat → Nat} (hB : ∀ i, i < n → K i ≠ 2 → dp_I K i (sk_f K n i)) (hn : ∀ i, n ≤ i → K i = 0) (hrn : ∀ c, r c ≠ 0 → c < n) (hK2 : ∀ c, r c = 1 ∨ r c = 2 → K c ≠ 2) (W : rw_W K V (sk_f K n) n n r par) :
    ∀ (M : Nat) (S : List (Nat × Nat × Nat)) (p : Nat), 4 * (n - p) + S.length + 2 * pm_fS S ≤ M → p ≤ n → pm_C K V (sk_f K n) n (fun c => r c = 1) (fun c => r c = 2) (fun c => r c = 3) S p →
      (∀ t, t < p → K t = 1 → 7 ≤ K (t + 1) → K (t + 1) ≤ 9 → r t = 1) → ∀ t, K t = 1 → 7 ≤ K (t + 1) → K (t + 1) ≤ 9 → r t = 1 := by
  obtain ⟨hE, hN, hD⟩ := rw_EC hrn W
  have hEI : ∀ c, r c = 1 → dp_I K c (sk_f K n c) := fun c hc => hB c (hrn c (by rw [hc]; decide)) (hK2 c (Or.inl hc))
  have hDI : ∀ c, r c = 2 → dp_I K c (sk_f K n c) := fun c hc => hB c (hrn c (by rw [hc]; decide)) (hK2 c (Or.inr hc))
  intro M
  induction M with
  | zero =>
    intro S p hM hp hC hc t
    cases S with
    | nil =>
      intro h1 h7 h9
      refine hc t ?_ h1 h7 h9
      change p = n at hC
      rcases Nat.lt_or_ge t n with z | z
      · omega
      · have := hn t z; omega
    | cons a S => simp at hM
  | succ M ih =>
    intro S p hM hp hC hc t
    cases S with
    | nil =>
      intro h1 h7 h9
      refine hc t ?_ h1 h7 h9
      change p = n at hC
      rcases Nat.lt_or_ge t n with z | z
      · omega
      · have := hn t z; omega
    | cons a S =>
      obtain ⟨g, x, st⟩ := a
      obtain ⟨kp, p', new, T, C⟩ := pm_F hE hN hD hEI hDI hC
      have pn : p < n := by
        rcases Nat.lt_or_ge p n with z | z
        · exact z
        · exact absurd (hn p z) kp
      have d := pm_dec (S := S) hn pn T
      refine ih (new ++ S) p' ?_ d.1 C (fun u hu => ?_) t
      · have e : pm_fS ((g, x, st) :: S) = pm_fl g := rfl
        rw [e] at hM
        simp only [List.length_cons] at hM
        omega
      · rcases Nat.lt_or_ge u p with z | z
        · exact hc u z
        · exact (pm_cov hn W hC T u z hu).2
end
end
section
/-! the tokens as both sides hold them -/
def tk_K (tk : Nat → Int32) (n i : Nat) : Nat := if i < n then (tk i).toNatClampNeg else 0
def tk_ok (tk : Nat → Int32) (n : Nat) : Prop := n ≤ 64 ∧ ∀ i, i < n → ∃ k : Nat, 1 ≤ k ∧ k ≤ 20 ∧ tk i = nI k
section
variable {tk : Nat → Int32} {n : Nat}
theorem tk_v (H : tk_ok tk n) {i : Nat} (hi : i < n) : tk i = nI (tk_K tk n i) ∧ 1 ≤ tk_K tk n i ∧ tk_K tk n i ≤ 20 := by
  obtain ⟨k, h1, h2, e⟩ := H.2 i hi
  have : tk_K tk n i = k := by unfold tk_K; rw [if_pos hi, e, nI_clamp (by omega)]
  rw [this]; exact ⟨e, h1, h2⟩
theorem tk_0 {i : Nat} (hi : n ≤ i) : tk_K tk n i = 0 := if_neg (by omega)
theorem tk_lt {i : Nat} (h : tk_K tk n i ≠ 0) : i < n := by
  rcases Nat.lt_or_ge i n with z | z
  · exact z
  · exact absurd (tk_0 z) h
theorem tk_20 (H : tk_ok tk n) (i : Nat) : tk_K tk n i ≤ 20 := by
  rcases Nat.lt_or_ge i n with z | z
  · exact (tk_v H z).2.2
  · rw [tk_0 z]; omega
theorem tk_c (H : tk_ok tk n) {i : Nat} (hi : i < n) : tk (nI i).toNatClampNeg = nI (tk_K tk n i) := by
  have := H.1
  rw [nI_clamp (by omega)]; exact (tk_v H hi).1
theorem tk_in (H : tk_ok tk n) {i : Nat} (hi : i < n) : vp_in (nI i) 64 := vp_in_nI (by have := H.1; omega) (by omega)
/-- a branch on a token's kind -/
theorem tk_b (H : tk_ok tk n) {i : Nat} (hi : i < n) (c : Nat) {A B : Prop} (f : tk_K tk n i = c → A) (g : tk_K tk n i ≠ c → B) {y : Int32} (hy : y = nI c := by rfl) (hc : c < 2 ^ 31 := by omega) : (tk (nI i).toNatClampNeg = y → A) ∧ (¬ tk (nI i).toNatClampNeg = y → B) := by
  have h := tk_v H hi
  exact pk_eq (tk_K tk n i) c f g (tk_c H hi) hy (by omega) hc
end
theorem ni_2 (a : Nat) : nI a + 2 = nI (a + 2) := nI_add a 2
theorem ni_3 (a : Nat) : nI a + 3 = nI (a + 3) := nI_add a 3
theorem ni_4 (a : Nat) : nI a + 4 = nI (a + 4) := nI_add a 4
theorem ni_5 (a : Nat) : nI a + 5 = nI (a + 5) := nI_add a 5
theorem ni_m {a : Nat} (h : 1 ≤ a) : nI a - 1 = nI (a - 1) := pk_sub (b := 1) h
theorem ni_nm1 {a : Nat} (h : a < 2 ^ 31) : ¬ nI a = -1 := by
  intro e
  have h1 := nI_toInt h
  rw [e] at h1
  have h2 : (-1 : Int32).toInt = -1 := by decide
  omega
/-- the skip function moves on -/
theorem sk_gt {K : Nat → Nat} {n : Nat} (hn : ∀ i, n ≤ i → K i = 0) (p : Nat) : p < sk_f K n p := by
  by_cases h : ∃ j, dp_I K p j
  · obtain ⟨j, h⟩ := h
    rw [sk_I h]; exact h.1
  · by_cases h1 : K p = 1
    · rw [sk_no h h1]
      rcases Nat.lt_or_ge p n with z | z
      · exact z
      · have := hn p z; omega
    · rw [sk_at h1]; omega
theorem it_gt {K : Nat → Nat} {n : Nat} (hn : ∀ i, n ≤ i → K i = 0) (s x : Nat) : ∀ d, it_f (sk_f K n) x s + d ≤ it_f (sk_f K n) (x + d) s
  | 0 => Nat.le_refl _
  | d + 1 => by
    have h := it_gt hn s x d
    have g := sk_gt hn (it_f (sk_f K n) (x + d) s)
    rw [show x + (d + 1) = x + d + 1 from rfl, it_s]
    omega
theorem ls_bd {K : Nat → Nat} {n s c : Nat} (hn : ∀ i, n ≤ i → K i = 0) (lc : ls_C K (sk_f K n) s c) : (∀ x, x ≤ c → it_f (sk_f K n) x s < n ∧ s + x ≤ it_f (sk_f K n) x s) ∧ s + c < n := by
  have e : it_f (sk_f K n) c s < n := by
    rcases Nat.lt_or_ge (it_f (sk_f K n) c s) n with z | z
    · exact z
    · have := hn _ z; have := lc.2; omega
  have h0 := it_gt hn s 0
  refine ⟨fun x hx => ⟨?_, ?_⟩, ?_⟩
  · have := it_gt hn s x (c - x)
    rw [show x + (c - x) = c from by omega] at this
    omega
  · have := h0 x
    rw [Nat.zero_add] at this
    exact this
  · have := h0 c
    rw [Nat.zero_add] at this
    have e2 : it_f (sk_f K n) 0 s = s := rfl
    omega
/-- the component's table of ends -/
def xb_A (K : Nat → Nat) (n : Nat) (af : Nat → Int32) : Prop := ∀ i, i < n → K i ≠ 2 → dp_I K i (sk_f K n i) ∧ af i = nI (sk_f K n i)
end
section
/-! the component's parens, item by item -/
def xo_O (K : Nat → Nat) (af : Nat → Int32) (m : Nat) : List Nat → Int32 → Int → Prop
  | [], o, d => o = -1 ∧ d = 0
  | a :: l, o, d => o = nI a ∧ a < m ∧ K a = 1 ∧ dp_d K a = d - 1 ∧ (∀ x, a < x → x ≤ m → dp_d K a < dp_d K x) ∧ xo_O K af m l (af a) (d - 1)
section
variable {K : Nat → Nat}
theorem xo_len {af : Nat → Int32} {m : Nat} : ∀ {l : List Nat} {o : Int32} {d : Int}, xo_O K af m l o d → d = l.length
  | [], _, _, h => h.2
  | a :: l, _, _, h => by
    have := xo_len h.2.2.2.2.2
    simp only [List.length_cons]; omega
theorem xo_mem {af : Nat → Int32} {m b : Nat} : ∀ {l : List Nat} {o : Int32} {d : Int}, xo_O K af m l o d → b ∈ l → b < m ∧ dp_d K b < d
  | [], _, _, _, hb => absurd hb List.not_mem_nil
  | a :: l, _, _, h, hb => by
    rcases List.mem_cons.mp hb with e | e
    · subst e; exact ⟨h.2.1, by have := h.2.2.2.1; omega⟩
    · have := xo_mem h.2.2.2.2.2 e; exact ⟨this.1, by omega⟩
theorem xo_up {af af' : Nat → Int32} {m : Nat} : ∀ {l : List Nat} {o : Int32} {d : Int}, xo_O K af m l o d → (∀ b, b ∈ l → af' b = af b) → d ≤ dp_d K (m + 1) → xo_O K af' (m + 1) l o d
  | [], _, _, h, _, _ => h
  | a :: l, _, _, h, ha, hd => by
    obtain ⟨h1, h2, h3, h4, h5, h6⟩ := h
    refine ⟨h1, by omega, h3, h4, fun x x1 x2 => ?_, ?_⟩
    · by_cases z : x = m + 1
      · subst z; omega
      · exact h5 x x1 (by omega)
    · rw [ha a List.mem_cons_self]
      exact xo_up h6 (fun b hb => ha b (List.mem_cons_of_mem _ hb)) (by omega)
end
section
variable {xdl xtn xpp xvc xcc xfc xoc xag xan xex xen xfl xac xst xsp xmd xrt xcu : Int32} {xtk xtv xaf xro xsc xho xvk xvf xvs xcv xco xff xfp xfe xfb xop : Nat → Int32} {n : Nat}
theorem xo_loop (H : tk_ok xtk n) {post : Int32 → SX → Prop}
    (h1 : ∀ af', xb_A (tk_K xtk n) n af' → (0 < n → tk_K xtk n 0 ≠ 2) → post 1 (xdl, nI n, xpp, xvc, xcc, xfc, xoc, xag, xan, xex, xen, xfl, xac, xst, xsp, xmd, xrt, xcu, xtk, xtv, af', xro, xsc, xho, xvk, xvf, xvs, xcv, xco, xff, xfp, xfe, xfb, xop))
    (h0 : ∀ af', ¬ dp_I (tk_K xtk n) 0 n → post 0 (xdl, nI n, xpp, xvc, xcc, xfc, xoc, xag, xan, xex, xen, xfl, xac, xst, xsp, xmd, xrt, xcu, xtk, xtv, af', xro, xsc, xho, xvk, xvf, xvs, xcv, xco, xff, xfp, xfe, xfb, xop)) :
    ∀ (d m : Nat) (l : List Nat) (o : Int32) (af : Nat → Int32), m + d = n → xo_O (tk_K xtk n) af m l o (dp_d (tk_K xtk n) m) → (∀ i, i < m → tk_K xtk n i ≠ 2 → i ∈ l ∨ ∃ j, dp_I (tk_K xtk n) i j ∧ af i = nI j) → (0 < m → tk_K xtk n 0 ≠ 2) →
      wX_parensMatch_4 post xdl (nI n) xpp xvc xcc xfc xoc xag xan xex xen xfl xac xst xsp xmd xrt xcu (d + 1) o (nI m) xtk xtv af xro xsc xho xvk xvf xvs xcv xco xff xfp xfe xfb xop := by
  have H1 := H.1
  intro d
  induction d with
  | zero =>
    intro m l o af e hO hD hZ
    refine pk_le n m (fun _ => ?_) (fun z => by omega)
    cases l with
    | nil =>
      refine br_t hO.1 (h1 af (fun i hi hk => ?_) (fun z => hZ (by omega)))
      rcases hD i (by omega) hk with z | ⟨j, z, z2⟩
      · exact absurd z List.not_mem_nil
      · rw [sk_I z]; exact ⟨z, z2⟩
    | cons a l =>
      have la := hO.2.1
      refine br_f (by rw [hO.1]; exact ni_nm1 (by omega)) (h0 af (fun z => ?_))
      have e1 := xo_len hO
      have e2 := z.2.1
      rw [show n = m from by omega] at e2
      have e3 : dp_d (tk_K xtk m) 0 = 0 := rfl
      simp only [List.length_cons] at e1
      rw [show n = m from by omega] at e1
      omega
  | succ d ih =>
    intro m l o af e hO hD hZ
    have hm : m < n := by omega
    have hc : (nI m).toNatClampNeg = m := nI_clamp (by omega)
    refine pk_le n m (fun z => by omega) (fun _ => ⟨tk_in H hm, fun af4 e4 => ⟨tk_in H hm, tk_b H hm 1 (fun k => ?_) (fun k => ?_)⟩⟩)
    · refine ⟨tk_in H hm, fun a17 e17 => nm_r (nI_1 m) ?_⟩
      rw [hc] at e4 e17
      have f1 : a17 m = o := by rw [e17]; exact pk_us
      have f2 : ∀ j, j ≠ m → a17 j = af j := fun j hj => by rw [e17, pk_un hj, e4, pk_un hj]
      have d1 := dp_1 k
      refine ih (m + 1) (m :: l) (nI m) a17 (by omega) ⟨rfl, by omega, k, by omega, fun x x1 x2 => ?_, ?_⟩ (fun i hi hk => ?_) (fun z => ?_)
      · have : x = m + 1 := by omega
        subst this; omega
      · rw [f1, d1, show dp_d (tk_K xtk n) m + 1 - 1 = dp_d (tk_K xtk n) m from by omega]
        exact xo_up hO (fun b hb => f2 b (by have := (xo_mem hO hb).1; omega)) (by omega)
      · by_cases z : i = m
        · subst z; exact Or.inl List.mem_cons_self
        · rcases hD i (by omega) hk with y | y
          · exact Or.inl (List.mem_cons_of_mem _ y)
          · rw [f2 i z]; exact Or.inr y
      · by_cases y : m = 0
        · subst y; omega
        · exact hZ (by omega)
    · refine ⟨tk_in H hm, tk_b H hm 2 (fun k2 => ?_) (fun k2 => ?_)⟩
      · rw [hc] at e4
        have d2 := dp_2 k2
        cases l with
        | nil =>
          have hz := hO.2
          refine br_t hO.1 (h0 af4 (fun z => ?_))
          have e3 : dp_d (tk_K xtk n) 0 = 0 := rfl
          by_cases y : m + 1 = n
          · have := z.2.1; rw [← y] at this
            rw [← y] at e3 d2 hz; omega
          · have := z.2.2 (m + 1) (by omega) (by omega); omega
        | cons a l =>
          obtain ⟨o1, o2, o3, o4, o5, o6⟩ := hO
          have ca : o.toNatClampNeg = a := by rw [o1]; exact nI_clamp (by omega)
          have ia : vp_in o 64 := by rw [o1]; exact tk_in H (by omega)
          refine br_f (by rw [o1]; exact ni_nm1 (by omega)) ⟨ia, fun x3 e3 => ⟨ia, fun a14 e14 => nm_r (nI_1 m) ?_⟩⟩
          rw [ca] at e3 e14
          have f0 : x3 = af a := by rw [e3, e4, pk_un (by omega)]
          have f1 : a14 a = nI (m + 1) := by rw [e14, pk_us, nI_1]
          have f2 : ∀ j, j ≠ m → j ≠ a → a14 j = af j := fun j hj hj2 => by rw [e14, pk_un hj2, e4, pk_un hj]
          have nm : ∀ b, b ∈ l → b ≠ a ∧ b < m := fun b hb => by
            have := xo_mem o6 hb
            refine ⟨fun z => ?_, this.1⟩
            subst z; omega
          refine ih (m + 1) l x3 a14 (by omega) ?_ (fun i hi hk => ?_) (fun _ => hZ (by omega))
          · rw [f0, d2]
            exact xo_up o6 (fun b hb => f2 b (by have := (nm b hb).2; omega) (nm b hb).1) (by omega)
          · by_cases z : i = m
            · subst z; exact absurd k2 hk
            · by_cases z2 : i = a
              · subst z2
                refine Or.inr ⟨m + 1, ⟨by omega, by omega, fun x x1 x2 => o5 x x1 (by omega)⟩, f1⟩
              · rw [f2 i z z2]
                rcases hD i (by omega) hk with y | y
                · exact Or.inl ((List.mem_cons.mp y).resolve_left z2)
                · exact Or.inr y
      · rw [hc] at e4
        have f1 : af4 m = nI (m + 1) := by rw [e4, pk_us, nI_1]
        have f2 : ∀ j, j ≠ m → af4 j = af j := fun j hj => by rw [e4, pk_un hj]
        have d0 := dp_0 k k2
        refine nm_r (nI_1 m) (ih (m + 1) l o af4 (by omega) ?_ (fun i hi hk => ?_) (fun _ => ?_))
        · rw [d0]
          exact xo_up hO (fun b hb => f2 b (by have := (xo_mem hO hb).1; omega)) (by omega)
        · by_cases z : i = m
          · subst z; exact Or.inr ⟨i + 1, dp_I_a k k2, f1⟩
          · rw [f2 i z]; exact hD i (by omega) hk
        · by_cases y : m = 0
          · subst y; exact k2
          · exact hZ (by omega)
theorem xo_parens (H : tk_ok xtk n) {post : Int32 → SX → Prop}
    (h1 : ∀ af', xb_A (tk_K xtk n) n af' → (0 < n → tk_K xtk n 0 ≠ 2) → post 1 (xdl, nI n, xpp, xvc, xcc, xfc, xoc, xag, xan, xex, xen, xfl, xac, xst, xsp, xmd, xrt, xcu, xtk, xtv, af', xro, xsc, xho, xvk, xvf, xvs, xcv, xco, xff, xfp, xfe, xfb, xop))
    (h0 : ∀ af', ¬ dp_I (tk_K xtk n) 0 n → post 0 (xdl, nI n, xpp, xvc, xcc, xfc, xoc, xag, xan, xex, xen, xfl, xac, xst, xsp, xmd, xrt, xcu, xtk, xtv, af', xro, xsc, xho, xvk, xvf, xvs, xcv, xco, xff, xfp, xfe, xfb, xop)) : wpX_parensMatch post (xdl, nI n, xpp, xvc, xcc, xfc, xoc, xag, xan, xex, xen, xfl, xac, xst, xsp, xmd, xrt, xcu, xtk, xtv, xaf, xro, xsc, xho, xvk, xvf, xvs, xcv, xco, xff, xfp, xfe, xfb, xop) :=
  ⟨n + 1, xo_loop H h1 h0 n 0 [] (-1) xaf (by omega) ⟨rfl, rfl⟩ (fun i hi => by omega) (fun z => by omega)⟩
theorem xi_loop (H : tk_ok xtk n) (A : xb_A (tk_K xtk n) n xaf) {s c : Nat} (lc : ls_C (tk_K xtk n) (sk_f (tk_K xtk n) n) s c) {post : Int32 → Prop} (hp : post (nI c)) :
    ∀ d x, x + d = c → wX_itemCount_6 post xdl xtn xpp xvc xcc xfc xoc xag xan xex xen xfl xac xst xsp xmd xrt xcu xtk xtv xaf xro xsc xho xvk xvf xvs xcv xco xff xfp xfe xfb xop (d + 1) (nI (it_f (sk_f (tk_K xtk n) n) x s)) (nI x) := by
  have H1 := H.1
  have bd := ls_bd (K := (tk_K xtk n)) (n := n) (fun i => tk_0) lc
  have b2 := bd.2
  intro d
  induction d with
  | zero =>
    intro x e
    have ec : x = c := by omega
    subst ec
    have hx := (bd.1 x (Nat.le_refl _)).1
    exact pk_le 64 x (fun z => by omega) (fun _ => ⟨tk_in H hx, tk_b H hx 2 (fun _ => hp) (fun z => absurd lc.2 z)⟩)
  | succ d ih =>
    intro x e
    have hx := (bd.1 x (by omega)).1
    have k := lc.1 x (by omega)
    refine pk_le 64 x (fun z => by omega) (fun _ => ⟨tk_in H hx, tk_b H hx 2 (fun z => absurd z k) (fun _ => ⟨tk_in H hx, nm_r ?_ (nm_r (nI_1 x) (ih (x + 1) (by omega)))⟩)⟩)
    rw [nI_clamp (by omega), (A _ hx k).2, it_s]
theorem xi_items (H : tk_ok xtk n) (A : xb_A (tk_K xtk n) n xaf) {i c : Nat} (lc : ls_C (tk_K xtk n) (sk_f (tk_K xtk n) n) (i + 1) c) {post : Int32 → Prop} (hp : post (nI c)) : wpX_itemCount post (xdl, xtn, xpp, xvc, xcc, xfc, xoc, xag, xan, xex, xen, xfl, xac, xst, xsp, xmd, xrt, xcu, xtk, xtv, xaf, xro, xsc, xho, xvk, xvf, xvs, xcv, xco, xff, xfp, xfe, xfb, xop) (nI i) :=
  nm_r (nI_1 i) ⟨c + 1, xi_loop H A lc hp c 0 (by omega)⟩
theorem xg_loop (H : tk_ok xtk n) (A : xb_A (tk_K xtk n) n xaf) {s c : Nat} (lc : ls_C (tk_K xtk n) (sk_f (tk_K xtk n) n) s c) {ρ : Int32} {post : SX → Prop}
    (hp : ∀ r', (∀ q, ls_M (tk_K xtk n) (sk_f (tk_K xtk n) n) s q → r' q = ρ) → (∀ q, ¬ ls_M (tk_K xtk n) (sk_f (tk_K xtk n) n) s q → r' q = xro q) → post (xdl, xtn, xpp, xvc, xcc, xfc, xoc, xag, xan, xex, xen, xfl, xac, xst, xsp, xmd, xrt, xcu, xtk, xtv, xaf, r', xsc, xho, xvk, xvf, xvs, xcv, xco, xff, xfp, xfe, xfb, xop)) :
    ∀ d x (r' : Nat → Int32), x + d = c → (∀ q, (∃ y, y < x ∧ q = it_f (sk_f (tk_K xtk n) n) y s) → r' q = ρ) → (∀ q, ¬ (∃ y, y < x ∧ q = it_f (sk_f (tk_K xtk n) n) y s) → r' q = xro q) →
      wX_giveRole_5 post ρ xdl xtn xpp xvc xcc xfc xoc xag xan xex xen xfl xac xst xsp xmd xrt xcu (d + 1) (nI (it_f (sk_f (tk_K xtk n) n) x s)) (nI x) xtk xtv xaf r' xsc xho xvk xvf xvs xcv xco xff xfp xfe xfb xop := by
  have H1 := H.1
  have bd := ls_bd (K := (tk_K xtk n)) (n := n) (fun i => tk_0) lc
  have b2 := bd.2
  intro d
  induction d with
  | zero =>
    intro x r' e r1 r2
    have ec : x = c := by omega
    subst ec
    have hx := (bd.1 x (Nat.le_refl _)).1
    exact pk_le 64 x (fun z => by omega) (fun _ => ⟨tk_in H hx, tk_b H hx 2 (fun _ => hp r' (fun q hq => r1 q ((ls_CM lc).mp hq)) (fun q hq => r2 q (fun z => hq ((ls_CM lc).mpr z)))) (fun z => absurd lc.2 z)⟩)
  | succ d ih =>
    intro x r' e r1 r2
    have hx := (bd.1 x (by omega)).1
    have k := lc.1 x (by omega)
    have hc : (nI (it_f (sk_f (tk_K xtk n) n) x s)).toNatClampNeg = it_f (sk_f (tk_K xtk n) n) x s := nI_clamp (by omega)
    refine pk_le 64 x (fun z => by omega) (fun _ => ⟨tk_in H hx, tk_b H hx 2 (fun z => absurd z k) (fun _ => ⟨tk_in H hx, fun r5 e5 => ⟨tk_in H hx, nm_r ?_ (nm_r (nI_1 x) (ih (x + 1) r5 (by omega) ?_ ?_))⟩⟩)⟩)
    · rw [hc, (A _ hx k).2, it_s]
    · rintro q ⟨y, hy, eq⟩
      rw [e5, hc]
      by_cases z : q = it_f (sk_f (tk_K xtk n) n) x s
      · rw [z]; exact pk_us
      · rw [pk_un z]
        refine r1 q ⟨y, ?_, eq⟩
        by_cases y2 : y = x
        · subst y2; exact absurd eq z
        · omega
    · intro q hq
      rw [e5, hc, pk_un (fun z => hq ⟨x, by omega, z⟩)]
      exact r2 q (fun ⟨y, hy, eq⟩ => hq ⟨y, by omega, eq⟩)
theorem xg_give (H : tk_ok xtk n) (A : xb_A (tk_K xtk n) n xaf) {s c : Nat} (lc : ls_C (tk_K xtk n) (sk_f (tk_K xtk n) n) s c) {ρ : Int32} {post : SX → Prop}
    (hp : ∀ r', (∀ q, ls_M (tk_K xtk n) (sk_f (tk_K xtk n) n) s q → r' q = ρ) → (∀ q, ¬ ls_M (tk_K xtk n) (sk_f (tk_K xtk n) n) s q → r' q = xro q) → post (xdl, xtn, xpp, xvc, xcc, xfc, xoc, xag, xan, xex, xen, xfl, xac, xst, xsp, xmd, xrt, xcu, xtk, xtv, xaf, r', xsc, xho, xvk, xvf, xvs, xcv, xco, xff, xfp, xfe, xfb, xop)) : wpX_giveRole post (xdl, xtn, xpp, xvc, xcc, xfc, xoc, xag, xan, xex, xen, xfl, xac, xst, xsp, xmd, xrt, xcu, xtk, xtv, xaf, xro, xsc, xho, xvk, xvf, xvs, xcv, xco, xff, xfp, xfe, xfb, xop) (nI s) ρ :=
  ⟨c + 1, xg_loop H A lc hp c 0 xro (by omega) (fun q ⟨y, hy, _⟩ => by omega) (fun q _ => rfl)⟩
theorem xn_loop (H : tk_ok xtk n) {L q : Nat} (hq : q < n) {post : Int32 → SX → Prop}
    (h1 : (∀ x, L < x → x < q → xro x = 3 → xtv x ≠ xtv q) → post 1 (xdl, xtn, xpp, xvc, xcc, xfc, xoc, xag, xan, xex, xen, xfl, xac, xst, xsp, xmd, xrt, xcu, xtk, xtv, xaf, upd xro q 3, xsc, xho, xvk, xvf, xvs, xcv, xco, xff, xfp, xfe, xfb, xop))
    (h0 : (∃ x, L < x ∧ x < q ∧ xro x = 3 ∧ xtv x = xtv q) → post 0 (xdl, xtn, xpp, xvc, xcc, xfc, xoc, xag, xan, xex, xen, xfl, xac, xst, xsp, xmd, xrt, xcu, xtk, xtv, xaf, xro, xsc, xho, xvk, xvf, xvs, xcv, xco, xff, xfp, xfe, xfb, xop)) :
    ∀ d m, m + d = q → L < m → (∀ x, L < x → x < m → xro x = 3 → xtv x ≠ xtv q) → wX_takeName_16 post (nI q) xdl xtn xpp xvc xcc xfc xoc xag xan xex xen xfl xac xst xsp xmd xrt xcu xtk xtv xaf xro xsc xho xvk xvf xvs xcv xco xff xfp xfe xfb xop (d + 1) (nI m) := by
  have H1 := H.1
  have hcq : (nI q).toNatClampNeg = q := nI_clamp (by omega)
  intro d
  induction d with
  | zero =>
    intro m e hL hx
    have ec : m = q := by omega
    subst ec
    refine pk_le m m (fun _ => ⟨tk_in H hq, fun r6 e6 => ?_⟩) (fun z => by omega)
    rw [e6, hcq]; exact h1 hx
  | succ d ih =>
    intro m e hL hx
    have hm : m < n := by omega
    have hc : (nI m).toNatClampNeg = m := nI_clamp (by omega)
    refine pk_le q m (fun z => by omega) (fun _ => ⟨tk_in H hm, ?_⟩)
    rw [hc, hcq]
    by_cases r3 : xro m = 3
    · refine br_t r3 ⟨tk_in H hm, tk_in H hq, ?_⟩
      by_cases ev : xtv m = xtv q
      · exact br_t ev (h0 ⟨m, hL, by omega, r3, ev⟩)
      · refine br_f ev (nm_r (nI_1 m) (ih (m + 1) (by omega) (by omega) (fun x x1 x2 x3 => ?_)))
        by_cases z : x = m
        · subst z; exact ev
        · exact hx x x1 (by omega) x3
    · refine br_f r3 (nm_r (nI_1 m) (ih (m + 1) (by omega) (by omega) (fun x x1 x2 x3 => ?_)))
      by_cases z : x = m
      · subst z; exact absurd x3 r3
      · exact hx x x1 (by omega) x3
theorem xn_take (H : tk_ok xtk n) {L q : Nat} (hL : L < q) (hq : q < n) {post : Int32 → SX → Prop}
    (h1 : tk_K xtk n q = 4 → (∀ x, L < x → x < q → xro x = 3 → xtv x ≠ xtv q) → post 1 (xdl, xtn, xpp, xvc, xcc, xfc, xoc, xag, xan, xex, xen, xfl, xac, xst, xsp, xmd, xrt, xcu, xtk, xtv, xaf, upd xro q 3, xsc, xho, xvk, xvf, xvs, xcv, xco, xff, xfp, xfe, xfb, xop))
    (h0 : (tk_K xtk n q ≠ 4 ∨ ∃ x, L < x ∧ x < q ∧ xro x = 3 ∧ xtv x = xtv q) → post 0 (xdl, xtn, xpp, xvc, xcc, xfc, xoc, xag, xan, xex, xen, xfl, xac, xst, xsp, xmd, xrt, xcu, xtk, xtv, xaf, xro, xsc, xho, xvk, xvf, xvs, xcv, xco, xff, xfp, xfe, xfb, xop)) : wpX_takeName post (xdl, xtn, xpp, xvc, xcc, xfc, xoc, xag, xan, xex, xen, xfl, xac, xst, xsp, xmd, xrt, xcu, xtk, xtv, xaf, xro, xsc, xho, xvk, xvf, xvs, xcv, xco, xff, xfp, xfe, xfb, xop) (nI L) (nI q) :=
  ⟨tk_in H hq, tk_b H hq 4 (fun k => nm_r (nI_1 L) ⟨_, xn_loop H hq (h1 k) (fun z => h0 (Or.inr z)) (q - (L + 1)) (L + 1) (by omega) (by omega) (fun x x1 x2 => by omega)⟩) (fun k => h0 (Or.inl k))⟩
end
end
section
section
variable {xdl xtn xpp xvc xcc xfc xoc xag xan xex xen xfl xac xst xsp xmd xrt xcu : Int32} {xtk xtv xaf xro xsc xho xvk xvf xvs xcv xco xff xfp xfe xfb xop : Nat → Int32} {n : Nat}
/-- the number of a list's items, for a matched paren -/
theorem xl_cnt (H : tk_ok xtk n) (A : xb_A (tk_K xtk n) n xaf) {i : Nat} (hi : i < n) (k1 : tk_K xtk n i = 1) : ∃ c, ls_C (tk_K xtk n) (sk_f (tk_K xtk n) n) (i + 1) c ∧ it_f (sk_f (tk_K xtk n) n) c (i + 1) + 1 = sk_f (tk_K xtk n) n i ∧ c + (i + 1) < sk_f (tk_K xtk n) n i ∧ sk_f (tk_K xtk n) n i ≤ n := by
  have hI := (A i hi (by omega)).1
  obtain ⟨c, a, b, d, _⟩ := ls_in (n := n) hI k1
  exact ⟨c, a, b, d, dp_le (K := (tk_K xtk n)) (n := n) (fun i => tk_0) hI hi⟩
/-- names so far: no list of names ends before them -/
theorem xl_Px {q x c : Nat} (h : ∀ j, j < x → tk_K xtk n (q + 1 + j) = 4) (p : gr_P (tk_K xtk n) xtv q c) : x ≤ c := by
  rcases Nat.lt_or_ge c x with z | z
  · have := h c z; have := p.2.2.1; omega
  · exact z
theorem xl_59 (H : tk_ok xtk n) (A : xb_A (tk_K xtk n) n xaf) {i x : Nat} {r' : Nat → Int32} (k1 : tk_K xtk n i = 1) (k7 : tk_K xtk n (i + 1) = 7) (l2 : ls_C (tk_K xtk n) (sk_f (tk_K xtk n) n) (i + 2) 2) (k2 : tk_K xtk n (i + 2) = 1) {post : Int32 → SX → Prop}
    (h1 : ∀ r', gr_FS (tk_K xtk n) xtv (sk_f (tk_K xtk n) n) i 7 → (∀ c, gr_E (tk_K xtk n) (sk_f (tk_K xtk n) n) i c → r' c = 1) → (∀ c, gr_N (tk_K xtk n) (sk_f (tk_K xtk n) n) i c → r' c = 3) → (∀ c, ¬ gr_Ch (tk_K xtk n) (sk_f (tk_K xtk n) n) i c → r' c = xro c) → post 1 (xdl, xtn, xpp, xvc, xcc, xfc, xoc, xag, xan, xex, xen, xfl, xac, xst, xsp, xmd, xrt, xcu, xtk, xtv, xaf, r', xsc, xho, xvk, xvf, xvs, xcv, xco, xff, xfp, xfe, xfb, xop))
    (h0 : ∀ r', ¬ gr_FS (tk_K xtk n) xtv (sk_f (tk_K xtk n) n) i 7 → post 0 (xdl, xtn, xpp, xvc, xcc, xfc, xoc, xag, xan, xex, xen, xfl, xac, xst, xsp, xmd, xrt, xcu, xtk, xtv, xaf, r', xsc, xho, xvk, xvf, xvs, xcv, xco, xff, xfp, xfe, xfb, xop))
    (hx : x ≤ 4) (hp : i + 2 + 1 + x < n) (hk : ∀ j, j < x → tk_K xtk n (i + 2 + 1 + j) = 4) (hd : ∀ j j', j < j' → j' < x → xtv (i + 2 + 1 + j) ≠ xtv (i + 2 + 1 + j')) (hr : ∀ j, j < x → r' (i + 2 + 1 + j) = 3) (hn : ∀ q, (∀ j, j < x → q ≠ i + 2 + 1 + j) → r' q = xro q)
    (hend : tk_K xtk n (i + 2 + 1 + x) ≠ 2 → x = 4) : wX_lambdaFits_59 post (nI (i + 2)) (nI (i + 2 + 1 + x)) xdl xtn xpp xvc xcc xfc xoc xag xan xex xen xfl xac xst xsp xmd xrt xcu xtk xtv xaf r' xsc xho xvk xvf xvs xcv xco xff xfp xfe xfb xop := by
  have H1 := H.1
  have i2 : i + 2 < n := tk_lt (tk := xtk) (by omega)
  have e2 : xaf (nI (i + 2)).toNatClampNeg = nI (sk_f (tk_K xtk n) n (i + 2)) := by rw [nI_clamp (by omega)]; exact (A _ i2 (by omega)).2
  have b1 : sk_f (tk_K xtk n) n (i + 2) < n := ((ls_bd (K := (tk_K xtk n)) (n := n) (fun i => tk_0) l2).1 1 (by omega)).1
  refine ⟨tk_in H i2, ?_, fun r8 e8 => ⟨tk_in H hp, tk_b H hp 2 (fun k => ?_) (fun k => ?_)⟩⟩
  · rw [e2]; exact tk_in H b1
  · rw [e2, nI_clamp (by omega)] at e8
    have P : gr_P (tk_K xtk n) xtv (i + 2) x := ⟨hx, hk, k, hd⟩
    have ea : sk_f (tk_K xtk n) n (i + 2) = i + 2 + 2 + x := gr_Pa k2 P
    have lc := gr_PC (n := n) P
    refine h1 r8 (Or.inr (Or.inl ⟨rfl, l2, k2, x, P⟩)) (fun c hc => ?_) (fun c hc => ?_) (fun c hc => ?_)
    · obtain ⟨_, hc⟩ := hc
      rcases hc with ⟨z, _⟩ | ⟨z, _⟩ | ⟨_, _, z⟩ | ⟨z, _⟩
      · omega
      · omega
      · rw [e8, z]; exact pk_us
      · omega
    · obtain ⟨_, hc⟩ := hc
      rcases hc with ⟨_, hc⟩ | ⟨z, _⟩
      · obtain ⟨j, hj, e⟩ := (ls_CM lc).mp hc
        rw [gr_Pi P (by omega)] at e
        rw [e8, pk_un (by omega), e]; exact hr j hj
      · omega
    · have n1 : c ≠ sk_f (tk_K xtk n) n (i + 2) := fun z => hc (Or.inl ⟨k1, Or.inr (Or.inr (Or.inl ⟨by omega, by omega, z⟩))⟩)
      rw [e8, pk_un n1]
      refine hn c (fun j hj z => hc (Or.inr (Or.inr ⟨k1, Or.inl ⟨k7, ?_⟩⟩)))
      exact (ls_CM lc).mpr ⟨j, hj, by rw [gr_Pi P (by omega)]; exact z⟩
  · have x4 := hend k
    refine h0 r8 (fun z => ?_)
    rcases z with ⟨z, _⟩ | ⟨_, _, _, c, P⟩ | ⟨z, _⟩ | ⟨z, _⟩ | ⟨z, _⟩
    · omega
    · have := xl_Px hk P
      have := P.1
      have e : c = x := by omega
      subst e
      exact k P.2.2.1
    · omega
    · omega
    · omega
theorem xl_lamL (H : tk_ok xtk n) (A : xb_A (tk_K xtk n) n xaf) {i : Nat} (k1 : tk_K xtk n i = 1) (k7 : tk_K xtk n (i + 1) = 7) (l2 : ls_C (tk_K xtk n) (sk_f (tk_K xtk n) n) (i + 2) 2) (k2 : tk_K xtk n (i + 2) = 1) (hz : ∀ m, i < m → m < sk_f (tk_K xtk n) n i → xro m = 0) {post : Int32 → SX → Prop}
    (h1 : ∀ r', gr_FS (tk_K xtk n) xtv (sk_f (tk_K xtk n) n) i 7 → (∀ c, gr_E (tk_K xtk n) (sk_f (tk_K xtk n) n) i c → r' c = 1) → (∀ c, gr_N (tk_K xtk n) (sk_f (tk_K xtk n) n) i c → r' c = 3) → (∀ c, ¬ gr_Ch (tk_K xtk n) (sk_f (tk_K xtk n) n) i c → r' c = xro c) → post 1 (xdl, xtn, xpp, xvc, xcc, xfc, xoc, xag, xan, xex, xen, xfl, xac, xst, xsp, xmd, xrt, xcu, xtk, xtv, xaf, r', xsc, xho, xvk, xvf, xvs, xcv, xco, xff, xfp, xfe, xfb, xop))
    (h0 : ∀ r', ¬ gr_FS (tk_K xtk n) xtv (sk_f (tk_K xtk n) n) i 7 → post 0 (xdl, xtn, xpp, xvc, xcc, xfc, xoc, xag, xan, xex, xen, xfl, xac, xst, xsp, xmd, xrt, xcu, xtk, xtv, xaf, r', xsc, xho, xvk, xvf, xvs, xcv, xco, xff, xfp, xfe, xfb, xop)) :
    ∀ d x (r' : Nat → Int32), x + d = 4 → (∀ j, j < x → tk_K xtk n (i + 2 + 1 + j) = 4) → (∀ j j', j < j' → j' < x → xtv (i + 2 + 1 + j) ≠ xtv (i + 2 + 1 + j')) → (∀ j, j < x → r' (i + 2 + 1 + j) = 3) → (∀ q, (∀ j, j < x → q ≠ i + 2 + 1 + j) → r' q = xro q) →
      wX_lambdaFits_23 post (nI (i + 2)) (d + 1) (nI (i + 2 + 1 + x)) (nI x) xdl xtn xpp xvc xcc xfc xoc xag xan xex xen xfl xac xst xsp xmd xrt xcu xtk xtv xaf r' xsc xho xvk xvf xvs xcv xco xff xfp xfe xfb xop := by
  have H1 := H.1
  have i2 : i + 2 < n := tk_lt (tk := xtk) (by omega)
  obtain ⟨c', lc', _, _, _⟩ := xl_cnt H A i2 k2
  have hpos : ∀ x, (∀ j, j < x → tk_K xtk n (i + 2 + 1 + j) = 4) → i + 2 + 1 + x < n := by
    intro x hk
    have e : ∀ j, j ≤ x → it_f (sk_f (tk_K xtk n) n) j (i + 2 + 1) = i + 2 + 1 + j := fun j hj => it_at (fun y hy => by have := hk y (by omega); omega)
    have hc : x ≤ c' := by
      rcases Nat.lt_or_ge c' x with z | z
      · have := lc'.2; rw [e c' (by omega)] at this; have := hk c' z; omega
      · exact z
    have := ((ls_bd (K := (tk_K xtk n)) (n := n) (fun i => tk_0) lc').1 x hc).1
    rw [e x (Nat.le_refl _)] at this
    exact this
  intro d
  induction d with
  | zero =>
    intro x r' e hk hd hr hn
    exact pk_le 4 x (fun _ => xl_59 H A k1 k7 l2 k2 h1 h0 (by omega) (hpos x hk) hk hd hr hn (fun _ => by omega)) (fun z => by omega)
  | succ d ih =>
    intro x r' e hk hd hr hn
    have hp := hpos x hk
    refine pk_le 4 x (fun z => by omega) (fun _ => ⟨tk_in H hp, tk_b H hp 2 (fun k => xl_59 H A k1 k7 l2 k2 h1 h0 (by omega) hp hk hd hr hn (fun z => absurd k z)) (fun k => ?_)⟩)
    refine xn_take (xro := r') H (by omega) hp (fun k4 hq => ?_) (fun z => ?_)
    · refine br_f (by decide) (nm_r (nI_1 _) (nm_r (nI_1 x) (ih (x + 1) _ (by omega) (fun j hj => ?_) (fun j j' h1 h2 => ?_) (fun j hj => ?_) (fun q hq2 => ?_))))
      · by_cases z : j = x
        · subst z; exact k4
        · exact hk j (by omega)
      · by_cases z : j' = x
        · subst z
          exact hq (i + 2 + 1 + j) (by omega) (by omega) (hr j h1)
        · exact hd j j' h1 (by omega)
      · by_cases z : j = x
        · subst z; exact pk_us
        · rw [pk_un (by omega)]; exact hr j (by omega)
      · rw [pk_un (hq2 x (by omega))]
        exact hn q (fun j hj => hq2 j (by omega))
    · refine br_t rfl (h0 r' (fun w => ?_))
      rcases w with ⟨w, _⟩ | ⟨_, _, _, c, P⟩ | ⟨w, _⟩ | ⟨w, _⟩ | ⟨w, _⟩
      · omega
      · have hxc := xl_Px hk P
        have hxc2 : x < c := by
          rcases Nat.lt_or_ge x c with y | y
          · exact y
          · have : c = x := by omega
            subst this; exact absurd P.2.2.1 k
        rcases z with z | ⟨y, y1, y2, y3, y4⟩
        · exact z (P.2.1 x hxc2)
        · have ey : y = i + 2 + 1 + (y - (i + 2 + 1)) := by omega
          rw [ey] at y4
          exact P.2.2.2 (y - (i + 2 + 1)) x (by omega) hxc2 y4
      · omega
      · omega
      · omega
theorem xl_lam (H : tk_ok xtk n) (A : xb_A (tk_K xtk n) n xaf) {i : Nat} (k1 : tk_K xtk n i = 1) (k7 : tk_K xtk n (i + 1) = 7) (l2 : ls_C (tk_K xtk n) (sk_f (tk_K xtk n) n) (i + 2) 2) (hz : ∀ m, i < m → m < sk_f (tk_K xtk n) n i → xro m = 0) {post : Int32 → SX → Prop}
    (h1 : ∀ r', gr_FS (tk_K xtk n) xtv (sk_f (tk_K xtk n) n) i 7 → (∀ c, gr_E (tk_K xtk n) (sk_f (tk_K xtk n) n) i c → r' c = 1) → (∀ c, gr_N (tk_K xtk n) (sk_f (tk_K xtk n) n) i c → r' c = 3) → (∀ c, ¬ gr_Ch (tk_K xtk n) (sk_f (tk_K xtk n) n) i c → r' c = xro c) → post 1 (xdl, xtn, xpp, xvc, xcc, xfc, xoc, xag, xan, xex, xen, xfl, xac, xst, xsp, xmd, xrt, xcu, xtk, xtv, xaf, r', xsc, xho, xvk, xvf, xvs, xcv, xco, xff, xfp, xfe, xfb, xop))
    (h0 : ∀ r', ¬ gr_FS (tk_K xtk n) xtv (sk_f (tk_K xtk n) n) i 7 → post 0 (xdl, xtn, xpp, xvc, xcc, xfc, xoc, xag, xan, xex, xen, xfl, xac, xst, xsp, xmd, xrt, xcu, xtk, xtv, xaf, r', xsc, xho, xvk, xvf, xvs, xcv, xco, xff, xfp, xfe, xfb, xop)) : wpX_lambdaFits post (xdl, xtn, xpp, xvc, xcc, xfc, xoc, xag, xan, xex, xen, xfl, xac, xst, xsp, xmd, xrt, xcu, xtk, xtv, xaf, xro, xsc, xho, xvk, xvf, xvs, xcv, xco, xff, xfp, xfe, xfb, xop) (nI i) := by
  have i2 : i + 2 < n := by have := (ls_bd (K := (tk_K xtk n)) (n := n) (fun i => tk_0) l2).2; omega
  refine nm_r (ni_2 i) ⟨tk_in H i2, tk_b H i2 1 (fun k2 => nm_r (nI_1 (i + 2)) ⟨5, ?_⟩) (fun k2 => h0 xro (fun w => ?_))⟩
  · rcases w with ⟨w, _⟩ | ⟨_, _, w, c, P⟩ | ⟨w, _⟩ | ⟨w, _⟩ | ⟨w, _⟩
    · omega
    · exact k2 w
    · omega
    · omega
    · omega
  · exact xl_lamL H A k1 k7 l2 k2 hz h1 h0 4 0 xro (by omega) (fun j hj => by omega) (fun j j' _ hj => by omega) (fun j hj => by omega) (fun q _ => rfl)
end
end
section
section
variable {xdl xtn xpp xvc xcc xfc xoc xag xan xex xen xfl xac xst xsp xmd xrt xcu : Int32} {xtk xtv xaf xro xsc xho xvk xvf xvs xcv xco xff xfp xfe xfb xop : Nat → Int32} {n : Nat}
theorem xl_dup {K : Nat → Nat} {V : Nat → Int32} {n L x : Nat} (hn : ∀ i, n ≤ i → K i = 0) (hx : x ≤ 4) : gr_dup V (sk_f K n) L (it_f (sk_f K n) x (L + 1) + 1) ↔ ∃ k, k < x ∧ V (it_f (sk_f K n) k (L + 1) + 1) = V (it_f (sk_f K n) x (L + 1) + 1) := by
  constructor
  · rintro ⟨k, k4, kl, kv⟩
    refine ⟨k, ?_, kv⟩
    rcases Nat.lt_or_ge k x with z | z
    · exact z
    · have := kl x z; omega
  · rintro ⟨k, hk, kv⟩
    refine ⟨k, by omega, fun k' h' => ?_, kv⟩
    have := it_gt hn (L + 1) k' (x - k')
    rw [show k' + (x - k') = x from by omega] at this
    omega
theorem xl_bind (H : tk_ok xtk n) (A : xb_A (tk_K xtk n) n xaf) {L b : Nat} {ol : Int32} (hL : L < b) (hb : b < n) {post : Int32 → SX → Prop}
    (h1 : tk_K xtk n b = 1 → ls_C (tk_K xtk n) (sk_f (tk_K xtk n) n) (b + 1) 2 → tk_K xtk n (b + 1) = 4 → (∀ x, L < x → x < b + 1 → xro x = 3 → xtv x ≠ xtv (b + 1)) → (ol ≠ 0 → tk_K xtk n (b + 2) = 1 ∧ tk_K xtk n (b + 3) = 7) → post 1 (xdl, xtn, xpp, xvc, xcc, xfc, xoc, xag, xan, xex, xen, xfl, xac, xst, xsp, xmd, xrt, xcu, xtk, xtv, xaf, upd (upd xro (b + 1) 3) (b + 2) 1, xsc, xho, xvk, xvf, xvs, xcv, xco, xff, xfp, xfe, xfb, xop))
    (h0 : ∀ r', ¬ (tk_K xtk n b = 1 ∧ ls_C (tk_K xtk n) (sk_f (tk_K xtk n) n) (b + 1) 2 ∧ tk_K xtk n (b + 1) = 4 ∧ (∀ x, L < x → x < b + 1 → xro x = 3 → xtv x ≠ xtv (b + 1)) ∧ (ol ≠ 0 → tk_K xtk n (b + 2) = 1 ∧ tk_K xtk n (b + 3) = 7)) → post 0 (xdl, xtn, xpp, xvc, xcc, xfc, xoc, xag, xan, xex, xen, xfl, xac, xst, xsp, xmd, xrt, xcu, xtk, xtv, xaf, r', xsc, xho, xvk, xvf, xvs, xcv, xco, xff, xfp, xfe, xfb, xop)) :
    wpX_bindFits post (xdl, xtn, xpp, xvc, xcc, xfc, xoc, xag, xan, xex, xen, xfl, xac, xst, xsp, xmd, xrt, xcu, xtk, xtv, xaf, xro, xsc, xho, xvk, xvf, xvs, xcv, xco, xff, xfp, xfe, xfb, xop) (nI L) (nI b) ol := by
  have H1 := H.1
  refine ⟨tk_in H hb, tk_b H hb 1 (fun k1 => ?_) (fun k1 => h0 xro (fun w => k1 w.1))⟩
  obtain ⟨c, lc, e1, e2, e3⟩ := xl_cnt H A hb k1
  refine xi_items H A lc (pk_eq c 2 (fun c2 => ?_) (fun c2 => h0 xro (fun w => c2 (ls_C_u lc w.2.1))))
  subst c2
  rw [nI_1 b]
  refine xn_take H (by omega) (by omega) (fun k4 hq => ?_) (fun z => br_t rfl (h0 xro (fun w => ?_)))
  · refine br_f (by decide) (nm_r (ni_2 b) ⟨tk_in H (by omega), fun r7 e7 => ?_⟩)
    rw [nI_clamp (by omega)] at e7
    subst e7
    by_cases o : ol = 0
    · exact br_t o (h1 k1 lc k4 hq (fun z => absurd o z))
    · refine br_f o ⟨tk_in H (by omega), tk_b H (by omega) 1 (fun kk => ?_) (fun kk => h0 _ (fun w => kk (w.2.2.2.2 o).1))⟩
      rw [nI_1 (b + 2)]
      exact ⟨tk_in H (by omega), tk_b H (by omega) 7 (fun k7 => h1 k1 lc k4 hq (fun _ => ⟨kk, k7⟩)) (fun k7 => h0 _ (fun w => k7 (w.2.2.2.2 o).2))⟩
  · rcases z with z | ⟨y, y1, y2, y3, y4⟩
    · exact z w.2.2.1
    · exact w.2.2.2.1 y y1 y2 y3 y4
/-- binds lie apart -/
theorem xl_ap {K : Nat → Nat} {V : Nat → Int32} {n h L s x : Nat} (hn : ∀ i, n ≤ i → K i = 0) (hB : ∀ i, i < n → K i ≠ 2 → dp_I K i (sk_f K n i)) (hb : ∀ j, j < x → gr_BS K V (sk_f K n) h L (it_f (sk_f K n) j s)) {j : Nat} (hj : j < x) : it_f (sk_f K n) j s + 4 ≤ it_f (sk_f K n) x s := by
  have b := hb j hj
  have kb := b.1
  have bn : it_f (sk_f K n) j s < n := by
    rcases Nat.lt_or_ge (it_f (sk_f K n) j s) n with z | z
    · exact z
    · have := hn _ z; omega
  obtain ⟨c, lc, e1, e2, _⟩ := ls_in (n := n) (hB _ bn (by omega)) kb
  have := ls_C_u lc b.2.1
  subst this
  have g := it_gt hn s (j + 1) (x - (j + 1))
  rw [show j + 1 + (x - (j + 1)) = x from by omega, it_s] at g
  omega
theorem xl_100 (H : tk_ok xtk n) (A : xb_A (tk_K xtk n) n xaf) {i x : Nat} {r' : Nat → Int32} (hi : i < n) (k1 : tk_K xtk n i = 1) (k8 : tk_K xtk n (i + 1) = 8 ∨ tk_K xtk n (i + 1) = 9) (l2 : ls_C (tk_K xtk n) (sk_f (tk_K xtk n) n) (i + 2) 2) (k2 : tk_K xtk n (i + 2) = 1) (k3 : tk_K xtk n (i + 2 + 1) ≠ 2) {post : Int32 → SX → Prop}
    (h1 : ∀ r', gr_FS (tk_K xtk n) xtv (sk_f (tk_K xtk n) n) i (tk_K xtk n (i + 1)) → (∀ c, gr_E (tk_K xtk n) (sk_f (tk_K xtk n) n) i c → r' c = 1) → (∀ c, gr_N (tk_K xtk n) (sk_f (tk_K xtk n) n) i c → r' c = 3) → (∀ c, ¬ gr_Ch (tk_K xtk n) (sk_f (tk_K xtk n) n) i c → r' c = xro c) → post 1 (xdl, xtn, xpp, xvc, xcc, xfc, xoc, xag, xan, xex, xen, xfl, xac, xst, xsp, xmd, xrt, xcu, xtk, xtv, xaf, r', xsc, xho, xvk, xvf, xvs, xcv, xco, xff, xfp, xfe, xfb, xop))
    (h0 : ∀ r', ¬ gr_FS (tk_K xtk n) xtv (sk_f (tk_K xtk n) n) i (tk_K xtk n (i + 1)) → post 0 (xdl, xtn, xpp, xvc, xcc, xfc, xoc, xag, xan, xex, xen, xfl, xac, xst, xsp, xmd, xrt, xcu, xtk, xtv, xaf, r', xsc, xho, xvk, xvf, xvs, xcv, xco, xff, xfp, xfe, xfb, xop))
    (hx : x ≤ 4) (hp : it_f (sk_f (tk_K xtk n) n) x (i + 2 + 1) < n) (hk : ∀ j, j < x → tk_K xtk n (it_f (sk_f (tk_K xtk n) n) j (i + 2 + 1)) ≠ 2) (hb : ∀ j, j < x → gr_BS (tk_K xtk n) xtv (sk_f (tk_K xtk n) n) (tk_K xtk n (i + 1)) (i + 2) (it_f (sk_f (tk_K xtk n) n) j (i + 2 + 1))) (hr : ∀ j, j < x → r' (it_f (sk_f (tk_K xtk n) n) j (i + 2 + 1) + 1) = 3 ∧ r' (it_f (sk_f (tk_K xtk n) n) j (i + 2 + 1) + 2) = 1) (hn : ∀ q, (∀ j, j < x → q ≠ it_f (sk_f (tk_K xtk n) n) j (i + 2 + 1) + 1 ∧ q ≠ it_f (sk_f (tk_K xtk n) n) j (i + 2 + 1) + 2) → r' q = xro q)
    (hend : tk_K xtk n (it_f (sk_f (tk_K xtk n) n) x (i + 2 + 1)) ≠ 2 → x = 4) : wX_letFits_100 post (nI (i + 2)) (nI (it_f (sk_f (tk_K xtk n) n) x (i + 2 + 1))) xdl xtn xpp xvc xcc xfc xoc xag xan xex xen xfl xac xst xsp xmd xrt xcu xtk xtv xaf r' xsc xho xvk xvf xvs xcv xco xff xfp xfe xfb xop := by
  have H1 := H.1
  have hB : ∀ i, i < n → tk_K xtk n i ≠ 2 → dp_I (tk_K xtk n) i (sk_f (tk_K xtk n) n i) := fun i hi hk => (A i hi hk).1
  have i2 : i + 2 < n := tk_lt (tk := xtk) (by omega)
  have e2 : xaf (nI (i + 2)).toNatClampNeg = nI (sk_f (tk_K xtk n) n (i + 2)) := by rw [nI_clamp (by omega)]; exact (A _ i2 (by omega)).2
  have b1 : sk_f (tk_K xtk n) n (i + 2) < n := ((ls_bd (K := (tk_K xtk n)) (n := n) (fun i => tk_0) l2).1 1 (by omega)).1
  refine ⟨tk_in H i2, ?_, fun r8 e8 => ⟨tk_in H hp, tk_b H hp 2 (fun k => ?_) (fun k => ?_)⟩⟩
  · rw [e2]; exact tk_in H b1
  · rw [e2, nI_clamp (by omega)] at e8
    have lc : ls_C (tk_K xtk n) (sk_f (tk_K xtk n) n) (i + 3) x := ⟨hk, k⟩
    have x1 : 1 ≤ x := by
      rcases Nat.lt_or_ge x 1 with z | z
      · have : x = 0 := by omega
        subst this; exact absurd k k3
      · exact z
    have F : gr_FS (tk_K xtk n) xtv (sk_f (tk_K xtk n) n) i (tk_K xtk n (i + 1)) := Or.inr (Or.inr (Or.inl ⟨k8, l2, k2, x, x1, hx, lc, hb⟩))
    have S : gr_SH (tk_K xtk n) xtv (sk_f (tk_K xtk n) n) i := Or.inr (Or.inr (Or.inr ⟨k1, F⟩))
    have hI := hB i hi (by omega)
    refine h1 r8 F (fun c hc => ?_) (fun c hc => ?_) (fun c hc => ?_)
    · obtain ⟨_, hc⟩ := hc
      rcases hc with ⟨z, _⟩ | ⟨z, _⟩ | ⟨_, _, z⟩ | ⟨_, b, z, z2⟩
      · omega
      · omega
      · rw [e8, z]; exact pk_us
      · obtain ⟨j, hj, e⟩ := (ls_CM lc).mp z
        by_cases y : c = sk_f (tk_K xtk n) n (i + 2)
        · rw [e8, y]; exact pk_us
        · rw [e8, pk_un y, z2, e]; exact (hr j hj).2
    · have hc0 := hc
      obtain ⟨_, hc⟩ := hc
      rcases hc with ⟨z, _⟩ | ⟨_, b, z, z2⟩
      · omega
      · obtain ⟨j, hj, e⟩ := (ls_CM lc).mp z
        obtain ⟨m1, m2, m3, m4, m5, m6, m7, m8, m9⟩ := gr_bnd hI k1 k8 S z
        have := m5.1
        rw [e8, pk_un (by omega), z2, e]; exact (hr j hj).1
    · have n1 : c ≠ sk_f (tk_K xtk n) n (i + 2) := fun z => hc (Or.inl ⟨k1, Or.inr (Or.inr (Or.inl ⟨by omega, by omega, z⟩))⟩)
      rw [e8, pk_un n1]
      refine hn c (fun j hj => ⟨fun z => hc (Or.inr (Or.inr ⟨k1, Or.inr ⟨k8, _, (ls_CM lc).mpr ⟨j, hj, rfl⟩, z⟩⟩)), fun z => hc (Or.inl ⟨k1, Or.inr (Or.inr (Or.inr ⟨k8, _, (ls_CM lc).mpr ⟨j, hj, rfl⟩, z⟩))⟩)⟩)
  · have x4 := hend k
    refine h0 r8 (fun z => ?_)
    rcases z with ⟨z, _⟩ | ⟨z, _⟩ | ⟨_, _, _, c, c1, c4, lc, b⟩ | ⟨z, _⟩ | ⟨z, _⟩
    · omega
    · omega
    · have e : c = 4 := by
        rcases Nat.lt_or_ge c 4 with y | y
        · exact absurd lc.2 (hk c (by omega))
        · omega
      rw [x4, ← e] at k
      exact k lc.2
    · omega
    · omega
theorem xl_letL (H : tk_ok xtk n) (A : xb_A (tk_K xtk n) n xaf) {i : Nat} {ol : Int32} (hi : i < n) (k1 : tk_K xtk n i = 1) (k8 : tk_K xtk n (i + 1) = 8 ∨ tk_K xtk n (i + 1) = 9) (ho : ol ≠ 0 ↔ tk_K xtk n (i + 1) = 9) (l2 : ls_C (tk_K xtk n) (sk_f (tk_K xtk n) n) (i + 2) 2) (k2 : tk_K xtk n (i + 2) = 1) (k3 : tk_K xtk n (i + 2 + 1) ≠ 2) (hz : ∀ m, i < m → m < sk_f (tk_K xtk n) n i → xro m = 0) {post : Int32 → SX → Prop}
    (h1 : ∀ r', gr_FS (tk_K xtk n) xtv (sk_f (tk_K xtk n) n) i (tk_K xtk n (i + 1)) → (∀ c, gr_E (tk_K xtk n) (sk_f (tk_K xtk n) n) i c → r' c = 1) → (∀ c, gr_N (tk_K xtk n) (sk_f (tk_K xtk n) n) i c → r' c = 3) → (∀ c, ¬ gr_Ch (tk_K xtk n) (sk_f (tk_K xtk n) n) i c → r' c = xro c) → post 1 (xdl, xtn, xpp, xvc, xcc, xfc, xoc, xag, xan, xex, xen, xfl, xac, xst, xsp, xmd, xrt, xcu, xtk, xtv, xaf, r', xsc, xho, xvk, xvf, xvs, xcv, xco, xff, xfp, xfe, xfb, xop))
    (h0 : ∀ r', ¬ gr_FS (tk_K xtk n) xtv (sk_f (tk_K xtk n) n) i (tk_K xtk n (i + 1)) → post 0 (xdl, xtn, xpp, xvc, xcc, xfc, xoc, xag, xan, xex, xen, xfl, xac, xst, xsp, xmd, xrt, xcu, xtk, xtv, xaf, r', xsc, xho, xvk, xvf, xvs, xcv, xco, xff, xfp, xfe, xfb, xop)) :
    ∀ d x (r' : Nat → Int32), x + d = 4 → (∀ j, j < x → tk_K xtk n (it_f (sk_f (tk_K xtk n) n) j (i + 2 + 1)) ≠ 2) → (∀ j, j < x → gr_BS (tk_K xtk n) xtv (sk_f (tk_K xtk n) n) (tk_K xtk n (i + 1)) (i + 2) (it_f (sk_f (tk_K xtk n) n) j (i + 2 + 1))) → (∀ j, j < x → r' (it_f (sk_f (tk_K xtk n) n) j (i + 2 + 1) + 1) = 3 ∧ r' (it_f (sk_f (tk_K xtk n) n) j (i + 2 + 1) + 2) = 1) → (∀ q, (∀ j, j < x → q ≠ it_f (sk_f (tk_K xtk n) n) j (i + 2 + 1) + 1 ∧ q ≠ it_f (sk_f (tk_K xtk n) n) j (i + 2 + 1) + 2) → r' q = xro q) →
      wX_letFits_55 post (nI (i + 2)) ol (d + 1) (nI (it_f (sk_f (tk_K xtk n) n) x (i + 2 + 1))) (nI x) xdl xtn xpp xvc xcc xfc xoc xag xan xex xen xfl xac xst xsp xmd xrt xcu xtk xtv xaf r' xsc xho xvk xvf xvs xcv xco xff xfp xfe xfb xop := by
  have H1 := H.1
  have hB : ∀ i, i < n → tk_K xtk n i ≠ 2 → dp_I (tk_K xtk n) i (sk_f (tk_K xtk n) n i) := fun i hi hk => (A i hi hk).1
  have i2 : i + 2 < n := tk_lt (tk := xtk) (by omega)
  obtain ⟨c', lc', q1, q2, q3⟩ := xl_cnt H A i2 k2
  obtain ⟨c0, lc0, p1, p2, p3⟩ := xl_cnt H A hi k1
  have hI := hB i hi (by omega)
  have hlt : sk_f (tk_K xtk n) n (i + 2) < sk_f (tk_K xtk n) n i := dp_nest hI (by omega) (by
    have s2 := gr_s2 hI k1 (by omega)
    omega) (hB _ i2 (by omega))
  have hpos : ∀ x, (∀ j, j < x → tk_K xtk n (it_f (sk_f (tk_K xtk n) n) j (i + 2 + 1)) ≠ 2) → it_f (sk_f (tk_K xtk n) n) x (i + 2 + 1) < n ∧ x ≤ c' ∧ i + 2 + 1 ≤ it_f (sk_f (tk_K xtk n) n) x (i + 2 + 1) ∧ it_f (sk_f (tk_K xtk n) n) x (i + 2 + 1) < sk_f (tk_K xtk n) n (i + 2) := by
    intro x hk
    have hc : x ≤ c' := by
      rcases Nat.lt_or_ge c' x with z | z
      · exact absurd lc'.2 (hk c' z)
      · exact z
    have := (ls_bd (K := (tk_K xtk n)) (n := n) (fun i => tk_0) lc').1 x hc
    have g := it_gt (K := (tk_K xtk n)) (n := n) (fun i => tk_0) (i + 2 + 1) x (c' - x)
    rw [show x + (c' - x) = c' from by omega] at g
    exact ⟨this.1, hc, by omega, by omega⟩
  intro d
  induction d with
  | zero =>
    intro x r' e hk hb hr hn
    exact pk_le 4 x (fun _ => xl_100 H A hi k1 k8 l2 k2 k3 h1 h0 (by omega) (hpos x hk).1 hk hb hr hn (fun _ => by omega)) (fun z => by omega)
  | succ d ih =>
    intro x r' e hk hb hr hn
    obtain ⟨hp, hxc, hge, hltx⟩ := hpos x hk
    refine pk_le 4 x (fun z => by omega) (fun _ => ⟨tk_in H hp, tk_b H hp 2 (fun k => xl_100 H A hi k1 k8 l2 k2 k3 h1 h0 (by omega) hp hk hb hr hn (fun z => absurd k z)) (fun k => ?_)⟩)
    have ap : ∀ j, j < x → it_f (sk_f (tk_K xtk n) n) j (i + 2 + 1) + 4 ≤ it_f (sk_f (tk_K xtk n) n) x (i + 2 + 1) := fun j hj => xl_ap (K := (tk_K xtk n)) (n := n) (fun i => tk_0) hB hb hj
    have hdup : (∀ q, i + 2 < q → q < it_f (sk_f (tk_K xtk n) n) x (i + 2 + 1) + 1 → r' q = 3 → xtv q ≠ xtv (it_f (sk_f (tk_K xtk n) n) x (i + 2 + 1) + 1)) ↔ ¬ gr_dup xtv (sk_f (tk_K xtk n) n) (i + 2) (it_f (sk_f (tk_K xtk n) n) x (i + 2 + 1) + 1) := by
      rw [xl_dup (K := (tk_K xtk n)) (n := n) (fun i => tk_0) (by omega)]
      constructor
      · rintro w ⟨j, hj, ev⟩
        have := ap j hj
        exact w _ (by have := (hpos j (fun y hy => hk y (by omega))).2.2.1; omega) (by omega) (hr j hj).1 ev
      · intro w q w1 w2 w3 ev
        by_cases z : ∀ j, j < x → q ≠ it_f (sk_f (tk_K xtk n) n) j (i + 2 + 1) + 1 ∧ q ≠ it_f (sk_f (tk_K xtk n) n) j (i + 2 + 1) + 2
        · rw [hn q z, hz q (by omega) (by omega)] at w3
          exact absurd w3 (by decide)
        · refine w ?_
          refine Classical.byContradiction (fun no => z (fun j hj => ⟨fun e1 => no ⟨j, hj, by rw [← e1]; exact ev⟩, fun e1 => ?_⟩))
          rw [e1, (hr j hj).2] at w3
          exact absurd w3 (by decide)
    refine xl_bind (xro := r') H A (by omega) hp (fun b1 b2 b3 b4 b5 => ?_) (fun r2 w => br_t rfl (h0 r2 (fun F => ?_)))
    · have bs : gr_BS (tk_K xtk n) xtv (sk_f (tk_K xtk n) n) (tk_K xtk n (i + 1)) (i + 2) (it_f (sk_f (tk_K xtk n) n) x (i + 2 + 1)) := ⟨b1, b2, b3, hdup.mp b4, fun z => b5 (ho.mpr z)⟩
      refine br_f (by decide) ⟨tk_in H hp, nm_r ?_ (nm_r (nI_1 x) (ih (x + 1) _ (by omega) (fun j hj => ?_) (fun j hj => ?_) (fun j hj => ?_) (fun q hq => ?_)))⟩
      · rw [nI_clamp (by omega), (A _ hp k).2, it_s]
      · by_cases z : j = x
        · subst z; exact k
        · exact hk j (by omega)
      · by_cases z : j = x
        · subst z; exact bs
        · exact hb j (by omega)
      · by_cases z : j = x
        · subst z
          exact ⟨by rw [pk_un (by omega)]; exact pk_us, pk_us⟩
        · have := ap j (by omega)
          rw [pk_un (by omega), pk_un (by omega), pk_un (by omega), pk_un (by omega)]
          exact hr j (by omega)
      · have w := hq x (by omega)
        rw [pk_un w.2, pk_un w.1]
        exact hn q (fun j hj => hq j (by omega))
    · rcases F with ⟨z, _⟩ | ⟨z, _⟩ | ⟨_, _, _, c, c1, c4, lc, b⟩ | ⟨z, _⟩ | ⟨z, _⟩
      · omega
      · omega
      · have hxc2 : x < c := by
          rcases Nat.lt_or_ge x c with y | y
          · exact y
          · have ec : c = c' := ls_C_u lc lc'
            have : x = c := by omega
            subst this; exact absurd lc.2 k
        obtain ⟨y1, y2, y3, y4, y5⟩ := b x hxc2
        exact w ⟨y1, y2, y3, hdup.mpr y4, fun z => y5 (ho.mp z)⟩
      · omega
      · omega
theorem xl_let (H : tk_ok xtk n) (A : xb_A (tk_K xtk n) n xaf) {i : Nat} (hi : i < n) (k1 : tk_K xtk n i = 1) (k8 : tk_K xtk n (i + 1) = 8 ∨ tk_K xtk n (i + 1) = 9) (l2 : ls_C (tk_K xtk n) (sk_f (tk_K xtk n) n) (i + 2) 2) (hz : ∀ m, i < m → m < sk_f (tk_K xtk n) n i → xro m = 0) {post : Int32 → SX → Prop}
    (h1 : ∀ r', gr_FS (tk_K xtk n) xtv (sk_f (tk_K xtk n) n) i (tk_K xtk n (i + 1)) → (∀ c, gr_E (tk_K xtk n) (sk_f (tk_K xtk n) n) i c → r' c = 1) → (∀ c, gr_N (tk_K xtk n) (sk_f (tk_K xtk n) n) i c → r' c = 3) → (∀ c, ¬ gr_Ch (tk_K xtk n) (sk_f (tk_K xtk n) n) i c → r' c = xro c) → post 1 (xdl, xtn, xpp, xvc, xcc, xfc, xoc, xag, xan, xex, xen, xfl, xac, xst, xsp, xmd, xrt, xcu, xtk, xtv, xaf, r', xsc, xho, xvk, xvf, xvs, xcv, xco, xff, xfp, xfe, xfb, xop))
    (h0 : ∀ r', ¬ gr_FS (tk_K xtk n) xtv (sk_f (tk_K xtk n) n) i (tk_K xtk n (i + 1)) → post 0 (xdl, xtn, xpp, xvc, xcc, xfc, xoc, xag, xan, xex, xen, xfl, xac, xst, xsp, xmd, xrt, xcu, xtk, xtv, xaf, r', xsc, xho, xvk, xvf, xvs, xcv, xco, xff, xfp, xfe, xfb, xop)) : wpX_letFits post (xdl, xtn, xpp, xvc, xcc, xfc, xoc, xag, xan, xex, xen, xfl, xac, xst, xsp, xmd, xrt, xcu, xtk, xtv, xaf, xro, xsc, xho, xvk, xvf, xvs, xcv, xco, xff, xfp, xfe, xfb, xop) (nI i) := by
  have i2 : i + 2 < n := by have := (ls_bd (K := (tk_K xtk n)) (n := n) (fun i => tk_0) l2).2; omega
  have F2 : ∀ {k : Prop}, (gr_FS (tk_K xtk n) xtv (sk_f (tk_K xtk n) n) i (tk_K xtk n (i + 1)) → tk_K xtk n (i + 2) = 1 ∧ tk_K xtk n (i + 2 + 1) ≠ 2) := by
    intro _ w
    rcases w with ⟨z, _⟩ | ⟨z, _⟩ | ⟨_, _, z, c, c1, c4, lc, b⟩ | ⟨z, _⟩ | ⟨z, _⟩
    · omega
    · omega
    · exact ⟨z, lc.1 0 (by omega)⟩
    · omega
    · omega
  have H1 := H.1
  refine nm_r (ni_2 i) ⟨tk_in H i2, tk_b H i2 1 (fun k2 => ?_) (fun k2 => h0 xro (fun w => k2 (F2 (k := True) w).1))⟩
  obtain ⟨c', lc', q1, q2, q3⟩ := xl_cnt H A i2 k2
  have i3 : i + 2 + 1 < n := by omega
  rw [nI_1 (i + 2), nI_1 i]
  refine ⟨tk_in H i3, tk_b H i3 2 (fun k3 => h0 xro (fun w => (F2 (k := True) w).2 k3)) (fun k3 => ⟨tk_in H (by omega), tk_b H (by omega) 9 (fun k9 => nm_e ⟨5, ?_⟩) (fun k9 => nm_e ⟨5, ?_⟩)⟩)⟩
  · exact xl_letL H A hi k1 k8 ⟨fun _ => k9, fun _ => by decide⟩ l2 k2 k3 hz h1 h0 4 0 xro (by omega) (fun j hj => by omega) (fun j hj => by omega) (fun j hj => by omega) (fun q _ => rfl)
  · exact xl_letL H A hi k1 k8 ⟨fun z => absurd rfl z, fun z => absurd z k9⟩ l2 k2 k3 hz h1 h0 4 0 xro (by omega) (fun j hj => by omega) (fun j hj => by omega) (fun j hj => by omega) (fun q _ => rfl)
end
end
section
section
variable {xdl xtn xpp xvc xcc xfc xoc xag xan xex xen xfl xac xst xsp xmd xrt xcu : Int32} {xtk xtv xaf xro xsc xho xvk xvf xvs xcv xco xff xfp xfe xfb xop : Nat → Int32} {n : Nat}
theorem xf_form (H : tk_ok xtk n) (A : xb_A (tk_K xtk n) n xaf) {i : Nat} (hi : i < n) (k1 : tk_K xtk n i = 1) (hz : ∀ m, i < m → m < sk_f (tk_K xtk n) n i → xro m = 0) {post : Int32 → SX → Prop}
    (h1 : ∀ r', gr_SH (tk_K xtk n) xtv (sk_f (tk_K xtk n) n) i → (∀ c, gr_E (tk_K xtk n) (sk_f (tk_K xtk n) n) i c → r' c = 1) → (∀ c, gr_D (tk_K xtk n) (sk_f (tk_K xtk n) n) i c → r' c = 2) → (∀ c, gr_N (tk_K xtk n) (sk_f (tk_K xtk n) n) i c → r' c = 3) → (∀ c, ¬ gr_Ch (tk_K xtk n) (sk_f (tk_K xtk n) n) i c → r' c = xro c) → post 1 (xdl, xtn, xpp, xvc, xcc, xfc, xoc, xag, xan, xex, xen, xfl, xac, xst, xsp, xmd, xrt, xcu, xtk, xtv, xaf, r', xsc, xho, xvk, xvf, xvs, xcv, xco, xff, xfp, xfe, xfb, xop))
    (h0 : ∀ r', ¬ gr_SH (tk_K xtk n) xtv (sk_f (tk_K xtk n) n) i → post 0 (xdl, xtn, xpp, xvc, xcc, xfc, xoc, xag, xan, xex, xen, xfl, xac, xst, xsp, xmd, xrt, xcu, xtk, xtv, xaf, r', xsc, xho, xvk, xvf, xvs, xcv, xco, xff, xfp, xfe, xfb, xop)) : wpX_formFits post (xdl, xtn, xpp, xvc, xcc, xfc, xoc, xag, xan, xex, xen, xfl, xac, xst, xsp, xmd, xrt, xcu, xtk, xtv, xaf, xro, xsc, xho, xvk, xvf, xvs, xcv, xco, xff, xfp, xfe, xfb, xop) (nI i) := by
  have H1 := H.1
  obtain ⟨c0, lc0, p1, p2, p3⟩ := xl_cnt H A hi k1
  have i1 : i + 1 < n := by omega
  have k20 := tk_20 H (i + 1)
  have noS : (gr_FS (tk_K xtk n) xtv (sk_f (tk_K xtk n) n) i (tk_K xtk n (i + 1)) → False) → ¬ gr_SH (tk_K xtk n) xtv (sk_f (tk_K xtk n) n) i := fun w S => w (gr_FSof S k1)
  -- an application
  have app : tk_K xtk n (i + 1) < 6 → ∀ r', (∀ q, ls_M (tk_K xtk n) (sk_f (tk_K xtk n) n) (i + 1) q → r' q = 1) → (∀ q, ¬ ls_M (tk_K xtk n) (sk_f (tk_K xtk n) n) (i + 1) q → r' q = xro q) → ((1 ≤ c0 ∧ c0 ≤ 5) → post 1 (xdl, xtn, xpp, xvc, xcc, xfc, xoc, xag, xan, xex, xen, xfl, xac, xst, xsp, xmd, xrt, xcu, xtk, xtv, xaf, r', xsc, xho, xvk, xvf, xvs, xcv, xco, xff, xfp, xfe, xfb, xop)) ∧ (¬ (1 ≤ c0 ∧ c0 ≤ 5) → post 0 (xdl, xtn, xpp, xvc, xcc, xfc, xoc, xag, xan, xex, xen, xfl, xac, xst, xsp, xmd, xrt, xcu, xtk, xtv, xaf, r', xsc, xho, xvk, xvf, xvs, xcv, xco, xff, xfp, xfe, xfb, xop)) := by
    intro k r' e1 e2
    refine ⟨fun z => h1 r' ?_ (fun q hq => ?_) (fun q hq => ?_) (fun q hq => ?_) (fun q hq => e2 q (fun w => hq (Or.inl ⟨k1, Or.inr (Or.inl ⟨k, w⟩)⟩))), fun z => h0 r' (noS (fun F => ?_))⟩
    · refine Or.inr (Or.inr (Or.inr ⟨k1, Or.inr (Or.inr (Or.inr (Or.inr ⟨k, c0 - 1, by omega, ?_⟩)))⟩))
      rw [show c0 - 1 + 1 = c0 from by omega]; exact lc0
    · rcases hq.2 with ⟨w, _⟩ | ⟨_, w⟩ | ⟨w, _⟩ | ⟨w, _⟩
      · omega
      · exact e1 q w
      · omega
      · omega
    · have := hq.2.1; omega
    · rcases hq.2 with ⟨w, _⟩ | ⟨w, _⟩ <;> omega
    · rcases F with ⟨w, _⟩ | ⟨w, _⟩ | ⟨w, _⟩ | ⟨w, _⟩ | ⟨_, c, c4, lc⟩
      · omega
      · omega
      · omega
      · omega
      · have := ls_C_u lc0 lc; omega
  -- the forms with a keyword: their items behind it
  have kw : 6 ≤ tk_K xtk n (i + 1) → ∃ c, c0 = c + 1 ∧ ls_C (tk_K xtk n) (sk_f (tk_K xtk n) n) (i + 2) c := by
    intro k
    cases c0 with
    | zero => have := ls_C_z lc0; omega
    | succ c =>
      have t := (ls_C_t lc0).2
      rw [sk_at (K := (tk_K xtk n)) (n := n) (i := i + 1) (by omega)] at t
      exact ⟨c, rfl, t⟩
  have ops : 10 ≤ tk_K xtk n (i + 1) → ∀ m, gr_n (tk_K xtk n (i + 1)) = m → ∀ c, ls_C (tk_K xtk n) (sk_f (tk_K xtk n) n) (i + 2) c → ∀ r', (∀ q, ls_M (tk_K xtk n) (sk_f (tk_K xtk n) n) (i + 2) q → r' q = 1) → (∀ q, ¬ ls_M (tk_K xtk n) (sk_f (tk_K xtk n) n) (i + 2) q → r' q = xro q) → (c = m → post 1 (xdl, xtn, xpp, xvc, xcc, xfc, xoc, xag, xan, xex, xen, xfl, xac, xst, xsp, xmd, xrt, xcu, xtk, xtv, xaf, r', xsc, xho, xvk, xvf, xvs, xcv, xco, xff, xfp, xfe, xfb, xop)) ∧ (c ≠ m → post 0 (xdl, xtn, xpp, xvc, xcc, xfc, xoc, xag, xan, xex, xen, xfl, xac, xst, xsp, xmd, xrt, xcu, xtk, xtv, xaf, r', xsc, xho, xvk, xvf, xvs, xcv, xco, xff, xfp, xfe, xfb, xop)) := by
    intro k m em c lc r' e1 e2
    refine ⟨fun z => h1 r' ?_ (fun q hq => ?_) (fun q hq => ?_) (fun q hq => ?_) (fun q hq => e2 q (fun w => hq (Or.inl ⟨k1, Or.inl ⟨k, w⟩⟩))), fun z => h0 r' (noS (fun F => ?_))⟩
    · refine Or.inr (Or.inr (Or.inr ⟨k1, Or.inr (Or.inr (Or.inr (Or.inl ⟨k, ?_⟩)))⟩))
      rw [em, ← z]; exact lc
    · rcases hq.2 with ⟨_, w⟩ | ⟨w, _⟩ | ⟨_, w, _⟩ | ⟨w, _⟩
      · exact e1 q w
      · omega
      · omega
      · omega
    · have := hq.2.1; omega
    · rcases hq.2 with ⟨w, _⟩ | ⟨w, _⟩ <;> omega
    · rcases F with ⟨w, _⟩ | ⟨w, _⟩ | ⟨w, _⟩ | ⟨_, l⟩ | ⟨w, _⟩
      · omega
      · omega
      · omega
      · rw [em] at l
        exact z (ls_C_u lc l)
      · omega
  have f183 : 10 ≤ tk_K xtk n (i + 1) → gr_n (tk_K xtk n (i + 1)) = 2 → wX_formFits_183 post (nI i) (nI c0) xdl xtn xpp xvc xcc xfc xoc xag xan xex xen xfl xac xst xsp xmd xrt xcu xtk xtv xaf xro xsc xho xvk xvf xvs xcv xco xff xfp xfe xfb xop := by
    intro k em
    obtain ⟨c, ec, lc⟩ := kw (by omega)
    have : wpX_giveRole (fun u => match u with | (xdl, xtn, xpp, xvc, xcc, xfc, xoc, xag, xan, xex, xen, xfl, xac, xst, xsp, xmd, xrt, xcu, xtk, xtv, xaf, xro, xsc, xho, xvk, xvf, xvs, xcv, xco, xff, xfp, xfe, xfb, xop) => ((nI c0 = 3 → post 1 (xdl, xtn, xpp, xvc, xcc, xfc, xoc, xag, xan, xex, xen, xfl, xac, xst, xsp, xmd, xrt, xcu, xtk, xtv, xaf, xro, xsc, xho, xvk, xvf, xvs, xcv, xco, xff, xfp, xfe, xfb, xop)) ∧ (¬ nI c0 = 3 → post 0 (xdl, xtn, xpp, xvc, xcc, xfc, xoc, xag, xan, xex, xen, xfl, xac, xst, xsp, xmd, xrt, xcu, xtk, xtv, xaf, xro, xsc, xho, xvk, xvf, xvs, xcv, xco, xff, xfp, xfe, xfb, xop)))) (xdl, xtn, xpp, xvc, xcc, xfc, xoc, xag, xan, xex, xen, xfl, xac, xst, xsp, xmd, xrt, xcu, xtk, xtv, xaf, xro, xsc, xho, xvk, xvf, xvs, xcv, xco, xff, xfp, xfe, xfb, xop) (nI (i + 2)) 1 :=
      xg_give H A lc (fun r' e1 e2 => pk_eq c0 3 (fun z => (ops k 2 em c lc r' e1 e2).1 (by omega)) (fun z => (ops k 2 em c lc r' e1 e2).2 (by omega)))
    rw [← ni_2 i] at this
    exact this
  have f164 : 10 ≤ tk_K xtk n (i + 1) → gr_n (tk_K xtk n (i + 1)) = 1 → wX_formFits_164 post (nI i) (nI c0) xdl xtn xpp xvc xcc xfc xoc xag xan xex xen xfl xac xst xsp xmd xrt xcu xtk xtv xaf xro xsc xho xvk xvf xvs xcv xco xff xfp xfe xfb xop := by
    intro k em
    obtain ⟨c, ec, lc⟩ := kw (by omega)
    have : wpX_giveRole (fun u => match u with | (xdl, xtn, xpp, xvc, xcc, xfc, xoc, xag, xan, xex, xen, xfl, xac, xst, xsp, xmd, xrt, xcu, xtk, xtv, xaf, xro, xsc, xho, xvk, xvf, xvs, xcv, xco, xff, xfp, xfe, xfb, xop) => ((nI c0 = 2 → post 1 (xdl, xtn, xpp, xvc, xcc, xfc, xoc, xag, xan, xex, xen, xfl, xac, xst, xsp, xmd, xrt, xcu, xtk, xtv, xaf, xro, xsc, xho, xvk, xvf, xvs, xcv, xco, xff, xfp, xfe, xfb, xop)) ∧ (¬ nI c0 = 2 → post 0 (xdl, xtn, xpp, xvc, xcc, xfc, xoc, xag, xan, xex, xen, xfl, xac, xst, xsp, xmd, xrt, xcu, xtk, xtv, xaf, xro, xsc, xho, xvk, xvf, xvs, xcv, xco, xff, xfp, xfe, xfb, xop)))) (xdl, xtn, xpp, xvc, xcc, xfc, xoc, xag, xan, xex, xen, xfl, xac, xst, xsp, xmd, xrt, xcu, xtk, xtv, xaf, xro, xsc, xho, xvk, xvf, xvs, xcv, xco, xff, xfp, xfe, xfb, xop) (nI (i + 2)) 1 :=
      xg_give H A lc (fun r' e1 e2 => pk_eq c0 2 (fun z => (ops k 1 em c lc r' e1 e2).1 (by omega)) (fun z => (ops k 1 em c lc r' e1 e2).2 (by omega)))
    rw [← ni_2 i] at this
    exact this
  have f126 : (tk_K xtk n (i + 1) = 8 ∨ tk_K xtk n (i + 1) = 9) → wX_formFits_126 post (nI i) (nI c0) xdl xtn xpp xvc xcc xfc xoc xag xan xex xen xfl xac xst xsp xmd xrt xcu xtk xtv xaf xro xsc xho xvk xvf xvs xcv xco xff xfp xfe xfb xop := by
    intro k
    obtain ⟨c, ec, lc⟩ := kw (by omega)
    refine pk_eq c0 3 (fun z => ?_) (fun z => h0 xro (noS (fun F => ?_)))
    · have : c = 2 := by omega
      subst this
      refine xl_let H A hi k1 k lc hz (fun r' F e1 e3 e4 => br_f (by decide) (h1 r' (Or.inr (Or.inr (Or.inr ⟨k1, F⟩))) e1 (fun q hq => by have := hq.2.1; omega) e3 e4)) (fun r' F => br_t rfl (h0 r' (noS F)))
    · rcases F with ⟨w, _⟩ | ⟨w, _⟩ | ⟨_, l, _⟩ | ⟨w, _⟩ | ⟨w, _⟩
      · omega
      · omega
      · have := ls_C_u lc l; omega
      · omega
      · omega
  refine xi_items H A lc0 ⟨by rw [nI_1]; exact tk_in H i1, nm_r (show xtk (nI i + 1).toNatClampNeg = nI (tk_K xtk n (i + 1)) from by rw [nI_1]; exact tk_c H i1) (pk_lt (tk_K xtk n (i + 1)) 6 (fun k => ?_) (fun k => pk_lt 20 (tk_K xtk n (i + 1)) (fun z => by omega) (fun _ => ?_)))⟩
  · rw [nI_1]
    exact xg_give H A lc0 (fun r' e1 e2 => pk_lt c0 1 (fun z => (app k r' e1 e2).2 (by omega)) (fun z => pk_lt 5 c0 (fun z2 => (app k r' e1 e2).2 (by omega)) (fun z2 => (app k r' e1 e2).1 (by omega))))
  · refine pk_eq (tk_K xtk n (i + 1)) 6 (fun k6 => ?_) (fun k6 => pk_eq (tk_K xtk n (i + 1)) 7 (fun k7 => ?_) (fun k7 => pk_eq (tk_K xtk n (i + 1)) 8 (fun k8 => f126 (Or.inl k8)) (fun k8 => pk_eq (tk_K xtk n (i + 1)) 9 (fun k9 => f126 (Or.inr k9)) (fun k9 => pk_eq (tk_K xtk n (i + 1)) 10 (fun k10 => ?_) (fun k10 => pk_eq (tk_K xtk n (i + 1)) 11 (fun z => f183 (by omega) (by rw [z]; rfl)) (fun k11 => pk_eq (tk_K xtk n (i + 1)) 12 (fun z => f164 (by omega) (by rw [z]; rfl)) (fun k12 => pk_eq (tk_K xtk n (i + 1)) 13 (fun z => f164 (by omega) (by rw [z]; rfl)) (fun k13 => pk_eq (tk_K xtk n (i + 1)) 14 (fun z => f164 (by omega) (by rw [z]; rfl)) (fun k14 => pk_eq (tk_K xtk n (i + 1)) 15 (fun z => f183 (by omega) (by rw [z]; rfl)) (fun k15 => pk_eq (tk_K xtk n (i + 1)) 16 (fun z => f183 (by omega) (by rw [z]; rfl)) (fun k16 => pk_eq (tk_K xtk n (i + 1)) 17 (fun z => f183 (by omega) (by rw [z]; rfl)) (fun k17 => pk_eq (tk_K xtk n (i + 1)) 18 (fun z => f183 (by omega) (by rw [z]; rfl)) (fun k18 => pk_eq (tk_K xtk n (i + 1)) 19 (fun z => f183 (by omega) (by rw [z]; rfl)) (fun k19 => pk_eq (tk_K xtk n (i + 1)) 20 (fun z => f183 (by omega) (by rw [z]; rfl)) (fun k20 => trivial)))))))))))))))
    · obtain ⟨c, ec, lc⟩ := kw (by omega)
      rw [ni_2]
      refine xg_give H A lc (fun r' e1 e2 => pk_eq c0 2 (fun z => h1 r' ?_ (fun q hq => ?_) (fun q hq => e1 q hq.2.2) (fun q hq => ?_) (fun q hq => e2 q (fun w => hq (Or.inr (Or.inl ⟨k1, k6, w⟩))))) (fun z => h0 r' (noS (fun F => ?_))))
      · have : c = 1 := by omega
        subst this
        exact Or.inr (Or.inr (Or.inr ⟨k1, Or.inl ⟨k6, lc⟩⟩))
      · rcases hq.2 with ⟨w, _⟩ | ⟨w, _⟩ | ⟨w, _⟩ | ⟨w, _⟩ <;> omega
      · rcases hq.2 with ⟨w, _⟩ | ⟨w, _⟩ <;> omega
      · rcases F with ⟨_, l⟩ | ⟨w, _⟩ | ⟨w, _⟩ | ⟨w, _⟩ | ⟨w, _⟩
        · have := ls_C_u lc l; omega
        · omega
        · omega
        · omega
        · omega
    · obtain ⟨c, ec, lc⟩ := kw (by omega)
      refine pk_eq c0 3 (fun z => ?_) (fun z => h0 xro (noS (fun F => ?_)))
      · have : c = 2 := by omega
        subst this
        refine xl_lam H A k1 k7 lc hz (fun r' F e1 e3 e4 => br_f (by decide) (h1 r' (Or.inr (Or.inr (Or.inr ⟨k1, by rw [k7]; exact F⟩))) e1 (fun q hq => by have := hq.2.1; omega) e3 e4)) (fun r' F => br_t rfl (h0 r' (noS (by rw [k7]; exact F))))
      · rcases F with ⟨w, _⟩ | ⟨_, l, _⟩ | ⟨w, _⟩ | ⟨w, _⟩ | ⟨w, _⟩
        · omega
        · have := ls_C_u lc l; omega
        · omega
        · omega
        · omega
    · obtain ⟨c, ec, lc⟩ := kw (by omega)
      rw [ni_2]
      exact xg_give H A lc (fun r' e1 e2 => pk_eq c0 4 (fun z => (ops (by omega) 3 (by rw [k10]; rfl) c lc r' e1 e2).1 (by omega)) (fun z => (ops (by omega) 3 (by rw [k10]; rfl) c lc r' e1 e2).2 (by omega)))
theorem xf_datum (H : tk_ok xtk n) (A : xb_A (tk_K xtk n) n xaf) {i : Nat} (hi : i < n) {post : Int32 → SX → Prop}
    (h1 : tk_K xtk n i = 3 ∨ tk_K xtk n i = 5 → post 1 (xdl, xtn, xpp, xvc, xcc, xfc, xoc, xag, xan, xex, xen, xfl, xac, xst, xsp, xmd, xrt, xcu, xtk, xtv, xaf, xro, xsc, xho, xvk, xvf, xvs, xcv, xco, xff, xfp, xfe, xfb, xop))
    (h2 : ∀ r' c, tk_K xtk n i = 1 → ls_C (tk_K xtk n) (sk_f (tk_K xtk n) n) (i + 1) c → (∀ c, gr_DM (tk_K xtk n) (sk_f (tk_K xtk n) n) i c → r' c = 2) → (∀ c, ¬ gr_DM (tk_K xtk n) (sk_f (tk_K xtk n) n) i c → r' c = xro c) → post 1 (xdl, xtn, xpp, xvc, xcc, xfc, xoc, xag, xan, xex, xen, xfl, xac, xst, xsp, xmd, xrt, xcu, xtk, xtv, xaf, r', xsc, xho, xvk, xvf, xvs, xcv, xco, xff, xfp, xfe, xfb, xop))
    (h0 : ¬ gr_DS (tk_K xtk n) (sk_f (tk_K xtk n) n) i → post 0 (xdl, xtn, xpp, xvc, xcc, xfc, xoc, xag, xan, xex, xen, xfl, xac, xst, xsp, xmd, xrt, xcu, xtk, xtv, xaf, xro, xsc, xho, xvk, xvf, xvs, xcv, xco, xff, xfp, xfe, xfb, xop)) : wpX_datumFits post (xdl, xtn, xpp, xvc, xcc, xfc, xoc, xag, xan, xex, xen, xfl, xac, xst, xsp, xmd, xrt, xcu, xtk, xtv, xaf, xro, xsc, xho, xvk, xvf, xvs, xcv, xco, xff, xfp, xfe, xfb, xop) (nI i) := by
  refine ⟨tk_in H hi, tk_b H hi 1 (fun k1 => ?_) (fun k1 => ⟨tk_in H hi, tk_b H hi 3 (fun k3 => h1 (Or.inl k3)) (fun k3 => ⟨tk_in H hi, tk_b H hi 5 (fun k5 => h1 (Or.inr k5)) (fun k5 => h0 (fun w => ?_))⟩)⟩)⟩
  · obtain ⟨c0, lc0, p1, p2, p3⟩ := xl_cnt H A hi k1
    rw [nI_1]
    exact xg_give H A lc0 (fun r' e1 e2 => h2 r' c0 k1 lc0 (fun c hc => e1 c hc.2) (fun c hc => e2 c (fun w => hc ⟨k1, w⟩)))
  · rcases w with w | w | ⟨w, _⟩
    · exact k3 w
    · exact k5 w
    · exact k1 w
def xr_c (n : Nat) (r : Nat → Int32) : Nat → Int32 := fun c => if c < n then r c else 0
theorem xr_in {n c : Nat} {r : Nat → Int32} (h : c < n) : xr_c n r c = r c := if_pos h
theorem xr_out {n c : Nat} {r : Nat → Int32} (h : n ≤ c) : xr_c n r c = 0 := if_neg (by omega)
theorem xw_loop (H : tk_ok xtk n) (A : xb_A (tk_K xtk n) n xaf) {post : Int32 → SX → Prop}
    (h1 : ∀ r' par, rw_W (tk_K xtk n) xtv (sk_f (tk_K xtk n) n) n n (xr_c n r') par → post 1 (xdl, nI n, xpp, xvc, xcc, xfc, xoc, xag, xan, xex, xen, xfl, xac, xst, xsp, xmd, xrt, xcu, xtk, xtv, xaf, r', xsc, xho, xvk, xvf, xvs, xcv, xco, xff, xfp, xfe, xfb, xop))
    (h0 : ∀ r', (∀ k, ¬ gr_X (tk_K xtk n) xtv (sk_f (tk_K xtk n) n) k true 0) → post 0 (xdl, nI n, xpp, xvc, xcc, xfc, xoc, xag, xan, xex, xen, xfl, xac, xst, xsp, xmd, xrt, xcu, xtk, xtv, xaf, r', xsc, xho, xvk, xvf, xvs, xcv, xco, xff, xfp, xfe, xfb, xop)) :
    ∀ d m (r' : Nat → Int32) (par : Nat → Nat), m + d = n → rw_W (tk_K xtk n) xtv (sk_f (tk_K xtk n) n) n m (xr_c n r') par → wX_grammarFits_54 post (d + 1) (nI m) xdl (nI n) xpp xvc xcc xfc xoc xag xan xex xen xfl xac xst xsp xmd xrt xcu xtk xtv xaf r' xsc xho xvk xvf xvs xcv xco xff xfp xfe xfb xop := by
  have H1 := H.1
  have hB : ∀ i, i < n → tk_K xtk n i ≠ 2 → dp_I (tk_K xtk n) i (sk_f (tk_K xtk n) n i) := fun i hi hk => (A i hi hk).1
  have hn0 : ∀ i, n ≤ i → tk_K xtk n i = 0 := fun i => tk_0
  intro d
  induction d with
  | zero =>
    intro m r' par e W
    have em : m = n := by omega
    subst em
    exact pk_le m m (fun _ => h1 r' par W) (fun z => by omega)
  | succ d ih =>
    intro m r' par e W
    have hm : m < n := by omega
    have hc : (nI m).toNatClampNeg = m := nI_clamp (by omega)
    have inn : ∀ q c, gr_Ch (tk_K xtk n) (sk_f (tk_K xtk n) n) q c → q < n → tk_K xtk n q = 1 → gr_SH (tk_K xtk n) xtv (sk_f (tk_K xtk n) n) q → c < n := fun q c hq hqn hk hS => by
      have g := gr_in (hB q hqn (by omega)) hS hq
      have g2 := g.2.1.1
      have := dp_le hn0 (hB q hqn (by omega)) hqn
      omega
    refine pk_le n m (fun z => by omega) (fun _ => ⟨tk_in H hm, ?_⟩)
    rw [hc]
    by_cases r2 : r' m = 2
    · have r2' : xr_c n r' m = 2 := (xr_in hm).trans r2
      refine br_t r2 (xf_datum (xro := r') (xtn := nI n) H A hm (fun k => ?_) (fun r3 c k1 lc e1 e4 => ?_) (fun w => ?_))
      · exact br_f (by decide) (nm_r (nI_1 m) (ih (m + 1) r' par (by omega) (rw_datom W r2' k)))
      · have ex : ∃ par', rw_W (tk_K xtk n) xtv (sk_f (tk_K xtk n) n) n (m + 1) (xr_c n r3) par' := by
          refine rw_dform hB hm W r2' k1 lc (fun c hc => ?_) (fun c hc => ?_)
          · have g := ls_Min (hB m hm (by omega)) k1 (dp_L_r _) (dp_I_1 (hB m hm (by omega)) k1) hc.2
            have g2 := g.2.1.1
            have := dp_le hn0 (hB m hm (by omega)) hm
            exact (xr_in (by omega)).trans (e1 c hc)
          · unfold xr_c
            rw [e4 c hc]
        obtain ⟨par', W'⟩ := ex
        exact br_f (by decide) (nm_r (nI_1 m) (ih (m + 1) r3 par' (by omega) W'))
      · exact br_t rfl (h0 r' (rw_no W hm (Or.inr ⟨r2', w⟩)))
    · refine br_f r2 ⟨tk_in H hm, ?_⟩
      by_cases r1 : r' m = 1
      · have r1' : xr_c n r' m = 1 := (xr_in hm).trans r1
        have r2' : xr_c n r' m ≠ 2 := by rw [r1']; decide
        refine br_t r1 ⟨tk_in H hm, ?_⟩
        have hb := tk_b H hm 1 (A := wpX_formFits (fun r_50 u => match u with | (xdl, xtn, xpp, xvc, xcc, xfc, xoc, xag, xan, xex, xen, xfl, xac, xst, xsp, xmd, xrt, xcu, xtk, xtv, xaf, xro, xsc, xho, xvk, xvf, xvs, xcv, xco, xff, xfp, xfe, xfb, xop) => (wX_grammarFits_116 post (wX_grammarFits_54 post (d + 1)) (nI m) r_50 xdl xtn xpp xvc xcc xfc xoc xag xan xex xen xfl xac xst xsp xmd xrt xcu xtk xtv xaf xro xsc xho xvk xvf xvs xcv xco xff xfp xfe xfb xop)) (xdl, nI n, xpp, xvc, xcc, xfc, xoc, xag, xan, xex, xen, xfl, xac, xst, xsp, xmd, xrt, xcu, xtk, xtv, xaf, r', xsc, xho, xvk, xvf, xvs, xcv, xco, xff, xfp, xfe, xfb, xop) (nI m)) (B := wpX_atomFits (fun r_15 => (wX_grammarFits_116 post (wX_grammarFits_54 post (d + 1)) (nI m) r_15 xdl (nI n) xpp xvc xcc xfc xoc xag xan xex xen xfl xac xst xsp xmd xrt xcu xtk xtv xaf r' xsc xho xvk xvf xvs xcv xco xff xfp xfe xfb xop)) (xdl, nI n, xpp, xvc, xcc, xfc, xoc, xag, xan, xex, xen, xfl, xac, xst, xsp, xmd, xrt, xcu, xtk, xtv, xaf, r', xsc, xho, xvk, xvf, xvs, xcv, xco, xff, xfp, xfe, xfb, xop) (nI m)) (fun k1 => ?_) (fun k1 => ?_)
        · rw [hc] at hb; exact hb
        · refine xf_form (xro := r') (xtn := nI n) H A hm k1 (fun q q1 q2 => ?_) (fun r3 hS e1 e2 e3 e4 => ?_) (fun r3 w => ?_)
          · have := W.1 m (Nat.le_refl _) hm (by rw [r1']; decide) q q1 q2
            have l := dp_le hn0 (hB m hm (by omega)) hm
            rw [xr_in (by omega)] at this
            exact this
          · have ex : ∃ par', rw_W (tk_K xtk n) xtv (sk_f (tk_K xtk n) n) n (m + 1) (xr_c n r3) par' := by
              refine rw_form hB hm W r1' k1 hS (fun c hc => ?_) (fun c hc => ?_) (fun c hc => ?_) (fun c hc => ?_)
              · exact (xr_in (inn m c (Or.inl hc) hm k1 hS)).trans (e1 c hc)
              · exact (xr_in (inn m c (Or.inr (Or.inl hc)) hm k1 hS)).trans (e2 c hc)
              · exact (xr_in (inn m c (Or.inr (Or.inr hc)) hm k1 hS)).trans (e3 c hc)
              · unfold xr_c
                rw [e4 c hc]
            obtain ⟨par', W'⟩ := ex
            exact br_f (by decide) (nm_r (nI_1 m) (ih (m + 1) r3 par' (by omega) W'))
          · exact br_t rfl (h0 r3 (rw_no W hm (Or.inl ⟨r1', w⟩)))
        · have atom : (tk_K xtk n m = 3 ∨ tk_K xtk n m = 4 ∨ tk_K xtk n m = 5) → wX_grammarFits_116 post (wX_grammarFits_54 post (d + 1)) (nI m) 1 xdl (nI n) xpp xvc xcc xfc xoc xag xan xex xen xfl xac xst xsp xmd xrt xcu xtk xtv xaf r' xsc xho xvk xvf xvs xcv xco xff xfp xfe xfb xop := fun k => br_f (by decide) (nm_r (nI_1 m) (ih (m + 1) r' par (by omega) (rw_atom W r1' k)))
          refine ⟨tk_in H hm, tk_b H hm 3 (fun k3 => atom (by omega)) (fun k3 => ⟨tk_in H hm, tk_b H hm 5 (fun k5 => atom (by omega)) (fun k5 => ⟨tk_in H hm, tk_b H hm 4 (fun k4 => atom (by omega)) (fun k4 => br_t rfl (h0 r' (rw_no W hm (Or.inl ⟨r1', fun w => ?_⟩))))⟩)⟩)⟩
          rcases w with w | w | w | w
          · exact k3 w
          · exact k4 w
          · exact k5 w
          · exact k1 w.1
      · exact br_f r1 (br_f (by decide) (nm_r (nI_1 m) (ih (m + 1) r' par (by omega) (rw_skip W (fun z => r1 ((xr_in hm).symm.trans z)) (fun z => r2 ((xr_in hm).symm.trans z))))))
theorem xw_init (H : tk_ok xtk n) (h0n : 0 < n) {post : Int32 → SX → Prop} (h : ∀ r', (∀ c, c < n → r' c = 0) → ∃ f, wX_grammarFits_54 post f 0 xdl (nI n) xpp xvc xcc xfc xoc xag xan xex xen xfl xac xst xsp xmd xrt xcu xtk xtv xaf (upd r' 0 1) xsc xho xvk xvf xvs xcv xco xff xfp xfe xfb xop) :
    ∀ d m (r' : Nat → Int32), m + d = n → (∀ c, c < m → r' c = 0) → wX_grammarFits_24 post xdl (nI n) xpp xvc xcc xfc xoc xag xan xex xen xfl xac xst xsp xmd xrt xcu (d + 1) (nI m) xtk xtv xaf r' xsc xho xvk xvf xvs xcv xco xff xfp xfe xfb xop := by
  have H1 := H.1
  intro d
  induction d with
  | zero =>
    intro m r' e hr
    have em : m = n := by omega
    subst em
    exact pk_le m m (fun _ => nm_e (h r' hr)) (fun z => by omega)
  | succ d ih =>
    intro m r' e hr
    have hm : m < n := by omega
    have hc : (nI m).toNatClampNeg = m := nI_clamp (by omega)
    refine pk_le n m (fun z => by omega) (fun _ => ⟨tk_in H hm, fun r1 e1 => nm_r (nI_1 m) (ih (m + 1) r1 (by omega) (fun c hc' => ?_))⟩)
    rw [e1, hc]
    by_cases z : c = m
    · rw [z]; exact pk_us
    · rw [pk_un z]; exact hr c (by omega)
theorem xw_gram (H : tk_ok xtk n) (A : xb_A (tk_K xtk n) n xaf) (hK0 : 0 < n → tk_K xtk n 0 ≠ 2) {post : Int32 → SX → Prop}
    (h1 : ∀ r' par, 0 < n → dp_I (tk_K xtk n) 0 n → rw_W (tk_K xtk n) xtv (sk_f (tk_K xtk n) n) n n (xr_c n r') par → post 1 (xdl, nI n, xpp, xvc, xcc, xfc, xoc, xag, xan, xex, xen, xfl, xac, xst, xsp, xmd, xrt, xcu, xtk, xtv, xaf, r', xsc, xho, xvk, xvf, xvs, xcv, xco, xff, xfp, xfe, xfb, xop))
    (h0 : ∀ r', (∀ k, ¬ (0 < n ∧ sk_f (tk_K xtk n) n 0 = n ∧ gr_X (tk_K xtk n) xtv (sk_f (tk_K xtk n) n) k true 0)) → post 0 (xdl, nI n, xpp, xvc, xcc, xfc, xoc, xag, xan, xex, xen, xfl, xac, xst, xsp, xmd, xrt, xcu, xtk, xtv, xaf, r', xsc, xho, xvk, xvf, xvs, xcv, xco, xff, xfp, xfe, xfb, xop)) : wpX_grammarFits post (xdl, nI n, xpp, xvc, xcc, xfc, xoc, xag, xan, xex, xen, xfl, xac, xst, xsp, xmd, xrt, xcu, xtk, xtv, xaf, xro, xsc, xho, xvk, xvf, xvs, xcv, xco, xff, xfp, xfe, xfb, xop) := by
  have H1 := H.1
  refine pk_eq n 0 (fun z => h0 xro (fun k w => by omega)) (fun z => ?_)
  have n0 : 0 < n := by omega
  have A0 := A 0 n0 (hK0 n0)
  have l0 := dp_le (K := (tk_K xtk n)) (n := n) (fun i => tk_0) A0.1 n0
  refine pk_eq (sk_f (tk_K xtk n) n 0) n (fun e => ?_) (fun e => h0 xro (fun k w => e w.2.1)) A0.2
  have I0 : dp_I (tk_K xtk n) 0 n := by have := A0.1; rw [e] at this; exact this
  refine ⟨n + 1, xw_init H n0 (fun r' hr => ⟨n + 1, ?_⟩) n 0 xro (by omega) (fun c hc => by omega)⟩
  refine xw_loop H A (fun r2 par W => h1 r2 par n0 I0 W) (fun r2 w => h0 r2 (fun k z => w k z.2.2)) n 0 (upd r' 0 1) (fun _ => 0) (by omega) ?_
  have r0 : ∀ c, c ≠ 0 → xr_c n (upd r' 0 1) c = 0 := fun c hc => by
    rcases Nat.lt_or_ge c n with y | y
    · rw [xr_in y, pk_un hc]; exact hr c y
    · exact xr_out y
  refine ⟨fun i _ hi hri m m1 m2 => r0 m (by omega), fun i hi => by omega, fun i hi => by omega, fun c hc hrc => ?_, (xr_in n0).trans pk_us⟩
  by_cases y : c = 0
  · exact Or.inl y
  · exact absurd (r0 c y) hrc
end
end
section
section
variable {xdl xtn xpp xvc xcc xfc xoc xag xan xex xen xfl xac xst xsp xmd xrt xcu : Int32} {xtk xtv xaf xro xsc xho xvk xvf xvs xcv xco xff xfp xfe xfb xop : Nat → Int32} {n : Nat}
/-! the component's scopes -/
theorem xs_itL (H : tk_ok xtk n) (A : xb_A (tk_K xtk n) n xaf) {m s c : Nat} (hms : m < s) (lc : ls_C (tk_K xtk n) (sk_f (tk_K xtk n) n) s c) {post : SX → Prop}
    (hp : ∀ sc', (∀ q, ls_M (tk_K xtk n) (sk_f (tk_K xtk n) n) s q → sc' q = xsc m) → (∀ q, ¬ ls_M (tk_K xtk n) (sk_f (tk_K xtk n) n) s q → sc' q = xsc q) → post (xdl, xtn, xpp, xvc, xcc, xfc, xoc, xag, xan, xex, xen, xfl, xac, xst, xsp, xmd, xrt, xcu, xtk, xtv, xaf, xro, sc', xho, xvk, xvf, xvs, xcv, xco, xff, xfp, xfe, xfb, xop)) :
    ∀ d x (sc' : Nat → Int32), x + d = c → (∀ q, (∃ y, y < x ∧ q = it_f (sk_f (tk_K xtk n) n) y s) → sc' q = xsc m) → (∀ q, ¬ (∃ y, y < x ∧ q = it_f (sk_f (tk_K xtk n) n) y s) → sc' q = xsc q) →
      wX_scopeItems_6 post (nI m) xdl xtn xpp xvc xcc xfc xoc xag xan xex xen xfl xac xst xsp xmd xrt xcu (d + 1) (nI (it_f (sk_f (tk_K xtk n) n) x s)) (nI x) xtk xtv xaf xro sc' xho xvk xvf xvs xcv xco xff xfp xfe xfb xop := by
  have H1 := H.1
  have bd := ls_bd (K := (tk_K xtk n)) (n := n) (fun i => tk_0) lc
  have b2 := bd.2
  intro d
  induction d with
  | zero =>
    intro x r' e r1 r2
    have ec : x = c := by omega
    subst ec
    have hx := (bd.1 x (Nat.le_refl _)).1
    exact pk_le 64 x (fun z => by omega) (fun _ => ⟨tk_in H hx, tk_b H hx 2 (fun _ => hp r' (fun q hq => r1 q ((ls_CM lc).mp hq)) (fun q hq => r2 q (fun z => hq ((ls_CM lc).mpr z)))) (fun z => absurd lc.2 z)⟩)
  | succ d ih =>
    intro x r' e r1 r2
    have hx := (bd.1 x (by omega)).1
    have k := lc.1 x (by omega)
    have hc : (nI (it_f (sk_f (tk_K xtk n) n) x s)).toNatClampNeg = it_f (sk_f (tk_K xtk n) n) x s := nI_clamp (by omega)
    have hcm : (nI m).toNatClampNeg = m := nI_clamp (by omega)
    refine pk_le 64 x (fun z => by omega) (fun _ => ⟨tk_in H hx, tk_b H hx 2 (fun z => absurd z k) (fun _ => ⟨tk_in H (by omega), tk_in H hx, fun r5 e5 => ⟨tk_in H hx, nm_r ?_ (nm_r (nI_1 x) (ih (x + 1) r5 (by omega) ?_ ?_))⟩⟩)⟩)
    · rw [hc, (A _ hx k).2, it_s]
    · rintro q ⟨y, hy, eq⟩
      rw [e5, hc, hcm]
      by_cases z : q = it_f (sk_f (tk_K xtk n) n) x s
      · rw [z, pk_us]
        refine r2 m (fun ⟨y, hy, em⟩ => ?_)
        have := (bd.1 y (by omega)).2
        omega
      · rw [pk_un z]
        refine r1 q ⟨y, ?_, eq⟩
        by_cases y2 : y = x
        · subst y2; exact absurd eq z
        · omega
    · intro q hq
      rw [e5, hc, pk_un (fun z => hq ⟨x, by omega, z⟩)]
      exact r2 q (fun ⟨y, hy, eq⟩ => hq ⟨y, by omega, eq⟩)
theorem xs_items (H : tk_ok xtk n) (A : xb_A (tk_K xtk n) n xaf) {m c : Nat} (lc : ls_C (tk_K xtk n) (sk_f (tk_K xtk n) n) (m + 1) c) {post : SX → Prop}
    (hp : ∀ sc', (∀ q, ls_M (tk_K xtk n) (sk_f (tk_K xtk n) n) (m + 1) q → sc' q = xsc m) → (∀ q, ¬ ls_M (tk_K xtk n) (sk_f (tk_K xtk n) n) (m + 1) q → sc' q = xsc q) → post (xdl, xtn, xpp, xvc, xcc, xfc, xoc, xag, xan, xex, xen, xfl, xac, xst, xsp, xmd, xrt, xcu, xtk, xtv, xaf, xro, sc', xho, xvk, xvf, xvs, xcv, xco, xff, xfp, xfe, xfb, xop)) : wpX_scopeItems post (xdl, xtn, xpp, xvc, xcc, xfc, xoc, xag, xan, xex, xen, xfl, xac, xst, xsp, xmd, xrt, xcu, xtk, xtv, xaf, xro, xsc, xho, xvk, xvf, xvs, xcv, xco, xff, xfp, xfe, xfb, xop) (nI m) :=
  nm_r (nI_1 m) ⟨c + 1, xs_itL H A (by omega) lc hp c 0 xsc (by omega) (fun q ⟨y, hy, _⟩ => by omega) (fun q _ => rfl)⟩
theorem xs_body (H : tk_ok xtk n) (A : xb_A (tk_K xtk n) n xaf) {m : Nat} (h2 : m + 2 < n) (k2 : tk_K xtk n (m + 2) ≠ 2) {post : Int32 → Prop} (hp : post (nI (sk_f (tk_K xtk n) n (m + 2)))) : wpX_body post (xdl, xtn, xpp, xvc, xcc, xfc, xoc, xag, xan, xex, xen, xfl, xac, xst, xsp, xmd, xrt, xcu, xtk, xtv, xaf, xro, xsc, xho, xvk, xvf, xvs, xcv, xco, xff, xfp, xfe, xfb, xop) (nI m) := by
  have H1 := H.1
  refine ⟨by rw [ni_2]; exact tk_in H h2, ?_⟩
  rw [ni_2, nI_clamp (by omega), (A _ h2 k2).2]
  exact hp
theorem xs_lamL (H : tk_ok xtk n) (A : xb_A (tk_K xtk n) n xaf) {m c : Nat} (P : gr_P (tk_K xtk n) xtv (m + 2) c) (k2 : tk_K xtk n (m + 2) = 1) (hb : sk_f (tk_K xtk n) n (m + 2) < n) {post : SX → Prop}
    (hp : ∀ sc', (∀ j, j < c → sc' (m + 3 + j) = sc_ls (tk_K xtk n) (sk_f (tk_K xtk n) n) xsc m j) → (∀ q, (∀ j, j < c → q ≠ m + 3 + j) → sc' q = xsc q) → post (xdl, xtn, xpp, xvc, xcc, xfc, xoc, xag, xan, xex, xen, xfl, xac, xst, xsp, xmd, xrt, xcu, xtk, xtv, xaf, xro, upd sc' (sk_f (tk_K xtk n) n (m + 2)) (sc_ls (tk_K xtk n) (sk_f (tk_K xtk n) n) xsc m c), xho, xvk, xvf, xvs, xcv, xco, xff, xfp, xfe, xfb, xop)) (k7 : tk_K xtk n (m + 1) = 7) :
    ∀ d x (sc' : Nat → Int32), x + d = c → (∀ j, j < x → sc' (m + 3 + j) = sc_ls (tk_K xtk n) (sk_f (tk_K xtk n) n) xsc m j) → (∀ q, (∀ j, j < x → q ≠ m + 3 + j) → sc' q = xsc q) →
      wX_scopeLambda_14 post (nI m) xdl xtn xpp xvc xcc xfc xoc xag xan xex xen xfl xac xst xsp xmd xrt xcu (d + 1) (sc_ls (tk_K xtk n) (sk_f (tk_K xtk n) n) xsc m x) (nI (m + 3 + x)) (nI x) xtk xtv xaf xro sc' xho xvk xvf xvs xcv xco xff xfp xfe xfb xop := by
  have H1 := H.1
  have c4 := P.1
  have lc : ls_C (tk_K xtk n) (sk_f (tk_K xtk n) n) (m + 2 + 1) c := gr_PC (n := n) P
  have bd := ls_bd (K := (tk_K xtk n)) (n := n) (fun i => tk_0) lc
  have m2 : m + 2 < n := tk_lt (tk := xtk) (by omega)
  have fin : ∀ sc', (∀ j, j < c → sc' (m + 3 + j) = sc_ls (tk_K xtk n) (sk_f (tk_K xtk n) n) xsc m j) → (∀ q, (∀ j, j < c → q ≠ m + 3 + j) → sc' q = xsc q) → wX_scopeLambda_48 post (nI m) (sc_ls (tk_K xtk n) (sk_f (tk_K xtk n) n) xsc m c) xdl xtn xpp xvc xcc xfc xoc xag xan xex xen xfl xac xst xsp xmd xrt xcu xtk xtv xaf xro sc' xho xvk xvf xvs xcv xco xff xfp xfe xfb xop := by
    intro sc' r1 r2
    refine xs_body (xsc := sc') H A m2 (by omega) ⟨tk_in H hb, fun s4 e4 => ?_⟩
    rw [nI_clamp (by omega)] at e4
    rw [e4]; exact hp sc' r1 r2
  intro d
  induction d with
  | zero =>
    intro x sc' e r1 r2
    have ec : x = c := by omega
    subst ec
    have hx : m + 3 + x < n := by have := bd.2; omega
    exact pk_le 4 x (fun _ => fin sc' r1 r2) (fun _ => ⟨tk_in H hx, tk_b H hx 2 (fun _ => fin sc' r1 r2) (fun z => absurd P.2.2.1 z)⟩)
  | succ d ih =>
    intro x sc' e r1 r2
    have hx : m + 3 + x < n := by have := bd.2; omega
    have k4 : tk_K xtk n (m + 3 + x) = 4 := P.2.1 x (by omega)
    have hc : (nI (m + 3 + x)).toNatClampNeg = m + 3 + x := nI_clamp (by omega)
    have en : nI (m + 3 + x) = sc_ls (tk_K xtk n) (sk_f (tk_K xtk n) n) xsc m (x + 1) := congrArg nI (show m + 3 + x = sc_nm (tk_K xtk n) (sk_f (tk_K xtk n) n) m x from (if_pos k7).symm)
    refine pk_le 4 x (fun z => by omega) (fun _ => ⟨tk_in H hx, tk_b H hx 2 (fun z => by omega) (fun _ => ⟨tk_in H hx, fun s5 e5 => nm_r (nI_1 (m + 3 + x)) (nm_r (nI_1 x) ?_)⟩)⟩)
    rw [hc] at e5
    have := ih (x + 1) s5 (by omega) (fun j hj => ?_) (fun q hq => ?_)
    · rw [← en] at this; exact this
    · rw [e5]
      by_cases z : j = x
      · rw [z]; exact pk_us
      · rw [pk_un (by omega)]; exact r1 j (by omega)
    · rw [e5, pk_un (hq x (by omega))]
      exact r2 q (fun j hj => hq j (by omega))
theorem xs_lam (H : tk_ok xtk n) (A : xb_A (tk_K xtk n) n xaf) {m c : Nat} (P : gr_P (tk_K xtk n) xtv (m + 2) c) (k7 : tk_K xtk n (m + 1) = 7) (k2 : tk_K xtk n (m + 2) = 1) (hb : sk_f (tk_K xtk n) n (m + 2) < n) {post : SX → Prop}
    (hp : ∀ sc', (∀ j, j < c → sc' (m + 3 + j) = sc_ls (tk_K xtk n) (sk_f (tk_K xtk n) n) xsc m j) → (∀ q, (∀ j, j < c → q ≠ m + 3 + j) → sc' q = xsc q) → post (xdl, xtn, xpp, xvc, xcc, xfc, xoc, xag, xan, xex, xen, xfl, xac, xst, xsp, xmd, xrt, xcu, xtk, xtv, xaf, xro, upd sc' (sk_f (tk_K xtk n) n (m + 2)) (sc_ls (tk_K xtk n) (sk_f (tk_K xtk n) n) xsc m c), xho, xvk, xvf, xvs, xcv, xco, xff, xfp, xfe, xfb, xop)) : wpX_scopeLambda post (xdl, xtn, xpp, xvc, xcc, xfc, xoc, xag, xan, xex, xen, xfl, xac, xst, xsp, xmd, xrt, xcu, xtk, xtv, xaf, xro, xsc, xho, xvk, xvf, xvs, xcv, xco, xff, xfp, xfe, xfb, xop) (nI m) := by
  have H1 := H.1
  have m2 : m + 2 < n := tk_lt (tk := xtk) (by omega)
  refine ⟨tk_in H (by omega), nm_r (show xsc (nI m).toNatClampNeg = sc_ls (tk_K xtk n) (sk_f (tk_K xtk n) n) xsc m 0 from by rw [nI_clamp (by omega)]; rfl) (nm_r (ni_3 m) ⟨c + 1, ?_⟩)⟩
  exact xs_lamL H A P k2 hb hp k7 c 0 xsc (by omega) (fun j hj => by omega) (fun q _ => rfl)
/-- the places of a LET's binds -/
theorem xs_bp {K : Nat → Nat} {V : Nat → Int32} {n m c : Nat} (hn : ∀ i, n ≤ i → K i = 0) (hB : ∀ i, i < n → K i ≠ 2 → dp_I K i (sk_f K n i)) (hm : m < n) (k1 : K m = 1) (k8 : K (m + 1) = 8 ∨ K (m + 1) = 9) (hS : gr_SH K V (sk_f K n) m) (lc : ls_C K (sk_f K n) (m + 3) c) :
    (∀ j, j < c → it_f (sk_f K n) j (m + 3) + 4 ≤ it_f (sk_f K n) (j + 1) (m + 3) ∧ K (it_f (sk_f K n) j (m + 3)) = 1) ∧ it_f (sk_f K n) c (m + 3) < n ∧ (∀ j, j ≤ c → m + 3 ≤ it_f (sk_f K n) j (m + 3)) ∧ it_f (sk_f K n) c (m + 3) + 1 = sk_f K n (m + 2) ∧ sk_f K n (m + 2) < n := by
  have hI := hB m hm (by omega)
  have g := gr_bind hI k1 (by omega) (by omega) hS
  have bd := ls_bd hn lc
  obtain ⟨c', lc', q1, _, _⟩ := ls_in (n := n) g.2.1 g.1
  have ec : c' = c := ls_C_u lc' lc
  subst ec
  have hl := dp_le hn hI hm
  have g4 := g.2.2.1.1
  have g5 := g.2.2.2.1
  refine ⟨fun j hj => ?_, (bd.1 c' (Nat.le_refl _)).1, fun j hj => ?_, q1, by omega⟩
  · obtain ⟨m1, m2, m3, m4, m5, m6, m7, m8, m9⟩ := gr_bnd hI k1 k8 hS ((ls_CM lc).mpr ⟨j, hj, rfl⟩)
    have := m5.1
    rw [it_s]
    exact ⟨by omega, m2⟩
  · have := (bd.1 j hj).2; omega
theorem xs_lamsL (H : tk_ok xtk n) (A : xb_A (tk_K xtk n) n xaf) {m c : Nat} {v : Int32} (hc4 : c ≤ 4) (lc : ls_C (tk_K xtk n) (sk_f (tk_K xtk n) n) (m + 3) c) (bp : ∀ j, j < c → it_f (sk_f (tk_K xtk n) n) j (m + 3) + 4 ≤ it_f (sk_f (tk_K xtk n) n) (j + 1) (m + 3)) {post : SX → Prop}
    (hp : ∀ sc', (∀ j, j < c → sc' (it_f (sk_f (tk_K xtk n) n) j (m + 3) + 2) = v) → (∀ q, (∀ j, j < c → q ≠ it_f (sk_f (tk_K xtk n) n) j (m + 3) + 2) → sc' q = xsc q) → post (xdl, xtn, xpp, xvc, xcc, xfc, xoc, xag, xan, xex, xen, xfl, xac, xst, xsp, xmd, xrt, xcu, xtk, xtv, xaf, xro, sc', xho, xvk, xvf, xvs, xcv, xco, xff, xfp, xfe, xfb, xop)) :
    ∀ d x (sc' : Nat → Int32), x + d = c → (∀ j, j < x → sc' (it_f (sk_f (tk_K xtk n) n) j (m + 3) + 2) = v) → (∀ q, (∀ j, j < x → q ≠ it_f (sk_f (tk_K xtk n) n) j (m + 3) + 2) → sc' q = xsc q) →
      wX_scopeLams_7 post v xdl xtn xpp xvc xcc xfc xoc xag xan xex xen xfl xac xst xsp xmd xrt xcu (d + 1) (nI (it_f (sk_f (tk_K xtk n) n) x (m + 3))) (nI x) xtk xtv xaf xro sc' xho xvk xvf xvs xcv xco xff xfp xfe xfb xop := by
  have H1 := H.1
  have bd := ls_bd (K := (tk_K xtk n)) (n := n) (fun i => tk_0) lc
  have b2 := bd.2
  intro d
  induction d with
  | zero =>
    intro x r' e r1 r2
    have ec : x = c := by omega
    subst ec
    have hx := (bd.1 x (Nat.le_refl _)).1
    exact pk_le 4 x (fun z => hp r' r1 r2) (fun _ => ⟨tk_in H hx, tk_b H hx 2 (fun _ => hp r' r1 r2) (fun z => absurd lc.2 z)⟩)
  | succ d ih =>
    intro x r' e r1 r2
    have hx := (bd.1 x (by omega)).1
    have k := lc.1 x (by omega)
    have hx2 := (bd.1 (x + 1) (by omega)).1
    have ap := bp x (by omega)
    have hc : (nI (it_f (sk_f (tk_K xtk n) n) x (m + 3))).toNatClampNeg = it_f (sk_f (tk_K xtk n) n) x (m + 3) := nI_clamp (by omega)
    refine pk_le 4 x (fun z => by omega) (fun _ => ⟨tk_in H hx, tk_b H hx 2 (fun z => absurd z k) (fun _ => ?_)⟩)
    rw [ni_2]
    refine ⟨tk_in H (by omega), fun r5 e5 => ⟨tk_in H hx, nm_r ?_ (nm_r (nI_1 x) (ih (x + 1) r5 (by omega) (fun j hj => ?_) (fun q hq => ?_)))⟩⟩
    · rw [hc, (A _ hx k).2, it_s]
    · rw [e5, nI_clamp (by omega)]
      by_cases z : j = x
      · rw [z]; exact pk_us
      · have g := it_gt (K := (tk_K xtk n)) (n := n) (fun i => tk_0) (m + 3) j (x - j)
        rw [show j + (x - j) = x from by omega] at g
        rw [pk_un (by omega)]; exact r1 j (by omega)
    · rw [e5, nI_clamp (by omega), pk_un (hq x (by omega))]
      exact r2 q (fun j hj => hq j (by omega))
end
end
section
section
variable {xdl xtn xpp xvc xcc xfc xoc xag xan xex xen xfl xac xst xsp xmd xrt xcu : Int32} {xtk xtv xaf xro xsc xho xvk xvf xvs xcv xco xff xfp xfe xfb xop : Nat → Int32} {n : Nat}
theorem xs_70 (H : tk_ok xtk n) (A : xb_A (tk_K xtk n) n xaf) {m c : Nat} (hm : m < n) (k1 : tk_K xtk n m = 1) (k8 : tk_K xtk n (m + 1) = 8 ∨ tk_K xtk n (m + 1) = 9) (hS : gr_SH (tk_K xtk n) xtv (sk_f (tk_K xtk n) n) m) (hc4 : c ≤ 4) (lc : ls_C (tk_K xtk n) (sk_f (tk_K xtk n) n) (m + 3) c) {post : SX → Prop}
    (hp : ∀ sF, (∀ j, j < c → sF (it_f (sk_f (tk_K xtk n) n) j (m + 3) + 1) = sc_ls (tk_K xtk n) (sk_f (tk_K xtk n) n) xsc m j) → sF (sk_f (tk_K xtk n) n (m + 2)) = sc_ls (tk_K xtk n) (sk_f (tk_K xtk n) n) xsc m c → (∀ j, j < c → sF (it_f (sk_f (tk_K xtk n) n) j (m + 3) + 2) = if tk_K xtk n (m + 1) = 9 then sc_ls (tk_K xtk n) (sk_f (tk_K xtk n) n) xsc m c else xsc m) → (∀ q, (∀ j, j < c → q ≠ it_f (sk_f (tk_K xtk n) n) j (m + 3) + 1 ∧ q ≠ it_f (sk_f (tk_K xtk n) n) j (m + 3) + 2) → q ≠ sk_f (tk_K xtk n) n (m + 2) → sF q = xsc q) → post (xdl, xtn, xpp, xvc, xcc, xfc, xoc, xag, xan, xex, xen, xfl, xac, xst, xsp, xmd, xrt, xcu, xtk, xtv, xaf, xro, sF, xho, xvk, xvf, xvs, xcv, xco, xff, xfp, xfe, xfb, xop)) :
    ∀ (sc' : Nat → Int32), (∀ j, j < c → sc' (it_f (sk_f (tk_K xtk n) n) j (m + 3) + 1) = sc_ls (tk_K xtk n) (sk_f (tk_K xtk n) n) xsc m j ∧ sc' (it_f (sk_f (tk_K xtk n) n) j (m + 3) + 2) = xsc m) → (∀ q, (∀ j, j < c → q ≠ it_f (sk_f (tk_K xtk n) n) j (m + 3) + 1 ∧ q ≠ it_f (sk_f (tk_K xtk n) n) j (m + 3) + 2) → sc' q = xsc q) → wX_scopeLet_70 post (nI m) (sc_ls (tk_K xtk n) (sk_f (tk_K xtk n) n) xsc m c) xdl xtn xpp xvc xcc xfc xoc xag xan xex xen xfl xac xst xsp xmd xrt xcu xtk xtv xaf xro sc' xho xvk xvf xvs xcv xco xff xfp xfe xfb xop := by
  have H1 := H.1
  have hB : ∀ i, i < n → tk_K xtk n i ≠ 2 → dp_I (tk_K xtk n) i (sk_f (tk_K xtk n) n i) := fun i hi hk => (A i hi hk).1
  obtain ⟨bp1, bp2, bp3, bp4, bp5⟩ := xs_bp (V := xtv) (K := (tk_K xtk n)) (n := n) (fun i => tk_0) hB hm k1 k8 hS lc
  have g := gr_bind (hB m hm (by omega)) k1 (by omega) (by omega) hS
  have m2 : m + 2 < n := tk_lt (tk := xtk) (by omega)
  have far : ∀ j, j < c → it_f (sk_f (tk_K xtk n) n) j (m + 3) + 4 ≤ it_f (sk_f (tk_K xtk n) n) c (m + 3) := fun j hj => by
    have a := (bp1 j hj).1
    have g := it_gt (K := (tk_K xtk n)) (n := n) (fun i => tk_0) (m + 3) (j + 1) (c - (j + 1))
    rw [show j + 1 + (c - (j + 1)) = c from by omega] at g
    omega
  have far2 : ∀ j j', j < c → j' < c → j ≠ j' → it_f (sk_f (tk_K xtk n) n) j (m + 3) + 4 ≤ it_f (sk_f (tk_K xtk n) n) j' (m + 3) ∨ it_f (sk_f (tk_K xtk n) n) j' (m + 3) + 4 ≤ it_f (sk_f (tk_K xtk n) n) j (m + 3) := fun j j' hj hj' ne => by
    rcases Nat.lt_or_ge j j' with z | z
    · have a := (bp1 j hj).1
      have g := it_gt (K := (tk_K xtk n)) (n := n) (fun i => tk_0) (m + 3) (j + 1) (j' - (j + 1))
      rw [show j + 1 + (j' - (j + 1)) = j' from by omega] at g
      exact Or.inl (by omega)
    · have a := (bp1 j' hj').1
      have g := it_gt (K := (tk_K xtk n)) (n := n) (fun i => tk_0) (m + 3) (j' + 1) (j - (j' + 1))
      rw [show j' + 1 + (j - (j' + 1)) = j from by omega] at g
      exact Or.inr (by omega)
  intro sc' r1 r2
  refine xs_body (xsc := sc') H A m2 (by omega) ⟨tk_in H bp5, fun s4 e4 => ?_⟩
  rw [nI_clamp (by omega)] at e4
  rw [nI_1 m]
  refine ⟨tk_in H (by omega), tk_b H (by omega) 9 (fun k9 => ?_) (fun k9 => ?_)⟩
  · refine nm_r (ni_3 m) ⟨c + 1, ?_⟩
    refine xs_lamsL (xsc := s4) H A hc4 lc (fun j hj => (bp1 j hj).1) (fun sF f1 f2 => ?_) c 0 s4 (by omega) (fun j hj => by omega) (fun q _ => rfl)
    refine hp sF (fun j hj => ?_) ?_ (fun j hj => ?_) (fun q hq hq2 => ?_)
    · have fj := far j hj
      rw [f2 _ (fun j' hj' => by
        by_cases z : j = j'
        · subst z; omega
        · have := far2 j j' hj hj' z; omega), e4, pk_un (by omega)]
      exact (r1 j hj).1
    · rw [f2 _ (fun j hj => by have := far j hj; omega), e4]; exact pk_us
    · rw [if_pos k9]; exact f1 j hj
    · rw [f2 q (fun j hj => (hq j hj).2), e4, pk_un hq2]
      exact r2 q hq
  · refine hp s4 (fun j hj => ?_) (by rw [e4]; exact pk_us) (fun j hj => ?_) (fun q hq hq2 => ?_)
    · have fj := far j hj
      rw [e4, pk_un (by omega)]; exact (r1 j hj).1
    · have fj := far j hj
      rw [if_neg k9, e4, pk_un (by omega)]; exact (r1 j hj).2
    · rw [e4, pk_un hq2]; exact r2 q hq
theorem xs_letL (H : tk_ok xtk n) (A : xb_A (tk_K xtk n) n xaf) {m c : Nat} (hm : m < n) (k1 : tk_K xtk n m = 1) (k8 : tk_K xtk n (m + 1) = 8 ∨ tk_K xtk n (m + 1) = 9) (hS : gr_SH (tk_K xtk n) xtv (sk_f (tk_K xtk n) n) m) (hc4 : c ≤ 4) (lc : ls_C (tk_K xtk n) (sk_f (tk_K xtk n) n) (m + 3) c) {post : SX → Prop}
    (hp : ∀ (sc' : Nat → Int32), (∀ j, j < c → sc' (it_f (sk_f (tk_K xtk n) n) j (m + 3) + 1) = sc_ls (tk_K xtk n) (sk_f (tk_K xtk n) n) xsc m j ∧ sc' (it_f (sk_f (tk_K xtk n) n) j (m + 3) + 2) = xsc m) → (∀ q, (∀ j, j < c → q ≠ it_f (sk_f (tk_K xtk n) n) j (m + 3) + 1 ∧ q ≠ it_f (sk_f (tk_K xtk n) n) j (m + 3) + 2) → sc' q = xsc q) → wX_scopeLet_70 post (nI m) (sc_ls (tk_K xtk n) (sk_f (tk_K xtk n) n) xsc m c) xdl xtn xpp xvc xcc xfc xoc xag xan xex xen xfl xac xst xsp xmd xrt xcu xtk xtv xaf xro sc' xho xvk xvf xvs xcv xco xff xfp xfe xfb xop) :
    ∀ d x (sc' : Nat → Int32), x + d = c → (∀ j, j < x → sc' (it_f (sk_f (tk_K xtk n) n) j (m + 3) + 1) = sc_ls (tk_K xtk n) (sk_f (tk_K xtk n) n) xsc m j ∧ sc' (it_f (sk_f (tk_K xtk n) n) j (m + 3) + 2) = xsc m) → (∀ q, (∀ j, j < x → q ≠ it_f (sk_f (tk_K xtk n) n) j (m + 3) + 1 ∧ q ≠ it_f (sk_f (tk_K xtk n) n) j (m + 3) + 2) → sc' q = xsc q) →
      wX_scopeLet_14 post (nI m) xdl xtn xpp xvc xcc xfc xoc xag xan xex xen xfl xac xst xsp xmd xrt xcu (d + 1) (sc_ls (tk_K xtk n) (sk_f (tk_K xtk n) n) xsc m x) (nI (it_f (sk_f (tk_K xtk n) n) x (m + 3))) (nI x) xtk xtv xaf xro sc' xho xvk xvf xvs xcv xco xff xfp xfe xfb xop := by
  have H1 := H.1
  have hB : ∀ i, i < n → tk_K xtk n i ≠ 2 → dp_I (tk_K xtk n) i (sk_f (tk_K xtk n) n i) := fun i hi hk => (A i hi hk).1
  obtain ⟨bp1, bp2, bp3, bp4, bp5⟩ := xs_bp (V := xtv) (K := (tk_K xtk n)) (n := n) (fun i => tk_0) hB hm k1 k8 hS lc
  have bd := ls_bd (K := (tk_K xtk n)) (n := n) (fun i => tk_0) lc
  intro d
  induction d with
  | zero =>
    intro x sc' e r1 r2
    have ec : x = c := by omega
    subst ec
    have hx := (bd.1 x (Nat.le_refl _)).1
    exact pk_le 4 x (fun _ => hp sc' r1 r2) (fun _ => ⟨tk_in H hx, tk_b H hx 2 (fun _ => hp sc' r1 r2) (fun z => absurd lc.2 z)⟩)
  | succ d ih =>
    intro x sc' e r1 r2
    have hx := (bd.1 x (by omega)).1
    have k := lc.1 x (by omega)
    have hx2 := (bd.1 (x + 1) (by omega)).1
    have ap := (bp1 x (by omega)).1
    have ge := bp3 x (by omega)
    have hc : (nI (it_f (sk_f (tk_K xtk n) n) x (m + 3))).toNatClampNeg = it_f (sk_f (tk_K xtk n) n) x (m + 3) := nI_clamp (by omega)
    have hcm : (nI m).toNatClampNeg = m := nI_clamp (by omega)
    have hc1 : (nI (it_f (sk_f (tk_K xtk n) n) x (m + 3) + 1)).toNatClampNeg = it_f (sk_f (tk_K xtk n) n) x (m + 3) + 1 := nI_clamp (by omega)
    have hc2 : (nI (it_f (sk_f (tk_K xtk n) n) x (m + 3) + 2)).toNatClampNeg = it_f (sk_f (tk_K xtk n) n) x (m + 3) + 2 := nI_clamp (by omega)
    have en : nI (it_f (sk_f (tk_K xtk n) n) x (m + 3) + 1) = sc_ls (tk_K xtk n) (sk_f (tk_K xtk n) n) xsc m (x + 1) := congrArg nI (show it_f (sk_f (tk_K xtk n) n) x (m + 3) + 1 = sc_nm (tk_K xtk n) (sk_f (tk_K xtk n) n) m x from (if_neg (by omega)).symm)
    refine pk_le 4 x (fun z => by omega) (fun _ => ⟨tk_in H hx, tk_b H hx 2 (fun z => absurd z k) (fun _ => ?_)⟩)
    rw [nI_1 (it_f (sk_f (tk_K xtk n) n) x (m + 3)), ni_2 (it_f (sk_f (tk_K xtk n) n) x (m + 3)), hc1, hc2, hcm]
    refine ⟨tk_in H (by omega), fun s2 e2 => ⟨tk_in H hm, tk_in H (by omega), fun s5 e5 => nm_r en ⟨tk_in H hx, nm_r ?_ (nm_r (nI_1 x) (ih (x + 1) s5 (by omega) (fun j hj => ?_) (fun q hq => ?_)))⟩⟩⟩
    · rw [hc, (A _ hx k).2, it_s]
    · have sm : s2 m = xsc m := by
        rw [e2, pk_un (by omega)]
        exact r2 m (fun j hj => by have := bp3 j (by omega); omega)
      by_cases z : j = x
      · rw [z]
        refine ⟨by rw [e5, pk_un (by omega), e2]; exact pk_us, by rw [e5, pk_us]; exact sm⟩
      · have g := it_gt (K := (tk_K xtk n)) (n := n) (fun i => tk_0) (m + 3) (j + 1) (x - (j + 1))
        rw [show j + 1 + (x - (j + 1)) = x from by omega] at g
        have a := (bp1 j (by omega)).1
        rw [e5, pk_un (by omega), pk_un (by omega), e2, pk_un (by omega), pk_un (by omega)]
        exact r1 j (by omega)
    · have q2 := hq x (by omega)
      rw [e5, pk_un q2.2, e2, pk_un q2.1]
      exact r2 q (fun j hj => hq j (by omega))
theorem xs_form (H : tk_ok xtk n) (A : xb_A (tk_K xtk n) n xaf) {m : Nat} (hm : m < n) (k1 : tk_K xtk n m = 1) (hS : gr_SH (tk_K xtk n) xtv (sk_f (tk_K xtk n) n) m) {post : SX → Prop}
    (hp : ∀ sF, sc_L (tk_K xtk n) (sk_f (tk_K xtk n) n) sF m → (∀ q, ¬ gr_Ch (tk_K xtk n) (sk_f (tk_K xtk n) n) m q → q ≠ m + 1 → sF q = xsc q) → post (xdl, xtn, xpp, xvc, xcc, xfc, xoc, xag, xan, xex, xen, xfl, xac, xst, xsp, xmd, xrt, xcu, xtk, xtv, xaf, xro, sF, xho, xvk, xvf, xvs, xcv, xco, xff, xfp, xfe, xfb, xop)) : wpX_scopeForm post (xdl, xtn, xpp, xvc, xcc, xfc, xoc, xag, xan, xex, xen, xfl, xac, xst, xsp, xmd, xrt, xcu, xtk, xtv, xaf, xro, xsc, xho, xvk, xvf, xvs, xcv, xco, xff, xfp, xfe, xfb, xop) (nI m) := by
  have H1 := H.1
  have hB : ∀ i, i < n → tk_K xtk n i ≠ 2 → dp_I (tk_K xtk n) i (sk_f (tk_K xtk n) n i) := fun i hi hk => (A i hi hk).1
  have hI := hB m hm (by omega)
  obtain ⟨c0, lc0, p1, p2, p3⟩ := xl_cnt H A hm k1
  have m1 : m + 1 < n := by omega
  have k20 := tk_20 H (m + 1)
  have dflt : (tk_K xtk n (m + 1) < 7 ∨ 9 < tk_K xtk n (m + 1)) → wpX_scopeItems post (xdl, xtn, xpp, xvc, xcc, xfc, xoc, xag, xan, xex, xen, xfl, xac, xst, xsp, xmd, xrt, xcu, xtk, xtv, xaf, xro, xsc, xho, xvk, xvf, xvs, xcv, xco, xff, xfp, xfe, xfb, xop) (nI m) := by
    intro k
    refine xs_items H A lc0 (fun sc' e1 e2 => hp sc' ⟨fun _ c hc => ?_, fun z z' => by omega⟩ (fun q hq hq1 => e2 q (fun w => ?_)))
    · have nm : ¬ ls_M (tk_K xtk n) (sk_f (tk_K xtk n) n) (m + 1) m := fun w => by
        have := (ls_Min hI k1 (dp_L_r _) (dp_I_1 hI k1) w).1
        omega
      rw [e2 m nm]
      refine e1 c ?_
      rcases hc.2 with ⟨_, w⟩ | ⟨_, w⟩ | ⟨w, w', _⟩ | ⟨w, _⟩
      · refine ls_M_s (by omega) ?_
        rw [sk_at (K := (tk_K xtk n)) (n := n) (i := m + 1) (by omega)]; exact w
      · exact w
      · omega
      · omega
    · by_cases k6 : tk_K xtk n (m + 1) < 6
      · exact hq (Or.inl ⟨k1, Or.inr (Or.inl ⟨k6, w⟩)⟩)
      · rcases (ls_M_c w).2 with e | w2
        · exact hq1 e
        · rw [sk_at (K := (tk_K xtk n)) (n := n) (i := m + 1) (by omega)] at w2
          by_cases k7 : tk_K xtk n (m + 1) = 6
          · exact hq (Or.inr (Or.inl ⟨k1, k7, w2⟩))
          · exact hq (Or.inl ⟨k1, Or.inl ⟨by omega, w2⟩⟩)
  have hlet : (tk_K xtk n (m + 1) = 8 ∨ tk_K xtk n (m + 1) = 9) → wpX_scopeLet post (xdl, xtn, xpp, xvc, xcc, xfc, xoc, xag, xan, xex, xen, xfl, xac, xst, xsp, xmd, xrt, xcu, xtk, xtv, xaf, xro, xsc, xho, xvk, xvf, xvs, xcv, xco, xff, xfp, xfe, xfb, xop) (nI m) := by
    intro k8
    obtain ⟨c, c4, lc, hN, hP, hc1⟩ := sc_N k1 (by omega) (by omega) hS
    obtain ⟨bp1, bp2, bp3, bp4, bp5⟩ := xs_bp (V := xtv) (K := (tk_K xtk n)) (n := n) (fun i => tk_0) hB hm k1 k8 hS lc
    have en : ∀ j, sc_nm (tk_K xtk n) (sk_f (tk_K xtk n) n) m j = it_f (sk_f (tk_K xtk n) n) j (m + 3) + 1 := fun j => if_neg (by omega)
    refine ⟨tk_in H hm, nm_r (show xsc (nI m).toNatClampNeg = sc_ls (tk_K xtk n) (sk_f (tk_K xtk n) n) xsc m 0 from by rw [nI_clamp (by omega)]; rfl) (nm_r (ni_3 m) ⟨c + 1, ?_⟩)⟩
    refine xs_letL H A hm k1 k8 hS c4 lc (xs_70 H A hm k1 k8 hS c4 lc (fun sF f1 f2 f3 f4 => hp sF ⟨fun z => by omega, fun _ _ c' lc' => ?_⟩ (fun q hq hq1 => f4 q (fun j hj => ⟨fun e => hq (Or.inr (Or.inr ((hN q).mpr ⟨j, hj, by rw [en]; exact e⟩))), fun e => hq (Or.inl ⟨k1, Or.inr (Or.inr (Or.inr ⟨k8, _, (ls_CM lc).mpr ⟨j, hj, rfl⟩, e⟩))⟩)⟩) (fun e => hq (Or.inl ⟨k1, Or.inr (Or.inr (Or.inl ⟨by omega, by omega, e⟩))⟩))))) c 0 xsc (by omega) (fun j hj => by omega) (fun q _ => rfl)
    have ec := ls_C_u lc' lc
    subst ec
    have sm : sF m = xsc m := f4 m (fun j hj => by have := bp3 j (by omega); omega) (by have := bp3 0 (by omega); have := (ls_bd (K := (tk_K xtk n)) (n := n) (fun i => tk_0) lc).1 c' (Nat.le_refl _); omega)
    have el : ∀ j, sc_ls (tk_K xtk n) (sk_f (tk_K xtk n) n) sF m j = sc_ls (tk_K xtk n) (sk_f (tk_K xtk n) n) xsc m j := fun j => by
      cases j with
      | zero => exact sm
      | succ j => rfl
    refine ⟨fun j hj => ?_, ?_, fun _ j hj => ?_⟩
    · rw [el, en]; exact f1 j hj
    · rw [el]; exact f2
    · rw [el, sm]; exact f3 j hj
  rw [show wpX_scopeForm post (xdl, xtn, xpp, xvc, xcc, xfc, xoc, xag, xan, xex, xen, xfl, xac, xst, xsp, xmd, xrt, xcu, xtk, xtv, xaf, xro, xsc, xho, xvk, xvf, xvs, xcv, xco, xff, xfp, xfe, xfb, xop) (nI m) = _ from rfl]
  refine ⟨by rw [nI_1]; exact tk_in H m1, nm_r (show xtk (nI m + 1).toNatClampNeg = nI (tk_K xtk n (m + 1)) from by rw [nI_1]; exact tk_c H m1) (pk_lt (tk_K xtk n (m + 1)) 7 (fun k => dflt (Or.inl k)) (fun k => pk_lt 9 (tk_K xtk n (m + 1)) (fun k' => dflt (Or.inr k')) (fun k' => pk_eq (tk_K xtk n (m + 1)) 7 (fun k7 => ?_) (fun k7 => pk_eq (tk_K xtk n (m + 1)) 8 (fun k8 => hlet (Or.inl k8)) (fun k8 => pk_eq (tk_K xtk n (m + 1)) 9 (fun k9 => hlet (Or.inr k9)) (fun k9 => trivial))))))⟩
  obtain ⟨c, c4, lc, hN, hP, hc1⟩ := sc_N k1 (by omega) (by omega) hS
  have P := hP k7
  have g := gr_bind hI k1 (by omega) (by omega) hS
  have en : ∀ j, sc_nm (tk_K xtk n) (sk_f (tk_K xtk n) n) m j = m + 3 + j := fun j => if_pos k7
  have ea : sk_f (tk_K xtk n) n (m + 2) = m + 2 + 2 + c := gr_Pa g.1 P
  have hb : sk_f (tk_K xtk n) n (m + 2) < n := by have := g.2.2.1.1; have := g.2.2.2.1; omega
  refine xs_lam H A P k7 g.1 hb (fun sc' f1 f2 => hp _ ⟨fun z => by omega, fun _ _ c' lc' => ?_⟩ (fun q hq hq1 => ?_))
  · have ec := ls_C_u lc' lc
    subst ec
    have sm : upd sc' (sk_f (tk_K xtk n) n (m + 2)) (sc_ls (tk_K xtk n) (sk_f (tk_K xtk n) n) xsc m c') m = xsc m := by
      rw [pk_un (by omega)]; exact f2 m (fun j hj => by omega)
    have el : ∀ j, sc_ls (tk_K xtk n) (sk_f (tk_K xtk n) n) (upd sc' (sk_f (tk_K xtk n) n (m + 2)) (sc_ls (tk_K xtk n) (sk_f (tk_K xtk n) n) xsc m c')) m j = sc_ls (tk_K xtk n) (sk_f (tk_K xtk n) n) xsc m j := fun j => by
      cases j with
      | zero => exact sm
      | succ j => rfl
    refine ⟨fun j hj => ?_, ?_, fun z => absurd k7 z⟩
    · rw [el, en, pk_un (by omega)]; exact f1 j hj
    · rw [el]; exact pk_us
  · rw [pk_un (fun e => hq (Or.inl ⟨k1, Or.inr (Or.inr (Or.inl ⟨by omega, by omega, e⟩))⟩))]
    exact f2 q (fun j hj e => hq (Or.inr (Or.inr ((hN q).mpr ⟨j, hj, by rw [en]; exact e⟩))))
theorem xs_findL (H : tk_ok xtk n) {i : Nat} (hi : i < n) {post : Int32 → SX → Prop} :
    ∀ (l : List Nat) (s : Int32) (x : Nat), sc_H n xsc l s → x + l.length ≤ i →
      (∀ h, sc_F xtv (xtv i) l h → post 1 (xdl, xtn, xpp, xvc, xcc, xfc, xoc, xag, xan, xex, xen, xfl, xac, xst, xsp, xmd, xrt, xcu, xtk, xtv, xaf, xro, xsc, upd xho i (nI (x + h)), xvk, xvf, xvs, xcv, xco, xff, xfp, xfe, xfb, xop)) → ((∀ m, m ∈ l → xtv m ≠ xtv i) → ∀ ho', post 0 (xdl, xtn, xpp, xvc, xcc, xfc, xoc, xag, xan, xex, xen, xfl, xac, xst, xsp, xmd, xrt, xcu, xtk, xtv, xaf, xro, xsc, ho', xvk, xvf, xvs, xcv, xco, xff, xfp, xfe, xfb, xop)) →
      wX_findBinding_9 post (nI i) xdl xtn xpp xvc xcc xfc xoc xag xan xex xen xfl xac xst xsp xmd xrt xcu xtk xtv xaf xro xsc xho xvk xvf xvs xcv xco xff xfp xfe xfb xop (l.length + 1) s (nI x) := by
  have H1 := H.1
  have hci : (nI i).toNatClampNeg = i := nI_clamp (by omega)
  intro l
  induction l with
  | nil =>
    intro s x hH hx h1 h0
    have x64 : x < 64 := by simp at hx; omega
    refine pk_le 64 x (fun z => by omega) (fun _ => br_t hH ⟨tk_in H hi, fun ho' _ => br_t hH (h0 (fun m hm => absurd hm List.not_mem_nil) ho')⟩)
  | cons m l ih =>
    intro s x hH hx h1 h0
    obtain ⟨e, hm, hH⟩ := hH
    simp only [List.length_cons] at hx ⊢
    have hcm : s.toNatClampNeg = m := by rw [e]; exact nI_clamp (by omega)
    have ne : ¬ s = -1 := by rw [e]; exact ni_nm1 (by omega)
    have im : vp_in s 64 := by rw [e]; exact tk_in H hm
    refine pk_le 64 x (fun z => by omega) (fun _ => br_f ne ⟨im, tk_in H hi, ?_⟩)
    rw [hcm, hci]
    by_cases ev : xtv m = xtv i
    · refine br_t ev ⟨tk_in H hi, fun ho' eh => br_f ne ?_⟩
      rw [eh, hci]
      exact h1 0 (Or.inl ⟨ev, rfl⟩)
    · refine br_f ev ⟨im, nm_e (nm_r (nI_1 x) (ih (xsc m) (x + 1) hH (by omega) (fun h hh => ?_) (fun hh => h0 (fun q hq => ?_))))⟩
      · have := h1 (h + 1) (Or.inr ⟨ev, h, rfl, hh⟩)
        rw [show x + (h + 1) = x + 1 + h from by omega] at this
        exact this
      · rcases List.mem_cons.mp hq with z | z
        · rw [z]; exact ev
        · exact hh q z
end
end
section
section
variable {K : Nat → Nat} {V : Nat → Int32} {n : Nat}
theorem rw_K {r : Nat → Int32} {par : Nat → Nat} (W : rw_W K V (sk_f K n) n n r par) {q : Nat} (hq : q < n) (h : r q ≠ 0) : (K q = 1 ∨ K q = 3 ∨ K q = 4 ∨ K q = 5) ∧ (r q = 3 → K q = 4) := by
  have one : r q = 1 → (K q = 1 ∨ K q = 3 ∨ K q = 4 ∨ K q = 5) := fun z => by
    rcases (W.2.1 q hq z).1 with w | w | w | w
    · omega
    · omega
    · omega
    · exact Or.inl w.1
  have two : r q = 2 → (K q = 1 ∨ K q = 3 ∨ K q = 4 ∨ K q = 5) := fun z => by
    rcases (W.2.2.1 q hq z).1 with w | w | w
    · omega
    · omega
    · exact Or.inl w.1
  rcases W.2.2.2.1 q hq h with z | ⟨z1, z2, z3, z4⟩
  · have := W.2.2.2.2
    rw [← z] at this
    exact ⟨one this, fun w => by rw [this] at w; exact absurd w (by decide)⟩
  · rcases z4 with ⟨a, ⟨b, _⟩ | ⟨b, _⟩ | ⟨b, c⟩⟩ | ⟨a, b, _⟩
    · exact ⟨one b, fun w => by rw [b] at w; exact absurd w (by decide)⟩
    · exact ⟨two b, fun w => by rw [b] at w; exact absurd w (by decide)⟩
    · have k4 : K q = 4 := by
        have hS := (W.2.1 (par q) z2 a).1
        obtain ⟨k1, c⟩ := c
        rcases c with ⟨k7, c⟩ | ⟨k8, b', hb, e⟩
        · obtain ⟨c', c4, lc, hN, hP, _⟩ := sc_N k1 (by omega) (by omega) hS
          have P := hP k7
          obtain ⟨j, hj, e⟩ := (ls_CM lc).mp c
          rw [e, show par q + 3 = par q + 2 + 1 from rfl, gr_Pi P (by omega)]
          exact P.2.1 j hj
        · rcases gr_FSof hS k1 with ⟨k, l⟩ | ⟨k, l, k2, c', q'⟩ | ⟨k, l, k2, c', c1, c4, lc, bb⟩ | ⟨k, l⟩ | ⟨k, c', c4, l⟩
          · omega
          · omega
          · obtain ⟨j, hj, e2⟩ := (ls_CM lc).mp hb
            rw [e, e2]; exact (bb j hj).2.2.1
          · omega
          · omega
      exact ⟨by omega, fun _ => k4⟩
    · exact ⟨two b, fun w => by rw [b] at w; exact absurd w (by decide)⟩
theorem sc_Lc {sc sF : Nat → Int32} {i : Nat} (k1 : K i = 1) (hS : gr_SH K V (sk_f K n) i) (hi : sF i = sc i) (hc : ∀ c, gr_Ch K (sk_f K n) i c → sF c = sc c) (h : sc_L K (sk_f K n) sc i) : sc_L K (sk_f K n) sF i := by
  have el : ∀ j, sc_ls K (sk_f K n) sF i j = sc_ls K (sk_f K n) sc i j := fun j => by
    cases j with
    | zero => exact hi
    | succ j => rfl
  refine ⟨fun z c h' => by rw [hc c (Or.inl h'), hi]; exact h.1 z c h', fun z7 z9 c lc => ?_⟩
  obtain ⟨a1, a2, a3⟩ := h.2 z7 z9 c lc
  obtain ⟨c', c4, lc', hN, hP, _⟩ := sc_N k1 z7 z9 hS
  have ec := ls_C_u lc' lc
  subst ec
  refine ⟨fun j hj => ?_, ?_, fun z j hj => ?_⟩
  · rw [el, hc _ (Or.inr (Or.inr ((hN _).mpr ⟨j, hj, rfl⟩)))]; exact a1 j hj
  · rw [el, hc _ (Or.inl ⟨k1, Or.inr (Or.inr (Or.inl ⟨z7, z9, rfl⟩))⟩)]; exact a2
  · rw [el, hi, hc _ (Or.inl ⟨k1, Or.inr (Or.inr (Or.inr ⟨by omega, _, (ls_CM lc').mpr ⟨j, hj, rfl⟩, rfl⟩))⟩)]; exact a3 z j hj
end
/-- a used name's place -/
def xs_P (n : Nat) (V : Nat → Int32) (r : Nat → Int32) (par : Nat → Nat) (sc ho : Nat → Int32) (i : Nat) : Prop := ∃ l h, sc_H n sc l (sc i) ∧ (∀ m, m ∈ l → r m = 3 ∧ par m < i) ∧ ho i = nI h ∧ sc_F V (V i) l h ∧ l.length ≤ i
def lt_P (K : Nat → Nat) (vk vf vs : Nat → Int32) (v e : Nat) : Prop := (K e = 2 → vk v = 2) ∧ (K e ≠ 2 → vk v = 3 ∧ vf v = nI e ∧ vs v = nI (64 + e))
def lt_L (K : Nat → Nat) (V : Nat → Int32) (a : Nat → Nat) (r vk vf vs : Nat → Int32) (m : Nat) : Prop := ∀ i, i < m → (K i = 3 → vk i = 1 ∧ vf i = V i) ∧ (K i = 5 → vk i = 2) ∧ (r i = 2 → K i = 1 → lt_P K vk vf vs i (i + 1)) ∧ (r i = 2 → lt_P K vk vf vs (64 + i) (a i))
theorem sc_Fm {V : Nat → Int32} {x : Int32} : ∀ {l : List Nat} {h : Nat}, sc_F V x l h → ∃ m, m ∈ l ∧ V m = x
  | [], _, h => False.elim h
  | m :: l, _, h => by
    rcases h with ⟨a, _⟩ | ⟨_, h', _, b⟩
    · exact ⟨m, List.mem_cons_self, a⟩
    · obtain ⟨q, hq, e⟩ := sc_Fm b
      exact ⟨q, List.mem_cons_of_mem _ hq, e⟩
section
variable {xdl xtn xpp xvc xcc xfc xoc xag xan xex xen xfl xac xst xsp xmd xrt xcu : Int32} {xtk xtv xaf xro xsc xho xvk xvf xvs xcv xco xff xfp xfe xfb xop : Nat → Int32} {n : Nat}
theorem xs_loop (H : tk_ok xtk n) (A : xb_A (tk_K xtk n) n xaf) {par : Nat → Nat} (W : rw_W (tk_K xtk n) xtv (sk_f (tk_K xtk n) n) n n (xr_c n xro) par) (hC : ∀ j, tk_K xtk n j = 1 → 7 ≤ tk_K xtk n (j + 1) → tk_K xtk n (j + 1) ≤ 9 → xr_c n xro j = 1) {post : Int32 → SX → Prop}
    (h1 : ∀ sc' ho', sc' 0 = -1 → (∀ i, i < n → xr_c n xro i = 1 → tk_K xtk n i = 1 → sc_L (tk_K xtk n) (sk_f (tk_K xtk n) n) sc' i) → (∀ i, i < n → xr_c n xro i = 1 → tk_K xtk n i = 4 → xs_P n xtv (xr_c n xro) par sc' ho' i ∧ sc_B (tk_K xtk n) xtv (sk_f (tk_K xtk n) n) i (xtv i)) → post 1 (xdl, nI n, xpp, xvc, xcc, xfc, xoc, xag, xan, xex, xen, xfl, xac, xst, xsp, xmd, xrt, xcu, xtk, xtv, xaf, xro, sc', ho', xvk, xvf, xvs, xcv, xco, xff, xfp, xfe, xfb, xop))
    (h0 : ∀ sc' ho', (∃ i, i < n ∧ xr_c n xro i = 1 ∧ tk_K xtk n i = 4 ∧ ¬ sc_B (tk_K xtk n) xtv (sk_f (tk_K xtk n) n) i (xtv i)) → post 0 (xdl, nI n, xpp, xvc, xcc, xfc, xoc, xag, xan, xex, xen, xfl, xac, xst, xsp, xmd, xrt, xcu, xtk, xtv, xaf, xro, sc', ho', xvk, xvf, xvs, xcv, xco, xff, xfp, xfe, xfb, xop)) :
    ∀ d m (sc' ho' : Nat → Int32), m + d = n → sc' 0 = -1 → (∀ i, i < m → i < n → xr_c n xro i = 1 → tk_K xtk n i = 1 → sc_L (tk_K xtk n) (sk_f (tk_K xtk n) n) sc' i) → (∀ i, i < m → xr_c n xro i = 1 → tk_K xtk n i = 4 → xs_P n xtv (xr_c n xro) par sc' ho' i ∧ sc_B (tk_K xtk n) xtv (sk_f (tk_K xtk n) n) i (xtv i)) →
      wX_namesAreBound_9 post (d + 1) (nI m) xdl (nI n) xpp xvc xcc xfc xoc xag xan xex xen xfl xac xst xsp xmd xrt xcu xtk xtv xaf xro sc' ho' xvk xvf xvs xcv xco xff xfp xfe xfb xop := by
  have H1 := H.1
  have hB : ∀ i, i < n → tk_K xtk n i ≠ 2 → dp_I (tk_K xtk n) i (sk_f (tk_K xtk n) n i) := fun i hi hk => (A i hi hk).1
  have hn0 : ∀ i, n ≤ i → tk_K xtk n i = 0 := fun i => tk_0
  intro d
  induction d with
  | zero =>
    intro m sc' ho' e s0 s1 s2
    have em : m = n := by omega
    subst em
    exact pk_le m m (fun _ => h1 sc' ho' s0 (fun i hi => s1 i hi hi) s2) (fun z => by omega)
  | succ d ih =>
    intro m sc' ho' e s0 s1 s2
    have hm : m < n := by omega
    have hc : (nI m).toNatClampNeg = m := nI_clamp (by omega)
    refine pk_le n m (fun z => by omega) (fun _ => ⟨tk_in H hm, ?_⟩)
    have skipS : ∀ sc'', (tk_K xtk n m ≠ 4 ∨ xro m ≠ 1) → sc'' 0 = -1 → (∀ i, i < m + 1 → i < n → xr_c n xro i = 1 → tk_K xtk n i = 1 → sc_L (tk_K xtk n) (sk_f (tk_K xtk n) n) sc'' i) → (∀ i, i < m → xr_c n xro i = 1 → tk_K xtk n i = 4 → xs_P n xtv (xr_c n xro) par sc'' ho' i ∧ sc_B (tk_K xtk n) xtv (sk_f (tk_K xtk n) n) i (xtv i)) → wX_namesAreBound_42 post (wX_namesAreBound_9 post (d + 1)) (nI m) xdl (nI n) xpp xvc xcc xfc xoc xag xan xex xen xfl xac xst xsp xmd xrt xcu xtk xtv xaf xro sc'' ho' xvk xvf xvs xcv xco xff xfp xfe xfb xop := by
      intro sc'' hk t0 t1 t2
      have go : wX_namesAreBound_9 post (d + 1) (nI (m + 1)) xdl (nI n) xpp xvc xcc xfc xoc xag xan xex xen xfl xac xst xsp xmd xrt xcu xtk xtv xaf xro sc'' ho' xvk xvf xvs xcv xco xff xfp xfe xfb xop := ih (m + 1) sc'' ho' (by omega) t0 t1 (fun i hi hr hk4 => by
        by_cases z : i = m
        · subst z
          rw [xr_in hm] at hr
          rcases hk with hk | hk
          · exact absurd hk4 hk
          · exact absurd hr hk
        · exact t2 i (by omega) hr hk4)
      refine ⟨tk_in H hm, ?_⟩
      rw [hc]
      by_cases r1 : xro m = 1
      · have k4 : tk_K xtk n m ≠ 4 := by
          rcases hk with hk | hk
          · exact hk
          · exact absurd r1 hk
        have hb := tk_b H hm 4 (A := wpX_findBinding (fun r_12 u => match u with | (xdl, xtn, xpp, xvc, xcc, xfc, xoc, xag, xan, xex, xen, xfl, xac, xst, xsp, xmd, xrt, xcu, xtk, xtv, xaf, xro, xsc, xho, xvk, xvf, xvs, xcv, xco, xff, xfp, xfe, xfb, xop) => (((r_12 = 0 → (post 0 (xdl, xtn, xpp, xvc, xcc, xfc, xoc, xag, xan, xex, xen, xfl, xac, xst, xsp, xmd, xrt, xcu, xtk, xtv, xaf, xro, xsc, xho, xvk, xvf, xvs, xcv, xco, xff, xfp, xfe, xfb, xop))) ∧ (¬ r_12 = 0 → (∀ x1_48 : Int32, x1_48 = nI m + 1 → (wX_namesAreBound_9 post (d + 1) x1_48 xdl xtn xpp xvc xcc xfc xoc xag xan xex xen xfl xac xst xsp xmd xrt xcu xtk xtv xaf xro xsc xho xvk xvf xvs xcv xco xff xfp xfe xfb xop)))))) (xdl, nI n, xpp, xvc, xcc, xfc, xoc, xag, xan, xex, xen, xfl, xac, xst, xsp, xmd, xrt, xcu, xtk, xtv, xaf, xro, sc'', ho', xvk, xvf, xvs, xcv, xco, xff, xfp, xfe, xfb, xop) (nI m)) (B := ∀ x1_11 : Int32, x1_11 = nI m + 1 → wX_namesAreBound_9 post (d + 1) x1_11 xdl (nI n) xpp xvc xcc xfc xoc xag xan xex xen xfl xac xst xsp xmd xrt xcu xtk xtv xaf xro sc'' ho' xvk xvf xvs xcv xco xff xfp xfe xfb xop) (fun z => absurd z k4) (fun _ => nm_r (nI_1 m) go)
        rw [hc] at hb
        exact br_t r1 ⟨tk_in H hm, hb⟩
      · exact br_f r1 (nm_r (nI_1 m) go)
    have upS : ∀ i, (i < m → xr_c n xro i = 1 → tk_K xtk n i = 1 → i < n → sc_L (tk_K xtk n) (sk_f (tk_K xtk n) n) sc' i) := fun i hi hr hk hn' => s1 i hi hn' hr hk
    rw [hc]
    by_cases r1 : xro m = 1
    · have R1 : xr_c n xro m = 1 := (xr_in hm).trans r1
      refine br_t r1 ⟨tk_in H hm, ?_⟩
      have hb := tk_b H hm 1 (A := wpX_scopeForm (fun u => match u with | (xdl, xtn, xpp, xvc, xcc, xfc, xoc, xag, xan, xex, xen, xfl, xac, xst, xsp, xmd, xrt, xcu, xtk, xtv, xaf, xro, xsc, xho, xvk, xvf, xvs, xcv, xco, xff, xfp, xfe, xfb, xop) => (wX_namesAreBound_42 post (wX_namesAreBound_9 post (d + 1)) (nI m) xdl xtn xpp xvc xcc xfc xoc xag xan xex xen xfl xac xst xsp xmd xrt xcu xtk xtv xaf xro xsc xho xvk xvf xvs xcv xco xff xfp xfe xfb xop)) (xdl, nI n, xpp, xvc, xcc, xfc, xoc, xag, xan, xex, xen, xfl, xac, xst, xsp, xmd, xrt, xcu, xtk, xtv, xaf, xro, sc', ho', xvk, xvf, xvs, xcv, xco, xff, xfp, xfe, xfb, xop) (nI m)) (B := wX_namesAreBound_42 post (wX_namesAreBound_9 post (d + 1)) (nI m) xdl (nI n) xpp xvc xcc xfc xoc xag xan xex xen xfl xac xst xsp xmd xrt xcu xtk xtv xaf xro sc' ho' xvk xvf xvs xcv xco xff xfp xfe xfb xop) (fun k1 => ?_) (fun k1 => ?_)
      · rw [hc] at hb; exact hb
      · have hS := (W.2.1 m hm R1).1
        refine xs_form (xtn := nI n) (xsc := sc') (xho := ho') H A hm k1 hS (fun sF f1 f2 => ?_)
        have ag : ∀ q, q < n → xr_c n xro q ≠ 0 → (q ≤ m ∨ par q ≠ m) → sF q = sc' q := by
          intro q hq hr hpq
          have nch : ¬ gr_Ch (tk_K xtk n) (sk_f (tk_K xtk n) n) m q := by
            intro z
            have gi := gr_in (hB m hm (by omega)) hS z
            have pq : par q = m := by
              rcases z with z | z | z
              · exact ((W.2.1 m hm R1).2.1 q z).2
              · exact ((W.2.1 m hm R1).2.2.1 q z).2
              · exact ((W.2.1 m hm R1).2.2.2 q z).2
            rcases hpq with w | w
            · omega
            · exact w pq
          refine f2 q nch (fun z => ?_)
          have kq := (rw_K W hq hr).1
          refine nch (Or.inl ⟨k1, Or.inr (Or.inl ⟨?_, ?_⟩)⟩)
          · rw [← z]; omega
          · rw [z]; rw [z] at kq; exact ls_M_0 (by omega)
        refine skipS sF (Or.inl (by omega)) ?_ (fun i hi hin hr hk => ?_) (fun i hi hr hk => ?_)
        · rw [ag 0 (by omega) (by rw [W.2.2.2.2]; decide) (Or.inl (by omega))]; exact s0
        · by_cases z : i = m
          · subst z; exact f1
          · have hSi := (W.2.1 i hin hr).1
            have hIi := hB i hin (by omega)
            refine sc_Lc hk hSi (ag i hin (by rw [hr]; decide) (Or.inl (by omega))) (fun c hc' => ?_) (s1 i (by omega) hin hr hk)
            have gi := gr_in hIi hSi hc'
            have g2 := gi.2.1.1
            have lim := dp_le hn0 hIi hin
            rcases hc' with w | w | w
            · have q := (W.2.1 i hin hr).2.1 c w
              exact ag c (by omega) (by rw [q.1]; decide) (Or.inr (by rw [q.2]; exact z))
            · have q := (W.2.1 i hin hr).2.2.1 c w
              exact ag c (by omega) (by rw [q.1]; decide) (Or.inr (by rw [q.2]; exact z))
            · have q := (W.2.1 i hin hr).2.2.2 c w
              exact ag c (by omega) (by rw [q.1]; decide) (Or.inr (by rw [q.2]; exact z))
        · obtain ⟨⟨l, h, q1, q2, q3, q4, q5⟩, q6⟩ := s2 i hi hr hk
          refine ⟨⟨l, h, ?_, q2, q3, q4, q5⟩, q6⟩
          rw [ag i (by omega) (by rw [hr]; decide) (Or.inl (by omega))]
          refine sc_Hc (fun x hx => ?_) q1
          have w := q2 x hx
          have xn : x < n := by
            rcases Nat.lt_or_ge x n with y | y
            · exact y
            · rw [xr_out y] at w; exact absurd w.1 (by decide)
          exact ag x xn (by rw [w.1]; decide) (Or.inr (by omega))
      · by_cases k4 : tk_K xtk n m = 4
        · obtain ⟨l, c1, c2, c3, c4⟩ := sc_ch (at' := m) hB hn0 W hC s0 s1 m m (Nat.le_refl _) hm (Nat.le_refl _) R1
          refine ⟨tk_in H hm, ?_⟩
          rw [hc]
          have hb := tk_b H hm 4 (A := wpX_findBinding (fun r_12 u => match u with | (xdl, xtn, xpp, xvc, xcc, xfc, xoc, xag, xan, xex, xen, xfl, xac, xst, xsp, xmd, xrt, xcu, xtk, xtv, xaf, xro, xsc, xho, xvk, xvf, xvs, xcv, xco, xff, xfp, xfe, xfb, xop) => (((r_12 = 0 → (post 0 (xdl, xtn, xpp, xvc, xcc, xfc, xoc, xag, xan, xex, xen, xfl, xac, xst, xsp, xmd, xrt, xcu, xtk, xtv, xaf, xro, xsc, xho, xvk, xvf, xvs, xcv, xco, xff, xfp, xfe, xfb, xop))) ∧ (¬ r_12 = 0 → (∀ x1_48 : Int32, x1_48 = nI m + 1 → (wX_namesAreBound_9 post (d + 1) x1_48 xdl xtn xpp xvc xcc xfc xoc xag xan xex xen xfl xac xst xsp xmd xrt xcu xtk xtv xaf xro xsc xho xvk xvf xvs xcv xco xff xfp xfe xfb xop)))))) (xdl, nI n, xpp, xvc, xcc, xfc, xoc, xag, xan, xex, xen, xfl, xac, xst, xsp, xmd, xrt, xcu, xtk, xtv, xaf, xro, sc', ho', xvk, xvf, xvs, xcv, xco, xff, xfp, xfe, xfb, xop) (nI m)) (B := ∀ x1_11 : Int32, x1_11 = nI m + 1 → wX_namesAreBound_9 post (d + 1) x1_11 xdl (nI n) xpp xvc xcc xfc xoc xag xan xex xen xfl xac xst xsp xmd xrt xcu xtk xtv xaf xro sc' ho' xvk xvf xvs xcv xco xff xfp xfe xfb xop) (fun _ => ?_) (fun z => absurd k4 z)
          · rw [hc] at hb; exact br_t r1 ⟨tk_in H hm, hb⟩
          · refine ⟨tk_in H hm, nm_r (show sc' (nI m).toNatClampNeg = sc' m from by rw [hc]) ⟨l.length + 1, xs_findL (xtn := nI n) (xsc := sc') (xho := ho') H hm l (sc' m) 0 c1 (by omega) (fun h hh => br_f (by decide) (nm_r (nI_1 m) (ih (m + 1) sc' _ (by omega) s0 (fun i hi hin hr hk => ?_) (fun i hi hr hk => ?_)))) (fun w ho2 => br_t rfl (h0 sc' ho2 ⟨m, hm, R1, k4, fun z => ?_⟩))⟩⟩
            · refine s1 i ?_ hin hr hk
              by_cases z : i = m
              · subst z; omega
              · omega
            · by_cases z : i = m
              · subst z
                exact ⟨⟨l, h, c1, c3, by rw [pk_us, Nat.zero_add], hh, c2⟩, (c4 _).mp (sc_Fm hh)⟩
              · obtain ⟨⟨l, h, q1, q2, q3, q4, q5⟩, q6⟩ := s2 i (by omega) hr hk
                exact ⟨⟨l, h, q1, q2, by rw [pk_un z]; exact q3, q4, q5⟩, q6⟩
            · obtain ⟨q, hq, ev⟩ := (c4 _).mpr z
              exact w q hq ev
        · exact skipS sc' (Or.inl k4) s0 (fun i hi hin hr hk => s1 i (by
            by_cases z : i = m
            · subst z; exact absurd hk k1
            · omega) hin hr hk) s2
    · refine br_f r1 (skipS sc' (Or.inr r1) s0 (fun i hi hin hr hk => s1 i (by
        by_cases z : i = m
        · subst z; rw [xr_in hm] at hr; exact absurd hr r1
        · omega) hin hr hk) s2)
end
end
section
/-- a compiled program -/
def cp_P (tk tv : Nat → Int32) (n : Nat) (af ro sc ho vk vf vs : Nat → Int32) : Prop :=
  ∃ par : Nat → Nat, 0 < n ∧ dp_I (tk_K tk n) 0 n ∧ xb_A (tk_K tk n) n af ∧ rw_W (tk_K tk n) tv (sk_f (tk_K tk n) n) n n (xr_c n ro) par ∧
    (∀ j, tk_K tk n j = 1 → 7 ≤ tk_K tk n (j + 1) → tk_K tk n (j + 1) ≤ 9 → xr_c n ro j = 1) ∧ sc 0 = -1 ∧
    (∀ i, i < n → xr_c n ro i = 1 → tk_K tk n i = 1 → sc_L (tk_K tk n) (sk_f (tk_K tk n) n) sc i) ∧
    (∀ i, i < n → xr_c n ro i = 1 → tk_K tk n i = 4 → xs_P n tv (xr_c n ro) par sc ho i ∧ sc_B (tk_K tk n) tv (sk_f (tk_K tk n) n) i (tv i)) ∧
    lt_L (tk_K tk n) tv (sk_f (tk_K tk n) n) (xr_c n ro) vk vf vs n
section
variable {xdl xtn xpp xvc xcc xfc xoc xag xan xex xen xfl xac xst xsp xmd xrt xcu : Int32} {xtk xtv xaf xro xsc xho xvk xvf xvs xcv xco xff xfp xfe xfb xop : Nat → Int32} {n : Nat}
theorem xv_set {v : Nat} (hv : v < 528) {k f s : Int32} {post : SX → Prop} (hp : post (xdl, xtn, xpp, xvc, xcc, xfc, xoc, xag, xan, xex, xen, xfl, xac, xst, xsp, xmd, xrt, xcu, xtk, xtv, xaf, xro, xsc, xho, upd xvk v k, upd xvf v f, upd xvs v s, xcv, xco, xff, xfp, xfe, xfb, xop)) : wpX_setValue post (xdl, xtn, xpp, xvc, xcc, xfc, xoc, xag, xan, xex, xen, xfl, xac, xst, xsp, xmd, xrt, xcu, xtk, xtv, xaf, xro, xsc, xho, xvk, xvf, xvs, xcv, xco, xff, xfp, xfe, xfb, xop) (nI v) k f s := by
  have hi : vp_in (nI v) 528 := vp_in_nI hv (by omega)
  have hc : (nI v).toNatClampNeg = v := nI_clamp (by omega)
  refine ⟨hi, nm_r (by rw [hc]) ⟨hi, nm_r (by rw [hc]) ⟨hi, nm_r (by rw [hc]) hp⟩⟩⟩
theorem xv_list (H : tk_ok xtk n) {v e : Nat} (hv : v < 528) (he : e < n) {post : SX → Prop}
    (hp : ∀ vk' vf' vs', lt_P (tk_K xtk n) vk' vf' vs' v e → (∀ q, q ≠ v → vk' q = xvk q ∧ vf' q = xvf q ∧ vs' q = xvs q) → post (xdl, xtn, xpp, xvc, xcc, xfc, xoc, xag, xan, xex, xen, xfl, xac, xst, xsp, xmd, xrt, xcu, xtk, xtv, xaf, xro, xsc, xho, vk', vf', vs', xcv, xco, xff, xfp, xfe, xfb, xop)) : wpX_placeList post (xdl, xtn, xpp, xvc, xcc, xfc, xoc, xag, xan, xex, xen, xfl, xac, xst, xsp, xmd, xrt, xcu, xtk, xtv, xaf, xro, xsc, xho, xvk, xvf, xvs, xcv, xco, xff, xfp, xfe, xfb, xop) (nI v) (nI e) := by
  refine ⟨tk_in H he, tk_b H he 2 (fun k => ?_) (fun k => ?_)⟩
  · exact xv_set hv (hp _ _ _ ⟨fun _ => pk_us, fun z => absurd k z⟩ (fun q hq => ⟨pk_un hq, pk_un hq, pk_un hq⟩))
  · refine xv_set hv (hp _ _ _ ⟨fun z => absurd z k, fun _ => ⟨pk_us, pk_us, ?_⟩⟩ (fun q hq => ⟨pk_un hq, pk_un hq, pk_un hq⟩))
    rw [pk_us]; exact nI_add 64 e
theorem lt_Pk {K : Nat → Nat} {vk vf vs vk' vf' vs' : Nat → Int32} {v e : Nat} (h : lt_P K vk vf vs v e) (hq : vk' v = vk v ∧ vf' v = vf v ∧ vs' v = vs v) : lt_P K vk' vf' vs' v e :=
  ⟨fun z => hq.1.trans (h.1 z), fun z => ⟨hq.1.trans (h.2 z).1, hq.2.1.trans (h.2 z).2.1, hq.2.2.trans (h.2 z).2.2⟩⟩
theorem lt_Lk {K : Nat → Nat} {V : Nat → Int32} {a : Nat → Nat} {r vk vf vs vk' vf' vs' : Nat → Int32} {m : Nat} (h : lt_L K V a r vk vf vs m) (hq : ∀ i, i < m → (vk' i = vk i ∧ vf' i = vf i ∧ vs' i = vs i) ∧ (vk' (64 + i) = vk (64 + i) ∧ vf' (64 + i) = vf (64 + i) ∧ vs' (64 + i) = vs (64 + i))) : lt_L K V a r vk' vf' vs' m := by
  intro i hi
  obtain ⟨a1, a2, a3, a4⟩ := h i hi
  have q := hq i hi
  exact ⟨fun z => ⟨q.1.1.trans (a1 z).1, q.1.2.1.trans (a1 z).2⟩, fun z => q.1.1.trans (a2 z), fun z z' => lt_Pk (a3 z z') q.1, fun z => lt_Pk (a4 z) q.2⟩
theorem xv_loop (H : tk_ok xtk n) (A : xb_A (tk_K xtk n) n xaf) {par : Nat → Nat} (W : rw_W (tk_K xtk n) xtv (sk_f (tk_K xtk n) n) n n (xr_c n xro) par) {post : SX → Prop}
    (hp : ∀ vk' vf' vs', lt_L (tk_K xtk n) xtv (sk_f (tk_K xtk n) n) (xr_c n xro) vk' vf' vs' n → post (xdl, nI n, xpp, xvc, xcc, xfc, xoc, xag, xan, xex, xen, xfl, xac, xst, xsp, xmd, xrt, xcu, xtk, xtv, xaf, xro, xsc, xho, vk', vf', vs', xcv, xco, xff, xfp, xfe, xfb, xop)) :
    ∀ d m (vk' vf' vs' : Nat → Int32), m + d = n → lt_L (tk_K xtk n) xtv (sk_f (tk_K xtk n) n) (xr_c n xro) vk' vf' vs' m → wX_placeLiterals_2 post (d + 1) (nI m) xdl (nI n) xpp xvc xcc xfc xoc xag xan xex xen xfl xac xst xsp xmd xrt xcu xtk xtv xaf xro xsc xho vk' vf' vs' xcv xco xff xfp xfe xfb xop := by
  have H1 := H.1
  have hB : ∀ i, i < n → tk_K xtk n i ≠ 2 → dp_I (tk_K xtk n) i (sk_f (tk_K xtk n) n i) := fun i hi hk => (A i hi hk).1
  have hn0 : ∀ i, n ≤ i → tk_K xtk n i = 0 := fun i => tk_0
  intro d
  induction d with
  | zero =>
    intro m vk' vf' vs' e L
    have em : m = n := by omega
    subst em
    exact pk_le m m (fun _ => hp vk' vf' vs' L) (fun z => by omega)
  | succ d ih =>
    intro m vk' vf' vs' e L
    have hm : m < n := by omega
    have hc : (nI m).toNatClampNeg = m := nI_clamp (by omega)
    -- a datum ends before the last token
    have dat : xro m = 2 → sk_f (tk_K xtk n) n m < n ∧ (tk_K xtk n m = 3 ∨ tk_K xtk n m = 5 ∨ tk_K xtk n m = 1) := by
      intro r2
      have R2 : xr_c n xro m = 2 := (xr_in hm).trans r2
      constructor
      · rcases W.2.2.2.1 m hm (by rw [R2]; decide) with z | ⟨z1, z2, z3, z4⟩
        · rw [z] at R2; rw [W.2.2.2.2] at R2; exact absurd R2 (by decide)
        · rcases z4 with ⟨a, ⟨b, _⟩ | ⟨_, b⟩ | ⟨b, _⟩⟩ | ⟨a, _, b⟩
          · rw [R2] at b; exact absurd b (by decide)
          · have k1 := b.1
            have hI := hB (par m) (by omega) (by omega)
            have := gr_in hI (W.2.1 (par m) z2 a).1 (Or.inr (Or.inl b))
            have := dp_le hn0 hI (by omega)
            omega
          · rw [R2] at b; exact absurd b (by decide)
          · have k1 := b.1
            have hI := hB (par m) (by omega) (by omega)
            have := ls_Min hI k1 (dp_L_r _) (dp_I_1 hI k1) b.2
            have := dp_le hn0 hI (by omega)
            omega
      · rcases (W.2.2.1 m hm R2).1 with w | w | w
        · exact Or.inl w
        · exact Or.inr (Or.inl w)
        · exact Or.inr (Or.inr w.1)
    have f75 : ∀ vk2 vf2 vs2, lt_L (tk_K xtk n) xtv (sk_f (tk_K xtk n) n) (xr_c n xro) vk2 vf2 vs2 m → (tk_K xtk n m = 3 → vk2 m = 1 ∧ vf2 m = xtv m) → (tk_K xtk n m = 5 → vk2 m = 2) → (xro m = 2 → tk_K xtk n m = 1 → lt_P (tk_K xtk n) vk2 vf2 vs2 m (m + 1)) → wX_placeLiterals_75 post (wX_placeLiterals_2 post (d + 1)) (nI m) xdl (nI n) xpp xvc xcc xfc xoc xag xan xex xen xfl xac xst xsp xmd xrt xcu xtk xtv xaf xro xsc xho vk2 vf2 vs2 xcv xco xff xfp xfe xfb xop := by
      intro vk2 vf2 vs2 L2 b1 b2 b3
      refine ⟨tk_in H hm, ?_⟩
      rw [hc]
      by_cases r2 : xro m = 2
      · have D := dat r2
        have ns : tk_K xtk n m ≠ 2 := by omega
        refine br_t r2 ⟨tk_in H hm, ?_⟩
        rw [(A m hm ns).2, show (64 : Int32) + nI m = nI (64 + m) from nI_add 64 m]
        refine xv_list (xtn := nI n) (xvk := vk2) (xvf := vf2) (xvs := vs2) H (by omega) D.1 (fun vk3 vf3 vs3 p1 p2 => nm_r (nI_1 m) (ih (m + 1) vk3 vf3 vs3 (by omega) (fun i hi => ?_)))
        have same : ∀ q, q ≠ 64 + m → vk3 q = vk2 q ∧ vf3 q = vf2 q ∧ vs3 q = vs2 q := p2
        by_cases z : i = m
        · subst z
          have s := same i (by omega)
          exact ⟨fun y => ⟨s.1.trans (b1 y).1, s.2.1.trans (b1 y).2⟩, fun y => s.1.trans (b2 y), fun _ y => lt_Pk (b3 r2 y) s, fun _ => p1⟩
        · exact lt_Lk L2 (fun j hj => ⟨same j (by omega), same (64 + j) (by omega)⟩) i (by omega)
      · refine br_f r2 (nm_r (nI_1 m) (ih (m + 1) vk2 vf2 vs2 (by omega) (fun i hi => ?_)))
        by_cases z : i = m
        · subst z
          rw [xr_in hm]
          exact ⟨b1, b2, fun y => absurd y r2, fun y => absurd y r2⟩
        · exact L2 i (by omega)
    have keep : ∀ vk2 vf2 vs2, (∀ q, q ≠ m → vk2 q = vk' q ∧ vf2 q = vf' q ∧ vs2 q = vs' q) → lt_L (tk_K xtk n) xtv (sk_f (tk_K xtk n) n) (xr_c n xro) vk2 vf2 vs2 m := fun vk2 vf2 vs2 hq => lt_Lk L (fun j hj => ⟨hq j (by omega), hq (64 + j) (by omega)⟩)
    refine pk_le n m (fun z => by omega) (fun _ => ⟨tk_in H hm, tk_b H hm 3 (fun k3 => ⟨tk_in H hm, ?_⟩) (fun k3 => ⟨tk_in H hm, tk_b H hm 5 (fun k5 => ?_) (fun k5 => ⟨tk_in H hm, ?_⟩)⟩)⟩)
    · rw [hc]
      exact xv_set (xtn := nI n) (xvk := vk') (xvf := vf') (xvs := vs') (by omega) (f75 _ _ _ (keep _ _ _ (fun q hq => ⟨pk_un hq, pk_un hq, pk_un hq⟩)) (fun _ => ⟨pk_us, pk_us⟩) (fun z => by omega) (fun _ z => by omega))
    · exact xv_set (xtn := nI n) (xvk := vk') (xvf := vf') (xvs := vs') (by omega) (f75 _ _ _ (keep _ _ _ (fun q hq => ⟨pk_un hq, pk_un hq, pk_un hq⟩)) (fun z => by omega) (fun _ => pk_us) (fun _ z => by omega))
    · rw [hc]
      by_cases r2 : xro m = 2
      · have D := dat r2
        have k1 : tk_K xtk n m = 1 := by omega
        obtain ⟨c0, lc0, p1, p2, p3⟩ := xl_cnt H A hm k1
        refine br_t r2 ?_
        rw [nI_1]
        exact xv_list (xtn := nI n) (xvk := vk') (xvf := vf') (xvs := vs') H (by omega) (by omega) (fun vk3 vf3 vs3 q1 q2 => f75 _ _ _ (keep _ _ _ q2) (fun z => by omega) (fun z => by omega) (fun _ _ => q1))
      · exact br_f r2 (f75 _ _ _ L (fun z => by omega) (fun z => by omega) (fun z => absurd z r2))
theorem xv_place (H : tk_ok xtk n) (A : xb_A (tk_K xtk n) n xaf) {par : Nat → Nat} (W : rw_W (tk_K xtk n) xtv (sk_f (tk_K xtk n) n) n n (xr_c n xro) par) {post : SX → Prop}
    (hp : ∀ vk' vf' vs', lt_L (tk_K xtk n) xtv (sk_f (tk_K xtk n) n) (xr_c n xro) vk' vf' vs' n → post (xdl, nI n, xpp, xvc, xcc, xfc, xoc, xag, xan, xex, xen, xfl, xac, xst, xsp, xmd, xrt, xcu, xtk, xtv, xaf, xro, xsc, xho, vk', vf', vs', xcv, xco, xff, xfp, xfe, xfb, xop)) : wpX_placeLiterals post (xdl, nI n, xpp, xvc, xcc, xfc, xoc, xag, xan, xex, xen, xfl, xac, xst, xsp, xmd, xrt, xcu, xtk, xtv, xaf, xro, xsc, xho, xvk, xvf, xvs, xcv, xco, xff, xfp, xfe, xfb, xop) :=
  ⟨n + 1, xv_loop H A W hp n 0 xvk xvf xvs (by omega) (fun i hi => by omega)⟩
theorem xs_bound (H : tk_ok xtk n) (A : xb_A (tk_K xtk n) n xaf) {par : Nat → Nat} (W : rw_W (tk_K xtk n) xtv (sk_f (tk_K xtk n) n) n n (xr_c n xro) par) (hC : ∀ j, tk_K xtk n j = 1 → 7 ≤ tk_K xtk n (j + 1) → tk_K xtk n (j + 1) ≤ 9 → xr_c n xro j = 1) {post : Int32 → SX → Prop}
    (h1 : ∀ sc' ho', sc' 0 = -1 → (∀ i, i < n → xr_c n xro i = 1 → tk_K xtk n i = 1 → sc_L (tk_K xtk n) (sk_f (tk_K xtk n) n) sc' i) → (∀ i, i < n → xr_c n xro i = 1 → tk_K xtk n i = 4 → xs_P n xtv (xr_c n xro) par sc' ho' i ∧ sc_B (tk_K xtk n) xtv (sk_f (tk_K xtk n) n) i (xtv i)) → post 1 (xdl, nI n, xpp, xvc, xcc, xfc, xoc, xag, xan, xex, xen, xfl, xac, xst, xsp, xmd, xrt, xcu, xtk, xtv, xaf, xro, sc', ho', xvk, xvf, xvs, xcv, xco, xff, xfp, xfe, xfb, xop))
    (h0 : ∀ sc' ho', (∃ i, i < n ∧ xr_c n xro i = 1 ∧ tk_K xtk n i = 4 ∧ ¬ sc_B (tk_K xtk n) xtv (sk_f (tk_K xtk n) n) i (xtv i)) → post 0 (xdl, nI n, xpp, xvc, xcc, xfc, xoc, xag, xan, xex, xen, xfl, xac, xst, xsp, xmd, xrt, xcu, xtk, xtv, xaf, xro, sc', ho', xvk, xvf, xvs, xcv, xco, xff, xfp, xfe, xfb, xop)) : wpX_namesAreBound post (xdl, nI n, xpp, xvc, xcc, xfc, xoc, xag, xan, xex, xen, xfl, xac, xst, xsp, xmd, xrt, xcu, xtk, xtv, xaf, xro, xsc, xho, xvk, xvf, xvs, xcv, xco, xff, xfp, xfe, xfb, xop) :=
  nm_e ⟨n + 1, xs_loop H A W hC h1 h0 n 0 (upd xsc 0 (-1)) xho (by omega) pk_us (fun i hi => by omega) (fun i hi => by omega)⟩
theorem xc_comp (H : tk_ok xtk n) {post : Int32 → SX → Prop}
    (h1 : ∀ af ro, (∀ k, ¬ (0 < n ∧ sk_f (tk_K xtk n) n 0 = n ∧ gr_X (tk_K xtk n) xtv (sk_f (tk_K xtk n) n) k true 0)) → post 1 (xdl, nI n, 0, xvc, xcc, xfc, xoc, xag, xan, xex, xen, xfl, xac, -1, 0, 0, -1, -1, xtk, xtv, af, ro, xsc, xho, xvk, xvf, xvs, xcv, xco, xff, xfp, xfe, xfb, xop))
    (h2 : ∀ af ro sc ho par, 0 < n → dp_I (tk_K xtk n) 0 n → xb_A (tk_K xtk n) n af → rw_W (tk_K xtk n) xtv (sk_f (tk_K xtk n) n) n n (xr_c n ro) par → (∀ j, tk_K xtk n j = 1 → 7 ≤ tk_K xtk n (j + 1) → tk_K xtk n (j + 1) ≤ 9 → xr_c n ro j = 1) → (∃ i, i < n ∧ xr_c n ro i = 1 ∧ tk_K xtk n i = 4 ∧ ¬ sc_B (tk_K xtk n) xtv (sk_f (tk_K xtk n) n) i (xtv i)) → post 2 (xdl, nI n, 0, xvc, xcc, xfc, xoc, xag, xan, xex, xen, xfl, xac, -1, 0, 0, -1, -1, xtk, xtv, af, ro, sc, ho, xvk, xvf, xvs, xcv, xco, xff, xfp, xfe, xfb, xop))
    (h3 : ∀ af ro sc ho vk vf vs, cp_P xtk xtv n af ro sc ho vk vf vs → post 0 (xdl, nI n, 1, xvc, xcc, xfc, xoc, xag, xan, xex, xen, xfl, xac, -1, 0, 0, -1, -1, xtk, xtv, af, ro, sc, ho, vk, vf, vs, xcv, xco, xff, xfp, xfe, xfb, xop)) :
    wpX_compile post (xdl, nI n, xpp, xvc, xcc, xfc, xoc, xag, xan, xex, xen, xfl, xac, xst, xsp, xmd, xrt, xcu, xtk, xtv, xaf, xro, xsc, xho, xvk, xvf, xvs, xcv, xco, xff, xfp, xfe, xfb, xop) := by
  have H1 := H.1
  have hn0 : ∀ i, n ≤ i → tk_K xtk n i = 0 := fun i => tk_0
  unfold wpX_compile wpX_forgetResult
  dsimp only
  refine xo_parens H (fun af A hK0 => br_f (by decide) ?_) (fun af w => br_t rfl (h1 af xro (fun k z => w ?_)))
  · refine xw_gram (xaf := af) H A hK0 (fun ro par n0 I0 W => br_f (by decide) ?_) (fun ro w => br_t rfl (h1 af ro w))
    have hrn : ∀ c, xr_c n ro c ≠ 0 → c < n := fun c hc => by
      rcases Nat.lt_or_ge c n with z | z
      · exact z
      · exact absurd (xr_out z) hc
    have hC := pm_kc (fun i hi hk => (A i hi hk).1) hn0 hrn (fun c hc => by
      have := (rw_K W (hrn c (by rcases hc with hc | hc <;> rw [hc] <;> decide)) (by rcases hc with hc | hc <;> rw [hc] <;> decide)).1
      omega) W _ [(1, 0, 0)] 0 (Nat.le_refl _) (by omega) (pm_C1.mpr ⟨W.2.2.2.2, sk_I I0⟩) (fun t ht => by omega)
    refine xs_bound (xaf := af) (xro := ro) H A W hC (fun sc ho s0 s1 s2 => br_f (by decide) ?_) (fun sc ho w => br_t rfl (h2 af ro sc ho par n0 I0 A W hC w))
    exact xv_place (xaf := af) (xro := ro) (xsc := sc) (xho := ho) H A W (fun vk vf vs L => h3 af ro sc ho vk vf vs ⟨par, n0, I0, A, W, hC, s0, s1, s2, L⟩)
  · have := gr_XI k true 0 z.2.2
    rw [z.2.1] at this
    exact this
end
end
section
/-! the picture of a run: values, cells, frames of one object, as far as they live -/
def hp_E (nm : Nat → Nat) (cc : Nat) (c s : Int32) : Prop := (c = -1 ∧ s = -1) ∨ ∃ i, i < cc ∧ c = nI i ∧ s = nI (nm i)
def hp_V (K : Nat → Nat) (R sc : Nat → Int32) (n : Nat) (VP : Nat → Prop) (nm : Nat → Nat) (cc : Nat) (vk vf vs : Nat → Int32) (i : Nat) : Prop :=
  vk i = 1 ∨ vk i = 2 ∨ (vk i = 3 ∧ ∃ a b, vf i = nI a ∧ vs i = nI b ∧ VP a ∧ VP b) ∨
  (vk i = 4 ∧ ∃ q, q < n ∧ R q = 1 ∧ K q = 1 ∧ K (q + 1) = 7 ∧ vf i = nI q ∧ hp_E nm cc (vs i) (sc q))
def hp_C (sc : Nat → Int32) (n : Nat) (VP : Nat → Prop) (nm : Nat → Nat) (cc lo : Nat) (cv co : Nat → Int32) (c : Nat) : Prop :=
  nm c < n ∧ hp_E nm cc (co c) (sc (nm c)) ∧ (c < lo → ∃ a, cv c = nI a ∧ VP a)
/-- the literals' places -/
def hp_L (K : Nat → Nat) (R : Nat → Int32) (n i : Nat) : Prop := (i < n ∧ (K i = 3 ∨ K i = 5 ∨ (R i = 2 ∧ K i = 1))) ∨ ∃ j, j < n ∧ R j = 2 ∧ i = 64 + j
def hp_B (K : Nat → Nat) (R sc : Nat → Int32) (n : Nat) (VP : Nat → Prop) (nm : Nat → Nat) (vc cc lo : Nat) (vk vf vs cv co : Nat → Int32) : Prop :=
  (∀ i, VP i → i < vc ∧ hp_V K R sc n VP nm cc vk vf vs i) ∧ (∀ c, c < cc → hp_C sc n VP nm cc lo cv co c) ∧ (∀ i, hp_L K R n i → VP i)
def hb_u (f : Nat → Nat) (k v : Nat) : Nat → Nat := fun i => if i = k then v else f i
theorem hb_us {f : Nat → Nat} {k v : Nat} : hb_u f k v k = v := if_pos rfl
theorem hb_un {f : Nat → Nat} {k v i : Nat} (h : i ≠ k) : hb_u f k v i = f i := if_neg h
section
variable {K : Nat → Nat} {R sc : Nat → Int32} {n : Nat} {VP VP' : Nat → Prop} {nm nm' : Nat → Nat} {vc cc lo vc' cc' : Nat} {vk vf vs cv co vk' vf' vs' cv' co' : Nat → Int32}
theorem hp_Em {c s : Int32} (hc : cc ≤ cc') (hg : ∀ i, i < cc → nm' i = nm i) (h : hp_E nm cc c s) : hp_E nm' cc' c s := by
  rcases h with h | ⟨i, hi, a, b⟩
  · exact Or.inl h
  · exact Or.inr ⟨i, by omega, a, by rw [hg i hi]; exact b⟩
theorem hp_Vm {i : Nat} (hVP : ∀ a, VP a → VP' a) (hc : cc ≤ cc') (hg : ∀ i, i < cc → nm' i = nm i) (hx : vk' i = vk i ∧ vf' i = vf i ∧ vs' i = vs i)
    (h : hp_V K R sc n VP nm cc vk vf vs i) : hp_V K R sc n VP' nm' cc' vk' vf' vs' i := by
  obtain ⟨x1, x2, x3⟩ := hx
  unfold hp_V
  rw [x1, x2, x3]
  rcases h with h | h | ⟨h1, a, b, h3, h4, h5, h6⟩ | ⟨h1, q, h3, h4, h5, h6, h7, h8⟩
  · exact Or.inl h
  · exact Or.inr (Or.inl h)
  · exact Or.inr (Or.inr (Or.inl ⟨h1, a, b, h3, h4, hVP _ h5, hVP _ h6⟩))
  · exact Or.inr (Or.inr (Or.inr ⟨h1, q, h3, h4, h5, h6, h7, hp_Em hc hg h8⟩))
theorem hp_Cm {c : Nat} (hVP : ∀ a, VP a → VP' a) (hc : cc ≤ cc') (hg : ∀ i, i < cc → nm' i = nm i) (hcc : c < cc) (hx : cv' c = cv c ∧ co' c = co c)
    (h : hp_C sc n VP nm cc lo cv co c) : hp_C sc n VP' nm' cc' lo cv' co' c := by
  obtain ⟨h1, h2, h3⟩ := h
  unfold hp_C
  rw [hg c hcc, hx.1, hx.2]
  refine ⟨h1, hp_Em hc hg h2, fun z => ?_⟩
  obtain ⟨a, c1, c2⟩ := h3 z
  exact ⟨a, c1, hVP _ c2⟩
/-- a value is added, no cell -/
theorem hp_add (hv : vc ≤ vc') (hVP : ∀ a, VP a → VP' a) (hx : ∀ i, i < vc → vk' i = vk i ∧ vf' i = vf i ∧ vs' i = vs i) (hcl : ∀ c, c < cc → cv' c = cv c ∧ co' c = co c)
    (hnew : ∀ i, VP' i → VP i ∨ (i < vc' ∧ hp_V K R sc n VP' nm cc vk' vf' vs' i))
    (h : hp_B K R sc n VP nm vc cc lo vk vf vs cv co) : hp_B K R sc n VP' nm vc' cc lo vk' vf' vs' cv' co' := by
  obtain ⟨b1, b2, b3⟩ := h
  refine ⟨fun i hi => ?_, fun c hc => hp_Cm hVP (Nat.le_refl _) (fun _ _ => rfl) hc (hcl c hc) (b2 c hc), fun i hi => hVP _ (b3 i hi)⟩
  rcases hnew i hi with z | z
  · obtain ⟨q1, q2⟩ := b1 i z
    exact ⟨by omega, hp_Vm hVP (Nat.le_refl _) (fun _ _ => rfl) (hx i q1) q2⟩
  · exact z
/-- the innermost cell when j are added to e0 at the place cc -/
def hb_e (e0 : Int32) (cc : Nat) : Nat → Int32
  | 0 => e0
  | j + 1 => nI (cc + j)
/-- the names so far, innermost first -/
def hb_s (s0 : Int32) (t : Nat → Nat) : Nat → Int32
  | 0 => s0
  | j + 1 => nI (t j)
/-- a cell is added, the arrays hold it already; e is its name's token -/
theorem hp_cell {e : Nat} (he : e < n) (hE : hp_E nm cc (co cc) (sc e)) (lo' : Nat) (hlo : (lo' = lo ∧ lo ≤ cc) ∨ (lo' = cc + 1 ∧ lo = cc ∧ ∃ a, cv cc = nI a ∧ VP a))
    (h : hp_B K R sc n VP nm vc cc lo vk vf vs cv co) : hp_B K R sc n VP (hb_u nm cc e) vc (cc + 1) lo' vk vf vs cv co := by
  obtain ⟨b1, b2, b3⟩ := h
  have hg : ∀ i, i < cc → hb_u nm cc e i = nm i := fun i hi => hb_un (by omega)
  refine ⟨fun i hi => ?_, fun c hc => ?_, b3⟩
  · obtain ⟨q1, q2⟩ := b1 i hi
    exact ⟨q1, hp_Vm (fun _ z => z) (by omega) hg ⟨rfl, rfl, rfl⟩ q2⟩
  · by_cases z : c = cc
    · subst z
      unfold hp_C
      rw [hb_us]
      refine ⟨he, hp_Em (by omega) hg hE, fun w => ?_⟩
      rcases hlo with w2 | ⟨_, _, w2⟩
      · omega
      · exact w2
    · have q : hp_C sc n VP (hb_u nm cc e) (cc + 1) lo cv co c := hp_Cm (fun _ z => z) (by omega) hg (by omega) ⟨rfl, rfl⟩ (b2 c (by omega))
      rcases hlo with w | ⟨w1, w2, _⟩
      · rw [w.1]; exact q
      · exact ⟨q.1, q.2.1, fun _ => q.2.2 (by omega)⟩
/-- k cells are added, filled or not -/
theorem hp_cells {c0 s0 : Int32} {t : Nat → Nat} {k : Nat} {fil : Prop} (hE : hp_E nm cc c0 s0) (ht : ∀ j, j < k → t j < n ∧ sc (t j) = hb_s s0 t j)
    (hX : ∀ j, j < k → co (cc + j) = hb_e c0 cc j) (hf : fil → ∀ j, j < k → ∃ a, cv (cc + j) = nI a ∧ VP a)
    (h : hp_B K R sc n VP nm vc cc cc vk vf vs cv co) :
    ∃ nm', (∀ i, i < cc → nm' i = nm i) ∧ hp_E nm' (cc + k) (hb_e c0 cc k) (hb_s s0 t k) ∧
      hp_B K R sc n VP nm' vc (cc + k) cc vk vf vs cv co ∧ (fil → hp_B K R sc n VP nm' vc (cc + k) (cc + k) vk vf vs cv co) := by
  induction k with
  | zero => exact ⟨nm, fun _ _ => rfl, hE, h, fun _ => h⟩
  | succ k ih =>
    obtain ⟨nm', a1, a3, a4, a5⟩ := ih (fun j hj => ht j (by omega)) (fun j hj => hX j (by omega)) (fun z j hj => hf z j (by omega))
    have tk := ht k (by omega)
    have x := hX k (by omega)
    have hEk : hp_E nm' (cc + k) (co (cc + k)) (sc (t k)) := by rw [x, tk.2]; exact a3
    refine ⟨hb_u nm' (cc + k) (t k), fun i hi => ?_, ?_, ?_, fun z => ?_⟩
    · rw [hb_un (by omega)]; exact a1 i hi
    · refine Or.inr ⟨cc + k, by omega, rfl, ?_⟩
      rw [hb_us]; rfl
    · exact hp_cell tk.1 hEk cc (Or.inl ⟨rfl, by omega⟩) a4
    · exact hp_cell tk.1 hEk (cc + k + 1) (Or.inr ⟨rfl, rfl, hf z k (by omega)⟩) (a5 z)
/-- all cells filled -/
theorem hp_fills (B : hp_B K R sc n VP nm vc cc lo vk vf vs cv co) (h1 : ∀ c, c < lo → cv' c = cv c) (h3 : ∀ c, lo ≤ c → c < cc → ∃ a, cv' c = nI a ∧ VP a) :
    hp_B K R sc n VP nm vc cc cc vk vf vs cv' co := by
  obtain ⟨b1, b2, b3⟩ := B
  refine ⟨b1, fun c hc => ?_, b3⟩
  obtain ⟨g1, g2, g3⟩ := b2 c hc
  refine ⟨g1, g2, fun _ => ?_⟩
  rcases Nat.lt_or_ge c lo with z | z
  · obtain ⟨a, e1, v⟩ := g3 z
    exact ⟨a, (h1 c z).trans e1, v⟩
  · exact h3 c z hc
end
end
section
/-! the component's turns -/
def rx_L (post : Int32 → SX → Prop) (f : Nat) (t : Int32) (u : SX) : Prop := match u with | (xdl, xtn, xpp, xvc, xcc, xfc, xoc, xag, xan, xex, xen, xfl, xac, xst, xsp, xmd, xrt, xcu, xtk, xtv, xaf, xro, xsc, xho, xvk, xvf, xvs, xcv, xco, xff, xfp, xfe, xfb, xop) => wX_run_16 post f t xdl xtn xpp xvc xcc xfc xoc xag xan xex xen xfl xac xst xsp xmd xrt xcu xtk xtv xaf xro xsc xho xvk xvf xvs xcv xco xff xfp xfe xfb xop
/-- a walk of h hops -/
def xh_W (co : Nat → Int32) : Nat → Int32 → Nat → Prop
  | 0, e, c => e = nI c
  | h + 1, e, c => ∃ c0, e = nI c0 ∧ c0 < 404 ∧ xh_W co h (co c0) c
def al_op (h : Nat) (x y : Int32) : Int32 := if h = 15 then x + y else if h = 16 then x - y else if h = 17 then x * y else if h = 18 then x / y else if h = 19 then (if x = y then 1 else 0) else (if y ≤ x then 0 else 1)
section
variable {xdl xtn xpp xvc xcc xfc xoc xag xan xex xen xfl xac xst xsp xmd xrt xcu : Int32} {xtk xtv xaf xro xsc xho xvk xvf xvs xcv xco xff xfp xfe xfb xop : Nat → Int32} {n : Nat}
theorem xr_E {post : Int32 → SX → Prop} {f t : Nat} (ht : t < 1600) (h : ∀ Q : SX → Prop, (∀ u', rx_L post f (nI (t + 1)) u' → Q u') → wpX_startExpr Q (xdl, xtn, xpp, xvc, xcc, xfc, xoc, 0, xan, xex, xen, xfl, xac, -1, xsp, xmd, xrt, xcu, xtk, xtv, xaf, xro, xsc, xho, xvk, xvf, xvs, xcv, xco, xff, xfp, xfe, xfb, xop)) : wX_run_16 post (f + 1) (nI t) xdl xtn xpp xvc xcc xfc xoc 0 xan xex xen xfl xac (-1) xsp xmd xrt xcu xtk xtv xaf xro xsc xho xvk xvf xvs xcv xco xff xfp xfe xfb xop := by
  refine pk_le 1600 t (fun z => by omega) (fun _ => br_t rfl (br_t rfl (h _ (fun u' hu => ?_))))
  obtain ⟨xdl, xtn, xpp, xvc, xcc, xfc, xoc, xag, xan, xex, xen, xfl, xac, xst, xsp, xmd, xrt, xcu, xtk, xtv, xaf, xro, xsc, xho, xvk, xvf, xvs, xcv, xco, xff, xfp, xfe, xfb, xop⟩ := u'
  exact nm_r (nI_1 t) hu
theorem xr_R {post : Int32 → SX → Prop} {f t : Nat} (ht : t < 1600) (h : ∀ Q : SX → Prop, (∀ u', rx_L post f (nI (t + 1)) u' → Q u') → wpX_handOverAnswer Q (xdl, xtn, xpp, xvc, xcc, xfc, xoc, 1, xan, xex, xen, xfl, xac, -1, xsp, xmd, xrt, xcu, xtk, xtv, xaf, xro, xsc, xho, xvk, xvf, xvs, xcv, xco, xff, xfp, xfe, xfb, xop)) : wX_run_16 post (f + 1) (nI t) xdl xtn xpp xvc xcc xfc xoc 1 xan xex xen xfl xac (-1) xsp xmd xrt xcu xtk xtv xaf xro xsc xho xvk xvf xvs xcv xco xff xfp xfe xfb xop := by
  refine pk_le 1600 t (fun z => by omega) (fun _ => br_t rfl (br_f (by decide) (h _ (fun u' hu => ?_))))
  obtain ⟨xdl, xtn, xpp, xvc, xcc, xfc, xoc, xag, xan, xex, xen, xfl, xac, xst, xsp, xmd, xrt, xcu, xtk, xtv, xaf, xro, xsc, xho, xvk, xvf, xvs, xcv, xco, xff, xfp, xfe, xfb, xop⟩ := u'
  exact nm_r (nI_1 t) hu
theorem xr_end {post : Int32 → SX → Prop} {f t : Nat} (ht : t < 1600) (hs : ¬ xst = -1) (h : post xst (xdl, xtn, xpp, xvc, xcc, xfc, xoc, xag, xan, xex, xen, xfl, xac, xst, xsp, xmd, xrt, xcu, xtk, xtv, xaf, xro, xsc, xho, xvk, xvf, xvs, xcv, xco, xff, xfp, xfe, xfb, xop)) : wX_run_16 post (f + 1) (nI t) xdl xtn xpp xvc xcc xfc xoc xag xan xex xen xfl xac xst xsp xmd xrt xcu xtk xtv xaf xro xsc xho xvk xvf xvs xcv xco xff xfp xfe xfb xop :=
  pk_le 1600 t (fun z => by omega) (fun _ => br_f hs h)
theorem xr_fuel {Q : SX → Prop} (hs : xsp = xfl) (h : Q (xdl, xtn, xpp, xvc, xcc, xfc, xoc, xag, xan, xex, xen, xfl, xac, 4, xsp, xmd, xrt, xcu, xtk, xtv, xaf, xro, xsc, xho, xvk, xvf, xvs, xcv, xco, xff, xfp, xfe, xfb, xop)) : wpX_startExpr Q (xdl, xtn, xpp, xvc, xcc, xfc, xoc, xag, xan, xex, xen, xfl, xac, xst, xsp, xmd, xrt, xcu, xtk, xtv, xaf, xro, xsc, xho, xvk, xvf, xvs, xcv, xco, xff, xfp, xfe, xfb, xop) := br_t hs h
theorem xr_lit (H : tk_ok xtk n) {q s F : Nat} (hq : q < n) (hk : tk_K xtk n q = 3 ∨ tk_K xtk n q = 5) (hs : s < F) (hF : F ≤ 400) {Q : SX → Prop} (h : Q (xdl, xtn, xpp, xvc, xcc, xfc, xoc, 1, nI q, nI q, xen, nI F, xac, xst, nI (s + 1), xmd, xrt, xcu, xtk, xtv, xaf, xro, xsc, xho, xvk, xvf, xvs, xcv, xco, xff, xfp, xfe, xfb, xop)) : wpX_startExpr Q (xdl, xtn, xpp, xvc, xcc, xfc, xoc, xag, xan, nI q, xen, nI F, xac, xst, nI s, xmd, xrt, xcu, xtk, xtv, xaf, xro, xsc, xho, xvk, xvf, xvs, xcv, xco, xff, xfp, xfe, xfb, xop) := by
  have k20 := tk_20 H q
  refine pk_eq s F (fun z => by omega) (fun _ => nm_r (nI_1 s) ⟨tk_in H hq, nm_r (tk_c H hq) (pk_eq (tk_K xtk n q) 1 (fun z => by omega) (fun _ => pk_eq (tk_K xtk n q) 4 (fun z => by omega) (fun _ => h)))⟩)
theorem xr_bvL {c h : Nat} (hc : c < 404) (hh : h < 2 ^ 20) {post : Int32 → Prop} (hp : post (xcv c)) : ∀ d x e, x + d = h → xh_W xco d e c → wX_boundValue_7 post (nI h) xdl xtn xpp xvc xcc xfc xoc xag xan xex xen xfl xac xst xsp xmd xrt xcu xtk xtv xaf xro xsc xho xvk xvf xvs xcv xco xff xfp xfe xfb xop (d + 1) e (nI x) := by
  intro d
  induction d with
  | zero =>
    intro x e ex w
    have w : e = nI c := w
    subst w
    refine pk_le h x (fun _ => ⟨vp_in_nI hc (by omega), ?_⟩) (fun z => by omega)
    rw [nI_clamp (by omega)]; exact hp
  | succ d ih =>
    intro x e ex w
    obtain ⟨c0, e0, l0, w⟩ := w
    subst e0
    refine pk_le h x (fun z => by omega) (fun _ => ⟨vp_in_nI l0 (by omega), nm_r (show xco (nI c0).toNatClampNeg = xco c0 from by rw [nI_clamp (by omega)]) (nm_r (nI_1 x) (ih (x + 1) (xco c0) (by omega) w))⟩)
theorem xr_bv {c h : Nat} (hc : c < 404) (hh : h < 2 ^ 20) {post : Int32 → Prop} (hp : post (xcv c)) (w : xh_W xco h xen c) : wpX_boundValue post (xdl, xtn, xpp, xvc, xcc, xfc, xoc, xag, xan, xex, xen, xfl, xac, xst, xsp, xmd, xrt, xcu, xtk, xtv, xaf, xro, xsc, xho, xvk, xvf, xvs, xcv, xco, xff, xfp, xfe, xfb, xop) (nI h) :=
  ⟨h + 1, xr_bvL hc hh hp h 0 xen (by omega) w⟩
theorem xr_sym (H : tk_ok xtk n) {q s F c h' : Nat} (hq : q < n) (hk : tk_K xtk n q = 4) (hs : s < F) (hF : F ≤ 400) (hc : c < 404) (hh : h' < 2 ^ 20) (ho : xho q = nI h') (w : xh_W xco h' xen c) {Q : SX → Prop} (h : Q (xdl, xtn, xpp, xvc, xcc, xfc, xoc, 1, xcv c, nI q, xen, nI F, xac, xst, nI (s + 1), xmd, xrt, xcu, xtk, xtv, xaf, xro, xsc, xho, xvk, xvf, xvs, xcv, xco, xff, xfp, xfe, xfb, xop)) : wpX_startExpr Q (xdl, xtn, xpp, xvc, xcc, xfc, xoc, xag, xan, nI q, xen, nI F, xac, xst, nI s, xmd, xrt, xcu, xtk, xtv, xaf, xro, xsc, xho, xvk, xvf, xvs, xcv, xco, xff, xfp, xfe, xfb, xop) := by
  have H1 := H.1
  have k20 := tk_20 H q
  refine pk_eq s F (fun z => by omega) (fun _ => nm_r (nI_1 s) ⟨tk_in H hq, nm_r (tk_c H hq) (pk_eq (tk_K xtk n q) 1 (fun z => by omega) (fun _ => pk_eq (tk_K xtk n q) 4 (fun _ => ⟨tk_in H hq, ?_⟩) (fun z => absurd hk z)))⟩)
  rw [nI_clamp (by omega), ho]
  exact xr_bv hc hh h w
/-- the steps before a form's own -/
theorem xr_form (H : tk_ok xtk n) {q s F : Nat} (hq : q < n) (hk : tk_K xtk n q = 1) (hs : s < F) (hF : F ≤ 400) {Q : SX → Prop} (h : wpX_startForm Q (xdl, xtn, xpp, xvc, xcc, xfc, xoc, xag, xan, nI q, xen, nI F, xac, xst, nI (s + 1), xmd, xrt, xcu, xtk, xtv, xaf, xro, xsc, xho, xvk, xvf, xvs, xcv, xco, xff, xfp, xfe, xfb, xop)) : wpX_startExpr Q (xdl, xtn, xpp, xvc, xcc, xfc, xoc, xag, xan, nI q, xen, nI F, xac, xst, nI s, xmd, xrt, xcu, xtk, xtv, xaf, xro, xsc, xho, xvk, xvf, xvs, xcv, xco, xff, xfp, xfe, xfb, xop) := by
  have k20 := tk_20 H q
  exact pk_eq s F (fun z => by omega) (fun _ => nm_r (nI_1 s) ⟨tk_in H hq, nm_r (tk_c H hq) (pk_eq (tk_K xtk n q) 1 (fun _ => h) (fun z => absurd hk z))⟩)
theorem xr_new {k f s : Int32} {vc : Nat} (hv : vc < 528) {Q : Int32 → SX → Prop} (h : Q (nI vc) (xdl, xtn, xpp, nI (vc + 1), xcc, xfc, xoc, xag, xan, xex, xen, xfl, xac, xst, xsp, xmd, xrt, xcu, xtk, xtv, xaf, xro, xsc, xho, upd xvk vc k, upd xvf vc f, upd xvs vc s, xcv, xco, xff, xfp, xfe, xfb, xop)) : wpX_newValue Q (xdl, xtn, xpp, nI vc, xcc, xfc, xoc, xag, xan, xex, xen, xfl, xac, xst, xsp, xmd, xrt, xcu, xtk, xtv, xaf, xro, xsc, xho, xvk, xvf, xvs, xcv, xco, xff, xfp, xfe, xfb, xop) k f s := by
  unfold wpX_newValue
  dsimp only
  exact xv_set hv (nm_r (nI_1 vc) h)
theorem xr_quote (H : tk_ok xtk n) {q : Nat} (hq : q + 1 < n) (hk : tk_K xtk n (q + 1) = 6) {Q : SX → Prop} (h : Q (xdl, xtn, xpp, xvc, xcc, xfc, xoc, 1, nI (q + 2), nI q, xen, xfl, xac, xst, xsp, xmd, xrt, xcu, xtk, xtv, xaf, xro, xsc, xho, xvk, xvf, xvs, xcv, xco, xff, xfp, xfe, xfb, xop)) : wpX_startForm Q (xdl, xtn, xpp, xvc, xcc, xfc, xoc, xag, xan, nI q, xen, xfl, xac, xst, xsp, xmd, xrt, xcu, xtk, xtv, xaf, xro, xsc, xho, xvk, xvf, xvs, xcv, xco, xff, xfp, xfe, xfb, xop) := by
  refine ⟨by rw [nI_1]; exact tk_in H hq, nm_r (show xtk (nI q + 1).toNatClampNeg = nI (tk_K xtk n (q + 1)) from by rw [nI_1]; exact tk_c H hq) ?_⟩
  rw [hk]
  exact pk_lt 6 6 (fun z => by omega) (fun _ => pk_lt 9 6 (fun z => by omega) (fun _ => pk_eq 6 6 (fun _ => nm_r (ni_2 q) h) (fun z => absurd rfl z)))
theorem xr_lam (H : tk_ok xtk n) {q vc : Nat} (hq : q + 1 < n) (hk : tk_K xtk n (q + 1) = 7) (hv : vc < 528) {Q : SX → Prop} (h : Q (xdl, xtn, xpp, nI (vc + 1), xcc, xfc, xoc, 1, nI vc, nI q, xen, xfl, xac, xst, xsp, xmd, xrt, xcu, xtk, xtv, xaf, xro, xsc, xho, upd xvk vc 4, upd xvf vc (nI q), upd xvs vc xen, xcv, xco, xff, xfp, xfe, xfb, xop)) : wpX_startForm Q (xdl, xtn, xpp, nI vc, xcc, xfc, xoc, xag, xan, nI q, xen, xfl, xac, xst, xsp, xmd, xrt, xcu, xtk, xtv, xaf, xro, xsc, xho, xvk, xvf, xvs, xcv, xco, xff, xfp, xfe, xfb, xop) := by
  refine ⟨by rw [nI_1]; exact tk_in H hq, nm_r (show xtk (nI q + 1).toNatClampNeg = nI (tk_K xtk n (q + 1)) from by rw [nI_1]; exact tk_c H hq) ?_⟩
  rw [hk]
  exact pk_lt 7 6 (fun z => by omega) (fun _ => pk_lt 9 7 (fun z => by omega) (fun _ => pk_eq 7 6 (fun z => by omega) (fun _ => pk_eq 7 7 (fun _ => xr_new hv h) (fun z => absurd rfl z))))
/-- a form's first part -/
def xp_1 (K a : Nat → Nat) (n q p : Nat) : Prop := ((K (q + 1) = 8 ∨ K (q + 1) = 9) ∧ p = q + 5) ∨ (10 ≤ K (q + 1) ∧ p = q + 2) ∨ (K (q + 1) < 6 ∧ K (q + 1) ≠ 2 ∧ a (q + 1) < n ∧ ((K (a (q + 1)) = 2 ∧ p = q + 1) ∨ (K (a (q + 1)) ≠ 2 ∧ p = a (q + 1))))
theorem xr_first (H : tk_ok xtk n) (A : xb_A (tk_K xtk n) n xaf) {q p : Nat} (hq : q + 1 < n) (hp : xp_1 (tk_K xtk n) (sk_f (tk_K xtk n) n) n q p) {post : Int32 → Prop} (h : post (nI p)) : wpX_firstPart post (xdl, xtn, xpp, xvc, xcc, xfc, xoc, xag, xan, xex, xen, xfl, xac, xst, xsp, xmd, xrt, xcu, xtk, xtv, xaf, xro, xsc, xho, xvk, xvf, xvs, xcv, xco, xff, xfp, xfe, xfb, xop) (nI q) := by
  have H1 := H.1
  have k20 := tk_20 H (q + 1)
  refine ⟨by rw [nI_1]; exact tk_in H hq, nm_r (show xtk (nI q + 1).toNatClampNeg = nI (tk_K xtk n (q + 1)) from by rw [nI_1]; exact tk_c H hq) ?_⟩
  rcases hp with ⟨k, e⟩ | ⟨k, e⟩ | ⟨k, k2, l, e⟩
  · subst e
    rw [ni_5]
    exact pk_eq (tk_K xtk n (q + 1)) 8 (fun _ => h) (fun z => pk_eq (tk_K xtk n (q + 1)) 9 (fun _ => h) (fun z2 => by omega))
  · subst e
    rw [ni_2]
    exact pk_eq (tk_K xtk n (q + 1)) 8 (fun z => by omega) (fun z => pk_eq (tk_K xtk n (q + 1)) 9 (fun z => by omega) (fun z2 => pk_lt (tk_K xtk n (q + 1)) 6 (fun z => by omega) (fun _ => h)))
  · refine pk_eq (tk_K xtk n (q + 1)) 8 (fun z => by omega) (fun z => pk_eq (tk_K xtk n (q + 1)) 9 (fun z => by omega) (fun z2 => pk_lt (tk_K xtk n (q + 1)) 6 (fun _ => ?_) (fun z => by omega)))
    rw [nI_1]
    refine ⟨tk_in H hq, nm_r (show xaf (nI (q + 1)).toNatClampNeg = nI (sk_f (tk_K xtk n) n (q + 1)) from by rw [nI_clamp (by omega)]; exact (A _ hq k2).2) ⟨tk_in H l, tk_b H l 2 (fun z => ?_) (fun z => ?_)⟩⟩
    · rcases e with e | e
      · rw [e.2] at h; exact h
      · exact absurd z e.1
    · rcases e with e | e
      · exact absurd e.1 z
      · rw [e.2] at h; exact h
theorem xr_opn (H : tk_ok xtk n) (A : xb_A (tk_K xtk n) n xaf) {q p fc : Nat} (hq : q + 1 < n) (hp : xp_1 (tk_K xtk n) (sk_f (tk_K xtk n) n) n q p) (hf : fc < 400) {Q : SX → Prop} (h : Q (xdl, xtn, xpp, xvc, xcc, nI (fc + 1), xoc, xag, xan, nI p, xen, xfl, xac, xst, xsp, xmd, xrt, xcu, xtk, xtv, xaf, xro, xsc, xho, xvk, xvf, xvs, xcv, xco, upd xff fc (nI q), upd xfp fc (nI p), upd xfe fc xen, upd xfb fc xoc, xop)) : wpX_openFrame Q (xdl, xtn, xpp, xvc, xcc, nI fc, xoc, xag, xan, nI q, xen, xfl, xac, xst, xsp, xmd, xrt, xcu, xtk, xtv, xaf, xro, xsc, xho, xvk, xvf, xvs, xcv, xco, xff, xfp, xfe, xfb, xop) := by
  have hi : vp_in (nI fc) 400 := vp_in_nI hf (by omega)
  have hc : (nI fc).toNatClampNeg = fc := nI_clamp (by omega)
  unfold wpX_openFrame
  dsimp only
  refine xr_first H A hq hp ⟨hi, nm_r (by rw [hc]) ⟨hi, nm_r (by rw [hc]) ⟨hi, nm_r (by rw [hc]) ⟨hi, nm_r (by rw [hc]) (nm_r (nI_1 fc) h)⟩⟩⟩⟩
theorem xr_open (H : tk_ok xtk n) (A : xb_A (tk_K xtk n) n xaf) {q p fc : Nat} (hq : q + 1 < n) (hp : xp_1 (tk_K xtk n) (sk_f (tk_K xtk n) n) n q p) (h9 : tk_K xtk n (q + 1) ≠ 9) (hf : fc < 400) {Q : SX → Prop} (h : Q (xdl, xtn, xpp, xvc, xcc, nI (fc + 1), xoc, xag, xan, nI p, xen, xfl, xac, xst, xsp, xmd, xrt, xcu, xtk, xtv, xaf, xro, xsc, xho, xvk, xvf, xvs, xcv, xco, upd xff fc (nI q), upd xfp fc (nI p), upd xfe fc xen, upd xfb fc xoc, xop)) : wpX_startForm Q (xdl, xtn, xpp, xvc, xcc, nI fc, xoc, xag, xan, nI q, xen, xfl, xac, xst, xsp, xmd, xrt, xcu, xtk, xtv, xaf, xro, xsc, xho, xvk, xvf, xvs, xcv, xco, xff, xfp, xfe, xfb, xop) := by
  have k20 := tk_20 H (q + 1)
  have O : wpX_openFrame Q (xdl, xtn, xpp, xvc, xcc, nI fc, xoc, xag, xan, nI q, xen, xfl, xac, xst, xsp, xmd, xrt, xcu, xtk, xtv, xaf, xro, xsc, xho, xvk, xvf, xvs, xcv, xco, xff, xfp, xfe, xfb, xop) := xr_opn H A hq hp hf h
  have k67 : tk_K xtk n (q + 1) ≠ 6 ∧ tk_K xtk n (q + 1) ≠ 7 := by
    rcases hp with ⟨k, _⟩ | ⟨k, _⟩ | ⟨k, _⟩ <;> omega
  refine ⟨by rw [nI_1]; exact tk_in H hq, nm_r (show xtk (nI q + 1).toNatClampNeg = nI (tk_K xtk n (q + 1)) from by rw [nI_1]; exact tk_c H hq) ?_⟩
  exact pk_lt (tk_K xtk n (q + 1)) 6 (fun _ => O) (fun z => pk_lt 9 (tk_K xtk n (q + 1)) (fun _ => O) (fun z2 => pk_eq (tk_K xtk n (q + 1)) 6 (fun z => absurd z k67.1) (fun _ => pk_eq (tk_K xtk n (q + 1)) 7 (fun z => absurd z k67.2) (fun _ => pk_eq (tk_K xtk n (q + 1)) 8 (fun _ => O) (fun z8 => pk_eq (tk_K xtk n (q + 1)) 9 (fun z => absurd z h9) (fun _ => trivial))))))
/-- cells: k of them from cc on -/
def xc_v (cv val : Nat → Int32) (cc : Nat) : Nat → Nat → Int32
  | 0 => cv
  | j + 1 => upd (xc_v cv val cc j) (cc + j) (val j)
theorem xc_vs {cv val : Nat → Int32} {cc : Nat} : ∀ {j i : Nat}, i < j → xc_v cv val cc j (cc + i) = val i
  | 0, _, h => by omega
  | j + 1, i, h => by
    by_cases z : i = j
    · subst z; exact pk_us
    · exact (pk_un (by omega)).trans (xc_vs (by omega))
theorem xc_vn {cv val : Nat → Int32} {cc i : Nat} (h : i < cc) : ∀ {j : Nat}, xc_v cv val cc j i = cv i
  | 0 => rfl
  | j + 1 => (pk_un (by omega)).trans (xc_vn h)
def xc_S (cv co : Nat → Int32) (val : Nat → Int32) (e0 : Int32) (cc j : Nat) (cv' co' : Nat → Int32) : Prop := cv' = xc_v cv val cc j ∧ co' = xc_v co (hb_e e0 cc) cc j
theorem xc_up {cv co val : Nat → Int32} {e0 x : Int32} {cc j : Nat} {cv' co' : Nat → Int32} (h : xc_S cv co val e0 cc j cv' co') (hx : x = val j) : xc_S cv co val e0 cc (j + 1) (upd cv' (cc + j) x) (upd co' (cc + j) (hb_e e0 cc j)) := by
  rw [h.1, h.2, hx]
  exact ⟨rfl, rfl⟩
theorem xc_add {cc : Nat} {v : Int32} (hc : cc < 404) {Q : SX → Prop} (h : Q (xdl, xtn, xpp, xvc, nI (cc + 1), xfc, xoc, xag, xan, xex, nI cc, xfl, xac, xst, xsp, xmd, xrt, xcu, xtk, xtv, xaf, xro, xsc, xho, xvk, xvf, xvs, upd xcv cc v, upd xco cc xen, xff, xfp, xfe, xfb, xop)) : wpX_addCell Q (xdl, xtn, xpp, xvc, nI cc, xfc, xoc, xag, xan, xex, xen, xfl, xac, xst, xsp, xmd, xrt, xcu, xtk, xtv, xaf, xro, xsc, xho, xvk, xvf, xvs, xcv, xco, xff, xfp, xfe, xfb, xop) v := by
  have hi : vp_in (nI cc) 404 := vp_in_nI hc (by omega)
  have hcl : (nI cc).toNatClampNeg = cc := nI_clamp (by omega)
  exact ⟨hi, nm_r (by rw [hcl]) ⟨hi, nm_r (by rw [hcl]) (nm_r (nI_1 cc) h)⟩⟩
theorem xc_cellsL {cc b k : Nat} (hc : cc + k ≤ 404) (hb : b + k ≤ 400) {Q : SX → Prop} (h : ∀ cv' co', xc_S xcv xco (fun i => xop (b + i)) xen cc k cv' co' → Q (xdl, xtn, xpp, xvc, nI (cc + k), xfc, xoc, xag, xan, xex, hb_e xen cc k, xfl, xac, xst, xsp, xmd, xrt, xcu, xtk, xtv, xaf, xro, xsc, xho, xvk, xvf, xvs, cv', co', xff, xfp, xfe, xfb, xop)) :
    ∀ d j (cv' co' : Nat → Int32), j + d = k → xc_S xcv xco (fun i => xop (b + i)) xen cc j cv' co' → wX_addCells_2 Q (nI b) (nI k) (d + 1) (nI j) xdl xtn xpp xvc (nI (cc + j)) xfc xoc xag xan xex (hb_e xen cc j) xfl xac xst xsp xmd xrt xcu xtk xtv xaf xro xsc xho xvk xvf xvs cv' co' xff xfp xfe xfb xop := by
  intro d
  induction d with
  | zero =>
    intro j cv' co' e S
    have ej : j = k := by omega
    subst ej
    exact pk_le j j (fun _ => h cv' co' S) (fun z => by omega)
  | succ d ih =>
    intro j cv' co' e S
    refine pk_le k j (fun z => by omega) (fun _ => ?_)
    rw [nI_add, nI_clamp (by omega)]
    refine ⟨vp_in_nI (by omega) (by omega), xc_add (xcv := cv') (xco := co') (by omega) (nm_r (nI_1 j) ?_)⟩
    exact ih (j + 1) _ _ (by omega) (xc_up S rfl)
theorem xc_cells {cc b k : Nat} (hc : cc + k ≤ 404) (hb : b + k ≤ 400) {Q : SX → Prop} (h : ∀ cv' co', xc_S xcv xco (fun i => xop (b + i)) xen cc k cv' co' → Q (xdl, xtn, xpp, xvc, nI (cc + k), xfc, xoc, xag, xan, xex, hb_e xen cc k, xfl, xac, xst, xsp, xmd, xrt, xcu, xtk, xtv, xaf, xro, xsc, xho, xvk, xvf, xvs, cv', co', xff, xfp, xfe, xfb, xop)) : wpX_addCells Q (xdl, xtn, xpp, xvc, nI cc, xfc, xoc, xag, xan, xex, xen, xfl, xac, xst, xsp, xmd, xrt, xcu, xtk, xtv, xaf, xro, xsc, xho, xvk, xvf, xvs, xcv, xco, xff, xfp, xfe, xfb, xop) (nI b) (nI k) :=
  ⟨k + 1, xc_cellsL hc hb h k 0 xcv xco (by omega) ⟨rfl, rfl⟩⟩
theorem xc_emptyL {cc k : Nat} (hc : cc + k ≤ 404) {Q : SX → Prop} (h : ∀ cv' co', xc_S xcv xco (fun _ => -1) xen cc k cv' co' → Q (xdl, xtn, xpp, xvc, nI (cc + k), xfc, xoc, xag, xan, xex, hb_e xen cc k, xfl, xac, xst, xsp, xmd, xrt, xcu, xtk, xtv, xaf, xro, xsc, xho, xvk, xvf, xvs, cv', co', xff, xfp, xfe, xfb, xop)) :
    ∀ d j (cv' co' : Nat → Int32), j + d = k → xc_S xcv xco (fun _ => -1) xen cc j cv' co' → wX_addEmptyCells_10 Q (nI k) (d + 1) (nI j) xdl xtn xpp xvc (nI (cc + j)) xfc xoc xag xan xex (hb_e xen cc j) xfl xac xst xsp xmd xrt xcu xtk xtv xaf xro xsc xho xvk xvf xvs cv' co' xff xfp xfe xfb xop := by
  intro d
  induction d with
  | zero =>
    intro j cv' co' e S
    have ej : j = k := by omega
    subst ej
    exact pk_le j j (fun _ => h cv' co' S) (fun z => by omega)
  | succ d ih =>
    intro j cv' co' e S
    refine pk_le k j (fun z => by omega) (fun _ => xc_add (xcv := cv') (xco := co') (by omega) (nm_r (nI_1 j) ?_))
    exact ih (j + 1) _ _ (by omega) (xc_up S rfl)
theorem xc_empty (H : tk_ok xtk n) (A : xb_A (tk_K xtk n) n xaf) {cc k q : Nat} (hc : cc + k ≤ 404) (lc : ls_C (tk_K xtk n) (sk_f (tk_K xtk n) n) (q + 3) k) {Q : SX → Prop} (h : ∀ cv' co', xc_S xcv xco (fun _ => -1) xen cc k cv' co' → Q (xdl, xtn, xpp, xvc, nI (cc + k), xfc, xoc, xag, xan, xex, hb_e xen cc k, xfl, xac, xst, xsp, xmd, xrt, xcu, xtk, xtv, xaf, xro, xsc, xho, xvk, xvf, xvs, cv', co', xff, xfp, xfe, xfb, xop)) : wpX_addEmptyCells Q (xdl, xtn, xpp, xvc, nI cc, xfc, xoc, xag, xan, xex, xen, xfl, xac, xst, xsp, xmd, xrt, xcu, xtk, xtv, xaf, xro, xsc, xho, xvk, xvf, xvs, xcv, xco, xff, xfp, xfe, xfb, xop) (nI q) := by
  unfold wpX_addEmptyCells
  dsimp only
  rw [ni_2]
  exact xi_items (i := q + 2) H A lc ⟨k + 1, xc_emptyL hc h k 0 xcv xco (by omega) ⟨rfl, rfl⟩⟩
theorem xr_letrec (H : tk_ok xtk n) (A : xb_A (tk_K xtk n) n xaf) {q fc cc k : Nat} (hq : q + 1 < n) (h9 : tk_K xtk n (q + 1) = 9) (hf : fc < 400) (hc : cc + k ≤ 404) (lc : ls_C (tk_K xtk n) (sk_f (tk_K xtk n) n) (q + 3) k) {Q : SX → Prop} (h : ∀ cv' co', xc_S xcv xco (fun _ => -1) xen cc k cv' co' → Q (xdl, xtn, xpp, xvc, nI (cc + k), nI (fc + 1), xoc, xag, xan, nI (q + 5), hb_e xen cc k, xfl, xac, xst, xsp, xmd, xrt, xcu, xtk, xtv, xaf, xro, xsc, xho, xvk, xvf, xvs, cv', co', upd xff fc (nI q), upd xfp fc (nI (q + 5)), upd xfe fc (hb_e xen cc k), upd xfb fc xoc, xop)) : wpX_startForm Q (xdl, xtn, xpp, xvc, nI cc, nI fc, xoc, xag, xan, nI q, xen, xfl, xac, xst, xsp, xmd, xrt, xcu, xtk, xtv, xaf, xro, xsc, xho, xvk, xvf, xvs, xcv, xco, xff, xfp, xfe, xfb, xop) := by
  refine ⟨by rw [nI_1]; exact tk_in H hq, nm_r (show xtk (nI q + 1).toNatClampNeg = nI (tk_K xtk n (q + 1)) from by rw [nI_1]; exact tk_c H hq) ?_⟩
  rw [h9]
  refine pk_lt 9 6 (fun z => by omega) (fun z => pk_lt 9 9 (fun z => by omega) (fun z2 => pk_eq 9 6 (fun z => by omega) (fun _ => pk_eq 9 7 (fun z => by omega) (fun _ => pk_eq 9 8 (fun z => by omega) (fun z8 => pk_eq 9 9 (fun _ => ?_) (fun z => absurd rfl z))))))
  refine xc_empty H A hc lc (fun cv' co' S => ?_)
  exact xr_opn (xcv := cv') (xco := co') (xen := hb_e xen cc k) H A hq (Or.inl ⟨Or.inr h9, rfl⟩) hf (h cv' co' S)
end
end
section
/-- the part behind a part -/
def xp_A (K a : Nat → Nat) (n q p : Nat) (r : Int32) : Prop := p < n ∧ K p ≠ 2 ∧
  ((K (q + 1) = 10 ∧ r = -1) ∨ (K (q + 1) < 6 ∧ p = q + 1 ∧ r = -1) ∨
   ((K (q + 1) = 8 ∨ K (q + 1) = 9) ∧ p ≠ q + 1 ∧ a p + 1 < n ∧ ((K (a p + 1) = 2 ∧ r = -1) ∨ (K (a p + 1) ≠ 2 ∧ r = nI (a p + 3)))) ∨
   ((K (q + 1) < 6 ∨ 10 < K (q + 1)) ∧ p ≠ q + 1 ∧ a p < n ∧ ((K (a p) ≠ 2 ∧ r = nI (a p)) ∨ (K (a p) = 2 ∧ K (q + 1) < 6 ∧ r = nI (q + 1)) ∨ (K (a p) = 2 ∧ 6 ≤ K (q + 1) ∧ r = -1))))
section
variable {xdl xtn xpp xvc xcc xfc xoc xag xan xex xen xfl xac xst xsp xmd xrt xcu : Int32} {xtk xtv xaf xro xsc xho xvk xvf xvs xcv xco xff xfp xfe xfb xop : Nat → Int32} {n : Nat}
theorem xr_pa (H : tk_ok xtk n) (A : xb_A (tk_K xtk n) n xaf) {q p : Nat} {r : Int32} (hq : q + 1 < n) (hA : xp_A (tk_K xtk n) (sk_f (tk_K xtk n) n) n q p r) {post : Int32 → Prop} (h : post r) : wpX_partAfter post (xdl, xtn, xpp, xvc, xcc, xfc, xoc, xag, xan, xex, xen, xfl, xac, xst, xsp, xmd, xrt, xcu, xtk, xtv, xaf, xro, xsc, xho, xvk, xvf, xvs, xcv, xco, xff, xfp, xfe, xfb, xop) (nI q) (nI p) := by
  have H1 := H.1
  have k20 := tk_20 H (q + 1)
  obtain ⟨hp, kp, hA⟩ := hA
  refine ⟨by rw [nI_1]; exact tk_in H hq, nm_r (show xtk (nI q + 1).toNatClampNeg = nI (tk_K xtk n (q + 1)) from by rw [nI_1]; exact tk_c H hq) ⟨tk_in H hp, nm_r (show xaf (nI p).toNatClampNeg = nI (sk_f (tk_K xtk n) n p) from by rw [nI_clamp (by omega)]; exact (A p hp kp).2) ?_⟩⟩
  rw [nI_1 q]
  have f44 : ∀ (l : sk_f (tk_K xtk n) n p + 1 < n), ((tk_K xtk n (sk_f (tk_K xtk n) n p + 1) = 2 ∧ r = -1) ∨ (tk_K xtk n (sk_f (tk_K xtk n) n p + 1) ≠ 2 ∧ r = nI (sk_f (tk_K xtk n) n p + 3))) → wX_partAfter_44 post (nI (sk_f (tk_K xtk n) n p)) xdl xtn xpp xvc xcc xfc xoc xag xan xex xen xfl xac xst xsp xmd xrt xcu xtk xtv xaf xro xsc xho xvk xvf xvs xcv xco xff xfp xfe xfb xop := by
    intro l e
    unfold wX_partAfter_44
    rw [nI_1, ni_3]
    refine ⟨tk_in H l, tk_b H l 2 (fun z => ?_) (fun z => ?_)⟩
    · rcases e with e | e
      · rw [e.2] at h; exact h
      · exact absurd z e.1
    · rcases e with e | e
      · exact absurd e.1 z
      · rw [e.2] at h; exact h
  refine pk_eq (tk_K xtk n (q + 1)) 10 (fun k10 => ?_) (fun k10 => pk_eq p (q + 1) (fun ep => ?_) (fun ep => pk_eq (tk_K xtk n (q + 1)) 8 (fun k8 => ?_) (fun k8 => pk_eq (tk_K xtk n (q + 1)) 9 (fun k9 => ?_) (fun k9 => ?_))))
  · rcases hA with ⟨_, e⟩ | ⟨z, _⟩ | ⟨z, _⟩ | ⟨z, _⟩
    · rw [e] at h; exact h
    · omega
    · omega
    · omega
  · rcases hA with ⟨z, e⟩ | ⟨_, _, e⟩ | ⟨_, z, _⟩ | ⟨_, z, _⟩
    · omega
    · rw [e] at h; exact h
    · exact absurd ep z
    · exact absurd ep z
  · rcases hA with ⟨z, e⟩ | ⟨_, z, e⟩ | ⟨_, _, l, e⟩ | ⟨z, _⟩
    · omega
    · exact absurd z ep
    · exact f44 l e
    · omega
  · rcases hA with ⟨z, e⟩ | ⟨_, z, e⟩ | ⟨_, _, l, e⟩ | ⟨z, _⟩
    · omega
    · exact absurd z ep
    · exact f44 l e
    · omega
  · rcases hA with ⟨z, e⟩ | ⟨_, z, e⟩ | ⟨z, _⟩ | ⟨_, _, l, e⟩
    · omega
    · exact absurd z ep
    · omega
    · refine ⟨tk_in H l, tk_b H l 2 (fun z => pk_lt (tk_K xtk n (q + 1)) 6 (fun k6 => ?_) (fun k6 => ?_)) (fun z => ?_)⟩
      · rcases e with ⟨y, _⟩ | ⟨_, _, e⟩ | ⟨_, y, _⟩
        · exact absurd z y
        · rw [e] at h; exact h
        · omega
      · rcases e with ⟨y, _⟩ | ⟨_, y, _⟩ | ⟨_, _, e⟩
        · exact absurd z y
        · omega
        · rw [e] at h; exact h
      · rcases e with ⟨_, e⟩ | ⟨y, _⟩ | ⟨y, _⟩
        · rw [e] at h; exact h
        · exact absurd y z
        · exact absurd y z
theorem xr_fin {Q : SX → Prop} (h : Q (xdl, xtn, xpp, xvc, xcc, nI 0, xoc, xag, xan, xex, xen, xfl, xac, 0, xsp, xmd, xan, xan, xtk, xtv, xaf, xro, xsc, xho, xvk, xvf, xvs, xcv, xco, xff, xfp, xfe, xfb, xop)) : wpX_handOverAnswer Q (xdl, xtn, xpp, xvc, xcc, nI 0, xoc, xag, xan, xex, xen, xfl, xac, xst, xsp, xmd, xrt, xcu, xtk, xtv, xaf, xro, xsc, xho, xvk, xvf, xvs, xcv, xco, xff, xfp, xfe, xfb, xop) := br_t rfl h
theorem xr_ret {x : Nat} (hx : x < 400) (hp : xfp x = -1) {Q : SX → Prop} (h : Q (xdl, xtn, xpp, xvc, xcc, nI x, xoc, xag, xan, xex, xen, xfl, xac - 1, xst, xsp, xmd, xrt, xcu, xtk, xtv, xaf, xro, xsc, xho, xvk, xvf, xvs, xcv, xco, xff, xfp, xfe, xfb, xop)) : wpX_handOverAnswer Q (xdl, xtn, xpp, xvc, xcc, nI (x + 1), xoc, xag, xan, xex, xen, xfl, xac, xst, xsp, xmd, xrt, xcu, xtk, xtv, xaf, xro, xsc, xho, xvk, xvf, xvs, xcv, xco, xff, xfp, xfe, xfb, xop) := by
  have hc : (nI x).toNatClampNeg = x := nI_clamp (by omega)
  refine pk_eq (x + 1) 0 (fun z => by omega) (fun _ => nm_r (nI_pred x) ⟨vp_in_nI hx (by omega), br_t (by rw [hc]; exact hp) (nm_e (nm_r (nI_pred x) h))⟩)
theorem xr_more (H : tk_ok xtk n) (A : xb_A (tk_K xtk n) n xaf) {x oc q p p' : Nat} (hx : x < 400) (ho : oc < 400) (hq : q + 1 < n) (hff : xff x = nI q) (hfp : xfp x = nI p) (hp' : p' < 2 ^ 20) (hA : xp_A (tk_K xtk n) (sk_f (tk_K xtk n) n) n q p (nI p')) {Q : SX → Prop} (h : Q (xdl, xtn, xpp, xvc, xcc, nI (x + 1), nI (oc + 1), 0, xan, nI p', xfe x, xfl, xac, xst, xsp, xmd, xrt, xcu, xtk, xtv, xaf, xro, xsc, xho, xvk, xvf, xvs, xcv, xco, xff, upd xfp x (nI p'), xfe, xfb, upd xop oc xan)) : wpX_handOverAnswer Q (xdl, xtn, xpp, xvc, xcc, nI (x + 1), nI oc, xag, xan, xex, xen, xfl, xac, xst, xsp, xmd, xrt, xcu, xtk, xtv, xaf, xro, xsc, xho, xvk, xvf, xvs, xcv, xco, xff, xfp, xfe, xfb, xop) := by
  have H1 := H.1
  have hpn := hA.1
  have hc : (nI x).toNatClampNeg = x := nI_clamp (by omega)
  have hco : (nI oc).toNatClampNeg = oc := nI_clamp (by omega)
  have hi : vp_in (nI x) 400 := vp_in_nI hx (by omega)
  refine pk_eq (x + 1) 0 (fun z => by omega) (fun _ => nm_r (nI_pred x) ⟨hi, br_f (by rw [hc, hfp]; exact ni_nm1 (by omega)) ⟨vp_in_nI ho (by omega), nm_e (nm_r (nI_1 oc) ⟨hi, hi, ?_⟩)⟩⟩)
  rw [hc, hff, hfp, hco]
  exact xr_pa H A hq hA ⟨hi, nm_e (br_f (ni_nm1 (by omega)) ⟨hi, h⟩)⟩
theorem xr_last (H : tk_ok xtk n) (A : xb_A (tk_K xtk n) n xaf) {x oc q p : Nat} (hx : x < 400) (ho : oc < 400) (hq : q + 1 < n) (hff : xff x = nI q) (hfp : xfp x = nI p) (hA : xp_A (tk_K xtk n) (sk_f (tk_K xtk n) n) n q p (-1)) {Q : SX → Prop} (h : wpX_finishForm Q (xdl, xtn, xpp, xvc, xcc, nI (x + 1), nI (oc + 1), xag, xan, xex, xen, xfl, xac, xst, xsp, xmd, xrt, xcu, xtk, xtv, xaf, xro, xsc, xho, xvk, xvf, xvs, xcv, xco, xff, upd xfp x (-1), xfe, xfb, upd xop oc xan) (nI x)) : wpX_handOverAnswer Q (xdl, xtn, xpp, xvc, xcc, nI (x + 1), nI oc, xag, xan, xex, xen, xfl, xac, xst, xsp, xmd, xrt, xcu, xtk, xtv, xaf, xro, xsc, xho, xvk, xvf, xvs, xcv, xco, xff, xfp, xfe, xfb, xop) := by
  have H1 := H.1
  have hpn := hA.1
  have hc : (nI x).toNatClampNeg = x := nI_clamp (by omega)
  have hco : (nI oc).toNatClampNeg = oc := nI_clamp (by omega)
  have hi : vp_in (nI x) 400 := vp_in_nI hx (by omega)
  refine pk_eq (x + 1) 0 (fun z => by omega) (fun _ => nm_r (nI_pred x) ⟨hi, br_f (by rw [hc, hfp]; exact ni_nm1 (by omega)) ⟨vp_in_nI ho (by omega), nm_e (nm_r (nI_1 oc) ⟨hi, hi, ?_⟩)⟩⟩)
  rw [hc, hff, hfp, hco]
  exact xr_pa H A hq hA ⟨hi, nm_e (br_t rfl h)⟩
theorem xh_body (H : tk_ok xtk n) (A : xb_A (tk_K xtk n) n xaf) {q : Nat} (h2 : q + 2 < n) (k2 : tk_K xtk n (q + 2) ≠ 2) {Q : SX → Prop} (h : Q (xdl, xtn, xpp, xvc, xcc, xfc, xoc, 0, xan, nI (sk_f (tk_K xtk n) n (q + 2)), xen, xfl, xac, xst, xsp, xmd, xrt, xcu, xtk, xtv, xaf, xro, xsc, xho, xvk, xvf, xvs, xcv, xco, xff, xfp, xfe, xfb, xop)) : wpX_evaluateBody Q (xdl, xtn, xpp, xvc, xcc, xfc, xoc, xag, xan, xex, xen, xfl, xac, xst, xsp, xmd, xrt, xcu, xtk, xtv, xaf, xro, xsc, xho, xvk, xvf, xvs, xcv, xco, xff, xfp, xfe, xfb, xop) (nI q) := by
  unfold wpX_evaluateBody
  dsimp only
  exact xs_body H A h2 k2 h
theorem xF_if (H : tk_ok xtk n) (A : xb_A (tk_K xtk n) n xaf) {x b q a : Nat} (hx : x < 400) (hb : b < 400) (ha : a < 528) (hff : xff x = nI q) (hfb : xfb x = nI b) (h10 : tk_K xtk n (q + 1) = 10) (h2 : q + 2 < n) (k2 : tk_K xtk n (q + 2) ≠ 2) (h3 : sk_f (tk_K xtk n) n (q + 2) < n) (k3 : tk_K xtk n (sk_f (tk_K xtk n) n (q + 2)) ≠ 2) (hop : xop b = nI a) {Q : SX → Prop}
    (h6 : xvk a ≠ 1 → Q (xdl, xtn, xpp, xvc, xcc, nI x, nI b, xag, xan, xex, xfe x, xfl, xac, 6, xsp, xmd, xrt, xcu, xtk, xtv, xaf, xro, xsc, xho, xvk, xvf, xvs, xcv, xco, xff, xfp, xfe, xfb, xop)) (h1 : xvk a = 1 → ∀ t, (xvf a = 0 → t = sk_f (tk_K xtk n) n (sk_f (tk_K xtk n) n (q + 2))) → (xvf a ≠ 0 → t = sk_f (tk_K xtk n) n (q + 2)) → Q (xdl, xtn, xpp, xvc, xcc, nI x, nI b, 0, xan, nI t, xfe x, xfl, xac, xst, xsp, xmd, xrt, xcu, xtk, xtv, xaf, xro, xsc, xho, xvk, xvf, xvs, xcv, xco, xff, xfp, xfe, xfb, xop)) : wpX_finishForm Q (xdl, xtn, xpp, xvc, xcc, nI (x + 1), nI (b + 1), xag, xan, xex, xen, xfl, xac, xst, xsp, xmd, xrt, xcu, xtk, xtv, xaf, xro, xsc, xho, xvk, xvf, xvs, xcv, xco, xff, xfp, xfe, xfb, xop) (nI x) := by
  have H1 := H.1
  have hc : (nI x).toNatClampNeg = x := nI_clamp (by omega)
  have hcb : (nI b).toNatClampNeg = b := nI_clamp (by omega)
  have hca : (nI a).toNatClampNeg = a := nI_clamp (by omega)
  have hi : vp_in (nI x) 400 := vp_in_nI hx (by omega)
  have hia : vp_in (nI a) 528 := vp_in_nI ha (by omega)
  refine ⟨hi, nm_r (show xff (nI x).toNatClampNeg = nI q from by rw [hc]; exact hff) ⟨hi, nm_r (show xfb (nI x).toNatClampNeg = nI b from by rw [hc]; exact hfb) (nm_e ⟨by rw [nI_1]; exact tk_in H (by omega), nm_r (show xtk (nI q + 1).toNatClampNeg = nI 10 from by rw [nI_1, tk_c H (by omega), h10]) ?_⟩)⟩⟩
  refine pk_le 6 10 (fun _ => nm_r (nI_pred x) ⟨hi, nm_r (show xfe (nI x).toNatClampNeg = xfe x from by rw [hc]) ?_⟩) (fun z => by omega)
  refine pk_lt 10 8 (fun z => by omega) (fun _ => pk_lt 14 10 (fun z => by omega) (fun _ => pk_eq 10 8 (fun z => by omega) (fun _ => pk_eq 10 9 (fun z => by omega) (fun _ => pk_eq 10 10 (fun _ => ⟨vp_in_nI hb (by omega), ?_⟩) (fun z => absurd rfl z)))))
  rw [hcb, hop]
  unfold wpX_chooseBranch
  dsimp only
  rw [ni_2]
  refine ⟨tk_in H h2, nm_r (show xaf (nI (q + 2)).toNatClampNeg = nI (sk_f (tk_K xtk n) n (q + 2)) from by rw [nI_clamp (by omega)]; exact (A _ h2 k2).2) ⟨hia, ?_⟩⟩
  rw [hca]
  by_cases v1 : xvk a = 1
  · refine br_t v1 ⟨hia, ?_⟩
    by_cases v0 : xvf a = 0
    · refine br_t v0 ⟨tk_in H h3, ?_⟩
      rw [nI_clamp (by omega), (A _ h3 k3).2]
      exact h1 v1 _ (fun _ => rfl) (fun z => absurd v0 z)
    · exact br_f v0 (h1 v1 _ (fun z => absurd z v0) (fun _ => rfl))
  · exact br_f v1 (h6 v1)
theorem xF_let (H : tk_ok xtk n) (A : xb_A (tk_K xtk n) n xaf) {x b q k cc : Nat} (hx : x < 400) (hb : b + k ≤ 400) (hcc : cc + k ≤ 404) (hff : xff x = nI q) (hfb : xfb x = nI b) (h8 : tk_K xtk n (q + 1) = 8) (h2 : q + 2 < n) (k2 : tk_K xtk n (q + 2) ≠ 2) {Q : SX → Prop}
    (h : ∀ cv' co', xc_S xcv xco (fun i => xop (b + i)) (xfe x) cc k cv' co' → Q (xdl, xtn, xpp, xvc, nI (cc + k), nI x, nI b, 0, xan, nI (sk_f (tk_K xtk n) n (q + 2)), hb_e (xfe x) cc k, xfl, xac, xst, xsp, xmd, xrt, xcu, xtk, xtv, xaf, xro, xsc, xho, xvk, xvf, xvs, cv', co', xff, xfp, xfe, xfb, xop)) : wpX_finishForm Q (xdl, xtn, xpp, xvc, nI cc, nI (x + 1), nI (b + k), xag, xan, xex, xen, xfl, xac, xst, xsp, xmd, xrt, xcu, xtk, xtv, xaf, xro, xsc, xho, xvk, xvf, xvs, xcv, xco, xff, xfp, xfe, xfb, xop) (nI x) := by
  have H1 := H.1
  have hc : (nI x).toNatClampNeg = x := nI_clamp (by omega)
  have hi : vp_in (nI x) 400 := vp_in_nI hx (by omega)
  refine ⟨hi, nm_r (show xff (nI x).toNatClampNeg = nI q from by rw [hc]; exact hff) ⟨hi, nm_r (show xfb (nI x).toNatClampNeg = nI b from by rw [hc]; exact hfb) (nm_r (show nI (b + k) - nI b = nI k from by rw [pk_sub (by omega), show b + k - b = k from by omega]) ⟨by rw [nI_1]; exact tk_in H (by omega), nm_r (show xtk (nI q + 1).toNatClampNeg = nI 8 from by rw [nI_1, tk_c H (by omega), h8]) ?_⟩)⟩⟩
  refine pk_le 6 8 (fun _ => nm_r (nI_pred x) ⟨hi, nm_r (show xfe (nI x).toNatClampNeg = xfe x from by rw [hc]) ?_⟩) (fun z => by omega)
  refine pk_lt 8 8 (fun z => by omega) (fun _ => pk_lt 14 8 (fun z => by omega) (fun _ => pk_eq 8 8 (fun _ => ?_) (fun z => absurd rfl z)))
  exact xc_cells (xen := xfe x) hcc hb (fun cv' co' S => xh_body (xcv := cv') (xco := co') H A h2 k2 (h cv' co' S))
theorem xF_fillL {b c0 k : Nat} {e0 : Int32} (hb : b + k ≤ 400) (hc : c0 + k ≤ 404) (hco : ∀ i, i < k → xco (c0 + i) = hb_e e0 c0 i) {Q : SX → Prop} (h : ∀ cv', (∀ i, i < k → cv' (c0 + i) = xop (b + i)) → (∀ c, (∀ i, i < k → c ≠ c0 + i) → cv' c = xcv c) → Q (xdl, xtn, xpp, xvc, xcc, xfc, xoc, xag, xan, xex, xen, xfl, xac, xst, xsp, xmd, xrt, xcu, xtk, xtv, xaf, xro, xsc, xho, xvk, xvf, xvs, cv', xco, xff, xfp, xfe, xfb, xop)) :
    ∀ j (cv' : Nat → Int32), j ≤ k → (∀ i, j ≤ i → i < k → cv' (c0 + i) = xop (b + i)) → (∀ c, (∀ i, j ≤ i → i < k → c ≠ c0 + i) → cv' c = xcv c) → wX_fillCells_10 Q (nI b) xdl xtn xpp xvc xcc xfc xoc xag xan xex xen xfl xac xst xsp xmd xrt xcu (j + 1) (hb_e e0 c0 j) (nI j - 1) xtk xtv xaf xro xsc xho xvk xvf xvs cv' xco xff xfp xfe xfb xop := by
  intro j
  induction j with
  | zero =>
    intro cv' hj h1 h2
    exact br_t (show (nI 0 - 1 : Int32) < 0 from by decide) (h cv' (fun i hi => h1 i (by omega) hi) (fun c hc' => h2 c (fun i _ hi => hc' i hi)))
  | succ j ih =>
    intro cv' hj h1 h2
    rw [nI_pred j]
    refine br_f (nI_pos (by omega)) ?_
    rw [nI_add, nI_clamp (n := b + j) (by omega)]
    have hi : vp_in (nI (c0 + j)) 404 := vp_in_nI (by omega) (by omega)
    have hcl : (nI (c0 + j)).toNatClampNeg = c0 + j := nI_clamp (by omega)
    refine ⟨vp_in_nI (by omega) (by omega), hi, fun cv5 e5 => ⟨hi, nm_r (show xco (nI (c0 + j)).toNatClampNeg = hb_e e0 c0 j from by rw [hcl]; exact hco j (by omega)) (nm_r (show nI j + -1 = nI j - 1 from (Int32.sub_eq_add_neg (nI j) 1).symm) ?_)⟩⟩
    have e5' : cv5 = upd cv' (c0 + j) (xop (b + j)) := by rw [e5]; exact congrArg (fun z => upd cv' z (xop (b + j))) hcl
    refine ih cv5 (by omega) (fun i i1 i2 => ?_) (fun c hc' => ?_)
    · rw [e5']
      by_cases z : i = j
      · subst z; exact pk_us
      · rw [pk_un (by omega)]; exact h1 i (by omega) i2
    · rw [e5', pk_un (hc' j (Nat.le_refl _) (by omega))]
      exact h2 c (fun i i1 i2 => hc' i (by omega) i2)
theorem xF_letrec (H : tk_ok xtk n) (A : xb_A (tk_K xtk n) n xaf) {x b q k c0 : Nat} {e0 : Int32} (hx : x < 400) (hb : b + k ≤ 400) (hcc : c0 + k ≤ 404) (hff : xff x = nI q) (hfb : xfb x = nI b) (hfe : xfe x = hb_e e0 c0 k) (hco : ∀ i, i < k → xco (c0 + i) = hb_e e0 c0 i) (h9 : tk_K xtk n (q + 1) = 9) (h2 : q + 2 < n) (k2 : tk_K xtk n (q + 2) ≠ 2) {Q : SX → Prop}
    (h : ∀ cv', (∀ i, i < k → cv' (c0 + i) = xop (b + i)) → (∀ c, (∀ i, i < k → c ≠ c0 + i) → cv' c = xcv c) → Q (xdl, xtn, xpp, xvc, xcc, nI x, nI b, 0, xan, nI (sk_f (tk_K xtk n) n (q + 2)), hb_e e0 c0 k, xfl, xac, xst, xsp, xmd, xrt, xcu, xtk, xtv, xaf, xro, xsc, xho, xvk, xvf, xvs, cv', xco, xff, xfp, xfe, xfb, xop)) : wpX_finishForm Q (xdl, xtn, xpp, xvc, xcc, nI (x + 1), nI (b + k), xag, xan, xex, xen, xfl, xac, xst, xsp, xmd, xrt, xcu, xtk, xtv, xaf, xro, xsc, xho, xvk, xvf, xvs, xcv, xco, xff, xfp, xfe, xfb, xop) (nI x) := by
  have H1 := H.1
  have hc : (nI x).toNatClampNeg = x := nI_clamp (by omega)
  have hi : vp_in (nI x) 400 := vp_in_nI hx (by omega)
  refine ⟨hi, nm_r (show xff (nI x).toNatClampNeg = nI q from by rw [hc]; exact hff) ⟨hi, nm_r (show xfb (nI x).toNatClampNeg = nI b from by rw [hc]; exact hfb) (nm_r (show nI (b + k) - nI b = nI k from by rw [pk_sub (by omega), show b + k - b = k from by omega]) ⟨by rw [nI_1]; exact tk_in H (by omega), nm_r (show xtk (nI q + 1).toNatClampNeg = nI 9 from by rw [nI_1, tk_c H (by omega), h9]) ?_⟩)⟩⟩
  refine pk_le 6 9 (fun _ => nm_r (nI_pred x) ⟨hi, nm_r (show xfe (nI x).toNatClampNeg = hb_e e0 c0 k from by rw [hc]; exact hfe) ?_⟩) (fun z => by omega)
  refine pk_lt 9 8 (fun z => by omega) (fun _ => pk_lt 14 9 (fun z => by omega) (fun _ => pk_eq 9 8 (fun z => by omega) (fun _ => pk_eq 9 9 (fun _ => nm_e ⟨k + 1, ?_⟩) (fun z => absurd rfl z))))
  exact xF_fillL hb hcc hco (fun cv' s1 s2 => xh_body (xcv := cv') H A h2 k2 (h cv' s1 s2)) k xcv (Nat.le_refl _) (fun i i1 i2 => by omega) (fun c _ => rfl)
end
end
section
section
variable {xdl xtn xpp xvc xcc xfc xoc xag xan xex xen xfl xac xst xsp xmd xrt xcu : Int32} {xtk xtv xaf xro xsc xho xvk xvf xvs xcv xco xff xfp xfe xfb xop : Nat → Int32} {n : Nat}
theorem xF_part (H : tk_ok xtk n) {x b q a h' : Nat} (hx : x < 400) (hb : b < 400) (ha : a < 528) (hff : xff x = nI q) (hfb : xfb x = nI b) (hk : tk_K xtk n (q + 1) = h') (hh : h' = 12 ∨ h' = 13) (h2 : q + 1 < n) (hop : xop b = nI a) {Q : SX → Prop}
    (h6 : xvk a ≠ 3 → Q (xdl, xtn, xpp, xvc, xcc, nI x, nI b, xag, xan, xex, xfe x, xfl, xac, 6, xsp, xmd, xrt, xcu, xtk, xtv, xaf, xro, xsc, xho, xvk, xvf, xvs, xcv, xco, xff, xfp, xfe, xfb, xop)) (h1 : xvk a = 3 → Q (xdl, xtn, xpp, xvc, xcc, nI x, nI b, xag, if h' = 12 then xvf a else xvs a, xex, xfe x, xfl, xac, xst, xsp, xmd, xrt, xcu, xtk, xtv, xaf, xro, xsc, xho, xvk, xvf, xvs, xcv, xco, xff, xfp, xfe, xfb, xop)) : wpX_finishForm Q (xdl, xtn, xpp, xvc, xcc, nI (x + 1), nI (b + 1), xag, xan, xex, xen, xfl, xac, xst, xsp, xmd, xrt, xcu, xtk, xtv, xaf, xro, xsc, xho, xvk, xvf, xvs, xcv, xco, xff, xfp, xfe, xfb, xop) (nI x) := by
  have H1 := H.1
  have hc : (nI x).toNatClampNeg = x := nI_clamp (by omega)
  have hcb : (nI b).toNatClampNeg = b := nI_clamp (by omega)
  have hca : (nI a).toNatClampNeg = a := nI_clamp (by omega)
  have hi : vp_in (nI x) 400 := vp_in_nI hx (by omega)
  have hia : vp_in (nI a) 528 := vp_in_nI ha (by omega)
  have f164 : wX_finishForm_164 Q (nI b) (nI h') xdl xtn xpp xvc xcc (nI x) (nI b) xag xan xex (xfe x) xfl xac xst xsp xmd xrt xcu xtk xtv xaf xro xsc xho xvk xvf xvs xcv xco xff xfp xfe xfb xop := by
    refine ⟨vp_in_nI hb (by omega), ?_⟩
    rw [hcb, hop]
    refine ⟨hia, ?_⟩
    rw [hca]
    by_cases v3 : xvk a = 3
    · refine br_t v3 (pk_eq h' 12 (fun z => ⟨hia, nm_e ?_⟩) (fun z => ⟨hia, nm_e ?_⟩))
      · have := h1 v3; rw [if_pos z] at this; exact this
      · have := h1 v3; rw [if_neg z] at this; exact this
    · exact br_f v3 (h6 v3)
  refine ⟨hi, nm_r (show xff (nI x).toNatClampNeg = nI q from by rw [hc]; exact hff) ⟨hi, nm_r (show xfb (nI x).toNatClampNeg = nI b from by rw [hc]; exact hfb) (nm_e ⟨by rw [nI_1]; exact tk_in H (by omega), nm_r (show xtk (nI q + 1).toNatClampNeg = nI h' from by rw [nI_1, tk_c H (by omega), hk]) ?_⟩)⟩⟩
  refine pk_le 6 h' (fun _ => nm_r (nI_pred x) ⟨hi, nm_r (show xfe (nI x).toNatClampNeg = xfe x from by rw [hc]) ?_⟩) (fun z => by omega)
  exact pk_lt h' 8 (fun z => by omega) (fun _ => pk_lt 14 h' (fun z => by omega) (fun _ => pk_eq h' 8 (fun z => by omega) (fun _ => pk_eq h' 9 (fun z => by omega) (fun _ => pk_eq h' 10 (fun z => by omega) (fun _ => pk_eq h' 11 (fun z => by omega) (fun _ => pk_eq h' 12 (fun _ => f164) (fun _ => pk_eq h' 13 (fun _ => f164) (fun _ => by omega))))))))
theorem xF_null (H : tk_ok xtk n) {x b q a vc : Nat} (hx : x < 400) (hb : b < 400) (ha : a < 528) (hv : vc < 528) (hff : xff x = nI q) (hfb : xfb x = nI b) (hk : tk_K xtk n (q + 1) = 14) (h2 : q + 1 < n) (hop : xop b = nI a) {Q : SX → Prop}
    (h : Q (xdl, xtn, xpp, nI (vc + 1), xcc, nI x, nI b, xag, nI vc, xex, xfe x, xfl, xac, xst, xsp, xmd, xrt, xcu, xtk, xtv, xaf, xro, xsc, xho, upd xvk vc 1, upd xvf vc (if xvk a = 2 then 1 else 0), upd xvs vc 0, xcv, xco, xff, xfp, xfe, xfb, xop)) : wpX_finishForm Q (xdl, xtn, xpp, nI vc, xcc, nI (x + 1), nI (b + 1), xag, xan, xex, xen, xfl, xac, xst, xsp, xmd, xrt, xcu, xtk, xtv, xaf, xro, xsc, xho, xvk, xvf, xvs, xcv, xco, xff, xfp, xfe, xfb, xop) (nI x) := by
  have H1 := H.1
  have hc : (nI x).toNatClampNeg = x := nI_clamp (by omega)
  have hcb : (nI b).toNatClampNeg = b := nI_clamp (by omega)
  have hca : (nI a).toNatClampNeg = a := nI_clamp (by omega)
  have hi : vp_in (nI x) 400 := vp_in_nI hx (by omega)
  have hia : vp_in (nI a) 528 := vp_in_nI ha (by omega)
  refine ⟨hi, nm_r (show xff (nI x).toNatClampNeg = nI q from by rw [hc]; exact hff) ⟨hi, nm_r (show xfb (nI x).toNatClampNeg = nI b from by rw [hc]; exact hfb) (nm_e ⟨by rw [nI_1]; exact tk_in H (by omega), nm_r (show xtk (nI q + 1).toNatClampNeg = nI 14 from by rw [nI_1, tk_c H (by omega), hk]) ?_⟩)⟩⟩
  refine pk_le 6 14 (fun _ => nm_r (nI_pred x) ⟨hi, nm_r (show xfe (nI x).toNatClampNeg = xfe x from by rw [hc]) ?_⟩) (fun z => by omega)
  refine pk_lt 14 8 (fun z => by omega) (fun _ => pk_lt 14 14 (fun z => by omega) (fun _ => pk_eq 14 8 (fun z => by omega) (fun _ => pk_eq 14 9 (fun z => by omega) (fun _ => pk_eq 14 10 (fun z => by omega) (fun _ => pk_eq 14 11 (fun z => by omega) (fun _ => pk_eq 14 12 (fun z => by omega) (fun _ => pk_eq 14 13 (fun z => by omega) (fun _ => pk_eq 14 14 (fun _ => ⟨vp_in_nI hb (by omega), ?_⟩) (fun z => absurd rfl z)))))))))
  rw [hcb, hop, hca]
  refine ⟨hia, ?_⟩
  by_cases v2 : xvk a = 2
  · rw [if_pos v2] at h
    exact br_t v2 (xr_new hv h)
  · rw [if_neg v2] at h
    exact br_f v2 (xr_new hv h)
theorem xF_cons (H : tk_ok xtk n) {x b q vc : Nat} (hx : x < 400) (hb : b + 1 < 400) (hv : vc < 528) (hff : xff x = nI q) (hfb : xfb x = nI b) (hk : tk_K xtk n (q + 1) = 11) (h2 : q + 1 < n) {Q : SX → Prop}
    (h : Q (xdl, xtn, xpp, nI (vc + 1), xcc, nI x, nI b, xag, nI vc, xex, xfe x, xfl, xac, xst, xsp, xmd, xrt, xcu, xtk, xtv, xaf, xro, xsc, xho, upd xvk vc 3, upd xvf vc (xop b), upd xvs vc (xop (b + 1)), xcv, xco, xff, xfp, xfe, xfb, xop)) : wpX_finishForm Q (xdl, xtn, xpp, nI vc, xcc, nI (x + 1), nI (b + 2), xag, xan, xex, xen, xfl, xac, xst, xsp, xmd, xrt, xcu, xtk, xtv, xaf, xro, xsc, xho, xvk, xvf, xvs, xcv, xco, xff, xfp, xfe, xfb, xop) (nI x) := by
  have H1 := H.1
  have hc : (nI x).toNatClampNeg = x := nI_clamp (by omega)
  have hcb : (nI b).toNatClampNeg = b := nI_clamp (by omega)
  have hi : vp_in (nI x) 400 := vp_in_nI hx (by omega)
  refine ⟨hi, nm_r (show xff (nI x).toNatClampNeg = nI q from by rw [hc]; exact hff) ⟨hi, nm_r (show xfb (nI x).toNatClampNeg = nI b from by rw [hc]; exact hfb) (nm_e ⟨by rw [nI_1]; exact tk_in H (by omega), nm_r (show xtk (nI q + 1).toNatClampNeg = nI 11 from by rw [nI_1, tk_c H (by omega), hk]) ?_⟩)⟩⟩
  refine pk_le 6 11 (fun _ => nm_r (nI_pred x) ⟨hi, nm_r (show xfe (nI x).toNatClampNeg = xfe x from by rw [hc]) ?_⟩) (fun z => by omega)
  refine pk_lt 11 8 (fun z => by omega) (fun _ => pk_lt 14 11 (fun z => by omega) (fun _ => pk_eq 11 8 (fun z => by omega) (fun _ => pk_eq 11 9 (fun z => by omega) (fun _ => pk_eq 11 10 (fun z => by omega) (fun _ => pk_eq 11 11 (fun _ => ⟨vp_in_nI (by omega) (by omega), ?_⟩) (fun z => absurd rfl z))))))
  rw [nI_1 b, hcb, nI_clamp (n := b + 1) (by omega)]
  exact ⟨vp_in_nI (by omega) (by omega), xr_new hv h⟩
theorem xF_op {a c h' vc : Nat} (ha : a < 528) (hc : c < 528) (hv : vc < 528) (hh : 15 ≤ h' ∧ h' ≤ 20) {Q : SX → Prop}
    (h6 : ¬ (xvk a = 1 ∧ xvk c = 1) → Q (xdl, xtn, xpp, nI vc, xcc, xfc, xoc, xag, xan, xex, xen, xfl, xac, 6, xsp, xmd, xrt, xcu, xtk, xtv, xaf, xro, xsc, xho, xvk, xvf, xvs, xcv, xco, xff, xfp, xfe, xfb, xop)) (h7 : xvk a = 1 → xvk c = 1 → h' = 18 → xvf c = 0 → Q (xdl, xtn, xpp, nI vc, xcc, xfc, xoc, xag, xan, xex, xen, xfl, xac, 7, xsp, xmd, xrt, xcu, xtk, xtv, xaf, xro, xsc, xho, xvk, xvf, xvs, xcv, xco, xff, xfp, xfe, xfb, xop))
    (h1 : xvk a = 1 → xvk c = 1 → ¬ (h' = 18 ∧ xvf c = 0) → Q (xdl, xtn, xpp, nI (vc + 1), xcc, xfc, xoc, xag, nI vc, xex, xen, xfl, xac, xst, xsp, xmd, xrt, xcu, xtk, xtv, xaf, xro, xsc, xho, upd xvk vc 1, upd xvf vc (al_op h' (xvf a) (xvf c)), upd xvs vc 0, xcv, xco, xff, xfp, xfe, xfb, xop)) : wpX_calculate Q (xdl, xtn, xpp, nI vc, xcc, xfc, xoc, xag, xan, xex, xen, xfl, xac, xst, xsp, xmd, xrt, xcu, xtk, xtv, xaf, xro, xsc, xho, xvk, xvf, xvs, xcv, xco, xff, xfp, xfe, xfb, xop) (nI h') (nI a) (nI c) := by
  have hia : vp_in (nI a) 528 := vp_in_nI ha (by omega)
  have hic : vp_in (nI c) 528 := vp_in_nI hc (by omega)
  have hca : (nI a).toNatClampNeg = a := nI_clamp (by omega)
  have hcc : (nI c).toNatClampNeg = c := nI_clamp (by omega)
  refine ⟨hia, ?_⟩
  rw [hca, hcc]
  by_cases v1 : xvk a = 1
  · refine br_t v1 ⟨hic, ?_⟩
    by_cases v2 : xvk c = 1
    · refine br_t v2 ⟨hia, nm_e ⟨hic, nm_e ?_⟩⟩
      have fin : ¬ (h' = 18 ∧ xvf c = 0) → ∀ z, z = al_op h' (xvf a) (xvf c) → wX_calculate_163 Q z xdl xtn xpp (nI vc) xcc xfc xoc xag xan xex xen xfl xac xst xsp xmd xrt xcu xtk xtv xaf xro xsc xho xvk xvf xvs xcv xco xff xfp xfe xfb xop := fun w z e => by
        rw [e]; exact xr_new hv (h1 v1 v2 w)
      have lt : 20 ≤ h' → ((xvf c ≤ xvf a → wX_calculate_161 Q 0 xdl xtn xpp (nI vc) xcc xfc xoc xag xan xex xen xfl xac xst xsp xmd xrt xcu xtk xtv xaf xro xsc xho xvk xvf xvs xcv xco xff xfp xfe xfb xop) ∧ (¬ xvf c ≤ xvf a → wX_calculate_161 Q 1 xdl xtn xpp (nI vc) xcc xfc xoc xag xan xex xen xfl xac xst xsp xmd xrt xcu xtk xtv xaf xro xsc xho xvk xvf xvs xcv xco xff xfp xfe xfb xop)) := fun z => by
        refine ⟨fun y => fin (by omega) 0 ?_, fun y => fin (by omega) 1 ?_⟩
        · unfold al_op; rw [if_neg (by omega), if_neg (by omega), if_neg (by omega), if_neg (by omega), if_neg (by omega), if_pos y]
        · unfold al_op; rw [if_neg (by omega), if_neg (by omega), if_neg (by omega), if_neg (by omega), if_neg (by omega), if_neg y]
      refine pk_lt h' 15 (fun z => by omega) (fun _ => pk_lt 19 h' (fun z => lt (by omega)) (fun _ => pk_eq h' 15 (fun z => nm_e (fin (by omega) _ ?_)) (fun z15 => pk_eq h' 16 (fun z => nm_e (fin (by omega) _ ?_)) (fun z16 => pk_eq h' 17 (fun z => nm_e (fin (by omega) _ ?_)) (fun z17 => pk_eq h' 18 (fun z => ?_) (fun z18 => pk_eq h' 19 (fun z => ?_) (fun z => by omega)))))))
      · rw [z]; rfl
      · rw [z]; rfl
      · rw [z]; rfl
      · by_cases c0 : xvf c = 0
        · exact br_t c0 (h7 v1 v2 z c0)
        · exact br_f c0 ⟨c0, nm_e (fin (fun w => c0 w.2) _ (by rw [z]; rfl))⟩
      · by_cases e : xvf a = xvf c
        · exact br_t e (fin (by omega) 1 (by rw [z]; unfold al_op; simp [e]))
        · exact br_f e (fin (by omega) 0 (by rw [z]; unfold al_op; simp [e]))
    · exact br_f v2 (h6 (fun w => v2 w.2))
  · exact br_f v1 (h6 (fun w => v1 w.1))
theorem xF_calc (H : tk_ok xtk n) {x b q a c h' vc : Nat} (hx : x < 400) (hb : b + 1 < 400) (ha : a < 528) (hc : c < 528) (hv : vc < 528) (hff : xff x = nI q) (hfb : xfb x = nI b) (hk : tk_K xtk n (q + 1) = h') (hh : 15 ≤ h' ∧ h' ≤ 20) (h2 : q + 1 < n) (hop : xop b = nI a) (hop2 : xop (b + 1) = nI c) {Q : SX → Prop}
    (h6 : ¬ (xvk a = 1 ∧ xvk c = 1) → Q (xdl, xtn, xpp, nI vc, xcc, nI x, nI b, xag, xan, xex, xfe x, xfl, xac, 6, xsp, xmd, xrt, xcu, xtk, xtv, xaf, xro, xsc, xho, xvk, xvf, xvs, xcv, xco, xff, xfp, xfe, xfb, xop)) (h7 : xvk a = 1 → xvk c = 1 → h' = 18 → xvf c = 0 → Q (xdl, xtn, xpp, nI vc, xcc, nI x, nI b, xag, xan, xex, xfe x, xfl, xac, 7, xsp, xmd, xrt, xcu, xtk, xtv, xaf, xro, xsc, xho, xvk, xvf, xvs, xcv, xco, xff, xfp, xfe, xfb, xop))
    (h1 : xvk a = 1 → xvk c = 1 → ¬ (h' = 18 ∧ xvf c = 0) → Q (xdl, xtn, xpp, nI (vc + 1), xcc, nI x, nI b, xag, nI vc, xex, xfe x, xfl, xac, xst, xsp, xmd, xrt, xcu, xtk, xtv, xaf, xro, xsc, xho, upd xvk vc 1, upd xvf vc (al_op h' (xvf a) (xvf c)), upd xvs vc 0, xcv, xco, xff, xfp, xfe, xfb, xop)) : wpX_finishForm Q (xdl, xtn, xpp, nI vc, xcc, nI (x + 1), nI (b + 2), xag, xan, xex, xen, xfl, xac, xst, xsp, xmd, xrt, xcu, xtk, xtv, xaf, xro, xsc, xho, xvk, xvf, xvs, xcv, xco, xff, xfp, xfe, xfb, xop) (nI x) := by
  have H1 := H.1
  have hcx : (nI x).toNatClampNeg = x := nI_clamp (by omega)
  have hcb : (nI b).toNatClampNeg = b := nI_clamp (by omega)
  have hi : vp_in (nI x) 400 := vp_in_nI hx (by omega)
  refine ⟨hi, nm_r (show xff (nI x).toNatClampNeg = nI q from by rw [hcx]; exact hff) ⟨hi, nm_r (show xfb (nI x).toNatClampNeg = nI b from by rw [hcx]; exact hfb) (nm_e ⟨by rw [nI_1]; exact tk_in H (by omega), nm_r (show xtk (nI q + 1).toNatClampNeg = nI h' from by rw [nI_1, tk_c H (by omega), hk]) ?_⟩)⟩⟩
  refine pk_le 6 h' (fun _ => nm_r (nI_pred x) ⟨hi, nm_r (show xfe (nI x).toNatClampNeg = xfe x from by rw [hcx]) ?_⟩) (fun z => by omega)
  refine pk_lt h' 8 (fun z => by omega) (fun _ => pk_lt 14 h' (fun _ => ⟨vp_in_nI (by omega) (by omega), ?_⟩) (fun z => by omega))
  rw [nI_1 b, hcb, nI_clamp (n := b + 1) (by omega), hop, hop2]
  exact ⟨vp_in_nI (by omega) (by omega), xF_op ha hc hv hh h6 h7 h1⟩
theorem xF_call (H : tk_ok xtk n) (A : xb_A (tk_K xtk n) n xaf) {x b q k f cc : Nat} (hx : x < 400) (hb : b + k < 400) (hcc : cc + k ≤ 404) (hf : f < 528) (hff : xff x = nI q) (hfb : xfb x = nI b) (hk : tk_K xtk n (q + 1) < 6) (h2 : q + 1 < n) (hop : xop (b + k) = nI f) {Q : SX → Prop}
    (h8 : xvk f ≠ 4 → Q (xdl, xtn, xpp, xvc, nI cc, nI (x + 1), nI b, xag, xan, xex, xen, xfl, xac, 8, xsp, xmd, xrt, xcu, xtk, xtv, xaf, xro, xsc, xho, xvk, xvf, xvs, xcv, xco, xff, xfp, xfe, xfb, xop))
    (hcl : xvk f = 4 → ∃ p c, xvf f = nI p ∧ p + 2 < n ∧ tk_K xtk n (p + 2) ≠ 2 ∧ ls_C (tk_K xtk n) (sk_f (tk_K xtk n) n) (p + 3) c ∧ c < 2 ^ 20 ∧ (c ≠ k → Q (xdl, xtn, xpp, xvc, nI cc, nI (x + 1), nI b, xag, xan, xex, xen, xfl, xac, 9, xsp, xmd, xrt, xcu, xtk, xtv, xaf, xro, xsc, xho, xvk, xvf, xvs, xcv, xco, xff, xfp, xfe, xfb, xop)) ∧ (c = k → xac = xdl → Q (xdl, xtn, xpp, xvc, nI cc, nI (x + 1), nI b, xag, xan, xex, xen, xfl, xac, 5, xsp, xmd, xrt, xcu, xtk, xtv, xaf, xro, xsc, xho, xvk, xvf, xvs, xcv, xco, xff, xfp, xfe, xfb, xop)) ∧
      (c = k → xac ≠ xdl → ∀ cv' co' md', md' = (if xac + 1 ≤ xmd then xmd else xac + 1) → xc_S xcv xco (fun i => xop (b + i)) (xvs f) cc k cv' co' → Q (xdl, xtn, xpp, xvc, nI (cc + k), nI (x + 1), nI b, 0, xan, nI (sk_f (tk_K xtk n) n (p + 2)), hb_e (xvs f) cc k, xfl, xac + 1, xst, xsp, md', xrt, xcu, xtk, xtv, xaf, xro, xsc, xho, xvk, xvf, xvs, cv', co', xff, xfp, xfe, xfb, xop))) : wpX_finishForm Q (xdl, xtn, xpp, xvc, nI cc, nI (x + 1), nI (b + (k + 1)), xag, xan, xex, xen, xfl, xac, xst, xsp, xmd, xrt, xcu, xtk, xtv, xaf, xro, xsc, xho, xvk, xvf, xvs, xcv, xco, xff, xfp, xfe, xfb, xop) (nI x) := by
  have H1 := H.1
  have hcx : (nI x).toNatClampNeg = x := nI_clamp (by omega)
  have hcf : (nI f).toNatClampNeg = f := nI_clamp (by omega)
  have hi : vp_in (nI x) 400 := vp_in_nI hx (by omega)
  have hif : vp_in (nI f) 528 := vp_in_nI hf (by omega)
  have k20 := tk_20 H (q + 1)
  refine ⟨hi, nm_r (show xff (nI x).toNatClampNeg = nI q from by rw [hcx]; exact hff) ⟨hi, nm_r (show xfb (nI x).toNatClampNeg = nI b from by rw [hcx]; exact hfb) (nm_r (show nI (b + (k + 1)) - nI b = nI (k + 1) from by rw [pk_sub (by omega), show b + (k + 1) - b = k + 1 from by omega]) ⟨by rw [nI_1]; exact tk_in H (by omega), nm_r (show xtk (nI q + 1).toNatClampNeg = nI (tk_K xtk n (q + 1)) from by rw [nI_1]; exact tk_c H (by omega)) ?_⟩)⟩⟩
  refine pk_le 6 (tk_K xtk n (q + 1)) (fun z => by omega) (fun _ => ?_)
  rw [nI_pred k]
  unfold wpX_call
  dsimp only
  rw [nI_add, nI_clamp (n := b + k) (by omega), hop]
  refine ⟨vp_in_nI (by omega) (by omega), nm_e ⟨hif, nm_e ⟨hif, ?_⟩⟩⟩
  rw [hcf]
  by_cases v4 : xvk f = 4
  · obtain ⟨p, c, e1, l2, k2, lc, hc20, g1, g2, g3⟩ := hcl v4
    rw [e1]
    refine br_t v4 ?_
    unfold wpX_arity
    dsimp only
    rw [ni_2]
    have f107 : ∀ md', md' = (if xac + 1 ≤ xmd then xmd else xac + 1) → c = k → xac ≠ xdl → wX_call_107 Q (nI b) (nI k) (nI f) (nI p) md' xdl xtn xpp xvc (nI cc) (nI (x + 1)) (nI b) xag xan xex xen xfl (xac + 1) xst xsp xmd xrt xcu xtk xtv xaf xro xsc xho xvk xvf xvs xcv xco xff xfp xfe xfb xop := by
      intro md' em ek ea
      refine ⟨hif, nm_r (show xvs (nI f).toNatClampNeg = xvs f from by rw [hcf]) ?_⟩
      exact xc_cells (xen := xvs f) hcc (by omega) (fun cv' co' S => xh_body (xcv := cv') (xco := co') H A l2 k2 (g3 ek ea cv' co' md' em S))
    refine xi_items (i := p + 2) H A lc (pk_eq c k (fun ek => ?_) (fun ek => g1 ek))
    by_cases ea : xac = xdl
    · exact br_t ea (g2 ek ea)
    · refine br_f ea (nm_e ?_)
      by_cases em : xac + 1 ≤ xmd
      · exact br_t em (f107 xmd (if_pos em).symm ek ea)
      · exact br_f em (f107 (xac + 1) (if_neg em).symm ek ea)
  · exact br_f v4 (h8 v4)
end
end
section
/-! the frames of a run, and what is counted -/
def fp_W (K a : Nat → Nat) (R sc : Nat → Int32) (n : Nat) (nm : Nat → Nat) (cc : Nat) (ff fp fe fb : Nat → Int32) (x b k q : Nat) : Prop :=
  q < n ∧ R q = 1 ∧ K q = 1 ∧ ff x = nI q ∧ fb x = nI b ∧ hp_E nm cc (fe x) (sc q) ∧
   ((K (q + 1) = 10 ∧ k = 0 ∧ fp x = nI (q + 2)) ∨
    (11 ≤ K (q + 1) ∧ k < gr_n (K (q + 1)) ∧ fp x = nI (it_f a k (q + 2))) ∨
    (K (q + 1) = 8 ∧ (∃ c, ls_C K a (q + 3) c ∧ k < c) ∧ fp x = nI (it_f a k (q + 3) + 2)) ∨
    (K (q + 1) < 6 ∧ ∃ c, ls_C K a (q + 1) (c + 1) ∧ ((k < c ∧ fp x = nI (it_f a (k + 1) (q + 1))) ∨ (k = c ∧ fp x = nI (q + 1)))))
def fp_R (K a : Nat → Nat) (R sc : Nat → Int32) (n : Nat) (nm : Nat → Nat) (cc : Nat) (ff fp fe fb : Nat → Int32) : Nat → Nat → Nat → Prop
  | 0, o, u => o = 0 ∧ u = 0
  | x + 1, o, u => (fp x = -1 ∧ fp_R K a R sc n nm cc ff fp fe fb x o u) ∨
    (∃ b k u' q, u = u' + 1 ∧ o = b + k ∧ fp_W K a R sc n nm cc ff fp fe fb x b k q ∧ fp_R K a R sc n nm cc ff fp fe fb x b u')
section
variable {K a : Nat → Nat} {R sc : Nat → Int32} {n : Nat} {nm nm' : Nat → Nat} {cc cc' : Nat} {ff fp fe fb ff' fp' fe' fb' : Nat → Int32}
theorem fp_Wk {x b k q : Nat} (hc : cc ≤ cc') (hg : ∀ i, i < cc → nm' i = nm i) (hx : ff' x = ff x ∧ fp' x = fp x ∧ fe' x = fe x ∧ fb' x = fb x)
    (h : fp_W K a R sc n nm cc ff fp fe fb x b k q) : fp_W K a R sc n nm' cc' ff' fp' fe' fb' x b k q := by
  unfold fp_W at h ⊢
  rw [hx.1, hx.2.1, hx.2.2.1, hx.2.2.2]
  obtain ⟨h1, h2, h3, h4, h6, h8, h9⟩ := h
  exact ⟨h1, h2, h3, h4, h6, hp_Em hc hg h8, h9⟩
theorem fp_k (hc : cc ≤ cc') (hg : ∀ i, i < cc → nm' i = nm i) : ∀ {x o u : Nat}, (∀ i, i < x → ff' i = ff i ∧ fp' i = fp i ∧ fe' i = fe i ∧ fb' i = fb i) →
    fp_R K a R sc n nm cc ff fp fe fb x o u → fp_R K a R sc n nm' cc' ff' fp' fe' fb' x o u
  | 0, _, _, _, h => h
  | x + 1, o, u, hx, h => by
    rcases h with ⟨h1, h2⟩ | ⟨b, k, u', q', e2, e3, h1, h2⟩
    · exact Or.inl ⟨(hx x (by omega)).2.1.trans h1, fp_k hc hg (fun i hi => hx i (by omega)) h2⟩
    · exact Or.inr ⟨b, k, u', q', e2, e3, fp_Wk hc hg (hx x (by omega)) h1, fp_k hc hg (fun i hi => hx i (by omega)) h2⟩
end
def vo_R (VP : Nat → Prop) (op : Nat → Int32) (oc : Nat) : Prop := ∀ k, k < oc → ∃ a, op k = nI a ∧ VP a
theorem vo_m {VP VP' : Nat → Prop} {op op' : Nat → Int32} {oc : Nat} (hV : ∀ a, VP a → VP' a) (h1 : ∀ k, k < oc → op' k = op k) (h : vo_R VP op oc) : vo_R VP' op' oc := fun k hk => by
  obtain ⟨a, e1, v⟩ := h k hk
  exact ⟨a, (h1 k hk).trans e1, hV _ v⟩
theorem vo_s {VP VP' : Nat → Prop} {op : Nat → Int32} {oc a : Nat} (hV : ∀ a, VP a → VP' a) (v : VP' a) (h : vo_R VP op oc) : vo_R VP' (upd op oc (nI a)) (oc + 1) := fun k hk => by
  by_cases z : k = oc
  · subst z; exact ⟨a, pk_us, v⟩
  · obtain ⟨a', e1, v'⟩ := h k (by omega)
    exact ⟨a', (pk_un z).trans e1, hV _ v'⟩
theorem vo_l {VP : Nat → Prop} {op : Nat → Int32} {oc oc' : Nat} (hl : oc' ≤ oc) (h : vo_R VP op oc) : vo_R VP op oc' := fun k hk => h k (by omega)
def sn_N (vc cc fc oc u s t ans : Nat) : Prop := vc + u ≤ 128 + s ∧ 128 ≤ vc ∧ cc + oc + fc + ans ≤ s ∧ t + ans + fc ≤ 2 * s ∧ s ≤ 400 ∧ ans ≤ 1
/-- the walk to a name's cell -/
theorem hp_walk {K : Nat → Nat} {R sc : Nat → Int32} {n : Nat} {VP : Nat → Prop} {nm : Nat → Nat} {vc cc lo : Nat} {vk vf vs cv co : Nat → Int32} (hn : n ≤ 64) (hcc : cc ≤ 404) (B : hp_B K R sc n VP nm vc cc lo vk vf vs cv co) :
    ∀ (l : List Nat) (h : Nat) (c s' : Int32), sc_H n sc l s' → h < l.length → hp_E nm cc c s' → ∃ i, i < cc ∧ ∀ co' : Nat → Int32, (∀ c, c < cc → co' c = co c) → xh_W co' h c i
  | [], _, _, _, _, hF, _ => absurd hF (by simp)
  | m :: l, h, c, s', hH, hF, hE => by
    obtain ⟨e1, hm, hH⟩ := hH
    rcases hE with ⟨_, z⟩ | ⟨i, hi, ec, es⟩
    · rw [e1] at z
      exact absurd z (ni_nm1 (by omega))
    · have hC := B.2.1 i hi
      have h2 := hC.1
      have emi : m = nm i := by
        rw [e1] at es
        exact (nI_eq (by omega) (by omega)).mp es
      cases h with
      | zero => exact ⟨i, hi, fun _ _ => ec⟩
      | succ h' =>
        have hE2 := hC.2.1
        rw [← emi] at hE2
        obtain ⟨i', hi', w1⟩ := hp_walk hn hcc B l h' (co i) (sc m) hH (by simp only [List.length_cons] at hF; omega) hE2
        exact ⟨i', hi', fun co' hco => ⟨i, ec, by omega, by rw [hco i hi]; exact w1 co' hco⟩⟩
end
section
/-! the shape of forms, as a run needs it -/
section
variable {K : Nat → Nat} {V r sc : Nat → Int32} {n : Nat} {par : Nat → Nat}
theorem st_in (hn : ∀ i, n ≤ i → K i = 0) (hB : ∀ i, i < n → K i ≠ 2 → dp_I K i (sk_f K n i)) (W : rw_W K V (sk_f K n) n n r par) {q c : Nat} (hq : q < n) (hr : r q = 1) (h : gr_E K (sk_f K n) q c) : c < n ∧ r c = 1 ∧ K c ≠ 2 ∧ q < c ∧ sk_f K n c < sk_f K n q ∧ sk_f K n q ≤ n := by
  have w := W.2.1 q hq hr
  have k1 := h.1
  have hI := hB q hq (by omega)
  have gi := gr_in hI w.1 (Or.inl h)
  have g1 := gi.2.1.1
  have l := dp_le hn hI hq
  have rc := (w.2.1 c h).1
  refine ⟨by omega, rc, ?_, gi.1, gi.2.2, l⟩
  exact dp_I_n2 gi.2.1
theorem st_op (hn : ∀ i, n ≤ i → K i = 0) (hB : ∀ i, i < n → K i ≠ 2 → dp_I K i (sk_f K n i)) (W : rw_W K V (sk_f K n) n n r par) (hL : ∀ i, i < n → r i = 1 → K i = 1 → sc_L K (sk_f K n) sc i) {q : Nat} (hq : q < n) (hr : r q = 1) (k1 : K q = 1) (k10 : 10 ≤ K (q + 1)) :
    ls_C K (sk_f K n) (q + 2) (gr_n (K (q + 1))) ∧ (∀ k, k < gr_n (K (q + 1)) → it_f (sk_f K n) k (q + 2) < n ∧ r (it_f (sk_f K n) k (q + 2)) = 1 ∧ K (it_f (sk_f K n) k (q + 2)) ≠ 2 ∧ q + 2 ≤ it_f (sk_f K n) k (q + 2) ∧ sc (it_f (sk_f K n) k (q + 2)) = sc q) ∧ it_f (sk_f K n) (gr_n (K (q + 1))) (q + 2) < n := by
  have hS := (W.2.1 q hq hr).1
  rcases gr_FSof hS k1 with ⟨k, l⟩ | ⟨k, l, k2, c', q'⟩ | ⟨k, l, k2, c', c1, c4, lc, bb⟩ | ⟨k, l⟩ | ⟨k, c', c4, l⟩
  · omega
  · omega
  · omega
  · have bd := ls_bd hn l
    refine ⟨l, fun x hx => ?_, (bd.1 _ (Nat.le_refl _)).1⟩
    have hE : gr_E K (sk_f K n) q (it_f (sk_f K n) x (q + 2)) := ⟨k1, Or.inl ⟨k, (ls_CM l).mpr ⟨x, hx, rfl⟩⟩⟩
    have s := st_in hn hB W hq hr hE
    exact ⟨s.1, s.2.1, s.2.2.1, by have := (bd.1 x (by omega)).2; omega, (hL q hq hr k1).1 (Or.inr k) _ hE⟩
  · omega
theorem st_app (hn : ∀ i, n ≤ i → K i = 0) (hB : ∀ i, i < n → K i ≠ 2 → dp_I K i (sk_f K n i)) (W : rw_W K V (sk_f K n) n n r par) (hL : ∀ i, i < n → r i = 1 → K i = 1 → sc_L K (sk_f K n) sc i) {q : Nat} (hq : q < n) (hr : r q = 1) (k1 : K q = 1) (k6 : K (q + 1) < 6) :
    ∃ c, c ≤ 4 ∧ ls_C K (sk_f K n) (q + 1) (c + 1) ∧ (∀ k, k ≤ c → it_f (sk_f K n) k (q + 1) < n ∧ r (it_f (sk_f K n) k (q + 1)) = 1 ∧ K (it_f (sk_f K n) k (q + 1)) ≠ 2 ∧ q + 1 + k ≤ it_f (sk_f K n) k (q + 1) ∧ sc (it_f (sk_f K n) k (q + 1)) = sc q) ∧ it_f (sk_f K n) (c + 1) (q + 1) < n := by
  have hS := (W.2.1 q hq hr).1
  rcases gr_FSof hS k1 with ⟨k, l⟩ | ⟨k, l, k2, c', q'⟩ | ⟨k, l, k2, c', c1, c4, lc, bb⟩ | ⟨k, l⟩ | ⟨k, c, c4, l⟩
  · omega
  · omega
  · omega
  · omega
  · have bd := ls_bd hn l
    refine ⟨c, c4, l, fun x hx => ?_, (bd.1 _ (Nat.le_refl _)).1⟩
    have hE : gr_E K (sk_f K n) q (it_f (sk_f K n) x (q + 1)) := ⟨k1, Or.inr (Or.inl ⟨k, (ls_CM l).mpr ⟨x, by omega, rfl⟩⟩)⟩
    have s := st_in hn hB W hq hr hE
    exact ⟨s.1, s.2.1, s.2.2.1, by have := (bd.1 x (by omega)).2; omega, (hL q hq hr k1).1 (Or.inl (by omega)) _ hE⟩
theorem st_let (hn : ∀ i, n ≤ i → K i = 0) (hB : ∀ i, i < n → K i ≠ 2 → dp_I K i (sk_f K n i)) (W : rw_W K V (sk_f K n) n n r par) (hL : ∀ i, i < n → r i = 1 → K i = 1 → sc_L K (sk_f K n) sc i) {q : Nat} (hq : q < n) (hr : r q = 1) (k1 : K q = 1) (k8 : K (q + 1) = 8 ∨ K (q + 1) = 9) :
    ∃ c, 1 ≤ c ∧ c ≤ 4 ∧ ls_C K (sk_f K n) (q + 3) c ∧
      (∀ k, k < c → K (it_f (sk_f K n) k (q + 3)) = 1 ∧ it_f (sk_f K n) k (q + 3) + 2 < n ∧ r (it_f (sk_f K n) k (q + 3) + 2) = 1 ∧ K (it_f (sk_f K n) k (q + 3) + 2) ≠ 2 ∧ q + 3 ≤ it_f (sk_f K n) k (q + 3) ∧ it_f (sk_f K n) (k + 1) (q + 3) = sk_f K n (it_f (sk_f K n) k (q + 3) + 2) + 1 ∧ it_f (sk_f K n) (k + 1) (q + 3) < n ∧ sc (it_f (sk_f K n) k (q + 3) + 2) = (if K (q + 1) = 9 then hb_s (sc q) (fun i => it_f (sk_f K n) i (q + 3) + 1) c else sc q) ∧ (K (q + 1) = 9 → K (it_f (sk_f K n) k (q + 3) + 2) = 1 ∧ K (it_f (sk_f K n) k (q + 3) + 3) = 7) ∧ sc (it_f (sk_f K n) k (q + 3) + 1) = hb_s (sc q) (fun i => it_f (sk_f K n) i (q + 3) + 1) k) ∧
      (∀ j k, j < k → k < c → V (it_f (sk_f K n) j (q + 3) + 1) ≠ V (it_f (sk_f K n) k (q + 3) + 1)) ∧
      q + 2 < n ∧ K (q + 2) = 1 ∧ sk_f K n (q + 2) = it_f (sk_f K n) c (q + 3) + 1 ∧ sk_f K n (q + 2) < n ∧ r (sk_f K n (q + 2)) = 1 ∧ sc (sk_f K n (q + 2)) = hb_s (sc q) (fun i => it_f (sk_f K n) i (q + 3) + 1) c := by
  have hS := (W.2.1 q hq hr).1
  have hI := hB q hq (by omega)
  have L := (hL q hq hr k1).2 (by omega) (by omega)
  have gb := gr_bind hI k1 (by omega) (by omega) hS
  have nme : ∀ j, sc_nm K (sk_f K n) q j = it_f (sk_f K n) j (q + 3) + 1 := fun j => if_neg (by omega)
  have lse : ∀ j, sc_ls K (sk_f K n) sc q j = hb_s (sc q) (fun i => it_f (sk_f K n) i (q + 3) + 1) j := fun j => by
    cases j with
    | zero => rfl
    | succ j => show nI (sc_nm K (sk_f K n) q j) = _; rw [nme]; rfl
  rcases gr_FSof hS k1 with ⟨k, l⟩ | ⟨k, l, k2, c', q'⟩ | ⟨k, l, k2, c, c1, c4, lc, bb⟩ | ⟨k, l⟩ | ⟨k, c', c4, l⟩
  · omega
  · omega
  · obtain ⟨bp1, bp2, bp3, bp4, bp5⟩ := xs_bp (V := V) hn hB hq k1 k8 hS lc
    obtain ⟨L1, L2, L3⟩ := L c lc
    have bd := ls_bd hn lc
    have hEb : gr_E K (sk_f K n) q (sk_f K n (q + 2)) := ⟨k1, Or.inr (Or.inr (Or.inl ⟨by omega, by omega, rfl⟩))⟩
    refine ⟨c, c1, c4, lc, fun x hx => ?_, fun j x hj hx => ?_, ?_, k2, bp4.symm, bp5, ((W.2.1 q hq hr).2.1 _ hEb).1, by rw [L2, lse]⟩
    · have hE : gr_E K (sk_f K n) q (it_f (sk_f K n) x (q + 3) + 2) := ⟨k1, Or.inr (Or.inr (Or.inr ⟨k8, _, (ls_CM lc).mpr ⟨x, hx, rfl⟩, rfl⟩))⟩
      have s := st_in hn hB W hq hr hE
      obtain ⟨m1, m2, m3, m4, m5, m6, m7, m8, m9⟩ := gr_bnd hI k1 k8 hS ((ls_CM lc).mpr ⟨x, hx, rfl⟩)
      refine ⟨m2, s.1, s.2.1, s.2.2.1, m1, by rw [it_s]; exact m6, (bd.1 (x + 1) (by omega)).1, ?_, fun z => m9.2.2.2.2 z, ?_⟩
      · have := L3 (by omega) x hx
        rw [this, lse]
      · have := L1 x hx
        rw [nme, lse] at this
        exact this
    · intro ev
      have nd := (bb x hx).2.2.2.1
      exact nd ((xl_dup (K := K) (n := n) (L := q + 2) hn (by omega)).mpr ⟨j, hj, ev⟩)
    · have := gb.2.1.1
      have := gb.2.2.1.1
      have := gb.2.2.2.1
      have := dp_le hn hI hq
      omega
  · omega
  · omega
theorem st_lam (hn : ∀ i, n ≤ i → K i = 0) (hB : ∀ i, i < n → K i ≠ 2 → dp_I K i (sk_f K n i)) (W : rw_W K V (sk_f K n) n n r par) (hL : ∀ i, i < n → r i = 1 → K i = 1 → sc_L K (sk_f K n) sc i) {q : Nat} (hq : q < n) (hr : r q = 1) (k1 : K q = 1) (k7 : K (q + 1) = 7) :
    ∃ c, c ≤ 4 ∧ gr_P K V (q + 2) c ∧ ls_C K (sk_f K n) (q + 3) c ∧ (∀ k, k < c → q + 3 + k < n ∧ sc (q + 3 + k) = hb_s (sc q) (fun i => q + 3 + i) k) ∧ q + 3 + c < n ∧ q + 2 < n ∧ K (q + 2) = 1 ∧ sk_f K n (q + 2) = q + 4 + c ∧ sk_f K n (q + 2) < n ∧ r (sk_f K n (q + 2)) = 1 ∧ sc (sk_f K n (q + 2)) = hb_s (sc q) (fun i => q + 3 + i) c := by
  have hS := (W.2.1 q hq hr).1
  have hI := hB q hq (by omega)
  obtain ⟨c, c4, lc, hN, hP, _⟩ := sc_N k1 (by omega) (by omega) hS
  have P := hP k7
  have gb := gr_bind hI k1 (by omega) (by omega) hS
  obtain ⟨L1, L2, _⟩ := (hL q hq hr k1).2 (by omega) (by omega) c lc
  have nme : ∀ j, sc_nm K (sk_f K n) q j = q + 3 + j := fun j => if_pos k7
  have lse : ∀ j, sc_ls K (sk_f K n) sc q j = hb_s (sc q) (fun i => q + 3 + i) j := fun j => by
    cases j with
    | zero => rfl
    | succ j => show nI (sc_nm K (sk_f K n) q j) = _; rw [nme]; rfl
  have ea : sk_f K n (q + 2) = q + 2 + 2 + c := gr_Pa gb.1 P
  have hEb : gr_E K (sk_f K n) q (sk_f K n (q + 2)) := ⟨k1, Or.inr (Or.inr (Or.inl ⟨by omega, by omega, rfl⟩))⟩
  have s := st_in hn hB W hq hr hEb
  refine ⟨c, c4, P, lc, fun x hx => ⟨by omega, ?_⟩, by omega, by omega, gb.1, by omega, s.1, s.2.1, by rw [L2, lse]⟩
  have := L1 x hx
  rw [nme, lse] at this
  exact this
end
end
section
/-! one theorem for all objects and all fuels: the picture decides -/
def sx_st (u : SX) : Int32 := match u with | (xdl, xtn, xpp, xvc, xcc, xfc, xoc, xag, xan, xex, xen, xfl, xac, xst, xsp, xmd, xrt, xcu, xtk, xtv, xaf, xro, xsc, xho, xvk, xvf, xvs, xcv, xco, xff, xfp, xfe, xfb, xop) => xst
def sx_sp (u : SX) : Int32 := match u with | (xdl, xtn, xpp, xvc, xcc, xfc, xoc, xag, xan, xex, xen, xfl, xac, xst, xsp, xmd, xrt, xcu, xtk, xtv, xaf, xro, xsc, xho, xvk, xvf, xvs, xcv, xco, xff, xfp, xfe, xfb, xop) => xsp
def sx_ag (u : SX) : Int32 := match u with | (xdl, xtn, xpp, xvc, xcc, xfc, xoc, xag, xan, xex, xen, xfl, xac, xst, xsp, xmd, xrt, xcu, xtk, xtv, xaf, xro, xsc, xho, xvk, xvf, xvs, xcv, xco, xff, xfp, xfe, xfb, xop) => xag
/-- an object that holds this program, compiled -/
def dq_OK (dl : Int32) (tk tv : Nat → Int32) (n : Nat) (u : SX) : Prop := ∃ (xvc xcc xfc xoc xag xan xex xen xfl xac xst xsp xmd xrt xcu : Int32) (xaf xro xsc xho xvk xvf xvs xcv xco xff xfp xfe xfb xop : Nat → Int32), u = (dl, nI n, 1, xvc, xcc, xfc, xoc, xag, xan, xex, xen, xfl, xac, xst, xsp, xmd, xrt, xcu, tk, tv, xaf, xro, xsc, xho, xvk, xvf, xvs, xcv, xco, xff, xfp, xfe, xfb, xop) ∧ cp_P tk tv n xaf xro xsc xho xvk xvf xvs
/-- the object's value agrees with the picture's -/
def ag_V (pvk pvf pvs xvk xvf xvs : Nat → Int32) (i : Nat) : Prop := xvk i = pvk i ∧ (pvk i ≠ 2 → xvf i = pvf i) ∧ (pvk i = 3 ∨ pvk i = 4 → xvs i = pvs i)
/-- after a run: status, steps, depth, root and cursor, and the values that can be seen -/
def fq_S (dl : Int32) (tk tv : Nat → Int32) (n : Nat) (r : Int32) (se : Nat) (md : Int32) (VP : Nat → Prop) (pvk pvf pvs : Nat → Int32) (wr wc : Int32) (u : SX) : Prop :=
  ∃ (xvc xcc xfc xoc xag xan xex xen xfl xac : Int32) (xaf xro xsc xho xvk xvf xvs xcv xco xff xfp xfe xfb xop : Nat → Int32), u = (dl, nI n, 1, xvc, xcc, xfc, xoc, xag, xan, xex, xen, xfl, xac, r, nI se, md, wr, wc, tk, tv, xaf, xro, xsc, xho, xvk, xvf, xvs, xcv, xco, xff, xfp, xfe, xfb, xop) ∧ cp_P tk tv n xaf xro xsc xho xvk xvf xvs ∧ ∀ i, VP i → ag_V pvk pvf pvs xvk xvf xvs i
/-- a closed set of values -/
def fq_G (K a : Nat → Nat) (n : Nat) (VP : Nat → Prop) (vk vf vs : Nat → Int32) : Prop :=
  ∀ i, VP i → i < 528 ∧ (vk i = 1 ∨ vk i = 2 ∨ (vk i = 3 ∧ ∃ a b, vf i = nI a ∧ vs i = nI b ∧ VP a ∧ VP b) ∨ (vk i = 4 ∧ ∃ q c, q + 3 < n ∧ vf i = nI q ∧ ls_C K a (q + 3) c ∧ c ≤ 4))
def sp_T (dl : Int32) (tk tv : Nat → Int32) (n t s : Nat) (P : Nat → SX → Prop) : Prop :=
  ∃ (se : Nat) (r md w : Int32) (VP : Nat → Prop) (vk vf vs : Nat → Int32), s ≤ se ∧ 1 ≤ se ∧ r ≠ 4 ∧ fq_G (tk_K tk n) (sk_f (tk_K tk n) n) n VP vk vf vs ∧ (w = -1 ∨ ∃ a, w = nI a ∧ VP a) ∧
    ∀ (F : Nat) (u : SX) (post : Int32 → SX → Prop) (fx : Nat), s ≤ F → F ≤ 400 → P F u → t + fx = 1000 →
      (F < se → (∀ u', dq_OK dl tk tv n u' → sx_sp u' = nI F → post 4 u') → rx_L post fx (nI t) u) ∧
      (se ≤ F → (∀ u', fq_S dl tk tv n r se md VP vk vf vs w w u' → post r u') → rx_L post fx (nI t) u)
section
variable {xdl xtn xpp xvc xcc xfc xoc xag xan xex xen xfl xac xst xsp xmd xrt xcu : Int32} {xtk xtv xaf xro xsc xho xvk xvf xvs xcv xco xff xfp xfe xfb xop : Nat → Int32} {t : Nat}
theorem sp_xend {post : Int32 → SX → Prop} {f : Nat} {r : Int32} {u : SX} (ht : t < 1600) (hr : ¬ r = -1) (hu : sx_st u = r) (h : post r u) : rx_L post (f + 1) (nI t) u := by
  obtain ⟨xdl, xtn, xpp, xvc, xcc, xfc, xoc, xag, xan, xex, xen, xfl, xac, xst, xsp, xmd, xrt, xcu, xtk, xtv, xaf, xro, xsc, xho, xvk, xvf, xvs, xcv, xco, xff, xfp, xfe, xfb, xop⟩ := u
  have e : xst = r := hu
  subst e
  exact xr_end ht hr h
theorem sp_xE {post : Int32 → SX → Prop} {f : Nat} {u : SX} (ht : t < 1600) (h1 : sx_ag u = 0) (h2 : sx_st u = -1) (h : ∀ Q : SX → Prop, (∀ u', rx_L post f (nI (t + 1)) u' → Q u') → wpX_startExpr Q u) : rx_L post (f + 1) (nI t) u := by
  obtain ⟨xdl, xtn, xpp, xvc, xcc, xfc, xoc, xag, xan, xex, xen, xfl, xac, xst, xsp, xmd, xrt, xcu, xtk, xtv, xaf, xro, xsc, xho, xvk, xvf, xvs, xcv, xco, xff, xfp, xfe, xfb, xop⟩ := u
  have e1 : xag = 0 := h1
  have e2 : xst = -1 := h2
  subst e1 e2
  exact xr_E ht h
theorem sp_xR {post : Int32 → SX → Prop} {f : Nat} {u : SX} (ht : t < 1600) (h1 : sx_ag u = 1) (h2 : sx_st u = -1) (h : ∀ Q : SX → Prop, (∀ u', rx_L post f (nI (t + 1)) u' → Q u') → wpX_handOverAnswer Q u) : rx_L post (f + 1) (nI t) u := by
  obtain ⟨xdl, xtn, xpp, xvc, xcc, xfc, xoc, xag, xan, xex, xen, xfl, xac, xst, xsp, xmd, xrt, xcu, xtk, xtv, xaf, xro, xsc, xho, xvk, xvf, xvs, xcv, xco, xff, xfp, xfe, xfb, xop⟩ := u
  have e1 : xag = 1 := h1
  have e2 : xst = -1 := h2
  subst e1 e2
  exact xr_R ht h
end
section
variable {dl : Int32} {tk tv : Nat → Int32} {n t s : Nat} {P P1 : Nat → SX → Prop}
theorem fq_st {r md wr wc : Int32} {se : Nat} {VP : Nat → Prop} {pvk pvf pvs : Nat → Int32} {u : SX} (h : fq_S dl tk tv n r se md VP pvk pvf pvs wr wc u) : sx_st u = r := by
  obtain ⟨xvc, xcc, xfc, xoc, xag, xan, xex, xen, xfl, xac, xaf, xro, xsc, xho, xvk, xvf, xvs, xcv, xco, xff, xfp, xfe, xfb, xop, e, _⟩ := h
  rw [e]; rfl
/-- a turn that evaluates -/
theorem sp_Es (ht : t < 990) (hP : ∀ F u, P F u → sx_ag u = 0 ∧ sx_st u = -1) (out : ∀ u Q, P s u → (∀ u', dq_OK dl tk tv n u' → sx_st u' = 4 → sx_sp u' = nI s → Q u') → wpX_startExpr Q u)
    (step : ∀ F u Q, s < F → F ≤ 400 → P F u → (∀ u1, P1 F u1 → Q u1) → wpX_startExpr Q u) (N : sp_T dl tk tv n (t + 1) (s + 1) P1) : sp_T dl tk tv n t s P := by
  obtain ⟨se, r, md, w, VP, vk, vf, vs, a1, a2, a3, a4, a5, N⟩ := N
  refine ⟨se, r, md, w, VP, vk, vf, vs, by omega, a2, a3, a4, a5, fun F u post fx h1 h2 hu hx => ?_⟩
  obtain ⟨f, rfl⟩ : ∃ f, fx = f + 1 + 1 := ⟨fx - 2, by omega⟩
  obtain ⟨p1, p2⟩ := hP F u hu
  by_cases z : s = F
  · subst z
    exact ⟨fun _ hp => sp_xE (by omega) p1 p2 (fun Q hQ => out u Q hu (fun u' b1 b2 b3 => hQ u' (sp_xend (r := 4) (by omega) (by decide) b2 (hp u' b1 b3)))), fun z => by omega⟩
  · have hs : s < F := by omega
    exact ⟨fun hl hp => sp_xE (by omega) p1 p2 (fun Q hQ => step F u Q hs h2 hu (fun u1 b => hQ u1 ((N F u1 post (f + 1) (by omega) h2 b (by omega)).1 hl hp))), fun hl hp => sp_xE (by omega) p1 p2 (fun Q hQ => step F u Q hs h2 hu (fun u1 b => hQ u1 ((N F u1 post (f + 1) (by omega) h2 b (by omega)).2 hl hp)))⟩
/-- at 400 steps there is no turn left that evaluates -/
theorem sp_E400 (ht : t < 990) (hP : ∀ F u, P F u → sx_ag u = 0 ∧ sx_st u = -1) (out : ∀ u Q, P s u → (∀ u', dq_OK dl tk tv n u' → sx_st u' = 4 → sx_sp u' = nI s → Q u') → wpX_startExpr Q u) (hs : s = 400) : sp_T dl tk tv n t s P := by
  refine ⟨401, 0, 0, -1, fun _ => False, fun _ => 0, fun _ => 0, fun _ => 0, by omega, by omega, by decide, fun i z => False.elim z, Or.inl rfl, fun F u post fx h1 h2 hu hx => ?_⟩
  obtain ⟨f, rfl⟩ : ∃ f, fx = f + 1 + 1 := ⟨fx - 2, by omega⟩
  obtain ⟨p1, p2⟩ := hP F u hu
  have z : s = F := by omega
  subst z
  exact ⟨fun _ hp => sp_xE (by omega) p1 p2 (fun Q hQ => out u Q hu (fun u' b1 b2 b3 => hQ u' (sp_xend (r := 4) (by omega) (by decide) b2 (hp u' b1 b3)))), fun z => by omega⟩
/-- a turn that answers -/
theorem sp_Rs (ht : t < 990) (hP : ∀ F u, P F u → sx_ag u = 1 ∧ sx_st u = -1) (step : ∀ F u Q, F ≤ 400 → P F u → (∀ u1, P1 F u1 → Q u1) → wpX_handOverAnswer Q u) (N : sp_T dl tk tv n (t + 1) s P1) : sp_T dl tk tv n t s P := by
  obtain ⟨se, r, md, w, VP, vk, vf, vs, a1, a2, a3, a4, a5, N⟩ := N
  refine ⟨se, r, md, w, VP, vk, vf, vs, a1, a2, a3, a4, a5, fun F u post fx h1 h2 hu hx => ?_⟩
  obtain ⟨f, rfl⟩ : ∃ f, fx = f + 1 := ⟨fx - 1, by omega⟩
  obtain ⟨p1, p2⟩ := hP F u hu
  exact ⟨fun hl hp => sp_xR (by omega) p1 p2 (fun Q hQ => step F u Q h2 hu (fun u1 b => hQ u1 ((N F u1 post f h1 h2 b (by omega)).1 hl hp))), fun hl hp => sp_xR (by omega) p1 p2 (fun Q hQ => step F u Q h2 hu (fun u1 b => hQ u1 ((N F u1 post f h1 h2 b (by omega)).2 hl hp)))⟩
/-- the turn that ends a run -/
theorem sp_Rf {r md w : Int32} {VP : Nat → Prop} {vk vf vs : Nat → Int32} (ht : t < 990) (hs : 1 ≤ s) (hr : r ≠ 4) (hr1 : ¬ r = -1) (G : fq_G (tk_K tk n) (sk_f (tk_K tk n) n) n VP vk vf vs) (hw : w = -1 ∨ ∃ a, w = nI a ∧ VP a)
    (hP : ∀ F u, P F u → sx_ag u = 1 ∧ sx_st u = -1) (fin : ∀ F u Q, F ≤ 400 → P F u → (∀ u', fq_S dl tk tv n r s md VP vk vf vs w w u' → Q u') → wpX_handOverAnswer Q u) : sp_T dl tk tv n t s P := by
  refine ⟨s, r, md, w, VP, vk, vf, vs, Nat.le_refl _, hs, hr, G, hw, fun F u post fx h1 h2 hu hx => ?_⟩
  obtain ⟨f, rfl⟩ : ∃ f, fx = f + 1 + 1 := ⟨fx - 2, by omega⟩
  obtain ⟨p1, p2⟩ := hP F u hu
  exact ⟨fun z => by omega, fun _ hp => sp_xR (by omega) p1 p2 (fun Q hQ => fin F u Q h2 hu (fun u' b => hQ u' (sp_xend (r := r) (by omega) hr1 (fq_st b) (hp u' b))))⟩
end
end
section
/-- the program, as the picture has it: roles, scopes, hops -/
def pq_F (xtk xtv : Nat → Int32) (n : Nat) (R sc : Nat → Int32) (h : Nat → Nat) (par : Nat → Nat) : Prop :=
  tk_ok xtk n ∧ (∀ i, i < n → tk_K xtk n i ≠ 2 → dp_I (tk_K xtk n) i (sk_f (tk_K xtk n) n i)) ∧ rw_W (tk_K xtk n) xtv (sk_f (tk_K xtk n) n) n n R par ∧ (∀ i, i < n → R i = 1 → tk_K xtk n i = 1 → sc_L (tk_K xtk n) (sk_f (tk_K xtk n) n) sc i) ∧
  (∀ i, i < n → R i = 1 → tk_K xtk n i = 4 → ∃ l, sc_H n sc l (sc i) ∧ h i < l.length ∧ l.length ≤ i)
/-- an object's own program -/
def sg_P (xtk xtv : Nat → Int32) (n : Nat) (R : Nat → Int32) (h : Nat → Nat) (xaf xro xsc xho : Nat → Int32) : Prop :=
  xb_A (tk_K xtk n) n xaf ∧ (∀ i, i < n → R i = 1 → tk_K xtk n i = 4 → xho i = nI (h i)) ∧ (∀ vk vf vs, lt_L (tk_K xtk n) xtv (sk_f (tk_K xtk n) n) R vk vf vs n → cp_P xtk xtv n xaf xro xsc xho vk vf vs)
/-- the object agrees with the picture where the picture lives -/
def sg_A (xtk xtv : Nat → Int32) (n : Nat) (R : Nat → Int32) (h : Nat → Nat) (VP : Nat → Prop) (cc fc oc : Nat) (pvk pvf pvs pcv pco pff pfp pfe pfb pop xaf xro xsc xho xvk xvf xvs xcv xco xff xfp xfe xfb xop : Nat → Int32) : Prop :=
  sg_P xtk xtv n R h xaf xro xsc xho ∧ lt_L (tk_K xtk n) xtv (sk_f (tk_K xtk n) n) R xvk xvf xvs n ∧ (∀ i, VP i → ag_V pvk pvf pvs xvk xvf xvs i) ∧ (∀ c, c < cc → xcv c = pcv c ∧ xco c = pco c) ∧
  (∀ i, i < fc → xff i = pff i ∧ xfp i = pfp i ∧ xfe i = pfe i ∧ xfb i = pfb i) ∧ (∀ i, i < oc → xop i = pop i)
def sg_E (dl : Int32) (xtk xtv : Nat → Int32) (n : Nat) (R : Nat → Int32) (h : Nat → Nat) (VP : Nat → Prop) (vc cc fc oc s q : Nat) (pen pac pmd : Int32) (pvk pvf pvs pcv pco pff pfp pfe pfb pop : Nat → Int32) (F : Nat) (u : SX) : Prop :=
  ∃ (xan : Int32) (xaf xro xsc xho xvk xvf xvs xcv xco xff xfp xfe xfb xop : Nat → Int32), u = (dl, nI n, 1, nI vc, nI cc, nI fc, nI oc, 0, xan, nI q, pen, nI F, pac, -1, nI s, pmd, -1, -1, xtk, xtv, xaf, xro, xsc, xho, xvk, xvf, xvs, xcv, xco, xff, xfp, xfe, xfb, xop) ∧
    sg_A xtk xtv n R h VP cc fc oc pvk pvf pvs pcv pco pff pfp pfe pfb pop xaf xro xsc xho xvk xvf xvs xcv xco xff xfp xfe xfb xop
def sg_R (dl : Int32) (xtk xtv : Nat → Int32) (n : Nat) (R : Nat → Int32) (h : Nat → Nat) (VP : Nat → Prop) (vc cc fc oc s va : Nat) (pac pmd : Int32) (pvk pvf pvs pcv pco pff pfp pfe pfb pop : Nat → Int32) (F : Nat) (u : SX) : Prop :=
  ∃ (xex xen : Int32) (xaf xro xsc xho xvk xvf xvs xcv xco xff xfp xfe xfb xop : Nat → Int32), u = (dl, nI n, 1, nI vc, nI cc, nI fc, nI oc, 1, nI va, xex, xen, nI F, pac, -1, nI s, pmd, -1, -1, xtk, xtv, xaf, xro, xsc, xho, xvk, xvf, xvs, xcv, xco, xff, xfp, xfe, xfb, xop) ∧
    sg_A xtk xtv n R h VP cc fc oc pvk pvf pvs pcv pco pff pfp pfe pfb pop xaf xro xsc xho xvk xvf xvs xcv xco xff xfp xfe xfb xop
/-- the invariant of the picture -/
def pi_I (K a : Nat → Nat) (R sc : Nat → Int32) (n ans : Nat) (VP : Nat → Prop) (nm : Nat → Nat) (vc cc fc oc u s t : Nat) (pvk pvf pvs pcv pco pff pfp pfe pfb pop : Nat → Int32) : Prop :=
  hp_B K R sc n VP nm vc cc cc pvk pvf pvs pcv pco ∧ vo_R VP pop oc ∧ fp_R K a R sc n nm cc pff pfp pfe pfb fc oc u ∧ sn_N vc cc fc oc u s t ans
def sp_ET (dl : Int32) (xtk xtv : Nat → Int32) (n : Nat) (R sc : Nat → Int32) (h : Nat → Nat) (d : Nat) : Prop :=
  ∀ (VP : Nat → Prop) (nm : Nat → Nat) (vc cc fc oc u s t q : Nat) (pen pac pmd : Int32) (pvk pvf pvs pcv pco pff pfp pfe pfb pop : Nat → Int32), t + d = 900 → (pi_I (tk_K xtk n) (sk_f (tk_K xtk n) n) R sc n 0 VP nm vc cc fc oc u s t pvk pvf pvs pcv pco pff pfp pfe pfb pop) → q < n → R q = 1 → hp_E nm cc pen (sc q) → sp_T dl xtk xtv n t s (sg_E dl xtk xtv n R h VP vc cc fc oc s q pen pac pmd pvk pvf pvs pcv pco pff pfp pfe pfb pop)
def sp_RT (dl : Int32) (xtk xtv : Nat → Int32) (n : Nat) (R sc : Nat → Int32) (h : Nat → Nat) (d : Nat) : Prop :=
  ∀ (VP : Nat → Prop) (nm : Nat → Nat) (vc cc fc oc u s t va : Nat) (pac pmd : Int32) (pvk pvf pvs pcv pco pff pfp pfe pfb pop : Nat → Int32), t + d = 900 → (pi_I (tk_K xtk n) (sk_f (tk_K xtk n) n) R sc n 1 VP nm vc cc fc oc u s t pvk pvf pvs pcv pco pff pfp pfe pfb pop) → VP va → sp_T dl xtk xtv n t s (sg_R dl xtk xtv n R h VP vc cc fc oc s va pac pmd pvk pvf pvs pcv pco pff pfp pfe pfb pop)
section
variable {dl : Int32} {xtk xtv : Nat → Int32} {n : Nat} {R sc : Nat → Int32} {h : Nat → Nat} {par : Nat → Nat} {VP : Nat → Prop} {nm : Nat → Nat} {vc cc fc oc u s t q va d : Nat} {pen pac pmd : Int32} {pvk pvf pvs pcv pco pff pfp pfe pfb pop : Nat → Int32}
theorem sg_Eh (F : Nat) (u : SX) (hu : (sg_E dl xtk xtv n R h VP vc cc fc oc s q pen pac pmd pvk pvf pvs pcv pco pff pfp pfe pfb pop) F u) : sx_ag u = 0 ∧ sx_st u = -1 := by
  obtain ⟨xan, xaf, xro, xsc, xho, xvk, xvf, xvs, xcv, xco, xff, xfp, xfe, xfb, xop, e, _⟩ := hu
  rw [e]; exact ⟨rfl, rfl⟩
theorem sg_Rh (F : Nat) (u : SX) (hu : (sg_R dl xtk xtv n R h VP vc cc fc oc s va pac pmd pvk pvf pvs pcv pco pff pfp pfe pfb pop) F u) : sx_ag u = 1 ∧ sx_st u = -1 := by
  obtain ⟨xex, xen, xaf, xro, xsc, xho, xvk, xvf, xvs, xcv, xco, xff, xfp, xfe, xfb, xop, e, _⟩ := hu
  rw [e]; exact ⟨rfl, rfl⟩
theorem sg_out (u : SX) (Q : SX → Prop) (hu : (sg_E dl xtk xtv n R h VP vc cc fc oc s q pen pac pmd pvk pvf pvs pcv pco pff pfp pfe pfb pop) s u) (hQ : ∀ u', dq_OK dl xtk xtv n u' → sx_st u' = 4 → sx_sp u' = nI s → Q u') : wpX_startExpr Q u := by
  obtain ⟨xan, xaf, xro, xsc, xho, xvk, xvf, xvs, xcv, xco, xff, xfp, xfe, xfb, xop, rfl, A⟩ := hu
  exact xr_fuel rfl (hQ _ ⟨_, _, _, _, _, _, _, _, _, _, _, _, _, _, _,  _, _, _, _, _, _, _, _, _, _, _, _, _, _,  rfl, A.1.2.2 _ _ _ A.2.1⟩ rfl rfl)
theorem te_lit (PG : pq_F xtk xtv n R sc h par) (I : (pi_I (tk_K xtk n) (sk_f (tk_K xtk n) n) R sc n 0 VP nm vc cc fc oc u s t pvk pvf pvs pcv pco pff pfp pfe pfb pop)) (hq : q < n) (k3 : tk_K xtk n q = 3 ∨ tk_K xtk n q = 5) (ht : t + (d + 1) = 900) (hs4 : s < 400) (IH : sp_RT dl xtk xtv n R sc h d) : sp_T dl xtk xtv n t s (sg_E dl xtk xtv n R h VP vc cc fc oc s q pen pac pmd pvk pvf pvs pcv pco pff pfp pfe pfb pop) := by
  obtain ⟨B, O, Rf, N⟩ := I
  have H := PG.1
  unfold sn_N at N
  refine sp_Es (by omega) sg_Eh sg_out (fun F u Q hs hF hu hQ => ?_) (IH VP nm vc cc fc oc u (s + 1) (t + 1) q pac pmd pvk pvf pvs pcv pco pff pfp pfe pfb pop (by omega) ⟨B, O, Rf, by unfold sn_N; omega⟩ (B.2.2 q (Or.inl ⟨hq, by omega⟩)))
  obtain ⟨xan, xaf, xro, xsc, xho, xvk, xvf, xvs, xcv, xco, xff, xfp, xfe, xfb, xop, rfl, A⟩ := hu
  exact xr_lit H hq k3 hs hF (hQ _ ⟨_, _, _, _, _, _, _, _, _, _, _, _, _, _, _, _,  rfl, A⟩)
theorem te_sym (PG : pq_F xtk xtv n R sc h par) (I : (pi_I (tk_K xtk n) (sk_f (tk_K xtk n) n) R sc n 0 VP nm vc cc fc oc u s t pvk pvf pvs pcv pco pff pfp pfe pfb pop)) (hq : q < n) (rq : R q = 1) (k4 : tk_K xtk n q = 4) (hE : hp_E nm cc pen (sc q)) (ht : t + (d + 1) = 900) (hs4 : s < 400) (IH : sp_RT dl xtk xtv n R sc h d) : sp_T dl xtk xtv n t s (sg_E dl xtk xtv n R h VP vc cc fc oc s q pen pac pmd pvk pvf pvs pcv pco pff pfp pfe pfb pop) := by
  obtain ⟨B, O, Rf, N⟩ := I
  have H := PG.1
  have H1 := H.1
  unfold sn_N at N
  obtain ⟨l, p1, p2, p3⟩ := PG.2.2.2.2 q hq rq k4
  obtain ⟨i, hi, w⟩ := hp_walk H1 (by omega) B l (h q) pen (sc q) p1 p2 hE
  obtain ⟨a, v1, v2⟩ := (B.2.1 i hi).2.2 hi
  refine sp_Es (by omega) sg_Eh sg_out (fun F u Q hs hF hu hQ => ?_) (IH VP nm vc cc fc oc u (s + 1) (t + 1) a pac pmd pvk pvf pvs pcv pco pff pfp pfe pfb pop (by omega) ⟨B, O, Rf, by unfold sn_N; omega⟩ v2)
  obtain ⟨xan, xaf, xro, xsc, xho, xvk, xvf, xvs, xcv, xco, xff, xfp, xfe, xfb, xop, rfl, A⟩ := hu
  have e : xcv i = nI a := ((A.2.2.2.1 i hi).1).trans v1
  refine xr_sym H hq k4 hs hF (by omega) (by omega) (A.1.2.1 q hq rq k4) (w xco (fun c hc => (A.2.2.2.1 c hc).2)) ?_
  rw [e]
  exact hQ _ ⟨_, _, _, _, _, _, _, _, _, _, _, _, _, _, _, _,  rfl, A⟩
theorem te_quote (PG : pq_F xtk xtv n R sc h par) (I : (pi_I (tk_K xtk n) (sk_f (tk_K xtk n) n) R sc n 0 VP nm vc cc fc oc u s t pvk pvf pvs pcv pco pff pfp pfe pfb pop)) (hq : q < n) (rq : R q = 1) (k1 : tk_K xtk n q = 1) (k6 : tk_K xtk n (q + 1) = 6) (ht : t + (d + 1) = 900) (hs4 : s < 400) (IH : sp_RT dl xtk xtv n R sc h d) : sp_T dl xtk xtv n t s (sg_E dl xtk xtv n R h VP vc cc fc oc s q pen pac pmd pvk pvf pvs pcv pco pff pfp pfe pfb pop) := by
  obtain ⟨B, O, Rf, N⟩ := I
  have H := PG.1
  have H1 := H.1
  have W := PG.2.2.1
  unfold sn_N at N
  have hq1 : q + 1 < n := tk_lt (tk := xtk) (by omega)
  have hS := (W.2.1 q hq rq).1
  have lc : ls_C (tk_K xtk n) (sk_f (tk_K xtk n) n) (q + 2) 1 := by
    rcases gr_FSof hS k1 with ⟨k, l⟩ | ⟨k, l, k2, c', q'⟩ | ⟨k, l, k2, c', c1, c4, lc, bb⟩ | ⟨k, l⟩ | ⟨k, c', c4, l⟩
    · exact l
    · omega
    · omega
    · omega
    · omega
  have bd := ls_bd (K := (tk_K xtk n)) (n := n) (fun i => tk_0) lc
  have k2 := lc.1 0 (by omega)
  change tk_K xtk n (q + 2) ≠ 2 at k2
  have h2 : q + 2 < n := (bd.1 0 (by omega)).1
  have r2 : R (q + 2) = 2 := ((W.2.1 q hq rq).2.2.1 (q + 2) ⟨k1, k6, ls_M_0 k2⟩).1
  have hL : hp_L (tk_K xtk n) R n (q + 2) := by
    refine Or.inl ⟨h2, ?_⟩
    rcases (W.2.2.1 (q + 2) h2 r2).1 with z | z | z
    · exact Or.inl z
    · exact Or.inr (Or.inl z)
    · exact Or.inr (Or.inr ⟨r2, z.1⟩)
  refine sp_Es (by omega) sg_Eh sg_out (fun F u Q hs hF hu hQ => ?_) (IH VP nm vc cc fc oc u (s + 1) (t + 1) (q + 2) pac pmd pvk pvf pvs pcv pco pff pfp pfe pfb pop (by omega) ⟨B, O, Rf, by unfold sn_N; omega⟩ (B.2.2 _ hL))
  obtain ⟨xan, xaf, xro, xsc, xho, xvk, xvf, xvs, xcv, xco, xff, xfp, xfe, xfb, xop, rfl, A⟩ := hu
  exact xr_form H hq k1 hs hF (xr_quote H hq1 k6 (hQ _ ⟨_, _, _, _, _, _, _, _, _, _, _, _, _, _, _, _,  rfl, A⟩))
/-- a value is made -/
theorem ag_new {xvk xvf xvs : Nat → Int32} {k f s2 : Int32} (hlt : ∀ i, VP i → i < vc) (A : ∀ i, VP i → ag_V pvk pvf pvs xvk xvf xvs i) : ∀ i, (VP i ∨ i = vc) → ag_V (upd pvk vc k) (upd pvf vc f) (upd pvs vc s2) (upd xvk vc k) (upd xvf vc f) (upd xvs vc s2) i := fun i hi => by
  unfold ag_V
  rcases hi with hi | hi
  · have := hlt i hi
    have ne : i ≠ vc := by omega
    rw [pk_un ne, pk_un ne, pk_un ne, pk_un ne, pk_un ne, pk_un ne]
    exact A i hi
  · subst hi
    rw [pk_us, pk_us, pk_us, pk_us, pk_us, pk_us]
    exact ⟨rfl, fun _ => rfl, fun _ => rfl⟩
theorem lt_new {K a : Nat → Nat} {V r xvk xvf xvs : Nat → Int32} {k f s2 : Int32} (hv : 128 ≤ vc) (hn : n ≤ 64) (L : lt_L K V a r xvk xvf xvs n) : lt_L K V a r (upd xvk vc k) (upd xvf vc f) (upd xvs vc s2) n :=
  lt_Lk L (fun i hi => ⟨⟨pk_un (by omega), pk_un (by omega), pk_un (by omega)⟩, ⟨pk_un (by omega), pk_un (by omega), pk_un (by omega)⟩⟩)
theorem hp_new {K : Nat → Nat} {lo : Nat} {k f s2 : Int32} (hV : hp_V K R sc n (fun i => VP i ∨ i = vc) nm cc (upd pvk vc k) (upd pvf vc f) (upd pvs vc s2) vc) (B : hp_B K R sc n VP nm vc cc lo pvk pvf pvs pcv pco) : hp_B K R sc n (fun i => VP i ∨ i = vc) nm (vc + 1) cc lo (upd pvk vc k) (upd pvf vc f) (upd pvs vc s2) pcv pco := by
  refine hp_add (by omega) (fun a z => Or.inl z) (fun i hi => ⟨pk_un (by omega), pk_un (by omega), pk_un (by omega)⟩) (fun _ _ => ⟨rfl, rfl⟩) (fun i z => ?_) B
  rcases z with z | z
  · exact Or.inl z
  · subst z; exact Or.inr ⟨by omega, hV⟩
theorem te_lam (PG : pq_F xtk xtv n R sc h par) (I : (pi_I (tk_K xtk n) (sk_f (tk_K xtk n) n) R sc n 0 VP nm vc cc fc oc u s t pvk pvf pvs pcv pco pff pfp pfe pfb pop)) (hq : q < n) (rq : R q = 1) (k1 : tk_K xtk n q = 1) (k7 : tk_K xtk n (q + 1) = 7) (hE : hp_E nm cc pen (sc q)) (ht : t + (d + 1) = 900) (hs4 : s < 400) (IH : sp_RT dl xtk xtv n R sc h d) : sp_T dl xtk xtv n t s (sg_E dl xtk xtv n R h VP vc cc fc oc s q pen pac pmd pvk pvf pvs pcv pco pff pfp pfe pfb pop) := by
  obtain ⟨B, O, Rf, N⟩ := I
  have H := PG.1
  have H1 := H.1
  unfold sn_N at N
  have hq1 : q + 1 < n := tk_lt (tk := xtk) (by omega)
  refine sp_Es (by omega) sg_Eh sg_out (fun F u Q hs hF hu hQ => ?_) (IH (fun i => VP i ∨ i = vc) nm (vc + 1) cc fc oc u (s + 1) (t + 1) vc pac pmd (upd pvk vc 4) (upd pvf vc (nI q)) (upd pvs vc pen) pcv pco pff pfp pfe pfb pop (by omega) ⟨hp_new ?_ B, vo_m (fun a z => Or.inl z) (fun _ _ => rfl) O, Rf, by unfold sn_N; omega⟩ (Or.inr rfl))
  · obtain ⟨xan, xaf, xro, xsc, xho, xvk, xvf, xvs, xcv, xco, xff, xfp, xfe, xfb, xop, rfl, A⟩ := hu
    exact xr_form H hq k1 hs hF (xr_lam H hq1 k7 (by omega) (hQ _ ⟨_, _, _, _, _, _, _, _, _, _, _, _, _, _, _, _,  rfl, A.1, lt_new (by omega) H1 A.2.1, ag_new (fun i hi => (B.1 i hi).1) A.2.2.1, A.2.2.2⟩))
  · exact Or.inr (Or.inr (Or.inr ⟨pk_us, q, hq, rq, k1, k7, pk_us, by rw [pk_us]; exact hE⟩))
end
end
section
theorem up_c {f g : Nat → Int32} {m k : Nat} {v : Int32} (h : ∀ i, i < m → f i = g i) (i : Nat) (hi : i < m) : upd f k v i = upd g k v i := by
  by_cases z : i = k
  · subst z; rw [pk_us, pk_us]
  · rw [pk_un z, pk_un z]; exact h i hi
theorem up_s {f g : Nat → Int32} {m : Nat} {v : Int32} (h : ∀ i, i < m → f i = g i) (i : Nat) (hi : i < m + 1) : upd f m v i = upd g m v i := by
  by_cases z : i = m
  · subst z; rw [pk_us, pk_us]
  · rw [pk_un z, pk_un z]; exact h i (by omega)
/-- cells: on the object as in the picture -/
theorem up_v {f g val val' : Nat → Int32} {cc k : Nat} (h : ∀ i, i < cc → f i = g i) (hv : ∀ i, i < k → val i = val' i) (c : Nat) (hc : c < cc + k) : xc_v f val cc k c = xc_v g val' cc k c := by
  rcases Nat.lt_or_ge c cc with z | z
  · rw [xc_vn z, xc_vn z]; exact h c z
  · obtain ⟨i, rfl⟩ : ∃ i, c = cc + i := ⟨c - cc, by omega⟩
    rw [xc_vs (by omega), xc_vs (by omega)]; exact hv i (by omega)
section
variable {dl : Int32} {xtk xtv : Nat → Int32} {n : Nat} {R sc : Nat → Int32} {h : Nat → Nat} {par : Nat → Nat} {VP : Nat → Prop} {nm : Nat → Nat} {vc cc fc oc u s t q d : Nat} {pen pac pmd : Int32} {pvk pvf pvs pcv pco pff pfp pfe pfb pop : Nat → Int32}
theorem te_open {p : Nat} (PG : pq_F xtk xtv n R sc h par) (I : (pi_I (tk_K xtk n) (sk_f (tk_K xtk n) n) R sc n 0 VP nm vc cc fc oc u s t pvk pvf pvs pcv pco pff pfp pfe pfb pop)) (hq : q < n) (k1 : tk_K xtk n q = 1) (k9 : tk_K xtk n (q + 1) ≠ 9) (hp : xp_1 (tk_K xtk n) (sk_f (tk_K xtk n) n) n q p) (hpn : p < n) (rp : R p = 1) (sp : sc p = sc q) (hE : hp_E nm cc pen (sc q))
    (hW : fp_W (tk_K xtk n) (sk_f (tk_K xtk n) n) R sc n nm cc (upd pff fc (nI q)) (upd pfp fc (nI p)) (upd pfe fc pen) (upd pfb fc (nI oc)) fc oc 0 q) (ht : t + (d + 1) = 900) (hs4 : s < 400) (IH : sp_ET dl xtk xtv n R sc h d) : sp_T dl xtk xtv n t s (sg_E dl xtk xtv n R h VP vc cc fc oc s q pen pac pmd pvk pvf pvs pcv pco pff pfp pfe pfb pop) := by
  obtain ⟨B, O, Rf, N⟩ := I
  have H := PG.1
  have H1 := H.1
  unfold sn_N at N
  have hq1 : q + 1 < n := by
    rcases hp with ⟨k, _⟩ | ⟨k, _⟩ | ⟨k, k2, l, _⟩
    · exact tk_lt (tk := xtk) (by omega)
    · exact tk_lt (tk := xtk) (by omega)
    · have := sk_gt (K := (tk_K xtk n)) (n := n) (fun i => tk_0) (q + 1)
      omega
  refine sp_Es (by omega) sg_Eh sg_out (fun F u Q hs hF hu hQ => ?_) (IH VP nm vc cc (fc + 1) oc (u + 1) (s + 1) (t + 1) p pen pac pmd pvk pvf pvs pcv pco (upd pff fc (nI q)) (upd pfp fc (nI p)) (upd pfe fc pen) (upd pfb fc (nI oc)) pop (by omega) ⟨B, O, Or.inr ⟨oc, 0, u, q, rfl, rfl, hW, fp_k (Nat.le_refl _) (fun _ _ => rfl) (fun i hi => ⟨pk_un (by omega), pk_un (by omega), pk_un (by omega), pk_un (by omega)⟩) Rf⟩, by unfold sn_N; omega⟩ hpn rp (by rw [sp]; exact hE))
  obtain ⟨xan, xaf, xro, xsc, xho, xvk, xvf, xvs, xcv, xco, xff, xfp, xfe, xfb, xop, rfl, A⟩ := hu
  have Af := A.2.2.2.2.1
  exact xr_form H hq k1 hs hF (xr_open H A.1.1 hq1 hp k9 (by omega) (hQ _ ⟨_, _, _, _, _, _, _, _, _, _, _, _, _, _, _,  rfl, A.1, A.2.1, A.2.2.1, A.2.2.2.1, fun i hi => ⟨up_s (fun j hj => (Af j hj).1) i hi, up_s (fun j hj => (Af j hj).2.1) i hi, up_s (fun j hj => (Af j hj).2.2.1) i hi, up_s (fun j hj => (Af j hj).2.2.2) i hi⟩, A.2.2.2.2.2⟩))
theorem te_if (PG : pq_F xtk xtv n R sc h par) (I : (pi_I (tk_K xtk n) (sk_f (tk_K xtk n) n) R sc n 0 VP nm vc cc fc oc u s t pvk pvf pvs pcv pco pff pfp pfe pfb pop)) (hq : q < n) (rq : R q = 1) (k1 : tk_K xtk n q = 1) (k10 : tk_K xtk n (q + 1) = 10) (hE : hp_E nm cc pen (sc q)) (ht : t + (d + 1) = 900) (hs4 : s < 400) (IH : sp_ET dl xtk xtv n R sc h d) : sp_T dl xtk xtv n t s (sg_E dl xtk xtv n R h VP vc cc fc oc s q pen pac pmd pvk pvf pvs pcv pco pff pfp pfe pfb pop) := by
  obtain ⟨lc, st, _⟩ := st_op (K := (tk_K xtk n)) (n := n) (fun i => tk_0) PG.2.1 PG.2.2.1 PG.2.2.2.1 hq rq k1 (by omega)
  have st0 := st 0 (by rw [k10]; decide)
  have st5 : sc (q + 2) = sc q := st0.2.2.2.2
  exact te_open PG I hq k1 (by omega) (Or.inr (Or.inl ⟨by omega, rfl⟩)) st0.1 st0.2.1 st5 hE ⟨hq, rq, k1, pk_us, pk_us, by rw [pk_us]; exact hE, Or.inl ⟨k10, rfl, pk_us⟩⟩ ht hs4 IH
theorem te_op (PG : pq_F xtk xtv n R sc h par) (I : (pi_I (tk_K xtk n) (sk_f (tk_K xtk n) n) R sc n 0 VP nm vc cc fc oc u s t pvk pvf pvs pcv pco pff pfp pfe pfb pop)) (hq : q < n) (rq : R q = 1) (k1 : tk_K xtk n q = 1) (k11 : 11 ≤ tk_K xtk n (q + 1)) (hE : hp_E nm cc pen (sc q)) (ht : t + (d + 1) = 900) (hs4 : s < 400) (IH : sp_ET dl xtk xtv n R sc h d) : sp_T dl xtk xtv n t s (sg_E dl xtk xtv n R h VP vc cc fc oc s q pen pac pmd pvk pvf pvs pcv pco pff pfp pfe pfb pop) := by
  obtain ⟨lc, st, _⟩ := st_op (K := (tk_K xtk n)) (n := n) (fun i => tk_0) PG.2.1 PG.2.2.1 PG.2.2.2.1 hq rq k1 (by omega)
  have g13 := gr_n13 (tk_K xtk n (q + 1))
  have st0 := st 0 (by omega)
  have st5 : sc (q + 2) = sc q := st0.2.2.2.2
  exact te_open PG I hq k1 (by omega) (Or.inr (Or.inl ⟨by omega, rfl⟩)) st0.1 st0.2.1 st5 hE ⟨hq, rq, k1, pk_us, pk_us, by rw [pk_us]; exact hE, Or.inr (Or.inl ⟨k11, by omega, pk_us⟩)⟩ ht hs4 IH
theorem te_let (PG : pq_F xtk xtv n R sc h par) (I : (pi_I (tk_K xtk n) (sk_f (tk_K xtk n) n) R sc n 0 VP nm vc cc fc oc u s t pvk pvf pvs pcv pco pff pfp pfe pfb pop)) (hq : q < n) (rq : R q = 1) (k1 : tk_K xtk n q = 1) (k8 : tk_K xtk n (q + 1) = 8) (hE : hp_E nm cc pen (sc q)) (ht : t + (d + 1) = 900) (hs4 : s < 400) (IH : sp_ET dl xtk xtv n R sc h d) : sp_T dl xtk xtv n t s (sg_E dl xtk xtv n R h VP vc cc fc oc s q pen pac pmd pvk pvf pvs pcv pco pff pfp pfe pfb pop) := by
  obtain ⟨c, c1, c4, lc, st, _⟩ := st_let (K := (tk_K xtk n)) (n := n) (fun i => tk_0) PG.2.1 PG.2.2.1 PG.2.2.2.1 hq rq k1 (Or.inl k8)
  obtain ⟨b1, b2, b3, b4, b5, b6, b7, b8, b9, b10⟩ := st 0 (by omega)
  rw [if_neg (by omega)] at b8
  exact te_open (p := q + 5) PG I hq k1 (by omega) (Or.inl ⟨Or.inl k8, rfl⟩) b2 b3 b8 hE ⟨hq, rq, k1, pk_us, pk_us, by rw [pk_us]; exact hE, Or.inr (Or.inr (Or.inl ⟨k8, ⟨c, lc, by omega⟩, pk_us⟩))⟩ ht hs4 IH
theorem te_app (PG : pq_F xtk xtv n R sc h par) (I : (pi_I (tk_K xtk n) (sk_f (tk_K xtk n) n) R sc n 0 VP nm vc cc fc oc u s t pvk pvf pvs pcv pco pff pfp pfe pfb pop)) (hq : q < n) (rq : R q = 1) (k1 : tk_K xtk n q = 1) (k6 : tk_K xtk n (q + 1) < 6) (hE : hp_E nm cc pen (sc q)) (ht : t + (d + 1) = 900) (hs4 : s < 400) (IH : sp_ET dl xtk xtv n R sc h d) : sp_T dl xtk xtv n t s (sg_E dl xtk xtv n R h VP vc cc fc oc s q pen pac pmd pvk pvf pvs pcv pco pff pfp pfe pfb pop) := by
  obtain ⟨c, c4, lc, st, hend⟩ := st_app (K := (tk_K xtk n)) (n := n) (fun i => tk_0) PG.2.1 PG.2.2.1 PG.2.2.2.1 hq rq k1 k6
  obtain ⟨a1, a2, a3, a4, a5⟩ := st 0 (by omega)
  change q + 1 < n at a1
  change R (q + 1) = 1 at a2
  change tk_K xtk n (q + 1) ≠ 2 at a3
  change sc (q + 1) = sc q at a5
  by_cases c0 : c = 0
  · subst c0
    have ke : tk_K xtk n (sk_f (tk_K xtk n) n (q + 1)) = 2 := lc.2
    have hend : sk_f (tk_K xtk n) n (q + 1) < n := hend
    exact te_open (p := q + 1) PG I hq k1 (by omega) (Or.inr (Or.inr ⟨k6, a3, hend, Or.inl ⟨ke, rfl⟩⟩)) a1 a2 a5 hE ⟨hq, rq, k1, pk_us, pk_us, by rw [pk_us]; exact hE, Or.inr (Or.inr (Or.inr ⟨k6, 0, lc, Or.inr ⟨rfl, pk_us⟩⟩))⟩ ht hs4 IH
  · obtain ⟨b1, b2, b3, b4, b5⟩ := st 1 (by omega)
    change sk_f (tk_K xtk n) n (q + 1) < n at b1
    change R (sk_f (tk_K xtk n) n (q + 1)) = 1 at b2
    change tk_K xtk n (sk_f (tk_K xtk n) n (q + 1)) ≠ 2 at b3
    change sc (sk_f (tk_K xtk n) n (q + 1)) = sc q at b5
    exact te_open (p := sk_f (tk_K xtk n) n (q + 1)) PG I hq k1 (by omega) (Or.inr (Or.inr ⟨k6, a3, b1, Or.inr ⟨b3, rfl⟩⟩)) b1 b2 b5 hE ⟨hq, rq, k1, pk_us, pk_us, by rw [pk_us]; exact hE, Or.inr (Or.inr (Or.inr ⟨k6, c, lc, Or.inl ⟨by omega, pk_us⟩⟩))⟩ ht hs4 IH
end
end
section
/-! an answer is there -/
def tj_J (K a : Nat → Nat) (R sc : Nat → Int32) (n : Nat) (VP : Nat → Prop) (nm : Nat → Nat) (vc cc x b k q u1 s t va : Nat) (pvk pvf pvs pcv pco pff pfp pfe pfb pop : Nat → Int32) : Prop :=
  hp_B K R sc n VP nm vc cc cc pvk pvf pvs pcv pco ∧ vo_R VP pop (b + k) ∧ fp_W K a R sc n nm cc pff pfp pfe pfb x b k q ∧ fp_R K a R sc n nm cc pff pfp pfe pfb x b u1 ∧ sn_N vc cc (x + 1) (b + k) (u1 + 1) s t 1 ∧ VP va
section
variable {dl : Int32} {xtk xtv : Nat → Int32} {n : Nat} {R sc : Nat → Int32} {h : Nat → Nat} {par : Nat → Nat} {VP : Nat → Prop} {nm : Nat → Nat} {vc cc fc oc u s t va d x b k q u1 : Nat} {pac pmd : Int32} {pvk pvf pvs pcv pco pff pfp pfe pfb pop : Nat → Int32}
theorem tr_G (PG : pq_F xtk xtv n R sc h par) (hv : vc ≤ 528) (B : hp_B (tk_K xtk n) R sc n VP nm vc cc cc pvk pvf pvs pcv pco) : fq_G (tk_K xtk n) (sk_f (tk_K xtk n) n) n VP pvk pvf pvs := fun i hi => by
  obtain ⟨b1, b2⟩ := B.1 i hi
  refine ⟨by omega, ?_⟩
  rcases b2 with w | w | w | ⟨w, q, hq, rq, k1, k7, e, _⟩
  · exact Or.inl w
  · exact Or.inr (Or.inl w)
  · exact Or.inr (Or.inr (Or.inl w))
  · obtain ⟨c, c4, P, lc, _, l3, _⟩ := st_lam (K := (tk_K xtk n)) (n := n) (fun i => tk_0) PG.2.1 PG.2.2.1 PG.2.2.2.1 hq rq k1 k7
    exact Or.inr (Or.inr (Or.inr ⟨w, q, c, by omega, e, lc, c4⟩))
theorem tr_fin (PG : pq_F xtk xtv n R sc h par) (I : (pi_I (tk_K xtk n) (sk_f (tk_K xtk n) n) R sc n 1 VP nm vc cc 0 oc u s t pvk pvf pvs pcv pco pff pfp pfe pfb pop)) (v : VP va) : sp_T dl xtk xtv n t s (sg_R dl xtk xtv n R h VP vc cc 0 oc s va pac pmd pvk pvf pvs pcv pco pff pfp pfe pfb pop) := by
  obtain ⟨B, O, Rf, N⟩ := I
  unfold sn_N at N
  refine sp_Rf (r := 0) (md := pmd) (w := nI va) (VP := VP) (vk := pvk) (vf := pvf) (vs := pvs) (by omega) (by omega) (by decide) (by decide) (tr_G PG (by omega) B) (Or.inr ⟨va, rfl, v⟩) sg_Rh (fun F u Q hF hu hQ => ?_)
  obtain ⟨xex, xen, xaf, xro, xsc, xho, xvk, xvf, xvs, xcv, xco, xff, xfp, xfe, xfb, xop, rfl, A⟩ := hu
  exact xr_fin (hQ _ ⟨_, _, _, _, _, _, _, _, _, _,  _, _, _, _, _, _, _, _, _, _, _, _, _, _,  rfl, A.1.2.2 _ _ _ A.2.1, A.2.2.1⟩)
theorem tr_ret (I : (pi_I (tk_K xtk n) (sk_f (tk_K xtk n) n) R sc n 1 VP nm vc cc (x + 1) oc u s t pvk pvf pvs pcv pco pff pfp pfe pfb pop)) (v : VP va) (Rf : fp_R (tk_K xtk n) (sk_f (tk_K xtk n) n) R sc n nm cc pff pfp pfe pfb x oc u) (hp : pfp x = -1) (ht : t + (d + 1) = 900) (IHR : sp_RT dl xtk xtv n R sc h d) : sp_T dl xtk xtv n t s (sg_R dl xtk xtv n R h VP vc cc (x + 1) oc s va pac pmd pvk pvf pvs pcv pco pff pfp pfe pfb pop) := by
  obtain ⟨B, O, _, N⟩ := I
  unfold sn_N at N
  refine sp_Rs (by omega) sg_Rh (fun F u Q hF hu hQ => ?_) (IHR VP nm vc cc x oc u s (t + 1) va (pac - 1) pmd pvk pvf pvs pcv pco pff pfp pfe pfb pop (by omega) ⟨B, O, Rf, by unfold sn_N; omega⟩ v)
  obtain ⟨xex, xen, xaf, xro, xsc, xho, xvk, xvf, xvs, xcv, xco, xff, xfp, xfe, xfb, xop, rfl, A⟩ := hu
  have Af := A.2.2.2.2.1
  exact xr_ret (by omega) ((Af x (by omega)).2.1.trans hp) (hQ _ ⟨_, _, _, _, _, _, _, _, _, _, _, _, _, _, _, _,  rfl, A.1, A.2.1, A.2.2.1, A.2.2.2.1, fun i hi => Af i (by omega), A.2.2.2.2.2⟩)
theorem tr_more {p p' : Nat} (PG : pq_F xtk xtv n R sc h par) (J : (tj_J (tk_K xtk n) (sk_f (tk_K xtk n) n) R sc n VP nm vc cc x b k q u1 s t va pvk pvf pvs pcv pco pff pfp pfe pfb pop)) (hA : xp_A (tk_K xtk n) (sk_f (tk_K xtk n) n) n q p (nI p')) (hq1 : q + 1 < n) (hfp : pfp x = nI p) (hp' : p' < n) (rp : R p' = 1) (sp' : sc p' = sc q) (hW : fp_W (tk_K xtk n) (sk_f (tk_K xtk n) n) R sc n nm cc pff (upd pfp x (nI p')) pfe pfb x b (k + 1) q) (ht : t + (d + 1) = 900) (IHE : sp_ET dl xtk xtv n R sc h d) : sp_T dl xtk xtv n t s (sg_R dl xtk xtv n R h VP vc cc (x + 1) (b + k) s va pac pmd pvk pvf pvs pcv pco pff pfp pfe pfb pop) := by
  obtain ⟨B, O, Wf, Rf, N, v⟩ := J
  obtain ⟨hq, rq, k1, w4, w5, w6, _⟩ := Wf
  have H := PG.1
  have H1 := H.1
  unfold sn_N at N
  refine sp_Rs (by omega) sg_Rh (fun F u Q hF hu hQ => ?_) (IHE VP nm vc cc (x + 1) (b + k + 1) (u1 + 1) s (t + 1) p' (pfe x) pac pmd pvk pvf pvs pcv pco pff (upd pfp x (nI p')) pfe pfb (upd pop (b + k) (nI va)) (by omega) ⟨B, vo_s (fun _ z => z) v O, Or.inr ⟨b, k + 1, u1, q, rfl, by omega, hW, fp_k (Nat.le_refl _) (fun _ _ => rfl) (fun i hi => ⟨rfl, pk_un (by omega), rfl, rfl⟩) Rf⟩, by unfold sn_N; omega⟩ hp' rp (by rw [sp']; exact w6))
  obtain ⟨xex, xen, xaf, xro, xsc, xho, xvk, xvf, xvs, xcv, xco, xff, xfp, xfe, xfb, xop, rfl, A⟩ := hu
  have Af := A.2.2.2.2.1
  have fx := Af x (by omega)
  refine xr_more H A.1.1 (p := p) (by omega) (by omega) hq1 (fx.1.trans w4) (fx.2.1.trans hfp) (by omega) hA ?_
  rw [fx.2.2.1]
  exact hQ _ ⟨_, _, _, _, _, _, _, _, _, _, _, _, _, _, _,  rfl, A.1, A.2.1, A.2.2.1, A.2.2.2.1, fun i hi => ⟨(Af i hi).1, up_c (fun j hj => (Af j hj).2.1) i hi, (Af i hi).2.2.1, (Af i hi).2.2.2⟩, up_s A.2.2.2.2.2⟩
/-- the last part has been answered: how the form is finished -/
theorem tr_last {F : Nat} {u0 : SX} {p : Nat} (PG : pq_F xtk xtv n R sc h par) (J : (tj_J (tk_K xtk n) (sk_f (tk_K xtk n) n) R sc n VP nm vc cc x b k q u1 s t va pvk pvf pvs pcv pco pff pfp pfe pfb pop)) (hA : xp_A (tk_K xtk n) (sk_f (tk_K xtk n) n) n q p (-1)) (hq1 : q + 1 < n) (hfp : pfp x = nI p) (hu : (sg_R dl xtk xtv n R h VP vc cc (x + 1) (b + k) s va pac pmd pvk pvf pvs pcv pco pff pfp pfe pfb pop) F u0) {Q : SX → Prop}
    (fin : ∀ (xex xen : Int32) (xaf xro xsc xho xvk xvf xvs xcv xco xff xfp xfe xfb xop : Nat → Int32), sg_A xtk xtv n R h VP cc (x + 1) (b + k + 1) pvk pvf pvs pcv pco pff (upd pfp x (-1)) pfe pfb (upd pop (b + k) (nI va)) xaf xro xsc xho xvk xvf xvs xcv xco xff xfp xfe xfb xop →
      wpX_finishForm Q (dl, nI n, 1, nI vc, nI cc, nI (x + 1), nI (b + k + 1), 1, nI va, xex, xen, nI F, pac, -1, nI s, pmd, -1, -1, xtk, xtv, xaf, xro, xsc, xho, xvk, xvf, xvs, xcv, xco, xff, xfp, xfe, xfb, xop) (nI x)) : wpX_handOverAnswer Q u0 := by
  obtain ⟨B, O, Wf, Rf, N, v⟩ := J
  obtain ⟨hq, rq, k1, w4, w5, w6, _⟩ := Wf
  have H := PG.1
  unfold sn_N at N
  obtain ⟨xex, xen, xaf, xro, xsc, xho, xvk, xvf, xvs, xcv, xco, xff, xfp, xfe, xfb, xop, rfl, A⟩ := hu
  have Af := A.2.2.2.2.1
  have fx := Af x (by omega)
  exact xr_last H A.1.1 (p := p) (by omega) (by omega) hq1 (fx.1.trans w4) (fx.2.1.trans hfp) hA (fin _ _ _ _ _ _ _ _ _ _ _ _ _ _ _ _  ⟨A.1, A.2.1, A.2.2.1, A.2.2.2.1, fun i hi => ⟨(Af i hi).1, up_c (fun j hj => (Af j hj).2.1) i hi, (Af i hi).2.2.1, (Af i hi).2.2.2⟩, up_s A.2.2.2.2.2⟩)
/-- a value's kind is the object's too -/
theorem ag_k {xvk xvf xvs : Nat → Int32} {a : Nat} (A : ag_V pvk pvf pvs xvk xvf xvs a) : xvk a = pvk a ∧ (pvk a = 1 → xvf a = pvf a) ∧ (pvk a = 3 → xvf a = pvf a ∧ xvs a = pvs a) ∧ (pvk a = 4 → xvf a = pvf a ∧ xvs a = pvs a) :=
  ⟨A.1, fun z => A.2.1 (by rw [z]; decide), fun z => ⟨A.2.1 (by rw [z]; decide), A.2.2 (Or.inl z)⟩, fun z => ⟨A.2.1 (by rw [z]; decide), A.2.2 (Or.inr z)⟩⟩
theorem tr_if (PG : pq_F xtk xtv n R sc h par) (J : (tj_J (tk_K xtk n) (sk_f (tk_K xtk n) n) R sc n VP nm vc cc x b k q u1 s t va pvk pvf pvs pcv pco pff pfp pfe pfb pop)) (k10 : tk_K xtk n (q + 1) = 10) (ht : t + (d + 1) = 900) (IHE : sp_ET dl xtk xtv n R sc h d) : sp_T dl xtk xtv n t s (sg_R dl xtk xtv n R h VP vc cc (x + 1) (b + k) s va pac pmd pvk pvf pvs pcv pco pff pfp pfe pfb pop) := by
  have J' := J
  obtain ⟨B, O, Wf, Rf, N, v⟩ := J
  obtain ⟨hq, rq, k1, w4, w5, w6, w7⟩ := Wf
  have H := PG.1
  have H1 := H.1
  unfold sn_N at N
  have hq1 : q + 1 < n := tk_lt (tk := xtk) (by omega)
  have w7' : k = 0 ∧ pfp x = nI (q + 2) := by
    rcases w7 with w | w | w | w
    · exact w.2
    · omega
    · omega
    · omega
  obtain ⟨k0, w7e⟩ := w7'
  subst k0
  obtain ⟨lc, st, _⟩ := st_op (K := (tk_K xtk n)) (n := n) (fun i => tk_0) PG.2.1 PG.2.2.1 PG.2.2.2.1 hq rq k1 (by omega)
  rw [k10] at lc st
  have s0 := st 0 (by decide)
  have s1 := st 1 (by decide)
  have s2 := st 2 (by decide)
  change q + 2 < n ∧ R (q + 2) = 1 ∧ tk_K xtk n (q + 2) ≠ 2 ∧ _ ∧ sc (q + 2) = sc q at s0
  change sk_f (tk_K xtk n) n (q + 2) < n ∧ R (sk_f (tk_K xtk n) n (q + 2)) = 1 ∧ tk_K xtk n (sk_f (tk_K xtk n) n (q + 2)) ≠ 2 ∧ _ ∧ sc (sk_f (tk_K xtk n) n (q + 2)) = sc q at s1
  change sk_f (tk_K xtk n) n (sk_f (tk_K xtk n) n (q + 2)) < n ∧ R (sk_f (tk_K xtk n) n (sk_f (tk_K xtk n) n (q + 2))) = 1 ∧ _ ∧ _ ∧ sc (sk_f (tk_K xtk n) n (sk_f (tk_K xtk n) n (q + 2))) = sc q at s2
  have hA : xp_A (tk_K xtk n) (sk_f (tk_K xtk n) n) n q (q + 2) (-1) := ⟨s0.1, s0.2.2.1, Or.inl ⟨k10, rfl⟩⟩
  have hva := (B.1 va v).1
  by_cases v1 : pvk va = 1
  · have key : ∀ T, (pvf va = 0 → T = sk_f (tk_K xtk n) n (sk_f (tk_K xtk n) n (q + 2))) → (pvf va ≠ 0 → T = sk_f (tk_K xtk n) n (q + 2)) → T < n → R T = 1 → sc T = sc q → sp_T dl xtk xtv n t s (sg_R dl xtk xtv n R h VP vc cc (x + 1) (b + 0) s va pac pmd pvk pvf pvs pcv pco pff pfp pfe pfb pop) := by
      intro T t1 t2 hT rT sT
      refine sp_Rs (by omega) sg_Rh (fun F u Q hF hu hQ => ?_) (IHE VP nm vc cc x b u1 s (t + 1) T (pfe x) pac pmd pvk pvf pvs pcv pco pff (upd pfp x (-1)) pfe pfb (upd pop (b + 0) (nI va)) (by omega) ⟨B, vo_m (fun _ z => z) (fun i hi => pk_un (by omega)) (vo_l (by omega) O), fp_k (Nat.le_refl _) (fun _ _ => rfl) (fun i hi => ⟨rfl, pk_un (by omega), rfl, rfl⟩) Rf, by unfold sn_N; omega⟩ hT rT (by rw [sT]; exact w6))
      refine tr_last PG J' hA hq1 w7e hu (fun xex xen xaf xro xsc xho xvk xvf xvs xcv xco xff xfp xfe xfb xop A => ?_)
      have Af := A.2.2.2.2.1
      have fx := Af x (by omega)
      have ak := ag_k (A.2.2.1 va v)
      have opb : xop b = nI va := (A.2.2.2.2.2 b (by omega)).trans pk_us
      refine xF_if H A.1.1 (by omega) (by omega) (by omega) (fx.1.trans w4) (fx.2.2.2.trans w5) k10 s0.1 s0.2.2.1 s1.1 s1.2.2.1 opb (fun z => absurd (ak.1.trans v1) z) (fun _ T' a1 a2 => ?_)
      have eT : T' = T := by
        have ef := ak.2.1 v1
        by_cases z : pvf va = 0
        · rw [a1 (ef.trans z), t1 z]
        · rw [a2 (by rw [ef]; exact z), t2 z]
      rw [eT, fx.2.2.1]
      exact hQ _ ⟨_, _, _, _, _, _, _, _, _, _, _, _, _, _, _,  rfl, A.1, A.2.1, A.2.2.1, A.2.2.2.1, fun i hi => Af i (by omega), fun i hi => A.2.2.2.2.2 i (by omega)⟩
    by_cases z : pvf va = 0
    · exact key _ (fun _ => rfl) (fun w => absurd z w) s2.1 s2.2.1 s2.2.2.2.2
    · exact key _ (fun w => absurd w z) (fun _ => rfl) s1.1 s1.2.1 s1.2.2.2.2
  · refine sp_Rf (r := 6) (md := pmd) (w := -1) (VP := fun _ => False) (vk := pvk) (vf := pvf) (vs := pvs) (by omega) (by omega) (by decide) (by decide) (fun i z => False.elim z) (Or.inl rfl) sg_Rh (fun F u Q hF hu hQ => ?_)
    refine tr_last PG J' hA hq1 w7e hu (fun xex xen xaf xro xsc xho xvk xvf xvs xcv xco xff xfp xfe xfb xop A => ?_)
    have Af := A.2.2.2.2.1
    have fx := Af x (by omega)
    have ak := ag_k (A.2.2.1 va v)
    have opb : xop b = nI va := (A.2.2.2.2.2 b (by omega)).trans pk_us
    exact xF_if H A.1.1 (by omega) (by omega) (by omega) (fx.1.trans w4) (fx.2.2.2.trans w5) k10 s0.1 s0.2.2.1 s1.1 s1.2.2.1 opb (fun _ => hQ _ ⟨_, _, _, _, _, _, _, _, _, _,  _, _, _, _, _, _, _, _, _, _, _, _, _, _,  rfl, A.1.2.2 _ _ _ A.2.1, fun i z => False.elim z⟩) (fun z => absurd (ak.1.symm.trans z) v1)
end
end
section
section
variable {dl : Int32} {xtk xtv : Nat → Int32} {n : Nat} {R sc : Nat → Int32} {h : Nat → Nat} {par : Nat → Nat} {VP : Nat → Prop} {nm : Nat → Nat} {vc cc s t va d x b k q u1 : Nat} {pac pmd : Int32} {pvk pvf pvs pcv pco pff pfp pfe pfb pop : Nat → Int32}
/-- the operator's frame -/
theorem to_f (PG : pq_F xtk xtv n R sc h par) (J : (tj_J (tk_K xtk n) (sk_f (tk_K xtk n) n) R sc n VP nm vc cc x b k q u1 s t va pvk pvf pvs pcv pco pff pfp pfe pfb pop)) (k11 : 11 ≤ tk_K xtk n (q + 1)) : q + 1 < n ∧ k < gr_n (tk_K xtk n (q + 1)) ∧ pfp x = nI (it_f (sk_f (tk_K xtk n) n) k (q + 2)) ∧
    (k + 1 < gr_n (tk_K xtk n (q + 1)) → xp_A (tk_K xtk n) (sk_f (tk_K xtk n) n) n q (it_f (sk_f (tk_K xtk n) n) k (q + 2)) (nI (it_f (sk_f (tk_K xtk n) n) (k + 1) (q + 2))) ∧ it_f (sk_f (tk_K xtk n) n) (k + 1) (q + 2) < n ∧ R (it_f (sk_f (tk_K xtk n) n) (k + 1) (q + 2)) = 1 ∧ sc (it_f (sk_f (tk_K xtk n) n) (k + 1) (q + 2)) = sc q) ∧ (k + 1 = gr_n (tk_K xtk n (q + 1)) → xp_A (tk_K xtk n) (sk_f (tk_K xtk n) n) n q (it_f (sk_f (tk_K xtk n) n) k (q + 2)) (-1)) := by
  obtain ⟨B, O, Wf, Rf, N, v⟩ := J
  obtain ⟨hq, rq, k1, w4, w5, w6, w7⟩ := Wf
  have hq1 : q + 1 < n := tk_lt (tk := xtk) (by omega)
  obtain ⟨lc, st, hend⟩ := st_op (K := (tk_K xtk n)) (n := n) (fun i => tk_0) PG.2.1 PG.2.2.1 PG.2.2.2.1 hq rq k1 (by omega)
  have w6' : k < gr_n (tk_K xtk n (q + 1)) ∧ pfp x = nI (it_f (sk_f (tk_K xtk n) n) k (q + 2)) := by
    rcases w7 with w | w | w | w
    · omega
    · exact w.2
    · omega
    · omega
  obtain ⟨w7, w8⟩ := w6'
  have s0 := st k w7
  refine ⟨hq1, w7, w8, fun z => ?_, fun z => ?_⟩
  · have s1 := st (k + 1) z
    refine ⟨⟨s0.1, s0.2.2.1, Or.inr (Or.inr (Or.inr ⟨Or.inr (by omega), by omega, ?_, Or.inl ⟨?_, ?_⟩⟩))⟩, s1.1, s1.2.1, s1.2.2.2.2⟩
    · rw [← it_s (sk_f (tk_K xtk n) n) k (q + 2)]; exact s1.1
    · rw [← it_s (sk_f (tk_K xtk n) n) k (q + 2)]; exact s1.2.2.1
    · rw [← it_s (sk_f (tk_K xtk n) n) k (q + 2)]
  · refine ⟨s0.1, s0.2.2.1, Or.inr (Or.inr (Or.inr ⟨Or.inr (by omega), by omega, ?_, Or.inr (Or.inr ⟨?_, by omega, rfl⟩)⟩))⟩
    · rw [← it_s (sk_f (tk_K xtk n) n) k (q + 2), z]; exact hend
    · rw [← it_s (sk_f (tk_K xtk n) n) k (q + 2), z]; exact lc.2
theorem to_more (PG : pq_F xtk xtv n R sc h par) (J : (tj_J (tk_K xtk n) (sk_f (tk_K xtk n) n) R sc n VP nm vc cc x b k q u1 s t va pvk pvf pvs pcv pco pff pfp pfe pfb pop)) (k11 : 11 ≤ tk_K xtk n (q + 1)) (hk : k + 1 < gr_n (tk_K xtk n (q + 1))) (ht : t + (d + 1) = 900) (IHE : sp_ET dl xtk xtv n R sc h d) : sp_T dl xtk xtv n t s (sg_R dl xtk xtv n R h VP vc cc (x + 1) (b + k) s va pac pmd pvk pvf pvs pcv pco pff pfp pfe pfb pop) := by
  obtain ⟨hq1, f1, f2, f5, _⟩ := to_f PG J k11
  obtain ⟨hA, p1, p2, p3⟩ := f5 hk
  have Wf := J.2.2.1
  obtain ⟨hq, rq, k1, w4, w5, w6, _⟩ := Wf
  exact tr_more PG J hA hq1 f2 p1 p2 p3 ⟨hq, rq, k1, w4, w5, w6, Or.inr (Or.inl ⟨k11, hk, pk_us⟩)⟩ ht IHE
/-- an operator has made a value -/
theorem to_new {kd f s2 : Int32} (PG : pq_F xtk xtv n R sc h par) (J : (tj_J (tk_K xtk n) (sk_f (tk_K xtk n) n) R sc n VP nm vc cc x b k q u1 s t va pvk pvf pvs pcv pco pff pfp pfe pfb pop)) (hV : hp_V (tk_K xtk n) R sc n (fun i => VP i ∨ i = vc) nm cc (upd pvk vc kd) (upd pvf vc f) (upd pvs vc s2) vc) (ht : t + (d + 1) = 900) (IHR : sp_RT dl xtk xtv n R sc h d) :
    sp_T dl xtk xtv n (t + 1) s (sg_R dl xtk xtv n R h (fun i => VP i ∨ i = vc) (vc + 1) cc x b s vc pac pmd (upd pvk vc kd) (upd pvf vc f) (upd pvs vc s2) pcv pco pff (upd pfp x (-1)) pfe pfb (upd pop (b + k) (nI va))) := by
  obtain ⟨B, O, Wf, Rf, N, v⟩ := J
  unfold sn_N at N
  exact IHR (fun i => VP i ∨ i = vc) nm (vc + 1) cc x b u1 s (t + 1) vc pac pmd _ _ _ pcv pco pff (upd pfp x (-1)) pfe pfb (upd pop (b + k) (nI va)) (by omega) ⟨hp_new hV B, vo_m (fun a z => Or.inl z) (fun i hi => pk_un (by omega)) (vo_l (by omega) O), fp_k (Nat.le_refl _) (fun _ _ => rfl) (fun i hi => ⟨rfl, pk_un (by omega), rfl, rfl⟩) Rf, by unfold sn_N; omega⟩ (Or.inr rfl)
/-- the object after it -/
theorem to_A {kd f s2 : Int32} {fp' op' : Nat → Int32} {xaf xro xsc xho xvk xvf xvs xcv xco xff xfp xfe xfb xop : Nat → Int32} (H1 : n ≤ 64) (hv : 128 ≤ vc) (hlt : ∀ i, VP i → i < vc) (A : sg_A xtk xtv n R h VP cc (x + 1) (b + k + 1) pvk pvf pvs pcv pco pff fp' pfe pfb op' xaf xro xsc xho xvk xvf xvs xcv xco xff xfp xfe xfb xop) :
    sg_A xtk xtv n R h (fun i => VP i ∨ i = vc) cc x b (upd pvk vc kd) (upd pvf vc f) (upd pvs vc s2) pcv pco pff fp' pfe pfb op' xaf xro xsc xho (upd xvk vc kd) (upd xvf vc f) (upd xvs vc s2) xcv xco xff xfp xfe xfb xop :=
  ⟨A.1, lt_new hv H1 A.2.1, ag_new hlt A.2.2.1, A.2.2.2.1, fun i hi => A.2.2.2.2.1 i (by omega), fun i hi => A.2.2.2.2.2 i (by omega)⟩
theorem to_cons (PG : pq_F xtk xtv n R sc h par) (J : (tj_J (tk_K xtk n) (sk_f (tk_K xtk n) n) R sc n VP nm vc cc x b k q u1 s t va pvk pvf pvs pcv pco pff pfp pfe pfb pop)) (k11 : tk_K xtk n (q + 1) = 11) (hk : k + 1 = gr_n (tk_K xtk n (q + 1))) (ht : t + (d + 1) = 900) (IHR : sp_RT dl xtk xtv n R sc h d) : sp_T dl xtk xtv n t s (sg_R dl xtk xtv n R h VP vc cc (x + 1) (b + k) s va pac pmd pvk pvf pvs pcv pco pff pfp pfe pfb pop) := by
  have H := PG.1
  have H1 := H.1
  obtain ⟨hq1, f1, f2, _, f6⟩ := to_f PG J (by omega)
  have hA := f6 hk
  rw [k11] at hk
  have k1e : k = 1 := by have : gr_n 11 = 2 := rfl; omega
  subst k1e
  have J' := J
  obtain ⟨B, O, Wf, Rf, N, v⟩ := J
  obtain ⟨hq, rq, k1, w4, w5, w6, _⟩ := Wf
  unfold sn_N at N
  obtain ⟨a0, o1, o3⟩ := O b (by omega)
  refine sp_Rs (by omega) sg_Rh (fun F u Q hF hu hQ => ?_) (to_new (pac := pac) (pmd := pmd) (kd := 3) (f := nI a0) (s2 := nI va) PG J' ?_ ht IHR)
  · refine tr_last PG J' hA hq1 f2 hu (fun xex xen xaf xro xsc xho xvk xvf xvs xcv xco xff xfp xfe xfb xop A => ?_)
    have fx := A.2.2.2.2.1 x (by omega)
    have e1 : xop b = nI a0 := (A.2.2.2.2.2 b (by omega)).trans ((pk_un (by omega)).trans o1)
    have e2 : xop (b + 1) = nI va := (A.2.2.2.2.2 (b + 1) (by omega)).trans pk_us
    refine xF_cons H (by omega) (by omega) (by omega) (fx.1.trans w4) (fx.2.2.2.trans w5) k11 hq1 ?_
    rw [e1, e2]
    exact hQ _ ⟨_, _, _, _, _, _, _, _, _, _, _, _, _, _, _, _,  rfl, to_A H1 (by omega) (fun i hi => (B.1 i hi).1) A⟩
  · exact Or.inr (Or.inr (Or.inl ⟨pk_us, a0, va, pk_us, pk_us, Or.inl o3, Or.inl v⟩))
theorem to_null (PG : pq_F xtk xtv n R sc h par) (J : (tj_J (tk_K xtk n) (sk_f (tk_K xtk n) n) R sc n VP nm vc cc x b k q u1 s t va pvk pvf pvs pcv pco pff pfp pfe pfb pop)) (k14 : tk_K xtk n (q + 1) = 14) (hk : k + 1 = gr_n (tk_K xtk n (q + 1))) (ht : t + (d + 1) = 900) (IHR : sp_RT dl xtk xtv n R sc h d) : sp_T dl xtk xtv n t s (sg_R dl xtk xtv n R h VP vc cc (x + 1) (b + k) s va pac pmd pvk pvf pvs pcv pco pff pfp pfe pfb pop) := by
  have H := PG.1
  have H1 := H.1
  obtain ⟨hq1, f1, f2, _, f6⟩ := to_f PG J (by omega)
  have hA := f6 hk
  rw [k14] at hk
  have k0e : k = 0 := by have : gr_n 14 = 1 := rfl; omega
  subst k0e
  have J' := J
  obtain ⟨B, O, Wf, Rf, N, v⟩ := J
  obtain ⟨hq, rq, k1, w4, w5, w6, _⟩ := Wf
  unfold sn_N at N
  have hva := (B.1 va v).1
  refine sp_Rs (by omega) sg_Rh (fun F u Q hF hu hQ => ?_) (to_new (pac := pac) (pmd := pmd) (kd := 1) (f := if pvk va = 2 then 1 else 0) (s2 := 0) PG J' (Or.inl pk_us) ht IHR)
  refine tr_last PG J' hA hq1 f2 hu (fun xex xen xaf xro xsc xho xvk xvf xvs xcv xco xff xfp xfe xfb xop A => ?_)
  have fx := A.2.2.2.2.1 x (by omega)
  have ak := ag_k (A.2.2.1 va v)
  have e2 : xop b = nI va := (A.2.2.2.2.2 b (by omega)).trans pk_us
  refine xF_null H (by omega) (by omega) (by omega) (by omega) (fx.1.trans w4) (fx.2.2.2.trans w5) k14 hq1 e2 ?_
  rw [ak.1]
  exact hQ _ ⟨_, _, _, _, _, _, _, _, _, _, _, _, _, _, _, _,  rfl, to_A (k := 0) H1 (by omega) (fun i hi => (B.1 i hi).1) A⟩
theorem to_part (PG : pq_F xtk xtv n R sc h par) (J : (tj_J (tk_K xtk n) (sk_f (tk_K xtk n) n) R sc n VP nm vc cc x b k q u1 s t va pvk pvf pvs pcv pco pff pfp pfe pfb pop)) (k12 : tk_K xtk n (q + 1) = 12 ∨ tk_K xtk n (q + 1) = 13) (hk : k + 1 = gr_n (tk_K xtk n (q + 1))) (ht : t + (d + 1) = 900) (IHR : sp_RT dl xtk xtv n R sc h d) : sp_T dl xtk xtv n t s (sg_R dl xtk xtv n R h VP vc cc (x + 1) (b + k) s va pac pmd pvk pvf pvs pcv pco pff pfp pfe pfb pop) := by
  have H := PG.1
  have H1 := H.1
  obtain ⟨hq1, f1, f2, _, f6⟩ := to_f PG J (by omega)
  have hA := f6 hk
  have g1 : gr_n (tk_K xtk n (q + 1)) = 1 := by unfold gr_n; rw [if_neg (by omega), if_pos (by omega)]
  have k0e : k = 0 := by omega
  subst k0e
  have J' := J
  obtain ⟨B, O, Wf, Rf, N, v⟩ := J
  obtain ⟨hq, rq, k1, w4, w5, w6, _⟩ := Wf
  unfold sn_N at N
  obtain ⟨hva, hV⟩ := B.1 va v
  by_cases v3 : pvk va = 3
  · have pr : ∃ a1 b1, pvf va = nI a1 ∧ pvs va = nI b1 ∧ VP a1 ∧ VP b1 := by
      rcases hV with w | w | w | w
      · rw [v3] at w; exact absurd w (by decide)
      · rw [v3] at w; exact absurd w (by decide)
      · exact w.2
      · rw [v3] at w; exact absurd w.1 (by decide)
    obtain ⟨a1, b1, p1, p2, p5, p6⟩ := pr
    have key : ∀ (A1 : Nat), nI A1 = (if tk_K xtk n (q + 1) = 12 then pvf va else pvs va) → VP A1 → sp_T dl xtk xtv n t s (sg_R dl xtk xtv n R h VP vc cc (x + 1) (b + 0) s va pac pmd pvk pvf pvs pcv pco pff pfp pfe pfb pop) := by
      intro A1 h1 h3
      refine sp_Rs (by omega) sg_Rh (fun F u Q hF hu hQ => ?_) (IHR VP nm vc cc x b u1 s (t + 1) A1 pac pmd pvk pvf pvs pcv pco pff (upd pfp x (-1)) pfe pfb (upd pop (b + 0) (nI va)) (by omega) ⟨B, vo_m (fun _ z => z) (fun i hi => pk_un (by omega)) (vo_l (by omega) O), fp_k (Nat.le_refl _) (fun _ _ => rfl) (fun i hi => ⟨rfl, pk_un (by omega), rfl, rfl⟩) Rf, by unfold sn_N; omega⟩ h3)
      refine tr_last PG J' hA hq1 f2 hu (fun xex xen xaf xro xsc xho xvk xvf xvs xcv xco xff xfp xfe xfb xop A => ?_)
      have Af := A.2.2.2.2.1
      have fx := Af x (by omega)
      have ak := ag_k (A.2.2.1 va v)
      have e2 : xop b = nI va := (A.2.2.2.2.2 b (by omega)).trans pk_us
      refine xF_part H (by omega) (by omega) (by omega) (fx.1.trans w4) (fx.2.2.2.trans w5) rfl k12 hq1 e2 (fun z => absurd (ak.1.trans v3) z) (fun _ => ?_)
      have e3 : (if tk_K xtk n (q + 1) = 12 then xvf va else xvs va) = nI A1 := by
        rw [h1, (ak.2.2.1 v3).1, (ak.2.2.1 v3).2]
      rw [e3]
      exact hQ _ ⟨_, _, _, _, _, _, _, _, _, _, _, _, _, _, _, _,  rfl, A.1, A.2.1, A.2.2.1, A.2.2.2.1, fun i hi => Af i (by omega), fun i hi => A.2.2.2.2.2 i (by omega)⟩
    by_cases z : tk_K xtk n (q + 1) = 12
    · exact key a1 (by rw [if_pos z]; exact p1.symm) p5
    · exact key b1 (by rw [if_neg z]; exact p2.symm) p6
  · refine sp_Rf (r := 6) (md := pmd) (w := -1) (VP := fun _ => False) (vk := pvk) (vf := pvf) (vs := pvs) (by omega) (by omega) (by decide) (by decide) (fun i z => False.elim z) (Or.inl rfl) sg_Rh (fun F u Q hF hu hQ => ?_)
    refine tr_last PG J' hA hq1 f2 hu (fun xex xen xaf xro xsc xho xvk xvf xvs xcv xco xff xfp xfe xfb xop A => ?_)
    have fx := A.2.2.2.2.1 x (by omega)
    have ak := ag_k (A.2.2.1 va v)
    have e2 : xop b = nI va := (A.2.2.2.2.2 b (by omega)).trans pk_us
    exact xF_part H (by omega) (by omega) (by omega) (fx.1.trans w4) (fx.2.2.2.trans w5) rfl k12 hq1 e2 (fun _ => hQ _ ⟨_, _, _, _, _, _, _, _, _, _,  _, _, _, _, _, _, _, _, _, _, _, _, _, _,  rfl, A.1.2.2 _ _ _ A.2.1, fun i z => False.elim z⟩) (fun z => absurd (ak.1.symm.trans z) v3)
theorem to_calc (PG : pq_F xtk xtv n R sc h par) (J : (tj_J (tk_K xtk n) (sk_f (tk_K xtk n) n) R sc n VP nm vc cc x b k q u1 s t va pvk pvf pvs pcv pco pff pfp pfe pfb pop)) (k15 : 15 ≤ tk_K xtk n (q + 1)) (hk : k + 1 = gr_n (tk_K xtk n (q + 1))) (ht : t + (d + 1) = 900) (IHR : sp_RT dl xtk xtv n R sc h d) : sp_T dl xtk xtv n t s (sg_R dl xtk xtv n R h VP vc cc (x + 1) (b + k) s va pac pmd pvk pvf pvs pcv pco pff pfp pfe pfb pop) := by
  have H := PG.1
  have H1 := H.1
  have k20 := tk_20 H (q + 1)
  obtain ⟨hq1, f1, f2, _, f6⟩ := to_f PG J (by omega)
  have hA := f6 hk
  have g2 : gr_n (tk_K xtk n (q + 1)) = 2 := by unfold gr_n; rw [if_neg (by omega), if_neg (by omega)]
  have k1e : k = 1 := by omega
  subst k1e
  have J' := J
  obtain ⟨B, O, Wf, Rf, N, v⟩ := J
  obtain ⟨hq, rq, k1, w4, w5, w6, _⟩ := Wf
  unfold sn_N at N
  obtain ⟨a0, o1, o3⟩ := O b (by omega)
  have hva := (B.1 va v).1
  have hva0 := (B.1 a0 o3).1
  by_cases v1 : pvk a0 = 1 ∧ pvk va = 1
  · by_cases dz : tk_K xtk n (q + 1) = 18 ∧ pvf va = 0
    · refine sp_Rf (r := 7) (md := pmd) (w := -1) (VP := fun _ => False) (vk := pvk) (vf := pvf) (vs := pvs) (by omega) (by omega) (by decide) (by decide) (fun i z => False.elim z) (Or.inl rfl) sg_Rh (fun F u Q hF hu hQ => ?_)
      refine tr_last PG J' hA hq1 f2 hu (fun xex xen xaf xro xsc xho xvk xvf xvs xcv xco xff xfp xfe xfb xop A => ?_)
      have fx := A.2.2.2.2.1 x (by omega)
      have ak := ag_k (A.2.2.1 va v)
      have ak0 := ag_k (A.2.2.1 a0 o3)
      have e1 : xop b = nI a0 := (A.2.2.2.2.2 b (by omega)).trans ((pk_un (by omega)).trans o1)
      have e2 : xop (b + 1) = nI va := (A.2.2.2.2.2 (b + 1) (by omega)).trans pk_us
      exact xF_calc H (by omega) (by omega) (by omega) (by omega) (by omega) (fx.1.trans w4) (fx.2.2.2.trans w5) rfl ⟨k15, k20⟩ hq1 e1 e2 (fun z => absurd ⟨ak0.1.trans v1.1, ak.1.trans v1.2⟩ z) (fun _ _ _ _ => hQ _ ⟨_, _, _, _, _, _, _, _, _, _,  _, _, _, _, _, _, _, _, _, _, _, _, _, _,  rfl, A.1.2.2 _ _ _ A.2.1, fun i z => False.elim z⟩) (fun _ _ z => absurd ⟨dz.1, (ak.2.1 v1.2).trans dz.2⟩ z)
    · refine sp_Rs (by omega) sg_Rh (fun F u Q hF hu hQ => ?_) (to_new (pac := pac) (pmd := pmd) (kd := 1) (f := al_op (tk_K xtk n (q + 1)) (pvf a0) (pvf va)) (s2 := 0) PG J' (Or.inl pk_us) ht IHR)
      refine tr_last PG J' hA hq1 f2 hu (fun xex xen xaf xro xsc xho xvk xvf xvs xcv xco xff xfp xfe xfb xop A => ?_)
      have fx := A.2.2.2.2.1 x (by omega)
      have ak := ag_k (A.2.2.1 va v)
      have ak0 := ag_k (A.2.2.1 a0 o3)
      have e1 : xop b = nI a0 := (A.2.2.2.2.2 b (by omega)).trans ((pk_un (by omega)).trans o1)
      have e2 : xop (b + 1) = nI va := (A.2.2.2.2.2 (b + 1) (by omega)).trans pk_us
      have ea := ak0.2.1 v1.1
      have ec := ak.2.1 v1.2
      refine xF_calc H (by omega) (by omega) (by omega) (by omega) (by omega) (fx.1.trans w4) (fx.2.2.2.trans w5) rfl ⟨k15, k20⟩ hq1 e1 e2 (fun z => absurd ⟨ak0.1.trans v1.1, ak.1.trans v1.2⟩ z) (fun _ _ z1 z2 => absurd ⟨z1, ec.symm.trans z2⟩ dz) (fun _ _ _ => ?_)
      rw [ea, ec]
      exact hQ _ ⟨_, _, _, _, _, _, _, _, _, _, _, _, _, _, _, _,  rfl, to_A H1 (by omega) (fun i hi => (B.1 i hi).1) A⟩
  · refine sp_Rf (r := 6) (md := pmd) (w := -1) (VP := fun _ => False) (vk := pvk) (vf := pvf) (vs := pvs) (by omega) (by omega) (by decide) (by decide) (fun i z => False.elim z) (Or.inl rfl) sg_Rh (fun F u Q hF hu hQ => ?_)
    refine tr_last PG J' hA hq1 f2 hu (fun xex xen xaf xro xsc xho xvk xvf xvs xcv xco xff xfp xfe xfb xop A => ?_)
    have fx := A.2.2.2.2.1 x (by omega)
    have ak := ag_k (A.2.2.1 va v)
    have ak0 := ag_k (A.2.2.1 a0 o3)
    have e1 : xop b = nI a0 := (A.2.2.2.2.2 b (by omega)).trans ((pk_un (by omega)).trans o1)
    have e2 : xop (b + 1) = nI va := (A.2.2.2.2.2 (b + 1) (by omega)).trans pk_us
    exact xF_calc H (by omega) (by omega) (by omega) (by omega) (by omega) (fx.1.trans w4) (fx.2.2.2.trans w5) rfl ⟨k15, k20⟩ hq1 e1 e2 (fun _ => hQ _ ⟨_, _, _, _, _, _, _, _, _, _,  _, _, _, _, _, _, _, _, _, _, _, _, _, _,  rfl, A.1.2.2 _ _ _ A.2.1, fun i z => False.elim z⟩) (fun z1 z2 => absurd ⟨ak0.1.symm.trans z1, ak.1.symm.trans z2⟩ v1) (fun z1 z2 => absurd ⟨ak0.1.symm.trans z1, ak.1.symm.trans z2⟩ v1)
end
end
section
section
variable {dl : Int32} {xtk xtv : Nat → Int32} {n : Nat} {R sc : Nat → Int32} {h : Nat → Nat} {par : Nat → Nat} {VP : Nat → Prop} {nm : Nat → Nat} {vc cc s t va d x b k q u1 : Nat} {pac pmd : Int32} {pvk pvf pvs pcv pco pff pfp pfe pfb pop : Nat → Int32}
/-- m cells filled from the operands -/
theorem tl_cells {K : Nat → Nat} {c0 s0 : Int32} {tn : Nat → Nat} {m : Nat} {op' : Nat → Int32} (B : hp_B K R sc n VP nm vc cc cc pvk pvf pvs pcv pco) (hE : hp_E nm cc c0 s0) (ht : ∀ j, j < m → tn j < n ∧ sc (tn j) = hb_s s0 tn j) (hO : ∀ j, j < m → ∃ a, op' (b + j) = nI a ∧ VP a) :
    ∃ nm', (∀ i, i < cc → nm' i = nm i) ∧ hp_E nm' (cc + m) (hb_e c0 cc m) (hb_s s0 tn m) ∧
      hp_B K R sc n VP nm' vc (cc + m) (cc + m) pvk pvf pvs (xc_v pcv (fun i => op' (b + i)) cc m) (xc_v pco (hb_e c0 cc) cc m) := by
  have B' : hp_B K R sc n VP nm vc cc cc pvk pvf pvs (xc_v pcv (fun i => op' (b + i)) cc m) (xc_v pco (hb_e c0 cc) cc m) :=
    hp_add (Nat.le_refl _) (fun _ z => z) (fun _ _ => ⟨rfl, rfl, rfl⟩) (fun i hi => ⟨xc_vn hi, xc_vn hi⟩) (fun a z => Or.inl z) B
  obtain ⟨nm', h1, h3, _, h5⟩ := hp_cells (fil := True) (k := m) hE ht (fun j hj => xc_vs hj) (fun _ j hj => by
    obtain ⟨a, e1, v⟩ := hO j hj
    exact ⟨a, (xc_vs hj).trans e1, v⟩) B'
  exact ⟨nm', h1, h3, h5 trivial⟩
theorem tl_let (PG : pq_F xtk xtv n R sc h par) (J : (tj_J (tk_K xtk n) (sk_f (tk_K xtk n) n) R sc n VP nm vc cc x b k q u1 s t va pvk pvf pvs pcv pco pff pfp pfe pfb pop)) (k8 : tk_K xtk n (q + 1) = 8) (ht : t + (d + 1) = 900) (IHE : sp_ET dl xtk xtv n R sc h d) : sp_T dl xtk xtv n t s (sg_R dl xtk xtv n R h VP vc cc (x + 1) (b + k) s va pac pmd pvk pvf pvs pcv pco pff pfp pfe pfb pop) := by
  have H := PG.1
  have H1 := H.1
  have J' := J
  obtain ⟨B, O, Wf, Rf, N, v⟩ := J
  obtain ⟨hq, rq, k1, w4, w5, w6, w7⟩ := Wf
  unfold sn_N at N
  have hq1 : q + 1 < n := tk_lt (tk := xtk) (by omega)
  have w7' : (∃ c, ls_C (tk_K xtk n) (sk_f (tk_K xtk n) n) (q + 3) c ∧ k < c) ∧ pfp x = nI (it_f (sk_f (tk_K xtk n) n) k (q + 3) + 2) := by
    rcases w7 with w | w | w | w
    · omega
    · omega
    · exact w.2
    · omega
  obtain ⟨⟨c0, lc0, hk0⟩, f1⟩ := w7'
  obtain ⟨c, c1, c4, lc, st, _, h2, k2, e2, h3, r3, sc3⟩ := st_let (K := (tk_K xtk n)) (n := n) (fun i => tk_0) PG.2.1 PG.2.2.1 PG.2.2.2.1 hq rq k1 (Or.inl k8)
  have ec := ls_C_u lc0 lc
  subst ec
  obtain ⟨b1, b2, b3, b4, b5, b6, b7, b8, b9, b10⟩ := st k hk0
  have hO : vo_R VP (upd pop (b + k) (nI va)) (b + k + 1) := vo_s (fun _ z => z) v O
  by_cases hk : k + 1 < c0
  · obtain ⟨d1, d2, d3, d4, d5, d6, d7, d8, d9, d10⟩ := st (k + 1) hk
    have hA : xp_A (tk_K xtk n) (sk_f (tk_K xtk n) n) n q (it_f (sk_f (tk_K xtk n) n) k (q + 3) + 2) (nI (it_f (sk_f (tk_K xtk n) n) (k + 1) (q + 3) + 2)) := by
      refine ⟨b2, b4, Or.inr (Or.inr (Or.inl ⟨Or.inl k8, by omega, by omega, Or.inr ⟨?_, ?_⟩⟩))⟩
      · rw [← b6]; omega
      · rw [b6]
    rw [if_neg (by omega)] at d8
    exact tr_more PG J' hA hq1 f1 d2 d3 d8 ⟨hq, rq, k1, w4, w5, w6, Or.inr (Or.inr (Or.inl ⟨k8, ⟨c0, lc, hk⟩, pk_us⟩))⟩ ht IHE
  · have ek : c0 = k + 1 := by omega
    subst ek
    have hA : xp_A (tk_K xtk n) (sk_f (tk_K xtk n) n) n q (it_f (sk_f (tk_K xtk n) n) k (q + 3) + 2) (-1) := by
      refine ⟨b2, b4, Or.inr (Or.inr (Or.inl ⟨Or.inl k8, by omega, by omega, Or.inl ⟨?_, rfl⟩⟩))⟩
      rw [← b6]; exact lc.2
    obtain ⟨nm', h1', hE', B'⟩ := tl_cells (b := b) (op' := upd pop (b + k) (nI va)) (m := k + 1) (tn := fun i => it_f (sk_f (tk_K xtk n) n) i (q + 3) + 1) B w6 (fun j hj => by
      obtain ⟨a1, a2, _, _, _, _, _, _, _, a10⟩ := st j hj
      exact ⟨by omega, a10⟩) (fun j hj => hO (b + j) (by omega))
    refine sp_Rs (by omega) sg_Rh (fun F u Q hF hu hQ => ?_) (IHE VP nm' vc (cc + (k + 1)) x b u1 s (t + 1) (sk_f (tk_K xtk n) n (q + 2)) (hb_e (pfe x) cc (k + 1)) pac pmd pvk pvf pvs (xc_v pcv (fun i => upd pop (b + k) (nI va) (b + i)) cc (k + 1)) (xc_v pco (hb_e (pfe x) cc) cc (k + 1)) pff (upd pfp x (-1)) pfe pfb (upd pop (b + k) (nI va)) (by omega) ⟨B', vo_l (by omega) hO, fp_k (by omega) h1' (fun i hi => ⟨rfl, pk_un (by omega), rfl, rfl⟩) Rf, by unfold sn_N; omega⟩ h3 r3 (by rw [sc3]; exact hE'))
    refine tr_last PG J' hA hq1 f1 hu (fun xex xen xaf xro xsc xho xvk xvf xvs xcv xco xff xfp xfe xfb xop A => ?_)
    have Af := A.2.2.2.2.1
    have fx := Af x (by omega)
    have Ac := A.2.2.2.1
    refine xF_let (k := k + 1) H A.1.1 (by omega) (by omega) (by omega) (fx.1.trans w4) (fx.2.2.2.trans w5) k8 h2 (by omega) (fun cv' co' S => ?_)
    obtain ⟨rfl, rfl⟩ := S
    rw [fx.2.2.1]
    exact hQ _ ⟨_, _, _, _, _, _, _, _, _, _, _, _, _, _, _,  rfl, A.1, A.2.1, A.2.2.1, fun c hc => ⟨up_v (fun i hi => (Ac i hi).1) (fun i hi => A.2.2.2.2.2 (b + i) (by omega)) c hc, up_v (fun i hi => (Ac i hi).2) (fun i hi => rfl) c hc⟩, fun i hi => Af i (by omega), fun i hi => A.2.2.2.2.2 i (by omega)⟩
theorem ta_arg (PG : pq_F xtk xtv n R sc h par) (J : (tj_J (tk_K xtk n) (sk_f (tk_K xtk n) n) R sc n VP nm vc cc x b k q u1 s t va pvk pvf pvs pcv pco pff pfp pfe pfb pop)) (k6 : tk_K xtk n (q + 1) < 6) {c : Nat} (lc0 : ls_C (tk_K xtk n) (sk_f (tk_K xtk n) n) (q + 1) (c + 1)) (hk : k < c) (f1 : pfp x = nI (it_f (sk_f (tk_K xtk n) n) (k + 1) (q + 1))) (ht : t + (d + 1) = 900) (IHE : sp_ET dl xtk xtv n R sc h d) : sp_T dl xtk xtv n t s (sg_R dl xtk xtv n R h VP vc cc (x + 1) (b + k) s va pac pmd pvk pvf pvs pcv pco pff pfp pfe pfb pop) := by
  have Wf := J.2.2.1
  obtain ⟨hq, rq, k1, w4, w5, w6, _⟩ := Wf
  obtain ⟨c', c4, lc, st, hend⟩ := st_app (K := (tk_K xtk n)) (n := n) (fun i => tk_0) PG.2.1 PG.2.2.1 PG.2.2.2.1 hq rq k1 k6
  have ec : c' = c := by have := ls_C_u lc0 lc; omega
  subst ec
  have s0 := st 0 (by omega)
  change q + 1 < n ∧ R (q + 1) = 1 ∧ tk_K xtk n (q + 1) ≠ 2 ∧ _ ∧ sc (q + 1) = sc q at s0
  have s1 := st (k + 1) (by omega)
  have ei : sk_f (tk_K xtk n) n (it_f (sk_f (tk_K xtk n) n) (k + 1) (q + 1)) = it_f (sk_f (tk_K xtk n) n) (k + 2) (q + 1) := (it_s (sk_f (tk_K xtk n) n) (k + 1) (q + 1)).symm
  by_cases hk2 : k + 1 < c'
  · have s2 := st (k + 2) (by omega)
    have hA : xp_A (tk_K xtk n) (sk_f (tk_K xtk n) n) n q (it_f (sk_f (tk_K xtk n) n) (k + 1) (q + 1)) (nI (it_f (sk_f (tk_K xtk n) n) (k + 2) (q + 1))) := by
      refine ⟨s1.1, s1.2.2.1, Or.inr (Or.inr (Or.inr ⟨Or.inl k6, by omega, ?_, Or.inl ⟨?_, ?_⟩⟩))⟩
      · rw [ei]; exact s2.1
      · rw [ei]; exact s2.2.2.1
      · rw [ei]
    exact tr_more PG J hA s0.1 f1 s2.1 s2.2.1 s2.2.2.2.2 ⟨hq, rq, k1, w4, w5, w6, Or.inr (Or.inr (Or.inr ⟨k6, c', lc, Or.inl ⟨hk2, pk_us⟩⟩))⟩ ht IHE
  · have ek : c' = k + 1 := by omega
    subst ek
    have hA : xp_A (tk_K xtk n) (sk_f (tk_K xtk n) n) n q (it_f (sk_f (tk_K xtk n) n) (k + 1) (q + 1)) (nI (q + 1)) := by
      refine ⟨s1.1, s1.2.2.1, Or.inr (Or.inr (Or.inr ⟨Or.inl k6, by omega, ?_, Or.inr (Or.inl ⟨?_, k6, rfl⟩)⟩))⟩
      · rw [ei]; exact hend
      · rw [ei]; exact lc.2
    exact tr_more PG J hA s0.1 f1 s0.1 s0.2.1 s0.2.2.2.2 ⟨hq, rq, k1, w4, w5, w6, Or.inr (Or.inr (Or.inr ⟨k6, k + 1, lc, Or.inr ⟨rfl, pk_us⟩⟩))⟩ ht IHE
theorem ta_call (PG : pq_F xtk xtv n R sc h par) (J : (tj_J (tk_K xtk n) (sk_f (tk_K xtk n) n) R sc n VP nm vc cc x b k q u1 s t va pvk pvf pvs pcv pco pff pfp pfe pfb pop)) (k6 : tk_K xtk n (q + 1) < 6) (lc0 : ls_C (tk_K xtk n) (sk_f (tk_K xtk n) n) (q + 1) (k + 1)) (f1 : pfp x = nI (q + 1)) (ht : t + (d + 1) = 900) (IHE : sp_ET dl xtk xtv n R sc h d) : sp_T dl xtk xtv n t s (sg_R dl xtk xtv n R h VP vc cc (x + 1) (b + k) s va pac pmd pvk pvf pvs pcv pco pff pfp pfe pfb pop) := by
  have H := PG.1
  have H1 := H.1
  have J' := J
  obtain ⟨B, O, Wf, Rf, N, v⟩ := J
  obtain ⟨hq, rq, k1, w4, w5, w6, _⟩ := Wf
  unfold sn_N at N
  obtain ⟨c', c4, lc, st, hend⟩ := st_app (K := (tk_K xtk n)) (n := n) (fun i => tk_0) PG.2.1 PG.2.2.1 PG.2.2.2.1 hq rq k1 k6
  have ec : c' = k := by have := ls_C_u lc0 lc; omega
  subst ec
  have s0 := st 0 (by omega)
  change q + 1 < n ∧ R (q + 1) = 1 ∧ tk_K xtk n (q + 1) ≠ 2 ∧ _ ∧ sc (q + 1) = sc q at s0
  have hO : vo_R VP (upd pop (b + c') (nI va)) (b + c' + 1) := vo_s (fun _ z => z) v O
  have hA : xp_A (tk_K xtk n) (sk_f (tk_K xtk n) n) n q (q + 1) (-1) := ⟨s0.1, s0.2.2.1, Or.inr (Or.inl ⟨k6, rfl, rfl⟩)⟩
  obtain ⟨hva, hV⟩ := B.1 va v
  by_cases v4 : pvk va = 4
  · have pr : ∃ p, p < n ∧ R p = 1 ∧ tk_K xtk n p = 1 ∧ tk_K xtk n (p + 1) = 7 ∧ pvf va = nI p ∧ hp_E nm cc (pvs va) (sc p) := by
      rcases hV with w | w | w | w
      · rw [v4] at w; exact absurd w (by decide)
      · rw [v4] at w; exact absurd w (by decide)
      · rw [v4] at w; exact absurd w.1 (by decide)
      · exact w.2
    obtain ⟨p, p1, p2, p3, p4, p5, p7⟩ := pr
    obtain ⟨m, m4, P, lcm, sn, hm3, h2, k2, e2, h3, r3, sc3⟩ := st_lam (K := (tk_K xtk n)) (n := n) (fun i => tk_0) PG.2.1 PG.2.2.1 PG.2.2.2.1 p1 p2 p3 p4
    by_cases em : m = c'
    · subst em
      by_cases ea : pac = dl
      · refine sp_Rf (r := 5) (md := pmd) (w := -1) (VP := fun _ => False) (vk := pvk) (vf := pvf) (vs := pvs) (by omega) (by omega) (by decide) (by decide) (fun i z => False.elim z) (Or.inl rfl) sg_Rh (fun F u Q hF hu hQ => ?_)
        refine tr_last PG J' hA s0.1 f1 hu (fun xex xen xaf xro xsc xho xvk xvf xvs xcv xco xff xfp xfe xfb xop A => ?_)
        have fx := A.2.2.2.2.1 x (by omega)
        have ak := ag_k (A.2.2.1 va v)
        have opk : xop (b + m) = nI va := (A.2.2.2.2.2 (b + m) (by omega)).trans pk_us
        exact xF_call (k := m) H A.1.1 (by omega) (by omega) (by omega) (by omega) (fx.1.trans w4) (fx.2.2.2.trans w5) k6 s0.1 opk (fun z => absurd (ak.1.trans v4) z) (fun _ => ⟨p, m, (ak.2.2.2 v4).1.trans p5, h2, by omega, lcm, by omega, fun z => absurd rfl z, fun _ _ => hQ _ ⟨_, _, _, _, _, _, _, _, _, _,  _, _, _, _, _, _, _, _, _, _, _, _, _, _,  rfl, A.1.2.2 _ _ _ A.2.1, fun i z => False.elim z⟩, fun _ z => absurd ea z⟩)
      · obtain ⟨nm', h1', hE', B'⟩ := tl_cells (b := b) (op' := upd pop (b + m) (nI va)) (m := m) (tn := fun i => p + 3 + i) B p7 sn (fun j hj => hO (b + j) (by omega))
        refine sp_Rs (by omega) sg_Rh (fun F u Q hF hu hQ => ?_) (IHE VP nm' vc (cc + m) (x + 1) b u1 s (t + 1) (sk_f (tk_K xtk n) n (p + 2)) (hb_e (pvs va) cc m) (pac + 1) (if pac + 1 ≤ pmd then pmd else pac + 1) pvk pvf pvs (xc_v pcv (fun i => upd pop (b + m) (nI va) (b + i)) cc m) (xc_v pco (hb_e (pvs va) cc) cc m) pff (upd pfp x (-1)) pfe pfb (upd pop (b + m) (nI va)) (by omega) ⟨B', vo_l (by omega) hO, Or.inl ⟨pk_us, fp_k (by omega) h1' (fun i hi => ⟨rfl, pk_un (by omega), rfl, rfl⟩) Rf⟩, by unfold sn_N; omega⟩ h3 r3 (by rw [sc3]; exact hE'))
        refine tr_last PG J' hA s0.1 f1 hu (fun xex xen xaf xro xsc xho xvk xvf xvs xcv xco xff xfp xfe xfb xop A => ?_)
        have Af := A.2.2.2.2.1
        have fx := Af x (by omega)
        have Ac := A.2.2.2.1
        have ak := ag_k (A.2.2.1 va v)
        have opk : xop (b + m) = nI va := (A.2.2.2.2.2 (b + m) (by omega)).trans pk_us
        refine xF_call (k := m) H A.1.1 (by omega) (by omega) (by omega) (by omega) (fx.1.trans w4) (fx.2.2.2.trans w5) k6 s0.1 opk (fun z => absurd (ak.1.trans v4) z) (fun _ => ⟨p, m, (ak.2.2.2 v4).1.trans p5, h2, by omega, lcm, by omega, fun z => absurd rfl z, fun _ z => absurd z ea, fun _ _ cv' co' md' emd S => ?_⟩)
        obtain ⟨rfl, rfl⟩ := S
        subst emd
        rw [(ak.2.2.2 v4).2]
        exact hQ _ ⟨_, _, _, _, _, _, _, _, _, _, _, _, _, _, _,  rfl, A.1, A.2.1, A.2.2.1, fun c hc => ⟨up_v (fun i hi => (Ac i hi).1) (fun i hi => A.2.2.2.2.2 (b + i) (by omega)) c hc, up_v (fun i hi => (Ac i hi).2) (fun i hi => rfl) c hc⟩, Af, fun i hi => A.2.2.2.2.2 i (by omega)⟩
    · refine sp_Rf (r := 9) (md := pmd) (w := -1) (VP := fun _ => False) (vk := pvk) (vf := pvf) (vs := pvs) (by omega) (by omega) (by decide) (by decide) (fun i z => False.elim z) (Or.inl rfl) sg_Rh (fun F u Q hF hu hQ => ?_)
      refine tr_last PG J' hA s0.1 f1 hu (fun xex xen xaf xro xsc xho xvk xvf xvs xcv xco xff xfp xfe xfb xop A => ?_)
      have fx := A.2.2.2.2.1 x (by omega)
      have ak := ag_k (A.2.2.1 va v)
      have opk : xop (b + c') = nI va := (A.2.2.2.2.2 (b + c') (by omega)).trans pk_us
      exact xF_call (k := c') H A.1.1 (by omega) (by omega) (by omega) (by omega) (fx.1.trans w4) (fx.2.2.2.trans w5) k6 s0.1 opk (fun z => absurd (ak.1.trans v4) z) (fun _ => ⟨p, m, (ak.2.2.2 v4).1.trans p5, h2, by omega, lcm, by omega, fun _ => hQ _ ⟨_, _, _, _, _, _, _, _, _, _,  _, _, _, _, _, _, _, _, _, _, _, _, _, _,  rfl, A.1.2.2 _ _ _ A.2.1, fun i z => False.elim z⟩, fun z => absurd z em, fun z => absurd z em⟩)
  · refine sp_Rf (r := 8) (md := pmd) (w := -1) (VP := fun _ => False) (vk := pvk) (vf := pvf) (vs := pvs) (by omega) (by omega) (by decide) (by decide) (fun i z => False.elim z) (Or.inl rfl) sg_Rh (fun F u Q hF hu hQ => ?_)
    refine tr_last PG J' hA s0.1 f1 hu (fun xex xen xaf xro xsc xho xvk xvf xvs xcv xco xff xfp xfe xfb xop A => ?_)
    have fx := A.2.2.2.2.1 x (by omega)
    have ak := ag_k (A.2.2.1 va v)
    have opk : xop (b + c') = nI va := (A.2.2.2.2.2 (b + c') (by omega)).trans pk_us
    exact xF_call (k := c') H A.1.1 (by omega) (by omega) (by omega) (by omega) (fx.1.trans w4) (fx.2.2.2.trans w5) k6 s0.1 opk (fun _ => hQ _ ⟨_, _, _, _, _, _, _, _, _, _,  _, _, _, _, _, _, _, _, _, _, _, _, _, _,  rfl, A.1.2.2 _ _ _ A.2.1, fun i z => False.elim z⟩) (fun z => absurd (ak.1.symm.trans z) v4)
end
end
section
/-! LETREC -/
def tq_J (K a : Nat → Nat) (R sc : Nat → Int32) (n : Nat) (nm : Nat → Nat) (c0 c q fc oc u : Nat) (e00 : Int32) (VP : Nat → Prop) (vc s t j : Nat) (pvk pvf pvs pcv pco pff pfp pfe pfb pop : Nat → Int32) : Prop :=
  hp_B K R sc n VP nm vc (c0 + c) c0 pvk pvf pvs pcv pco ∧ vo_R VP pop (oc + j) ∧ fp_R K a R sc n nm (c0 + c) pff pfp pfe pfb fc oc u ∧
  (pff fc = nI q ∧ pfp fc = nI (it_f a j (q + 3) + 2) ∧ pfe fc = hb_e e00 c0 c ∧ pfb fc = nI oc) ∧
  hp_E nm (c0 + c) (hb_e e00 c0 c) (hb_s (sc q) (fun i => it_f a i (q + 3) + 1) c) ∧ (∀ i, i < c → pco (c0 + i) = hb_e e00 c0 i) ∧
  (vc + u ≤ 128 + s ∧ 128 ≤ vc ∧ c0 + oc + fc + 1 + j ≤ s ∧ c0 + c ≤ 404 ∧ t + (fc + 1) ≤ 2 * s ∧ s ≤ 400)
theorem tq_lam {dl : Int32} {xtk xtv : Nat → Int32} {n d : Nat} {R sc : Nat → Int32} {h par : Nat → Nat} (PG : pq_F xtk xtv n R sc h par) {nm : Nat → Nat} {c0 c q fc oc u : Nat} {e00 : Int32} (hq : q < n) (rq : R q = 1) (k1 : tk_K xtk n q = 1) (k9 : tk_K xtk n (q + 1) = 9) (lc0 : ls_C (tk_K xtk n) (sk_f (tk_K xtk n) n) (q + 3) c) (IHE : ∀ d', d' < d → sp_ET dl xtk xtv n R sc h d') :
    ∀ (m j : Nat) (VP : Nat → Prop) (vc s t : Nat) (pac pmd : Int32) (pvk pvf pvs pcv pco pff pfp pfe pfb pop : Nat → Int32), j + (m + 1) = c → 900 ≤ t + d →
      tq_J (tk_K xtk n) (sk_f (tk_K xtk n) n) R sc n nm c0 c q fc oc u e00 VP vc s t j pvk pvf pvs pcv pco pff pfp pfe pfb pop →
      sp_T dl xtk xtv n t s (sg_E dl xtk xtv n R h VP vc (c0 + c) (fc + 1) (oc + j) s (it_f (sk_f (tk_K xtk n) n) j (q + 3) + 2) (hb_e e00 c0 c) pac pmd pvk pvf pvs pcv pco pff pfp pfe pfb pop) := by
  have H := PG.1
  have H1 := H.1
  obtain ⟨c', c1, c4, lc, st, dist, h2, k2, e2, h3, r3, sc3⟩ := st_let (K := (tk_K xtk n)) (n := n) (fun i => tk_0) PG.2.1 PG.2.2.1 PG.2.2.2.1 hq rq k1 (Or.inr k9)
  have ec := ls_C_u lc lc0
  subst ec
  have hq1 : q + 1 < n := by omega
  intro m
  induction m with
  | zero =>
    intro j VP vc s t pac pmd pvk pvf pvs pcv pco pff pfp pfe pfb pop ej hd J
    obtain ⟨B, O, Rf, ⟨x1, x2, x3, x4⟩, hE, hC, N⟩ := J
    obtain ⟨b1, b2, b3, b4, b5, b6, b7, b8, b9, b10⟩ := st j (by omega)
    obtain ⟨b11, b12⟩ := b9 k9
    have b13 : it_f (sk_f (tk_K xtk n) n) j (q + 3) + 3 < n := tk_lt (tk := xtk) (by omega)
    rw [if_pos k9] at b8
    by_cases hs4 : s = 400
    · exact sp_E400 (by omega) sg_Eh sg_out hs4
    · have ec : c' = j + 1 := by omega
      subst ec
      have hA : xp_A (tk_K xtk n) (sk_f (tk_K xtk n) n) n q (it_f (sk_f (tk_K xtk n) n) j (q + 3) + 2) (-1) := by
        refine ⟨b2, b4, Or.inr (Or.inr (Or.inl ⟨Or.inr k9, by omega, by omega, Or.inl ⟨?_, rfl⟩⟩))⟩
        rw [← b6]; exact lc.2
      have B1 : hp_B (tk_K xtk n) R sc n (fun i => VP i ∨ i = vc) nm (vc + 1) (c0 + (j + 1)) c0 (upd pvk vc 4) (upd pvf vc (nI (it_f (sk_f (tk_K xtk n) n) j (q + 3) + 2))) (upd pvs vc (hb_e e00 c0 (j + 1))) pcv pco :=
        hp_new (Or.inr (Or.inr (Or.inr ⟨pk_us, _, b2, b3, b11, b12, pk_us, by rw [pk_us, b8]; exact hE⟩))) B
      have hO1 : vo_R (fun i => VP i ∨ i = vc) (upd pop (oc + j) (nI vc)) (oc + j + 1) := vo_s (fun a z => Or.inl z) (Or.inr rfl) O
      let cvF : Nat → Int32 := fun z => if c0 ≤ z ∧ z < c0 + (j + 1) then upd pop (oc + j) (nI vc) (oc + (z - c0)) else pcv z
      have cvI : ∀ i, i < j + 1 → cvF (c0 + i) = upd pop (oc + j) (nI vc) (oc + i) := fun i hi => (if_pos (show c0 ≤ c0 + i ∧ c0 + i < c0 + (j + 1) by omega)).trans (by rw [show c0 + i - c0 = i from by omega])
      have cvL : ∀ z, z < c0 → cvF z = pcv z := fun z hz => if_neg (by omega)
      have B2 : hp_B (tk_K xtk n) R sc n (fun i => VP i ∨ i = vc) nm (vc + 1) (c0 + (j + 1)) (c0 + (j + 1)) (upd pvk vc 4) (upd pvf vc (nI (it_f (sk_f (tk_K xtk n) n) j (q + 3) + 2))) (upd pvs vc (hb_e e00 c0 (j + 1))) cvF pco := by
        refine hp_fills B1 cvL (fun z z1 z2 => ?_)
        obtain ⟨a, o1, o3⟩ := hO1 (oc + (z - c0)) (by omega)
        have := cvI (z - c0) (by omega)
        rw [show c0 + (z - c0) = z from by omega] at this
        exact ⟨a, this.trans o1, o3⟩
      have IH := IHE (900 - (t + 1 + 1)) (by omega)
      have N2 : sp_T dl xtk xtv n (t + 1 + 1) (s + 1) (sg_E dl xtk xtv n R h (fun i => VP i ∨ i = vc) (vc + 1) (c0 + (j + 1)) fc oc (s + 1) (sk_f (tk_K xtk n) n (q + 2)) (hb_e e00 c0 (j + 1)) pac pmd (upd pvk vc 4) (upd pvf vc (nI (it_f (sk_f (tk_K xtk n) n) j (q + 3) + 2))) (upd pvs vc (hb_e e00 c0 (j + 1))) cvF pco pff (upd pfp fc (-1)) pfe pfb (upd pop (oc + j) (nI vc))) :=
        IH (fun i => VP i ∨ i = vc) nm (vc + 1) (c0 + (j + 1)) fc oc u (s + 1) (t + 1 + 1) (sk_f (tk_K xtk n) n (q + 2)) (hb_e e00 c0 (j + 1)) pac pmd _ _ _ cvF pco pff (upd pfp fc (-1)) pfe pfb (upd pop (oc + j) (nI vc)) (by omega) ⟨B2, vo_l (by omega) hO1, fp_k (Nat.le_refl _) (fun _ _ => rfl) (fun i hi => ⟨rfl, pk_un (by omega), rfl, rfl⟩) Rf, by unfold sn_N; omega⟩ h3 r3 (by rw [sc3]; exact hE)
      have N1 : sp_T dl xtk xtv n (t + 1) (s + 1) (sg_R dl xtk xtv n R h (fun i => VP i ∨ i = vc) (vc + 1) (c0 + (j + 1)) (fc + 1) (oc + j) (s + 1) vc pac pmd (upd pvk vc 4) (upd pvf vc (nI (it_f (sk_f (tk_K xtk n) n) j (q + 3) + 2))) (upd pvs vc (hb_e e00 c0 (j + 1))) pcv pco pff pfp pfe pfb pop) := by
        refine sp_Rs (by omega) sg_Rh (fun F u Q hF hu hQ => ?_) N2
        obtain ⟨xex, xen, xaf, xro, xsc, xho, xvk, xvf, xvs, xcv, xco, xff, xfp, xfe, xfb, xop, rfl, A⟩ := hu
        have Af := A.2.2.2.2.1
        have fx := Af fc (by omega)
        have Ac := A.2.2.2.1
        have Ao : ∀ i, i < oc + j + 1 → upd xop (oc + j) (nI vc) i = upd pop (oc + j) (nI vc) i := up_s A.2.2.2.2.2
        refine xr_last H A.1.1 (p := it_f (sk_f (tk_K xtk n) n) j (q + 3) + 2) (by omega) (by omega) hq1 (fx.1.trans x1) (fx.2.1.trans x2) hA ?_
        refine xF_letrec (xop := upd xop (oc + j) (nI vc)) (xfp := upd xfp fc (-1)) (e0 := e00) (c0 := c0) (k := j + 1) H A.1.1 (by omega) (by omega) (by omega) (fx.1.trans x1) (fx.2.2.2.trans x4) (fx.2.2.1.trans x3) (fun i hi => ((Ac (c0 + i) (by omega)).2).trans (hC i hi)) k9 h2 (by omega) (fun cv' s1 s2 => ?_)
        refine hQ _ ⟨_, _, _, _, _, _, _, _, _, _, _, _, _, _, _,  rfl, A.1, A.2.1, A.2.2.1, fun z hz => ⟨?_, (Ac z hz).2⟩, fun i hi => ⟨(Af i (by omega)).1, (pk_un (by omega)).trans ((Af i (by omega)).2.1.trans (pk_un (by omega)).symm), (Af i (by omega)).2.2.1, (Af i (by omega)).2.2.2⟩, fun i hi => Ao i (by omega)⟩
        rcases Nat.lt_or_ge z c0 with w | w
        · rw [s2 z (fun i hi e => by omega), cvL z w]; exact (Ac z hz).1
        · have e1 := s1 (z - c0) (by omega)
          have e2 := cvI (z - c0) (by omega)
          rw [show c0 + (z - c0) = z from by omega] at e1 e2
          rw [e1, e2]; exact Ao _ (by omega)
      refine sp_Es (by omega) sg_Eh sg_out (fun F u Q hs hF hu hQ => ?_) N1
      obtain ⟨xan, xaf, xro, xsc, xho, xvk, xvf, xvs, xcv, xco, xff, xfp, xfe, xfb, xop, rfl, A⟩ := hu
      exact xr_form H b2 b11 hs hF (xr_lam H b13 b12 (by omega) (hQ _ ⟨_, _, _, _, _, _, _, _, _, _, _, _, _, _, _, _,  rfl, A.1, lt_new (by omega) H1 A.2.1, ag_new (fun i hi => (B.1 i hi).1) A.2.2.1, A.2.2.2⟩))
  | succ m ih =>
    intro j VP vc s t pac pmd pvk pvf pvs pcv pco pff pfp pfe pfb pop ej hd J
    obtain ⟨B, O, Rf, ⟨x1, x2, x3, x4⟩, hE, hC, N⟩ := J
    obtain ⟨b1, b2, b3, b4, b5, b6, b7, b8, b9, b10⟩ := st j (by omega)
    obtain ⟨b11, b12⟩ := b9 k9
    have b13 : it_f (sk_f (tk_K xtk n) n) j (q + 3) + 3 < n := tk_lt (tk := xtk) (by omega)
    rw [if_pos k9] at b8
    by_cases hs4 : s = 400
    · exact sp_E400 (by omega) sg_Eh sg_out hs4
    · obtain ⟨d1, d2, d3, d4, d5, d6, d7, d8, d9, d10⟩ := st (j + 1) (by omega)
      have hA : xp_A (tk_K xtk n) (sk_f (tk_K xtk n) n) n q (it_f (sk_f (tk_K xtk n) n) j (q + 3) + 2) (nI (it_f (sk_f (tk_K xtk n) n) (j + 1) (q + 3) + 2)) := by
        refine ⟨b2, b4, Or.inr (Or.inr (Or.inl ⟨Or.inr k9, by omega, by omega, Or.inr ⟨?_, ?_⟩⟩))⟩
        · rw [← b6]; omega
        · rw [b6]
      have B1 : hp_B (tk_K xtk n) R sc n (fun i => VP i ∨ i = vc) nm (vc + 1) (c0 + c') c0 (upd pvk vc 4) (upd pvf vc (nI (it_f (sk_f (tk_K xtk n) n) j (q + 3) + 2))) (upd pvs vc (hb_e e00 c0 c')) pcv pco :=
        hp_new (Or.inr (Or.inr (Or.inr ⟨pk_us, _, b2, b3, b11, b12, pk_us, by rw [pk_us, b8]; exact hE⟩))) B
      have hO1 : vo_R (fun i => VP i ∨ i = vc) (upd pop (oc + j) (nI vc)) (oc + j + 1) := vo_s (fun a z => Or.inl z) (Or.inr rfl) O
      have N2 : sp_T dl xtk xtv n (t + 1 + 1) (s + 1) (sg_E dl xtk xtv n R h (fun i => VP i ∨ i = vc) (vc + 1) (c0 + c') (fc + 1) (oc + (j + 1)) (s + 1) (it_f (sk_f (tk_K xtk n) n) (j + 1) (q + 3) + 2) (hb_e e00 c0 c') pac pmd (upd pvk vc 4) (upd pvf vc (nI (it_f (sk_f (tk_K xtk n) n) j (q + 3) + 2))) (upd pvs vc (hb_e e00 c0 c')) pcv pco pff (upd pfp fc (nI (it_f (sk_f (tk_K xtk n) n) (j + 1) (q + 3) + 2))) pfe pfb (upd pop (oc + j) (nI vc))) :=
        ih (j + 1) (fun i => VP i ∨ i = vc) (vc + 1) (s + 1) (t + 1 + 1) pac pmd _ _ _ pcv pco pff _ pfe pfb _ (by omega) (by omega) ⟨B1, hO1, fp_k (Nat.le_refl _) (fun _ _ => rfl) (fun i hi => ⟨rfl, pk_un (by omega), rfl, rfl⟩) Rf, ⟨x1, pk_us, x3, x4⟩, hE, hC, by omega⟩
      have N1 : sp_T dl xtk xtv n (t + 1) (s + 1) (sg_R dl xtk xtv n R h (fun i => VP i ∨ i = vc) (vc + 1) (c0 + c') (fc + 1) (oc + j) (s + 1) vc pac pmd (upd pvk vc 4) (upd pvf vc (nI (it_f (sk_f (tk_K xtk n) n) j (q + 3) + 2))) (upd pvs vc (hb_e e00 c0 c')) pcv pco pff pfp pfe pfb pop) := by
        refine sp_Rs (by omega) sg_Rh (fun F u Q hF hu hQ => ?_) N2
        obtain ⟨xex, xen, xaf, xro, xsc, xho, xvk, xvf, xvs, xcv, xco, xff, xfp, xfe, xfb, xop, rfl, A⟩ := hu
        have Af := A.2.2.2.2.1
        have fx := Af fc (by omega)
        refine xr_more H A.1.1 (p := it_f (sk_f (tk_K xtk n) n) j (q + 3) + 2) (by omega) (by omega) hq1 (fx.1.trans x1) (fx.2.1.trans x2) (by omega) hA ?_
        rw [fx.2.2.1, x3]
        exact hQ _ ⟨_, _, _, _, _, _, _, _, _, _, _, _, _, _, _,  rfl, A.1, A.2.1, A.2.2.1, A.2.2.2.1, fun i hi => ⟨(Af i hi).1, up_c (fun j hj => (Af j hj).2.1) i hi, (Af i hi).2.2.1, (Af i hi).2.2.2⟩, up_s A.2.2.2.2.2⟩
      refine sp_Es (by omega) sg_Eh sg_out (fun F u Q hs hF hu hQ => ?_) N1
      obtain ⟨xan, xaf, xro, xsc, xho, xvk, xvf, xvs, xcv, xco, xff, xfp, xfe, xfb, xop, rfl, A⟩ := hu
      exact xr_form H b2 b11 hs hF (xr_lam H b13 b12 (by omega) (hQ _ ⟨_, _, _, _, _, _, _, _, _, _, _, _, _, _, _, _,  rfl, A.1, lt_new (by omega) H1 A.2.1, ag_new (fun i hi => (B.1 i hi).1) A.2.2.1, A.2.2.2⟩))
end
section
section
variable {dl : Int32} {xtk xtv : Nat → Int32} {n : Nat} {R sc : Nat → Int32} {h : Nat → Nat} {par : Nat → Nat} {VP : Nat → Prop} {nm : Nat → Nat} {vc cc fc oc u s t q va d x b k u1 : Nat} {pen pac pmd : Int32} {pvk pvf pvs pcv pco pff pfp pfe pfb pop : Nat → Int32}
theorem te_letrec (PG : pq_F xtk xtv n R sc h par) (I : (pi_I (tk_K xtk n) (sk_f (tk_K xtk n) n) R sc n 0 VP nm vc cc fc oc u s t pvk pvf pvs pcv pco pff pfp pfe pfb pop)) (hq : q < n) (rq : R q = 1) (k1 : tk_K xtk n q = 1) (k9 : tk_K xtk n (q + 1) = 9) (hE : hp_E nm cc pen (sc q)) (ht : t + d = 900) (hs4 : s < 400) (IH : ∀ d', d' < d → sp_ET dl xtk xtv n R sc h d') : sp_T dl xtk xtv n t s (sg_E dl xtk xtv n R h VP vc cc fc oc s q pen pac pmd pvk pvf pvs pcv pco pff pfp pfe pfb pop) := by
  obtain ⟨B, O, Rf, N⟩ := I
  have H := PG.1
  have H1 := H.1
  unfold sn_N at N
  have hq1 : q + 1 < n := tk_lt (tk := xtk) (by omega)
  obtain ⟨c, c1, c4, lc, st, dist, h2, k2, e2, h3, r3, sc3⟩ := st_let (K := (tk_K xtk n)) (n := n) (fun i => tk_0) PG.2.1 PG.2.2.1 PG.2.2.2.1 hq rq k1 (Or.inr k9)
  have B' : hp_B (tk_K xtk n) R sc n VP nm vc cc cc pvk pvf pvs (xc_v pcv (fun _ => -1) cc c) (xc_v pco (hb_e pen cc) cc c) :=
    hp_add (Nat.le_refl _) (fun _ z => z) (fun _ _ => ⟨rfl, rfl, rfl⟩) (fun i hi => ⟨xc_vn hi, xc_vn hi⟩) (fun a z => Or.inl z) B
  obtain ⟨nm', a1, a3, a4, _⟩ := hp_cells (fil := False) (k := c) (t := fun i => it_f (sk_f (tk_K xtk n) n) i (q + 3) + 1) hE (fun j hj => by
    obtain ⟨z1, z2, _, _, _, _, _, _, _, z10⟩ := st j hj
    exact ⟨by omega, z10⟩) (fun j hj => xc_vs hj) (fun z => False.elim z) B'
  refine sp_Es (by omega) sg_Eh sg_out (fun F u Q hs hF hu hQ => ?_) (tq_lam (nm := nm') (c0 := cc) (fc := fc) (oc := oc) (u := u) (e00 := pen) PG hq rq k1 k9 lc IH (c - 1) 0 VP vc (s + 1) (t + 1) pac pmd pvk pvf pvs (xc_v pcv (fun _ => -1) cc c) (xc_v pco (hb_e pen cc) cc c) (upd pff fc (nI q)) (upd pfp fc (nI (q + 5))) (upd pfe fc (hb_e pen cc c)) (upd pfb fc (nI oc)) pop (by omega) (by omega) ⟨a4, O, fp_k (by omega) a1 (fun i hi => ⟨pk_un (by omega), pk_un (by omega), pk_un (by omega), pk_un (by omega)⟩) Rf, ⟨pk_us, pk_us, pk_us, pk_us⟩, a3, fun i hi => xc_vs hi, by omega⟩)
  obtain ⟨xan, xaf, xro, xsc, xho, xvk, xvf, xvs, xcv, xco, xff, xfp, xfe, xfb, xop, rfl, A⟩ := hu
  have Af := A.2.2.2.2.1
  have Ac := A.2.2.2.1
  refine xr_form H hq k1 hs hF (xr_letrec H A.1.1 hq1 k9 (by omega) (by omega) lc (fun cv' co' S => ?_))
  obtain ⟨rfl, rfl⟩ := S
  exact hQ _ ⟨_, _, _, _, _, _, _, _, _, _, _, _, _, _, _,  rfl, A.1, A.2.1, A.2.2.1, fun c hc => ⟨up_v (fun i hi => (Ac i hi).1) (fun i hi => rfl) c hc, up_v (fun i hi => (Ac i hi).2) (fun i hi => rfl) c hc⟩, fun i hi => ⟨up_s (fun j hj => (Af j hj).1) i hi, up_s (fun j hj => (Af j hj).2.1) i hi, up_s (fun j hj => (Af j hj).2.2.1) i hi, up_s (fun j hj => (Af j hj).2.2.2) i hi⟩, A.2.2.2.2.2⟩
/-- a form's part has been answered -/
theorem tr_W (PG : pq_F xtk xtv n R sc h par) (J : (tj_J (tk_K xtk n) (sk_f (tk_K xtk n) n) R sc n VP nm vc cc x b k q u1 s t va pvk pvf pvs pcv pco pff pfp pfe pfb pop)) (ht : t + (d + 1) = 900) (IHE : sp_ET dl xtk xtv n R sc h d) (IHR : sp_RT dl xtk xtv n R sc h d) : sp_T dl xtk xtv n t s (sg_R dl xtk xtv n R h VP vc cc (x + 1) (b + k) s va pac pmd pvk pvf pvs pcv pco pff pfp pfe pfb pop) := by
  have k20 := tk_20 PG.1 (q + 1)
  have Wf := J.2.2.1
  obtain ⟨hq, rq, k1, w4, w5, w6, w7⟩ := Wf
  rcases w7 with w | w | w | ⟨k6, c, lc, w⟩
  · exact tr_if PG J w.1 ht IHE
  · by_cases hk : k + 1 < gr_n (tk_K xtk n (q + 1))
    · exact to_more PG J w.1 hk ht IHE
    · have hk' : k + 1 = gr_n (tk_K xtk n (q + 1)) := by have := w.2.1; omega
      by_cases z11 : tk_K xtk n (q + 1) = 11
      · exact to_cons PG J z11 hk' ht IHR
      · by_cases z12 : tk_K xtk n (q + 1) = 12 ∨ tk_K xtk n (q + 1) = 13
        · exact to_part PG J z12 hk' ht IHR
        · by_cases z14 : tk_K xtk n (q + 1) = 14
          · exact to_null PG J z14 hk' ht IHR
          · exact to_calc PG J (by have := w.1; omega) hk' ht IHR
  · exact tl_let PG J w.1 ht IHE
  · rcases w with ⟨z, f1⟩ | ⟨z, f1⟩
    · exact ta_arg PG J k6 lc z f1 ht IHE
    · subst z
      exact ta_call PG J k6 lc f1 ht IHE
end
theorem sp_main {dl : Int32} {xtk xtv : Nat → Int32} {n : Nat} {R sc : Nat → Int32} {h par : Nat → Nat} (PG : pq_F xtk xtv n R sc h par) : ∀ D d, d < D → sp_ET dl xtk xtv n R sc h d ∧ sp_RT dl xtk xtv n R sc h d := by
  intro D
  induction D with
  | zero => intro d hd; omega
  | succ D ih =>
    intro d hd
    have IHE : ∀ d', d' < d → sp_ET dl xtk xtv n R sc h d' := fun d' h => (ih d' (by omega)).1
    constructor
    · intro VP nm vc cc fc oc u s t q pen pac pmd pvk pvf pvs pcv pco pff pfp pfe pfb pop ht I hq rq hE
      have N := I.2.2.2
      unfold sn_N at N
      obtain ⟨d', rfl⟩ : ∃ d', d = d' + 1 := ⟨d - 1, by omega⟩
      obtain ⟨hET, hRT⟩ := ih d' (by omega)
      by_cases hs : s = 400
      · exact sp_E400 (by omega) sg_Eh sg_out hs
      · have hs : s < 400 := by omega
        have hS := (PG.2.2.1.2.1 q hq rq).1
        rcases hS with k3 | k4 | k5 | ⟨k1, hF⟩
        · exact te_lit PG I hq (Or.inl k3) ht hs hRT
        · exact te_sym PG I hq rq k4 hE ht hs hRT
        · exact te_lit PG I hq (Or.inr k5) ht hs hRT
        · by_cases z6 : tk_K xtk n (q + 1) < 6
          · exact te_app PG I hq rq k1 z6 hE ht hs hET
          · by_cases z : tk_K xtk n (q + 1) = 6
            · exact te_quote PG I hq rq k1 z ht hs hRT
            · by_cases z7 : tk_K xtk n (q + 1) = 7
              · exact te_lam PG I hq rq k1 z7 hE ht hs hRT
              · by_cases z8 : tk_K xtk n (q + 1) = 8
                · exact te_let PG I hq rq k1 z8 hE ht hs hET
                · by_cases z9 : tk_K xtk n (q + 1) = 9
                  · exact te_letrec PG I hq rq k1 z9 hE ht hs IHE
                  · by_cases z10 : tk_K xtk n (q + 1) = 10
                    · exact te_if PG I hq rq k1 z10 hE ht hs hET
                    · exact te_op PG I hq rq k1 (by omega) hE ht hs hET
    · intro VP nm vc cc fc oc u s t va pac pmd pvk pvf pvs pcv pco pff pfp pfe pfb pop ht I v
      have N := I.2.2.2
      unfold sn_N at N
      obtain ⟨d', rfl⟩ : ∃ d', d = d' + 1 := ⟨d - 1, by omega⟩
      obtain ⟨hET, hRT⟩ := ih d' (by omega)
      cases fc with
      | zero => exact tr_fin PG I v
      | succ x =>
        have Rf := I.2.2.1
        rcases Rf with ⟨hp, Rf⟩ | ⟨b, k, u', q, e1, e2, Wf, Rf⟩
        · exact tr_ret I v Rf hp ht hRT
        · subst e1 e2
          exact tr_W PG ⟨I.1, I.2.1, Wf, Rf, I.2.2.2, v⟩ ht hET hRT
end
section
/-! roles, scopes and hops are what the tokens say: the same in every object -/
section
variable {K : Nat → Nat} {V : Nat → Int32} {n : Nat} {r r' sc sc' : Nat → Int32} {par par' : Nat → Nat}
theorem uq_r1 (W : rw_W K V (sk_f K n) n n r par) (W' : rw_W K V (sk_f K n) n n r' par') {c : Nat} (hc : c < n) (ih : ∀ m, m < c → r m = r' m) (h0 : r c ≠ 0) : r' c = r c := by
  rcases W.2.2.2.1 c hc h0 with z | ⟨z1, z2, z3, z⟩
  · subst z; rw [W.2.2.2.2, W'.2.2.2.2]
  · have e := ih (par c) z1
    rcases z with ⟨p1, z⟩ | ⟨p1, q1, q2⟩
    · have w := W'.2.1 (par c) z2 (e.symm.trans p1)
      rcases z with ⟨q1, q2⟩ | ⟨q1, q2⟩ | ⟨q1, q2⟩
      · rw [q1]; exact (w.2.1 c q2).1
      · rw [q1]; exact (w.2.2.1 c q2).1
      · rw [q1]; exact (w.2.2.2 c q2).1
    · rw [q1]; exact ((W'.2.2.1 (par c) z2 (e.symm.trans p1)).2 c q2).1
theorem uq_r (W : rw_W K V (sk_f K n) n n r par) (W' : rw_W K V (sk_f K n) n n r' par') : ∀ c, c < n → r c = r' c := by
  intro c
  induction c using Nat.strongRecOn with
  | ind c ih =>
    intro hc
    have ih' : ∀ m, m < c → r m = r' m := fun m hm => ih m hm (by omega)
    by_cases h0 : r c = 0
    · by_cases h1 : r' c = 0
      · rw [h0, h1]
      · exact uq_r1 W' W hc (fun m hm => (ih' m hm).symm) h1
    · exact (uq_r1 W W' hc ih' h0).symm
theorem uq_ls {i : Nat} (e : sc i = sc' i) : ∀ j, sc_ls K (sk_f K n) sc i j = sc_ls K (sk_f K n) sc' i j
  | 0 => e
  | _ + 1 => rfl
theorem uq_s (W : rw_W K V (sk_f K n) n n r par) (s0 : sc 0 = sc' 0) (hL : ∀ i, i < n → r i = 1 → K i = 1 → sc_L K (sk_f K n) sc i) (hL' : ∀ i, i < n → r i = 1 → K i = 1 → sc_L K (sk_f K n) sc' i) : ∀ c, c < n → r c = 1 ∨ r c = 3 → sc c = sc' c := by
  intro c
  induction c using Nat.strongRecOn with
  | ind c ih =>
    intro hc hr
    have h0 : r c ≠ 0 := by rcases hr with z | z <;> rw [z] <;> decide
    rcases W.2.2.2.1 c hc h0 with z | ⟨z1, z2, z3, z⟩
    · subst z; exact s0
    · have kp : r (par c) = 1 ∧ (gr_E K (sk_f K n) (par c) c ∨ gr_N K (sk_f K n) (par c) c) := by
        rcases z with ⟨p1, ⟨q1, q2⟩ | ⟨q1, q2⟩ | ⟨q1, q2⟩⟩ | ⟨p1, q1, q2⟩
        · exact ⟨p1, Or.inl q2⟩
        · rw [q1] at hr; exact absurd hr (by decide)
        · exact ⟨p1, Or.inr q2⟩
        · rw [q1] at hr; exact absurd hr (by decide)
      obtain ⟨p1, hg⟩ := kp
      have k1 : K (par c) = 1 := by rcases hg with g | g <;> exact g.1
      have e := ih (par c) z1 (by omega) (Or.inl p1)
      have L := hL (par c) (by omega) p1 k1
      have L' := hL' (par c) (by omega) p1 k1
      have hS := (W.2.1 (par c) (by omega) p1).1
      by_cases k79 : 7 ≤ K (par c + 1) ∧ K (par c + 1) ≤ 9
      · obtain ⟨m, m4, lc, hN, _⟩ := sc_N k1 k79.1 k79.2 hS
        obtain ⟨a1, a2, a3⟩ := L.2 k79.1 k79.2 m lc
        obtain ⟨b1, b2, b3⟩ := L'.2 k79.1 k79.2 m lc
        have el := uq_ls (K := K) (n := n) e
        rcases hg with ⟨_, g | g | g | g⟩ | g
        · omega
        · omega
        · rw [g.2.2, a2, b2]; exact el m
        · obtain ⟨k8, bb, hM, ec⟩ := g
          obtain ⟨j, hj, eb⟩ := (ls_CM lc).mp hM
          rw [ec, eb, a3 (by omega) j hj, b3 (by omega) j hj, el m, e]
        · obtain ⟨j, hj, ec⟩ := (hN c).mp g
          rw [ec, a1 j hj, b1 j hj]; exact el j
      · rcases hg with g | g
        · have k' : K (par c + 1) ≤ 6 ∨ 10 ≤ K (par c + 1) := by omega
          rw [L.1 k' c g, L'.1 k' c g]; exact e
        · rcases g with ⟨_, g | g⟩ <;> omega
theorem uq_H (hn : n ≤ 64) : ∀ {l l' : List Nat} {s : Int32}, (∀ m, m ∈ l → sc m = sc' m) → sc_H n sc l s → sc_H n sc' l' s → l = l'
  | [], [], _, _, _, _ => rfl
  | [], m :: _, _, _, h, h' => by
    have e : _ = (-1 : Int32) := h
    obtain ⟨e1, e2, _⟩ := h'
    rw [e1] at e
    exact absurd e (ni_nm1 (by omega))
  | m :: _, [], _, _, h, h' => by
    have e : _ = (-1 : Int32) := h'
    obtain ⟨e1, e2, _⟩ := h
    rw [e1] at e
    exact absurd e (ni_nm1 (by omega))
  | m :: l, m' :: l', s, hm, h, h' => by
    obtain ⟨e1, e2, h⟩ := h
    obtain ⟨e1', e2', h'⟩ := h'
    have e : m = m' := (nI_eq (by omega) (by omega)).mp (e1.symm.trans e1')
    subst e
    rw [← hm m List.mem_cons_self] at h'
    rw [uq_H hn (fun x hx => hm x (List.mem_cons_of_mem _ hx)) h h']
theorem uq_F {x : Int32} : ∀ {l : List Nat} {h h' : Nat}, sc_F V x l h → sc_F V x l h' → h = h'
  | [], _, _, a, _ => False.elim a
  | m :: l, h, h', a, b => by
    rcases a with ⟨a1, a2⟩ | ⟨a1, c, a2, a3⟩
    · rcases b with ⟨b1, b2⟩ | ⟨b1, c', b2, b3⟩
      · omega
      · exact absurd a1 b1
    · rcases b with ⟨b1, b2⟩ | ⟨b1, c', b2, b3⟩
      · exact absurd b1 a1
      · have := uq_F a3 b3; omega
theorem sc_Fl {x : Int32} : ∀ {l : List Nat} {h : Nat}, sc_F V x l h → h < l.length
  | [], _, h => False.elim h
  | m :: l, h, hF => by
    rcases hF with ⟨_, e⟩ | ⟨_, h', e, hF⟩
    · simp only [List.length_cons]; omega
    · have := sc_Fl hF
      simp only [List.length_cons]; omega
/-- the next of a list of data is one too -/
theorem ls_Mn {K a : Nat → Nat} {s p : Nat} (hM : ls_M K a s p) (hk : K (a p) ≠ 2) : ls_M K a s (a p) := by
  obtain ⟨j, e, hj⟩ := hM
  refine ⟨j + 1, by rw [it_s, e], fun j' hj' => ?_⟩
  by_cases z : j' = j + 1
  · rw [z, it_s, ← e]; exact hk
  · exact hj j' (by omega)
theorem nx_D (W : rw_W K V (sk_f K n) n n r par) {j : Nat} (hj : j < n) (hr : r j = 2) (hk : K (sk_f K n j) ≠ 2) : r (sk_f K n j) = 2 := by
  rcases W.2.2.2.1 j hj (by rw [hr]; decide) with z | ⟨z1, z2, z3, z⟩
  · subst z; rw [W.2.2.2.2] at hr; exact absurd hr (by decide)
  · rcases z with ⟨p1, ⟨q1, q2⟩ | ⟨q1, q2⟩ | ⟨q1, q2⟩⟩ | ⟨p1, q1, q2⟩
    · rw [q1] at hr; exact absurd hr (by decide)
    · exact ((W.2.1 (par j) z2 p1).2.2.1 _ ⟨q2.1, q2.2.1, ls_Mn q2.2.2 hk⟩).1
    · rw [q1] at hr; exact absurd hr (by decide)
    · exact ((W.2.2.1 (par j) z2 p1).2 _ ⟨q2.1, ls_Mn q2.2 hk⟩).1
theorem lt_dat (W : rw_W K V (sk_f K n) n n r par) (hrn : ∀ c, r c ≠ 0 → c < n) {j : Nat} (hr : r j = 2) : hp_L K r n j ∧ hp_L K r n (64 + j) := by
  have hj : j < n := hrn j (by rw [hr]; decide)
  refine ⟨Or.inl ⟨hj, ?_⟩, Or.inr ⟨j, hj, hr, rfl⟩⟩
  rcases (W.2.2.1 j hj hr).1 with z | z | z
  · exact Or.inl z
  · exact Or.inr (Or.inl z)
  · exact Or.inr (Or.inr ⟨hr, z.1⟩)
/-- the literals are values of a picture -/
theorem lt_V {vk vf vs : Nat → Int32} {nm : Nat → Nat} (hn : n ≤ 64) (W : rw_W K V (sk_f K n) n n r par) (hrn : ∀ c, r c ≠ 0 → c < n) (L : lt_L K V (sk_f K n) r vk vf vs n) (i : Nat) (hi : hp_L K r n i) : i < 128 ∧ hp_V K r sc n (hp_L K r n) nm 0 vk vf vs i := by
  rcases hi with ⟨hi, k3 | k5 | ⟨hr, k1⟩⟩ | ⟨j, hj, hr, e⟩
  · exact ⟨by omega, Or.inl ((L i hi).1 k3).1⟩
  · exact ⟨by omega, Or.inr (Or.inl ((L i hi).2.1 k5))⟩
  · refine ⟨by omega, ?_⟩
    have P := (L i hi).2.2.1 hr k1
    by_cases z : K (i + 1) = 2
    · exact Or.inr (Or.inl (P.1 z))
    · have q := P.2 z
      have r1 : r (i + 1) = 2 := ((W.2.2.1 i hi hr).2 _ ⟨k1, ls_M_0 z⟩).1
      have d := lt_dat W hrn r1
      exact Or.inr (Or.inr (Or.inl ⟨q.1, _, _, q.2.1, q.2.2, d.1, d.2⟩))
  · refine ⟨by omega, ?_⟩
    subst e
    have P := (L j hj).2.2.2 hr
    by_cases z : K (sk_f K n j) = 2
    · exact Or.inr (Or.inl (P.1 z))
    · have q := P.2 z
      have d := lt_dat W hrn (nx_D W hj hr z)
      exact Or.inr (Or.inr (Or.inl ⟨q.1, _, _, q.2.1, q.2.2, d.1, d.2⟩))
/-- two objects' literals agree -/
theorem lt_ag {vk vf vs vk' vf' vs' : Nat → Int32} (L : lt_L K V (sk_f K n) r vk vf vs n) (L' : lt_L K V (sk_f K n) r vk' vf' vs' n) (i : Nat) (hi : hp_L K r n i) : ag_V vk vf vs vk' vf' vs' i := by
  have key : ∀ e, lt_P K vk vf vs i e → lt_P K vk' vf' vs' i e → ag_V vk vf vs vk' vf' vs' i := fun e P P' => by
    by_cases z : K e = 2
    · have a := P.1 z
      have b := P'.1 z
      exact ⟨b.trans a.symm, fun w => absurd a w, fun w => by rw [a] at w; exact absurd w (by decide)⟩
    · have a := P.2 z
      have b := P'.2 z
      exact ⟨b.1.trans a.1.symm, fun _ => b.2.1.trans a.2.1.symm, fun _ => b.2.2.trans a.2.2.symm⟩
  rcases hi with ⟨hi, k3 | k5 | ⟨hr, k1⟩⟩ | ⟨j, hj, hr, e⟩
  · have a := (L i hi).1 k3
    have b := (L' i hi).1 k3
    exact ⟨b.1.trans a.1.symm, fun _ => b.2.trans a.2.symm, fun w => by rw [a.1] at w; exact absurd w (by decide)⟩
  · have a := (L i hi).2.1 k5
    have b := (L' i hi).2.1 k5
    exact ⟨b.trans a.symm, fun w => absurd a w, fun w => by rw [a] at w; exact absurd w (by decide)⟩
  · exact key _ ((L i hi).2.2.1 hr k1) ((L' i hi).2.2.1 hr k1)
  · subst e
    exact key _ ((L j hj).2.2.2 hr) ((L' j hj).2.2.2 hr)
end
end
section
/-! a run from its start: one outcome for every object that holds the program -/
theorem rn_P {xtk xtv xaf xro xsc xho xvk xvf xvs : Nat → Int32} {n : Nat} (H : tk_ok xtk n) (C : cp_P xtk xtv n xaf xro xsc xho xvk xvf xvs) :
    ∃ par, pq_F xtk xtv n (xr_c n xro) xsc (fun i => (xho i).toNatClampNeg) par ∧ 0 < n ∧ xr_c n xro 0 = 1 ∧ xsc 0 = -1 ∧ lt_L (tk_K xtk n) xtv (sk_f (tk_K xtk n) n) (xr_c n xro) xvk xvf xvs n := by
  obtain ⟨par, n0, I0, A, W, hC, s0, sL, hO, L⟩ := C
  refine ⟨par, ⟨H, fun i hi hk => (A i hi hk).1, W, sL, fun i a b c => ?_⟩, n0, W.2.2.2.2, s0, L⟩
  obtain ⟨⟨l, hh, p1, p2, p3, p4, p5⟩, _⟩ := hO i a b c
  have hl := sc_Fl p4
  have H1 := H.1
  refine ⟨l, p1, ?_, p5⟩
  show (xho i).toNatClampNeg < l.length
  rw [p3, nI_clamp (by omega)]; exact hl
theorem rn_O {xtk xtv xaf xro xsc xho xvk xvf xvs yaf yro ysc yho yvk yvf yvs : Nat → Int32} {n : Nat} (H : tk_ok xtk n) (C : cp_P xtk xtv n xaf xro xsc xho xvk xvf xvs) (C' : cp_P xtk xtv n yaf yro ysc yho yvk yvf yvs) :
    sg_P xtk xtv n (xr_c n xro) (fun i => (xho i).toNatClampNeg) yaf yro ysc yho ∧ lt_L (tk_K xtk n) xtv (sk_f (tk_K xtk n) n) (xr_c n xro) yvk yvf yvs n := by
  obtain ⟨par, n0, I0, A, W, hC, s0, sL, hO, L⟩ := C
  obtain ⟨par', n0', I0', A', W', hC', s0', sL', hO', L'⟩ := C'
  have H1 := H.1
  have er : xr_c n yro = xr_c n xro := by
    funext c
    rcases Nat.lt_or_ge c n with z | z
    · exact (uq_r W W' c z).symm
    · rw [xr_out z, xr_out z]
  rw [er] at W' hC' sL' hO' L'
  have hs := uq_s W (s0.trans s0'.symm) sL sL'
  refine ⟨⟨A', fun i a b c => ?_, fun vk vf vs L2 => ⟨par', n0', I0', A', by rw [er]; exact W', by rw [er]; exact hC', s0', by rw [er]; exact sL', by rw [er]; exact hO', by rw [er]; exact L2⟩⟩, L'⟩
  obtain ⟨⟨l, hh, p1, p2, p3, p4, p5⟩, _⟩ := hO i a b c
  obtain ⟨⟨l', hh', p1', p2', p3', p4', p5'⟩, _⟩ := hO' i a b c
  rw [← hs i a (Or.inl b)] at p1'
  have el := uq_H H1 (fun m hm => hs m (by
    rcases Nat.lt_or_ge m n with z | z
    · exact z
    · have q := (p2 m hm).1
      rw [xr_out z] at q
      exact absurd q (by decide)) (Or.inr (p2 m hm).1)) p1 p1'
  subst el
  have eh := uq_F p4 p4'
  subst eh
  have hl := sc_Fl p4
  show yho i = nI (xho i).toNatClampNeg
  rw [p3, nI_clamp (by omega)]; exact p3'
section
variable {xdl xtn xpp xvc xcc xfc xoc xag xan xex xen xfl xac xst xsp xmd xrt xcu : Int32} {xtk xtv xaf xro xsc xho xvk xvf xvs xcv xco xff xfp xfe xfb xop : Nat → Int32} {n : Nat}
theorem rn_T {dl : Int32} (H : tk_ok xtk n) (C : cp_P xtk xtv n xaf xro xsc xho xvk xvf xvs) : sp_T dl xtk xtv n 0 0 (sg_E dl xtk xtv n (xr_c n xro) (fun i => (xho i).toNatClampNeg) (hp_L (tk_K xtk n) (xr_c n xro) n) 128 0 0 0 0 0 (-1) 0 0 xvk xvf xvs xcv xco xff xfp xfe xfb xop) := by
  obtain ⟨par, PG, n0, r0, s0, L⟩ := rn_P H C
  have hrn : ∀ c, xr_c n xro c ≠ 0 → c < n := fun c hc => by
    rcases Nat.lt_or_ge c n with z | z
    · exact z
    · exact absurd (xr_out z) hc
  exact (sp_main PG 901 900 (by omega)).1 (hp_L (tk_K xtk n) (xr_c n xro) n) (fun _ => 0) 128 0 0 0 0 0 0 0 (-1) 0 0 xvk xvf xvs xcv xco xff xfp xfe xfb xop (by omega) ⟨⟨fun i hi => lt_V H.1 PG.2.2.1 hrn L i hi, fun c hc => by omega, fun i hi => hi⟩, fun k hk => by omega, ⟨rfl, rfl⟩, by unfold sn_N; omega⟩ n0 r0 (Or.inl ⟨rfl, s0⟩)
/-- the call of run -/
theorem rn_run {v1 : Int32} {F : Nat} {post : Int32 → SX → Prop} (hc : (1 ≤ v1 ∧ v1 ≤ 400 ∧ v1 = nI F) ∨ (1 ≤ v1 ∧ ¬ v1 ≤ 400 ∧ nI F = 400) ∨ (¬ 1 ≤ v1 ∧ nI F = 1))
    (h : rx_L post 1000 (nI 0) (xdl, xtn, 1, nI 128, nI 0, nI 0, nI 0, 0, xan, nI 0, -1, nI F, 0, -1, nI 0, 0, -1, -1, xtk, xtv, xaf, xro, xsc, xho, xvk, xvf, xvs, xcv, xco, xff, xfp, xfe, xfb, xop)) : wpX_run post (xdl, xtn, 1, xvc, xcc, xfc, xoc, xag, xan, xex, xen, xfl, xac, xst, xsp, xmd, xrt, xcu, xtk, xtv, xaf, xro, xsc, xho, xvk, xvf, xvs, xcv, xco, xff, xfp, xfe, xfb, xop) v1 := by
  refine br_f (by decide) ?_
  unfold wpX_startRun wpX_forgetResult wpX_clamp wpX_evaluate
  dsimp only
  have h' : wX_run_16 post 1000 (nI 0) xdl xtn 1 (nI 128) (nI 0) (nI 0) (nI 0) 0 xan (nI 0) (-1) (nI F) 0 (-1) (nI 0) 0 (-1) (-1) xtk xtv xaf xro xsc xho xvk xvf xvs xcv xco xff xfp xfe xfb xop := h
  rcases hc with ⟨a, b, e⟩ | ⟨a, b, e⟩ | ⟨a, e⟩
  · rw [← e] at h'; exact br_t a (br_t b ⟨1000, h'⟩)
  · rw [e] at h'; exact br_t a (br_f b ⟨1000, h'⟩)
  · rw [e] at h'; exact br_f a ⟨1000, h'⟩
end
/-- every run of the program: its outcome by the fuel alone -/
theorem rn_all {dl : Int32} {tk tv : Nat → Int32} {n : Nat} {u0 : SX} (H : tk_ok tk n) (h0 : dq_OK dl tk tv n u0) :
    ∃ (se : Nat) (r md w : Int32) (VP : Nat → Prop) (vk vf vs : Nat → Int32), 1 ≤ se ∧ r ≠ 4 ∧ fq_G (tk_K tk n) (sk_f (tk_K tk n) n) n VP vk vf vs ∧ (w = -1 ∨ ∃ a, w = nI a ∧ VP a) ∧
      ∀ (u : SX) (v1 : Int32) (F : Nat) (post : Int32 → SX → Prop), dq_OK dl tk tv n u → F ≤ 400 → ((1 ≤ v1 ∧ v1 ≤ 400 ∧ v1 = nI F) ∨ (1 ≤ v1 ∧ ¬ v1 ≤ 400 ∧ nI F = 400) ∨ (¬ 1 ≤ v1 ∧ nI F = 1)) →
        (F < se → (∀ u', dq_OK dl tk tv n u' → sx_sp u' = nI F → post 4 u') → wpX_run post u v1) ∧ (se ≤ F → (∀ u', fq_S dl tk tv n r se md VP vk vf vs w w u' → post r u') → wpX_run post u v1) := by
  obtain ⟨xvc, xcc, xfc, xoc, xag, xan, xex, xen, xfl, xac, xst, xsp, xmd, xrt, xcu, xaf, xro, xsc, xho, xvk, xvf, xvs, xcv, xco, xff, xfp, xfe, xfb, xop, _, C⟩ := h0
  obtain ⟨se, r, md, w, VP, vk, vf, vs, a1, a2, a3, a4, a5, T⟩ := rn_T (dl := dl) (xcv := xcv) (xco := xco) (xff := xff) (xfp := xfp) (xfe := xfe) (xfb := xfb) (xop := xop) H C
  refine ⟨se, r, md, w, VP, vk, vf, vs, a2, a3, a4, a5, fun u v1 F post hu hF hc => ?_⟩
  obtain ⟨zvc, zcc, zfc, zoc, zag, zan, zex, zen, zfl, zac, zst, zsp, zmd, zrt, zcu, zaf, zro, zsc, zho, zvk, zvf, zvs, zcv, zco, zff, zfp, zfe, zfb, zop, rfl, C'⟩ := hu
  obtain ⟨P', L'⟩ := rn_O H C C'
  have L := (rn_P H C).choose_spec.2.2.2.2
  have key := fun post => T F _ post 1000 (by omega) hF ⟨zan, zaf, zro, zsc, zho, zvk, zvf, zvs, zcv, zco, zff, zfp, zfe, zfb, zop, rfl, P', L', fun i hi => lt_ag L L' i hi, fun c hc => by omega, fun i hi => by omega, fun i hi => by omega⟩ (by omega)
  exact ⟨fun hl hp => rn_run hc ((key post).1 hl hp), fun hl hp => rn_run hc ((key post).2 hl hp)⟩
end
section
/-! the questions about the result: equal answers where the pictures are the same -/
section
variable {dl : Int32} {tk tv : Nat → Int32} {n : Nat} {r : Int32} {se : Nat} {md : Int32} {VP : Nat → Prop} {pvk pvf pvs : Nat → Int32} {wr wc : Int32}
def cu_W (VP : Nat → Prop) (w : Int32) : Prop := w = -1 ∨ ∃ a, w = nI a ∧ VP a
/-- what kind() answers -/
def cu_k (pvk : Nat → Int32) (w : Int32) : Int32 := if w = -1 then 0 else pvk w.toNatClampNeg
theorem cu_kind (G : fq_G (tk_K tk n) (sk_f (tk_K tk n) n) n VP pvk pvf pvs) (hw : cu_W VP wc) {u : SX} (hu : fq_S dl tk tv n r se md VP pvk pvf pvs wr wc u) {post : Int32 → Prop} (hp : post (cu_k pvk wc)) : wpX_kind post u := by
  obtain ⟨xvc, xcc, xfc, xoc, xag, xan, xex, xen, xfl, xac, xaf, xro, xsc, xho, xvk, xvf, xvs, xcv, xco, xff, xfp, xfe, xfb, xop, rfl, C, A⟩ := hu
  rcases hw with e | ⟨a, e, v⟩
  · subst e; exact br_t rfl hp
  · have h5 := (G a v).1
    have ne := ni_nm1 (a := a) (by omega)
    subst e
    unfold cu_k at hp
    rw [if_neg ne, nI_clamp (by omega), ← (A a v).1] at hp
    refine br_f ne ⟨vp_in_nI h5 (by omega), ?_⟩
    rw [nI_clamp (by omega)]; exact hp
/-- a cursor whose kind is not 0 stands on a value -/
theorem cu_a (hw : cu_W VP wc) {k : Int32} (hk : cu_k pvk wc = k) (h0 : ¬ k = 0) : ∃ a, wc = nI a ∧ VP a ∧ (a < 2 ^ 31 → pvk a = k) := by
  rcases hw with e | ⟨a, e, v⟩
  · rw [e] at hk
    exact absurd hk.symm h0
  · refine ⟨a, e, v, fun h => ?_⟩
    rw [e] at hk
    unfold cu_k at hk
    rw [if_neg (ni_nm1 h), nI_clamp h] at hk
    exact hk
theorem cu_Q1 (G : fq_G (tk_K tk n) (sk_f (tk_K tk n) n) n VP pvk pvf pvs) (hw : cu_W VP wc) : ∃ v : Int32, ∀ (u : SX) (post : Int32 → Prop), fq_S dl tk tv n r se md VP pvk pvf pvs wr wc u → post v → wpX_intValue post u := by
  by_cases k1 : cu_k pvk wc = 1
  · obtain ⟨a, e, v, ka⟩ := cu_a hw k1 (by decide)
    have h5 := (G a v).1
    refine ⟨pvf a, fun u post hu hp => ?_⟩
    have hu' := hu
    obtain ⟨xvc, xcc, xfc, xoc, xag, xan, xex, xen, xfl, xac, xaf, xro, xsc, xho, xvk, xvf, xvs, xcv, xco, xff, xfp, xfe, xfb, xop, rfl, C, A⟩ := hu
    unfold wpX_intValue
    dsimp only
    refine cu_kind G hw hu' ?_
    refine br_t k1 ?_
    rw [e]
    refine ⟨vp_in_nI h5 (by omega), ?_⟩
    rw [nI_clamp (by omega), (A a v).2.1 (by rw [ka (by omega)]; decide)]
    exact hp
  · refine ⟨0, fun u post hu hp => ?_⟩
    have hu' := hu
    obtain ⟨xvc, xcc, xfc, xoc, xag, xan, xex, xen, xfl, xac, xaf, xro, xsc, xho, xvk, xvf, xvs, xcv, xco, xff, xfp, xfe, xfb, xop, rfl, C, A⟩ := hu
    unfold wpX_intValue
    dsimp only
    refine cu_kind G hw hu' ?_
    exact br_f k1 hp
theorem cu_Q3 (G : fq_G (tk_K tk n) (sk_f (tk_K tk n) n) n VP pvk pvf pvs) (hw : cu_W VP wc) : ∃ v : Int32, ∀ (u : SX) (post : Int32 → Prop), fq_S dl tk tv n r se md VP pvk pvf pvs wr wc u → post v → wpX_closureSource post u := by
  by_cases k1 : cu_k pvk wc = 4
  · obtain ⟨a, e, v, ka⟩ := cu_a hw k1 (by decide)
    have h5 := (G a v).1
    refine ⟨pvf a, fun u post hu hp => ?_⟩
    have hu' := hu
    obtain ⟨xvc, xcc, xfc, xoc, xag, xan, xex, xen, xfl, xac, xaf, xro, xsc, xho, xvk, xvf, xvs, xcv, xco, xff, xfp, xfe, xfb, xop, rfl, C, A⟩ := hu
    unfold wpX_closureSource
    dsimp only
    refine cu_kind G hw hu' ?_
    refine br_t k1 ?_
    rw [e]
    refine ⟨vp_in_nI h5 (by omega), ?_⟩
    rw [nI_clamp (by omega), (A a v).2.1 (by rw [ka (by omega)]; decide)]
    exact hp
  · refine ⟨-1, fun u post hu hp => ?_⟩
    have hu' := hu
    obtain ⟨xvc, xcc, xfc, xoc, xag, xan, xex, xen, xfl, xac, xaf, xro, xsc, xho, xvk, xvf, xvs, xcv, xco, xff, xfp, xfe, xfb, xop, rfl, C, A⟩ := hu
    unfold wpX_closureSource
    dsimp only
    refine cu_kind G hw hu' ?_
    exact br_f k1 hp
theorem cu_Q2 (H : tk_ok tk n) (G : fq_G (tk_K tk n) (sk_f (tk_K tk n) n) n VP pvk pvf pvs) (hw : cu_W VP wc) : ∃ v : Int32, ∀ (u : SX) (post : Int32 → Prop), fq_S dl tk tv n r se md VP pvk pvf pvs wr wc u → post v → wpX_closureArity post u := by
  by_cases k1 : cu_k pvk wc = 4
  · obtain ⟨a, e, v, ka⟩ := cu_a hw k1 (by decide)
    obtain ⟨h5, hV⟩ := G a v
    have ka := ka (by omega)
    have pr : ∃ q c, q + 3 < n ∧ pvf a = nI q ∧ ls_C (tk_K tk n) (sk_f (tk_K tk n) n) (q + 3) c ∧ c ≤ 4 := by
      rcases hV with w | w | w | w
      · rw [ka] at w; exact absurd w (by decide)
      · rw [ka] at w; exact absurd w (by decide)
      · rw [ka] at w; exact absurd w.1 (by decide)
      · exact w.2
    obtain ⟨q, c, q1, q2, q3, q4⟩ := pr
    refine ⟨nI c, fun u post hu hp => ?_⟩
    have hu' := hu
    obtain ⟨xvc, xcc, xfc, xoc, xag, xan, xex, xen, xfl, xac, xaf, xro, xsc, xho, xvk, xvf, xvs, xcv, xco, xff, xfp, xfe, xfb, xop, rfl, C, A⟩ := hu
    obtain ⟨par, n0, I0, Af, _⟩ := C
    unfold wpX_closureArity
    dsimp only
    refine cu_kind G hw hu' ?_
    refine br_t k1 ?_
    rw [e]
    refine ⟨vp_in_nI h5 (by omega), ?_⟩
    rw [nI_clamp (by omega), (A a v).2.1 (by rw [ka]; decide), q2]
    unfold wpX_arity
    dsimp only
    rw [ni_2]
    exact xi_items (i := q + 2) H Af q3 hp
  · refine ⟨-1, fun u post hu hp => ?_⟩
    have hu' := hu
    obtain ⟨xvc, xcc, xfc, xoc, xag, xan, xex, xen, xfl, xac, xaf, xro, xsc, xho, xvk, xvf, xvs, xcv, xco, xff, xfp, xfe, xfb, xop, rfl, C, A⟩ := hu
    unfold wpX_closureArity
    dsimp only
    refine cu_kind G hw hu' ?_
    exact br_f k1 hp
theorem cu_Q4 (hw : cu_W VP wr) (hc : cu_W VP wc) : ∃ (v wc' : Int32), cu_W VP wc' ∧ ∀ (u : SX) (post : Int32 → SX → Prop), fq_S dl tk tv n r se md VP pvk pvf pvs wr wc u → (∀ u', fq_S dl tk tv n r se md VP pvk pvf pvs wr wc' u' → post v u') → wpX_goRoot post u := by
  by_cases e : wr = -1
  · refine ⟨0, wc, hc, fun u post hu hp => ?_⟩
    have hp := hp u hu
    obtain ⟨xvc, xcc, xfc, xoc, xag, xan, xex, xen, xfl, xac, xaf, xro, xsc, xho, xvk, xvf, xvs, xcv, xco, xff, xfp, xfe, xfb, xop, rfl, C, A⟩ := hu
    exact br_t e hp
  · refine ⟨1, wr, hw, fun u post hu hp => ?_⟩
    obtain ⟨xvc, xcc, xfc, xoc, xag, xan, xex, xen, xfl, xac, xaf, xro, xsc, xho, xvk, xvf, xvs, xcv, xco, xff, xfp, xfe, xfb, xop, rfl, C, A⟩ := hu
    exact br_f e (hp _ ⟨_, _, _, _, _, _, _, _, _, _,  _, _, _, _, _, _, _, _, _, _, _, _, _, _,  rfl, C, A⟩)
theorem cu_Q5 (G : fq_G (tk_K tk n) (sk_f (tk_K tk n) n) n VP pvk pvf pvs) (hc : cu_W VP wc) : ∃ (v wc' : Int32), cu_W VP wc' ∧ ∀ (u : SX) (post : Int32 → SX → Prop), fq_S dl tk tv n r se md VP pvk pvf pvs wr wc u → (∀ u', fq_S dl tk tv n r se md VP pvk pvf pvs wr wc' u' → post v u') → wpX_goCar post u := by
  by_cases k1 : cu_k pvk wc = 3
  · obtain ⟨a, e, v, ka⟩ := cu_a hc k1 (by decide)
    obtain ⟨h5, hV⟩ := G a v
    have ka := ka (by omega)
    have pr : ∃ a1 b1, pvf a = nI a1 ∧ pvs a = nI b1 ∧ VP a1 ∧ VP b1 := by
      rcases hV with w | w | w | w
      · rw [ka] at w; exact absurd w (by decide)
      · rw [ka] at w; exact absurd w (by decide)
      · exact w.2
      · rw [ka] at w; exact absurd w.1 (by decide)
    obtain ⟨a1, b1, q1, q2, q3, q4⟩ := pr
    refine ⟨1, nI a1, Or.inr ⟨a1, rfl, q3⟩, fun u post hu hp => ?_⟩
    have hu' := hu
    obtain ⟨xvc, xcc, xfc, xoc, xag, xan, xex, xen, xfl, xac, xaf, xro, xsc, xho, xvk, xvf, xvs, xcv, xco, xff, xfp, xfe, xfb, xop, rfl, C, A⟩ := hu
    unfold wpX_goCar
    dsimp only
    refine cu_kind G hc hu' ?_
    refine br_t k1 ?_
    rw [e]
    refine ⟨vp_in_nI h5 (by omega), nm_r (show xvf (nI a).toNatClampNeg = nI a1 from by rw [nI_clamp (by omega), (A a v).2.1 (by rw [ka]; decide), q1]) (hp _ ⟨_, _, _, _, _, _, _, _, _, _,  _, _, _, _, _, _, _, _, _, _, _, _, _, _,  rfl, C, A⟩)⟩
  · refine ⟨0, wc, hc, fun u post hu hp => ?_⟩
    have hu' := hu
    have hp := hp u hu
    obtain ⟨xvc, xcc, xfc, xoc, xag, xan, xex, xen, xfl, xac, xaf, xro, xsc, xho, xvk, xvf, xvs, xcv, xco, xff, xfp, xfe, xfb, xop, rfl, C, A⟩ := hu
    unfold wpX_goCar
    dsimp only
    refine cu_kind G hc hu' ?_
    exact br_f k1 hp
theorem cu_Q6 (G : fq_G (tk_K tk n) (sk_f (tk_K tk n) n) n VP pvk pvf pvs) (hc : cu_W VP wc) : ∃ (v wc' : Int32), cu_W VP wc' ∧ ∀ (u : SX) (post : Int32 → SX → Prop), fq_S dl tk tv n r se md VP pvk pvf pvs wr wc u → (∀ u', fq_S dl tk tv n r se md VP pvk pvf pvs wr wc' u' → post v u') → wpX_goCdr post u := by
  by_cases k1 : cu_k pvk wc = 3
  · obtain ⟨a, e, v, ka⟩ := cu_a hc k1 (by decide)
    obtain ⟨h5, hV⟩ := G a v
    have ka := ka (by omega)
    have pr : ∃ a1 b1, pvf a = nI a1 ∧ pvs a = nI b1 ∧ VP a1 ∧ VP b1 := by
      rcases hV with w | w | w | w
      · rw [ka] at w; exact absurd w (by decide)
      · rw [ka] at w; exact absurd w (by decide)
      · exact w.2
      · rw [ka] at w; exact absurd w.1 (by decide)
    obtain ⟨a1, b1, q1, q2, q3, q4⟩ := pr
    refine ⟨1, nI b1, Or.inr ⟨b1, rfl, q4⟩, fun u post hu hp => ?_⟩
    have hu' := hu
    obtain ⟨xvc, xcc, xfc, xoc, xag, xan, xex, xen, xfl, xac, xaf, xro, xsc, xho, xvk, xvf, xvs, xcv, xco, xff, xfp, xfe, xfb, xop, rfl, C, A⟩ := hu
    unfold wpX_goCdr
    dsimp only
    refine cu_kind G hc hu' ?_
    refine br_t k1 ?_
    rw [e]
    refine ⟨vp_in_nI h5 (by omega), nm_r (show xvs (nI a).toNatClampNeg = nI b1 from by rw [nI_clamp (by omega), (A a v).2.2 (Or.inl ka), q2]) (hp _ ⟨_, _, _, _, _, _, _, _, _, _,  _, _, _, _, _, _, _, _, _, _, _, _, _, _,  rfl, C, A⟩)⟩
  · refine ⟨0, wc, hc, fun u post hu hp => ?_⟩
    have hu' := hu
    have hp := hp u hu
    obtain ⟨xvc, xcc, xfc, xoc, xag, xan, xex, xen, xfl, xac, xaf, xro, xsc, xho, xvk, xvf, xvs, xcv, xco, xff, xfp, xfe, xfb, xop, rfl, C, A⟩ := hu
    unfold wpX_goCdr
    dsimp only
    refine cu_kind G hc hu' ?_
    exact br_f k1 hp
end
end
section
/-! a check of concrete tokens, by computing -/
theorem ck_and {a b : Bool} (h : (a && b) = true) : a = true ∧ b = true := by
  cases a with
  | false => exact absurd h Bool.false_ne_true
  | true => exact ⟨rfl, h⟩
theorem ck_or {a b : Bool} (h : (a || b) = true) : a = true ∨ b = true := by
  cases a with
  | false => exact Or.inr h
  | true => exact Or.inl rfl
def ck_al (p : Nat → Bool) : Nat → Bool
  | 0 => true
  | n + 1 => p n && ck_al p n
def ck_an (p : Nat → Bool) : Nat → Bool
  | 0 => false
  | n + 1 => p n || ck_an p n
theorem ck_alS {p : Nat → Bool} : ∀ {n : Nat}, ck_al p n = true → ∀ i, i < n → p i = true
  | 0, _, i, hi => by omega
  | n + 1, h, i, hi => by
    obtain ⟨a, b⟩ := ck_and h
    by_cases z : i = n
    · rw [z]; exact a
    · exact ck_alS b i (by omega)
theorem ck_anS {p : Nat → Bool} : ∀ {n : Nat}, ck_an p n = true → ∃ i, i < n ∧ p i = true
  | 0, h => absurd h Bool.false_ne_true
  | n + 1, h => by
    rcases ck_or h with a | a
    · exact ⟨n, by omega, a⟩
    · obtain ⟨i, b, c⟩ := ck_anS a
      exact ⟨i, by omega, c⟩
/-- a list of tokens, the last first: kinds and names; a table of ends -/
def ck_g : List (Nat × Nat) → Nat → Nat × Nat
  | [], _ => (0, 0)
  | x :: _, 0 => x
  | _ :: l, i + 1 => ck_g l i
def ck_h : List Nat → Nat → Nat → Nat
  | [], _, d => d
  | x :: _, 0, _ => x
  | _ :: l, i + 1, d => ck_h l i d
theorem ck_ho : ∀ {l : List Nat} {i d : Nat}, l.length ≤ i → ck_h l i d = d
  | [], _, _, _ => rfl
  | x :: l, 0, d, h => by simp at h
  | x :: l, i + 1, d, h => by
    simp only [List.length_cons] at h
    exact ck_ho (l := l) (by omega)
def ck_k (c : List (Nat × Nat)) (n i : Nat) : Nat := if i < n then (ck_g c (n - 1 - i)).1 else 0
def ck_v (c : List (Nat × Nat)) (n i : Nat) : Nat := (ck_g c (n - 1 - i)).2
def ck_a (t : List Nat) (i : Nat) : Nat := ck_h t i (i + 1)
/-- the depth comes back to its start at the end, not before -/
def ck_s (K : Nat → Nat) : Nat → Nat → Nat → Bool
  | 0, _, d => decide (d = 0)
  | f + 1, p, d => if d = 0 then false else if K p = 1 then ck_s K f (p + 1) (d + 1) else if K p = 2 then ck_s K f (p + 1) (d - 1) else ck_s K f (p + 1) d
theorem ck_sS {K : Nat → Nat} {e : Int} : ∀ (f p d : Nat), ck_s K f p d = true → dp_d K p = e + d → dp_d K (p + f) = e ∧ ∀ m, p ≤ m → m < p + f → e < dp_d K m
  | 0, p, d, h, hd => by
    have z : d = 0 := of_decide_eq_true h
    refine ⟨?_, fun m a b => by omega⟩
    rw [Nat.add_zero, hd, z]
    omega
  | f + 1, p, d, h, hd => by
    have h : (if d = 0 then false else if K p = 1 then ck_s K f (p + 1) (d + 1) else if K p = 2 then ck_s K f (p + 1) (d - 1) else ck_s K f (p + 1) d) = true := h
    by_cases z : d = 0
    · rw [if_pos z] at h; exact absurd h Bool.false_ne_true
    · rw [if_neg z] at h
      have key : ∀ d' : Nat, ck_s K f (p + 1) d' = true → dp_d K (p + 1) = e + d' → dp_d K (p + (f + 1)) = e ∧ ∀ m, p ≤ m → m < p + (f + 1) → e < dp_d K m := by
        intro d' h' e'
        obtain ⟨a, b⟩ := ck_sS f (p + 1) d' h' e'
        rw [show p + (f + 1) = p + 1 + f from by omega]
        refine ⟨a, fun m x y => ?_⟩
        by_cases w : m = p
        · rw [w, hd]; omega
        · exact b m (by omega) y
      by_cases k1 : K p = 1
      · rw [if_pos k1] at h
        exact key _ h (by rw [dp_1 k1, hd]; omega)
      · rw [if_neg k1] at h
        by_cases k2 : K p = 2
        · rw [if_pos k2] at h
          exact key _ h (by rw [dp_2 k2, hd]; omega)
        · rw [if_neg k2] at h
          exact key _ h (by rw [dp_0 k1 k2]; exact hd)
theorem ck_I {K : Nat → Nat} {i j : Nat} (k1 : K i = 1) (hj : i + 1 < j) (h : ck_s K (j - (i + 1)) (i + 1) 1 = true) : dp_I K i j := by
  obtain ⟨a, b⟩ := ck_sS (e := dp_d K i) _ _ _ h (by have := dp_1 k1; omega)
  rw [show i + 1 + (j - (i + 1)) = j from by omega] at a b
  exact ⟨by omega, a, fun m x y => b m (by omega) y⟩
def ck_t (K A : Nat → Nat) (n : Nat) : Bool := ck_al (fun i => if K i = 1 then decide (i + 1 < A i) && ck_s K (A i - (i + 1)) (i + 1) 1 else decide (A i = i + 1)) n
section
variable {K A nm : Nat → Nat} {V : Nat → Int32} {n : Nat}
theorem ck_tS (h : ck_t K A n = true) (hn : ∀ i, n ≤ i → K i = 0 ∧ A i = i + 1) : sk_f K n = A := by
  have key : ∀ i, i < n → (if K i = 1 then decide (i + 1 < A i) && ck_s K (A i - (i + 1)) (i + 1) 1 else decide (A i = i + 1)) = true := fun i hi => ck_alS h i hi
  funext i
  by_cases k1 : K i = 1
  · have hi : i < n := by
      rcases Nat.lt_or_ge i n with z | z
      · exact z
      · have := (hn i z).1; omega
    have q := key i hi
    rw [if_pos k1] at q
    obtain ⟨a, b⟩ := ck_and q
    exact sk_I (ck_I k1 (of_decide_eq_true a) b)
  · rw [sk_at k1]
    rcases Nat.lt_or_ge i n with z | z
    · have q := key i z
      rw [if_neg k1] at q
      exact (of_decide_eq_true q).symm
    · exact (hn i z).2.symm
end
/-- the list from s has c items -/
def ck_C (K A : Nat → Nat) : Nat → Nat → Bool
  | 0, s => decide (K s = 2)
  | c + 1, s => decide (K s ≠ 2) && ck_C K A c (A s)
def ck_E (A : Nat → Nat) (f : Nat → Bool) : Nat → Nat → Bool
  | 0, _ => true
  | c + 1, s => f s && ck_E A f c (A s)
def ck_n (K A : Nat → Nat) : Nat → Nat → Nat
  | 0, _ => 0
  | f + 1, s => if K s = 2 then 0 else ck_n K A f (A s) + 1
def ck_P (K nm : Nat → Nat) (q c : Nat) : Bool := decide (c ≤ 4) && ck_al (fun j => decide (K (q + 1 + j) = 4)) c && decide (K (q + 1 + c) = 2) && ck_al (fun j' => ck_al (fun j => decide (nm (q + 1 + j) ≠ nm (q + 1 + j'))) j') c
def ck_U (K A nm : Nat → Nat) (st s : Nat) : Bool := ck_al (fun k => ck_an (fun k' => decide (¬ it_f A k' (st + 1) < s - 1)) (k + 1) || decide (K (it_f A k (st + 1) + 1) = 4 ∧ nm (it_f A k (st + 1) + 1) ≠ nm s)) 4
def ck_b (K A nm : Nat → Nat) (h st b : Nat) : Bool := decide (K b = 1 ∧ K (b + 1) = 4 ∧ (h = 9 → K (b + 2) = 1 ∧ K (b + 3) = 7)) && ck_C K A 2 (b + 1) && ck_U K A nm st (b + 1)
def ck_F (K A nm : Nat → Nat) (e d : Nat → Bool) (i : Nat) : Bool :=
  if K (i + 1) < 6 then decide (1 ≤ ck_n K A 6 (i + 1) ∧ ck_n K A 6 (i + 1) ≤ 5) && ck_C K A (ck_n K A 6 (i + 1)) (i + 1) && ck_E A e (ck_n K A 6 (i + 1)) (i + 1)
  else if K (i + 1) = 6 then ck_C K A 1 (i + 2) && d (i + 2)
  else if K (i + 1) = 7 then decide (K (i + 2) = 1) && ck_C K A 2 (i + 2) && ck_P K nm (i + 2) (ck_n K A 6 (i + 3)) && e (A (i + 2))
  else if K (i + 1) ≤ 9 then decide (K (i + 2) = 1 ∧ 1 ≤ ck_n K A 6 (i + 3) ∧ ck_n K A 6 (i + 3) ≤ 4) && ck_C K A 2 (i + 2) && ck_C K A (ck_n K A 6 (i + 3)) (i + 3) && ck_E A (fun b => ck_b K A nm (K (i + 1)) (i + 2) b && e (b + 2)) (ck_n K A 6 (i + 3)) (i + 3) && e (A (i + 2))
  else ck_C K A (gr_n (K (i + 1))) (i + 2) && ck_E A e (gr_n (K (i + 1))) (i + 2)
def ck_e (K A nm : Nat → Nat) (e d : Nat → Bool) (i : Nat) : Bool := if K i = 3 ∨ K i = 4 ∨ K i = 5 then true else if K i = 1 then ck_F K A nm e d i else false
def ck_d (K A : Nat → Nat) (d : Nat → Bool) (i : Nat) : Bool := if K i = 3 ∨ K i = 5 then true else if K i = 1 then ck_C K A (ck_n K A 6 (i + 1)) (i + 1) && ck_E A d (ck_n K A 6 (i + 1)) (i + 1) else false
def ck_X (K A nm : Nat → Nat) : Nat → Bool → Nat → Bool
  | 0, _, _ => false
  | k + 1, true, i => ck_e K A nm (ck_X K A nm k true) (ck_X K A nm k false) i
  | k + 1, false, i => ck_d K A (ck_X K A nm k false) i
section
variable {K A nm : Nat → Nat} {V : Nat → Int32} {n : Nat}
theorem ck_CS : ∀ (c s : Nat), ck_C K A c s = true → ls_C K A s c
  | 0, s, h => ls_C_0 (of_decide_eq_true h)
  | c + 1, s, h => by
    obtain ⟨a, b⟩ := ck_and h
    exact ls_C_s (of_decide_eq_true a) (ck_CS c (A s) b)
theorem ck_ES {f : Nat → Bool} : ∀ (c s : Nat), ck_E A f c s = true → ∀ j, j < c → f (it_f A j s) = true
  | 0, s, h, j, hj => by omega
  | c + 1, s, h, 0, hj => (ck_and h).1
  | c + 1, s, h, j + 1, hj => ck_ES c (A s) (ck_and h).2 j (by omega)
theorem ck_Em {f : Nat → Bool} {s c p : Nat} (l : ls_C K A s c) (h : ck_E A f c s = true) (hp : ls_M K A s p) : f p = true := by
  obtain ⟨j, hj, e⟩ := (ls_CM l).mp hp
  rw [e]; exact ck_ES c s h j hj
theorem ck_PS {q c : Nat} (hV : ∀ i, K i = 4 → V i = nI (nm i) ∧ nm i < 2 ^ 31) (h : ck_P K nm q c = true) : gr_P K V q c := by
  obtain ⟨h, h4⟩ := ck_and h
  obtain ⟨h, h3⟩ := ck_and h
  obtain ⟨h1, h2⟩ := ck_and h
  have k4 : ∀ j, j < c → K (q + 1 + j) = 4 := fun j hj => by
    have z := ck_alS h2 j hj
    exact of_decide_eq_true z
  refine ⟨of_decide_eq_true h1, k4, of_decide_eq_true h3, fun j j' a b e => ?_⟩
  have v := hV _ (k4 j (by omega))
  have v' := hV _ (k4 j' b)
  rw [v.1, v'.1] at e
  have q1 := ck_alS h4 j' b
  have q2 := ck_alS q1 j a
  have ne : nm (q + 1 + j) ≠ nm (q + 1 + j') := of_decide_eq_true q2
  exact ne ((nI_eq v.2 v'.2).mp e)
theorem ck_US {st s : Nat} (hV : ∀ i, K i = 4 → V i = nI (nm i) ∧ nm i < 2 ^ 31) (hs : K s = 4) (h : ck_U K A nm st s = true) : ¬ gr_dup V A st s := by
  rintro ⟨k, k4, hlt, e⟩
  have q := ck_alS h k k4
  rcases ck_or q with z | z
  · obtain ⟨k', a, b⟩ := ck_anS z
    have b' : ¬ it_f A k' (st + 1) < s - 1 := of_decide_eq_true b
    exact b' (hlt k' (by omega))
  · have z' : K (it_f A k (st + 1) + 1) = 4 ∧ nm (it_f A k (st + 1) + 1) ≠ nm s := of_decide_eq_true z
    have v := hV _ z'.1
    have v' := hV s hs
    rw [v.1, v'.1] at e
    exact z'.2 ((nI_eq v.2 v'.2).mp e)
theorem ck_bS {h st b : Nat} (hV : ∀ i, K i = 4 → V i = nI (nm i) ∧ nm i < 2 ^ 31) (hb : ck_b K A nm h st b = true) : gr_BS K V A h st b := by
  obtain ⟨hb, h3⟩ := ck_and hb
  obtain ⟨h1, h2⟩ := ck_and hb
  have z : K b = 1 ∧ K (b + 1) = 4 ∧ (h = 9 → K (b + 2) = 1 ∧ K (b + 3) = 7) := of_decide_eq_true h1
  exact ⟨z.1, ck_CS _ _ h2, z.2.1, ck_US hV z.2.1 h3, z.2.2⟩
theorem ck_FS {E D : Nat → Prop} {e d : Nat → Bool} {i : Nat} (hV : ∀ i, K i = 4 → V i = nI (nm i) ∧ nm i < 2 ^ 31) (hE : ∀ c, e c = true → E c) (hD : ∀ c, d c = true → D c) (k1 : K i = 1) (h : ck_F K A nm e d i = true) : gr_EC K V A E D i := by
  unfold ck_F at h
  by_cases z5 : K (i + 1) < 6
  · rw [if_pos z5] at h
    obtain ⟨h, h3⟩ := ck_and h
    obtain ⟨h1, h2⟩ := ck_and h
    have b : 1 ≤ ck_n K A 6 (i + 1) ∧ ck_n K A 6 (i + 1) ≤ 5 := of_decide_eq_true h1
    have l := ck_CS _ _ h2
    refine ⟨Or.inr (Or.inr (Or.inr ⟨k1, Or.inr (Or.inr (Or.inr (Or.inr ⟨z5, ck_n K A 6 (i + 1) - 1, by omega, ?_⟩)))⟩)), fun c hc => ?_, fun c hc => ?_⟩
    · rw [show ck_n K A 6 (i + 1) - 1 + 1 = ck_n K A 6 (i + 1) from by omega]; exact l
    · obtain ⟨_, q⟩ := hc
      rcases q with ⟨q, _⟩ | ⟨_, q⟩ | ⟨q, _, _⟩ | ⟨q, _⟩
      · omega
      · exact hE _ (ck_Em l h3 q)
      · omega
      · omega
    · have := hc.2.1; omega
  · rw [if_neg z5] at h
    by_cases z6 : K (i + 1) = 6
    · rw [if_pos z6] at h
      obtain ⟨h1, h2⟩ := ck_and h
      have l := ck_CS _ _ h1
      refine ⟨Or.inr (Or.inr (Or.inr ⟨k1, Or.inl ⟨z6, l⟩⟩)), fun c hc => ?_, fun c hc => ?_⟩
      · obtain ⟨_, q⟩ := hc
        rcases q with ⟨q, _⟩ | ⟨q, _⟩ | ⟨q, _, _⟩ | ⟨q, _⟩ <;> omega
      · obtain ⟨j, hj, ej⟩ := (ls_CM l).mp hc.2.2
        have : j = 0 := by omega
        subst this
        rw [ej]; exact hD _ h2
    · rw [if_neg z6] at h
      by_cases z7 : K (i + 1) = 7
      · rw [if_pos z7] at h
        obtain ⟨h, h4⟩ := ck_and h
        obtain ⟨h, h3⟩ := ck_and h
        obtain ⟨h1, h2⟩ := ck_and h
        have l := ck_CS _ _ h2
        refine ⟨Or.inr (Or.inr (Or.inr ⟨k1, Or.inr (Or.inl ⟨z7, l, of_decide_eq_true h1, _, ck_PS hV h3⟩)⟩)), fun c hc => ?_, fun c hc => ?_⟩
        · obtain ⟨_, q⟩ := hc
          rcases q with ⟨q, _⟩ | ⟨q, _⟩ | ⟨_, _, q⟩ | ⟨q, _⟩
          · omega
          · omega
          · rw [q]; exact hE _ h4
          · omega
        · have := hc.2.1; omega
      · rw [if_neg z7] at h
        by_cases z9 : K (i + 1) ≤ 9
        · rw [if_pos z9] at h
          obtain ⟨h, h5⟩ := ck_and h
          obtain ⟨h, h4⟩ := ck_and h
          obtain ⟨h, h3⟩ := ck_and h
          obtain ⟨h1, h2⟩ := ck_and h
          have b : K (i + 2) = 1 ∧ 1 ≤ ck_n K A 6 (i + 3) ∧ ck_n K A 6 (i + 3) ≤ 4 := of_decide_eq_true h1
          have l2 := ck_CS _ _ h2
          have l := ck_CS _ _ h3
          refine ⟨Or.inr (Or.inr (Or.inr ⟨k1, Or.inr (Or.inr (Or.inl ⟨by omega, l2, b.1, _, b.2.1, b.2.2, l, fun j hj => ?_⟩))⟩)), fun c hc => ?_, fun c hc => ?_⟩
          · have hb := ck_ES _ _ h4 j hj
            exact ck_bS hV (ck_and hb).1
          · obtain ⟨_, q⟩ := hc
            rcases q with ⟨q, _⟩ | ⟨q, _⟩ | ⟨_, _, q⟩ | ⟨_, bb, q, q2⟩
            · omega
            · omega
            · rw [q]; exact hE _ h5
            · have hb := ck_Em l h4 q
              rw [q2]; exact hE _ (ck_and hb).2
          · have := hc.2.1; omega
        · rw [if_neg z9] at h
          obtain ⟨h1, h2⟩ := ck_and h
          have l := ck_CS _ _ h1
          refine ⟨Or.inr (Or.inr (Or.inr ⟨k1, Or.inr (Or.inr (Or.inr (Or.inl ⟨by omega, l⟩)))⟩)), fun c hc => ?_, fun c hc => ?_⟩
          · obtain ⟨_, q⟩ := hc
            rcases q with ⟨_, q⟩ | ⟨q, _⟩ | ⟨_, q, _⟩ | ⟨q, _⟩
            · exact hE _ (ck_Em l h2 q)
            · omega
            · omega
            · omega
          · have := hc.2.1; omega
theorem ck_eS {E D : Nat → Prop} {e d : Nat → Bool} {i : Nat} (hV : ∀ i, K i = 4 → V i = nI (nm i) ∧ nm i < 2 ^ 31) (hE : ∀ c, e c = true → E c) (hD : ∀ c, d c = true → D c) (h : ck_e K A nm e d i = true) : gr_EC K V A E D i := by
  unfold ck_e at h
  by_cases z : K i = 3 ∨ K i = 4 ∨ K i = 5
  · refine ⟨by unfold gr_SH; omega, fun c hc => ?_, fun c hc => ?_⟩
    · have := hc.1; omega
    · have := hc.1; omega
  · rw [if_neg z] at h
    by_cases k1 : K i = 1
    · rw [if_pos k1] at h; exact ck_FS hV hE hD k1 h
    · rw [if_neg k1] at h; exact absurd h Bool.false_ne_true
theorem ck_dS {D : Nat → Prop} {d : Nat → Bool} {i : Nat} (hD : ∀ c, d c = true → D c) (h : ck_d K A d i = true) : gr_DC K A D i := by
  unfold ck_d at h
  by_cases z : K i = 3 ∨ K i = 5
  · refine ⟨by unfold gr_DS; omega, fun c hc => ?_⟩
    have := hc.1; omega
  · rw [if_neg z] at h
    by_cases k1 : K i = 1
    · rw [if_pos k1] at h
      obtain ⟨h1, h2⟩ := ck_and h
      have l := ck_CS _ _ h1
      exact ⟨Or.inr (Or.inr ⟨k1, _, l⟩), fun c hc => hD _ (ck_Em l h2 hc.2)⟩
    · rw [if_neg k1] at h; exact absurd h Bool.false_ne_true
theorem ck_XS (hV : ∀ i, K i = 4 → V i = nI (nm i) ∧ nm i < 2 ^ 31) : ∀ (k : Nat) (b : Bool) (i : Nat), ck_X K A nm k b i = true → gr_X K V A k b i
  | 0, _, _, h => absurd h Bool.false_ne_true
  | k + 1, true, i, h => ck_eS hV (fun c => ck_XS hV k true c) (fun c => ck_XS hV k false c) h
  | k + 1, false, i, h => ck_dS (fun c => ck_XS hV k false c) h
end
/-! the names: bound, or names of binders -/
def ck_M (K A : Nat → Nat) : Nat → Nat → Nat → Bool
  | 0, _, _ => false
  | f + 1, s, p => decide (K s ≠ 2) && (decide (p = s) || ck_M K A f (A s) p)
def ck_N (K A : Nat → Nat) (j m : Nat) : Bool := decide (K j = 1) && ((decide (K (j + 1) = 7) && ck_M K A 5 (j + 3) m) || (decide ((K (j + 1) = 8 ∨ K (j + 1) = 9) ∧ 1 ≤ m) && ck_M K A 5 (j + 3) (m - 1)))
def ck_B (K A nm : Nat → Nat) (n i j : Nat) : Bool := decide (j < i ∧ K j = 1 ∧ 7 ≤ K (j + 1) ∧ K (j + 1) ≤ 9 ∧ i < A j ∧ (K (j + 1) = 9 ∨ A (j + 2) ≤ i)) && ck_an (fun m => decide (K m = 4 ∧ nm m = nm i) && ck_N K A j m) n
def ck_S (K A nm : Nat → Nat) (n : Nat) : Bool := ck_al (fun i => decide (K i ≠ 4) || (ck_an (fun j => ck_N K A j i) n || ck_an (fun j => ck_B K A nm n i j) n)) n
section
variable {K A nm : Nat → Nat} {V : Nat → Int32} {n : Nat}
theorem ck_MS : ∀ (f s p : Nat), ck_M K A f s p = true → ls_M K A s p
  | 0, _, _, h => absurd h Bool.false_ne_true
  | f + 1, s, p, h => by
    obtain ⟨a, b⟩ := ck_and h
    have a' : K s ≠ 2 := of_decide_eq_true a
    rcases ck_or b with z | z
    · have e : p = s := of_decide_eq_true z
      rw [e]; exact ls_M_0 a'
    · exact ls_M_s a' (ck_MS f (A s) p z)
theorem ck_NS {j m : Nat} (h : ck_N K A j m = true) : gr_N K A j m := by
  obtain ⟨a, b⟩ := ck_and h
  refine ⟨of_decide_eq_true a, ?_⟩
  rcases ck_or b with z | z
  · obtain ⟨z1, z2⟩ := ck_and z
    exact Or.inl ⟨of_decide_eq_true z1, ck_MS _ _ _ z2⟩
  · obtain ⟨z1, z2⟩ := ck_and z
    have z1 : (K (j + 1) = 8 ∨ K (j + 1) = 9) ∧ 1 ≤ m := of_decide_eq_true z1
    exact Or.inr ⟨z1.1, m - 1, ck_MS _ _ _ z2, by omega⟩
theorem ck_SS (hV : ∀ i, K i = 4 → V i = nI (nm i) ∧ nm i < 2 ^ 31) (h : ck_S K A nm n = true) {i : Nat} (hi : i < n) (k4 : K i = 4) : (∃ j, gr_N K A j i) ∨ sc_B K V A i (V i) := by
  have q := ck_alS h i hi
  rcases ck_or q with z | z
  · have z' : K i ≠ 4 := of_decide_eq_true z
    exact absurd k4 z'
  · rcases ck_or z with z | z
    · obtain ⟨j, _, b⟩ := ck_anS z
      exact Or.inl ⟨j, ck_NS b⟩
    · obtain ⟨j, _, b⟩ := ck_anS z
      obtain ⟨b1, b2⟩ := ck_and b
      have b1 : j < i ∧ K j = 1 ∧ 7 ≤ K (j + 1) ∧ K (j + 1) ≤ 9 ∧ i < A j ∧ (K (j + 1) = 9 ∨ A (j + 2) ≤ i) := of_decide_eq_true b1
      obtain ⟨m, _, b3⟩ := ck_anS b2
      obtain ⟨b3, b4⟩ := ck_and b3
      have b3 : K m = 4 ∧ nm m = nm i := of_decide_eq_true b3
      obtain ⟨c1, c2, c3, c4, c5, c6⟩ := b1
      refine Or.inr ⟨j, c1, c2, c3, c4, c5, ⟨m, ck_NS b4, ?_⟩, c6⟩
      rw [(hV m b3.1).1, (hV i k4).1, b3.2]
end
def ck_T (c : List (Nat × Nat)) (t : List Nat) (n : Nat) : Bool :=
  decide (t.length = n ∧ 0 < n ∧ n ≤ 64 ∧ ck_a t 0 = n) && ck_al (fun i => decide (1 ≤ ck_k c n i ∧ ck_k c n i ≤ 20 ∧ ck_v c n i < 1000)) n && ck_t (ck_k c n) (ck_a t) n && ck_X (ck_k c n) (ck_a t) (ck_v c n) 20 true 0 && ck_S (ck_k c n) (ck_a t) (ck_v c n) n
theorem ck_TS {c : List (Nat × Nat)} {t : List Nat} {n : Nat} {tk tv : Nat → Int32} (h : ck_T c t n = true) (hk : ∀ i, i < n → tk i = nI (ck_k c n i)) (hv : ∀ i, i < n → ck_k c n i = 4 → tv i = nI (ck_v c n i)) :
    tk_ok tk n ∧ 0 < n ∧ sk_f (tk_K tk n) n 0 = n ∧ gr_X (tk_K tk n) tv (sk_f (tk_K tk n) n) 20 true 0 ∧ ∀ i, i < n → tk_K tk n i = 4 → (∃ j, gr_N (tk_K tk n) (sk_f (tk_K tk n) n) j i) ∨ sc_B (tk_K tk n) tv (sk_f (tk_K tk n) n) i (tv i) := by
  obtain ⟨h, h5⟩ := ck_and h
  obtain ⟨h, h4⟩ := ck_and h
  obtain ⟨h, h3⟩ := ck_and h
  obtain ⟨h1, h2⟩ := ck_and h
  have z : t.length = n ∧ 0 < n ∧ n ≤ 64 ∧ ck_a t 0 = n := of_decide_eq_true h1
  have b : ∀ i, i < n → 1 ≤ ck_k c n i ∧ ck_k c n i ≤ 20 ∧ ck_v c n i < 1000 := fun i hi => by
    have q := ck_alS h2 i hi
    exact of_decide_eq_true q
  have eK : tk_K tk n = ck_k c n := by
    funext i
    unfold tk_K
    by_cases w : i < n
    · have := b i w
      rw [if_pos w, hk i w, nI_clamp (by omega)]
    · rw [if_neg w]
      unfold ck_k
      rw [if_neg w]
  have hlt : ∀ i, ck_k c n i ≠ 0 → i < n := fun i hi => by
    rcases Nat.lt_or_ge i n with w | w
    · exact w
    · exact absurd (if_neg (by omega)) hi
  have eA : sk_f (ck_k c n) n = ck_a t := ck_tS h3 (fun i hi => ⟨if_neg (by omega), ck_ho (by omega)⟩)
  have hV : ∀ i, ck_k c n i = 4 → tv i = nI (ck_v c n i) ∧ ck_v c n i < 2 ^ 31 := fun i hi => by
    have w := hlt i (by omega)
    have := b i w
    exact ⟨hv i w hi, by omega⟩
  rw [eK, eA]
  refine ⟨⟨z.2.2.1, fun i hi => ⟨_, (b i hi).1, (b i hi).2.1, hk i hi⟩⟩, z.2.1, z.2.2.2, ck_XS hV 20 true 0 h4, fun i hi k4 => ck_SS hV h5 hi k4⟩
section
variable {xdl xtn xpp xvc xcc xfc xoc xag xan xex xen xfl xac xst xsp xmd xrt xcu : Int32} {xtk xtv xaf xro xsc xho xvk xvf xvs xcv xco xff xfp xfe xfb xop : Nat → Int32} {n : Nat}
/-- tokens that pass the check compile -/
theorem cq_comp {c : List (Nat × Nat)} {t : List Nat} (hT : ck_T c t n = true) (hk : ∀ i, i < n → xtk i = nI (ck_k c n i)) (hv : ∀ i, i < n → ck_k c n i = 4 → xtv i = nI (ck_v c n i)) {post : Int32 → SX → Prop}
    (h3 : ∀ af ro sc ho vk vf vs, cp_P xtk xtv n af ro sc ho vk vf vs → post 0 (xdl, nI n, 1, xvc, xcc, xfc, xoc, xag, xan, xex, xen, xfl, xac, -1, 0, 0, -1, -1, xtk, xtv, af, ro, sc, ho, vk, vf, vs, xcv, xco, xff, xfp, xfe, xfb, xop)) : wpX_compile post (xdl, nI n, xpp, xvc, xcc, xfc, xoc, xag, xan, xex, xen, xfl, xac, xst, xsp, xmd, xrt, xcu, xtk, xtv, xaf, xro, xsc, xho, xvk, xvf, xvs, xcv, xco, xff, xfp, xfe, xfb, xop) := by
  obtain ⟨H, n0, s0, gx, nb⟩ := ck_TS hT hk hv
  refine xc_comp H (fun af ro w => absurd ⟨n0, s0, gx⟩ (w 20)) (fun af ro sc ho par _ _ A W hC w => ?_) h3
  exfalso
  obtain ⟨i, hi, r1, k4, nB⟩ := w
  rcases nb i hi k4 with ⟨j, hN⟩ | hB
  · have k1 := hN.1
    have k79 : 7 ≤ tk_K xtk n (j + 1) ∧ tk_K xtk n (j + 1) ≤ 9 := by
      rcases hN.2 with ⟨q, _⟩ | ⟨q, _⟩ <;> omega
    have hj : j < n := tk_lt (tk := xtk) (by omega)
    have q := ((W.2.1 j hj (hC j k1 k79.1 k79.2)).2.2.2 i hN).1
    rw [r1] at q
    exact absurd q (by decide)
  · exact nB hB
end
end
section
/-! the tokens that the law hands over, the last first: kind and value -/
def tq_k : List (Nat × Int32) → Nat → Int32
  | [] => fun _ => 0
  | (k, _) :: l => upd (tq_k l) l.length (nI k)
def tq_v : List (Nat × Int32) → Nat → Int32
  | [] => fun _ => 0
  | (_, v) :: l => upd (tq_v l) l.length v
/-- kinds, and names where they are names -/
def tq_M : List (Nat × Int32) → List (Nat × Nat) → Prop
  | [], [] => True
  | (k, v) :: l, (k', v') :: c => k = k' ∧ (k' = 4 → v = nI v') ∧ tq_M l c
  | _, _ => False
theorem tq_MS : ∀ {l : List (Nat × Int32)} {c : List (Nat × Nat)}, tq_M l c → ∀ i, i < l.length → tq_k l i = nI (ck_g c (l.length - 1 - i)).1 ∧ ((ck_g c (l.length - 1 - i)).1 = 4 → tq_v l i = nI (ck_g c (l.length - 1 - i)).2)
  | [], _, _, i, hi => by simp at hi
  | (k, v) :: l, [], h, i, hi => False.elim h
  | (k, v) :: l, (k', v') :: c, h, i, hi => by
    obtain ⟨e, hv, h⟩ := h
    subst e
    have ih := tq_MS h
    simp only [List.length_cons] at hi ⊢
    by_cases z : i = l.length
    · subst z
      rw [show l.length + 1 - 1 - l.length = 0 from by omega]
      exact ⟨pk_us, fun w => pk_us.trans (hv w)⟩
    · rw [show l.length + 1 - 1 - i = l.length - 1 - i + 1 from by omega]
      have q := ih i (by omega)
      exact ⟨(pk_un z).trans q.1, fun w => (pk_un z).trans (q.2 w)⟩
section
variable {xdl xtn xpp xvc xcc xfc xoc xag xan xex xen xfl xac xst xsp xmd xrt xcu : Int32} {xtk xtv xaf xro xsc xho xvk xvf xvs xcv xco xff xfp xfe xfb xop : Nat → Int32} {n : Nat}
theorem tq_55 {z0 : Int32} (hn : n < 64) {post : Int32 → SX → Prop} (h : post 1 (xdl, nI (n + 1), 0, xvc, xcc, xfc, xoc, xag, xan, xex, xen, xfl, xac, -1, 0, 0, -1, -1, xtk, upd xtv n z0, xaf, xro, xsc, xho, xvk, xvf, xvs, xcv, xco, xff, xfp, xfe, xfb, xop)) : wX_token_55 post z0 (nI n) xdl (nI n) xpp xvc xcc xfc xoc xag xan xex xen xfl xac xst xsp xmd xrt xcu xtk xtv xaf xro xsc xho xvk xvf xvs xcv xco xff xfp xfe xfb xop := by
  have hc : (nI n).toNatClampNeg = n := nI_clamp (by omega)
  exact ⟨vp_in_nI hn (by omega), nm_r (show upd xtv (nI n).toNatClampNeg z0 = upd xtv n z0 from by rw [hc]) (nm_r (nI_1 n) h)⟩
theorem tq_tok {k : Nat} {v1 v2 z : Int32} (hn : n < 64) (hk : v1 = nI k) (k1 : 1 ≤ k) (k20 : k ≤ 20) (hz : ((k = 3 ∨ k = 4) ∧ z = v2) ∨ (¬ (k = 3 ∨ k = 4) ∧ z = 0)) {post : Int32 → SX → Prop}
    (h : post 1 (xdl, nI (n + 1), 0, xvc, xcc, xfc, xoc, xag, xan, xex, xen, xfl, xac, -1, 0, 0, -1, -1, upd xtk n v1, upd xtv n z, xaf, xro, xsc, xho, xvk, xvf, xvs, xcv, xco, xff, xfp, xfe, xfb, xop)) : wpX_token post (xdl, nI n, xpp, xvc, xcc, xfc, xoc, xag, xan, xex, xen, xfl, xac, xst, xsp, xmd, xrt, xcu, xtk, xtv, xaf, xro, xsc, xho, xvk, xvf, xvs, xcv, xco, xff, xfp, xfe, xfb, xop) v1 v2 := by
  have a : ¬ v1 < 1 := by
    rw [hk]
    exact fun w => absurd ((nI_ltI (b := 1) (by omega) (by omega)).mp w) (by omega)
  have b : ¬ 20 < v1 := by
    rw [hk]
    exact fun w => absurd ((nI_ltI (a := 20) (by omega) (by omega)).mp w) (by omega)
  have hlt : nI n < 64 := (nI_ltI (b := 64) (by omega) (by omega)).mpr hn
  have hc : (nI n).toNatClampNeg = n := nI_clamp (by omega)
  refine br_f a (br_f b (br_t hlt ⟨vp_in_nI hn (by omega), nm_r (show upd xtk (nI n).toNatClampNeg v1 = upd xtk n v1 from by rw [hc]) ?_⟩))
  have e3 : v1 = 3 → k = 3 := fun e => by
    rw [hk] at e
    exact (nI_eq (b := 3) (by omega) (by omega)).mp e
  have e4 : v1 = 4 → k = 4 := fun e => by
    rw [hk] at e
    exact (nI_eq (b := 4) (by omega) (by omega)).mp e
  rcases hz with ⟨k34, hz⟩ | ⟨k34, hz⟩
  · subst hz
    by_cases k3 : v1 = 3
    · exact br_t k3 (tq_55 (xtk := upd xtk n v1) hn h)
    · have k4 : v1 = 4 := by
        rcases k34 with k34 | k34
        · rw [k34] at hk; exact absurd hk k3
        · rw [k34] at hk; exact hk
      exact br_f k3 (br_t k4 (tq_55 (xtk := upd xtk n v1) hn h))
  · subst hz
    exact br_f (fun e => k34 (Or.inl (e3 e))) (br_f (fun e => k34 (Or.inr (e4 e))) (tq_55 (xtk := upd xtk n v1) hn h))
/-- one token more -/
theorem tq_a {l : List (Nat × Int32)} (k : Nat) (z : Int32) {v1 v2 : Int32} (hl : l.length = n) (hn : n < 64) (hk : v1 = nI k) (k1 : 1 ≤ k) (k20 : k ≤ 20) (hz : ((k = 3 ∨ k = 4) ∧ z = v2) ∨ (¬ (k = 3 ∨ k = 4) ∧ z = 0)) {post : Int32 → SX → Prop}
    (h : post 1 (xdl, nI (n + 1), 0, xvc, xcc, xfc, xoc, xag, xan, xex, xen, xfl, xac, -1, 0, 0, -1, -1, tq_k ((k, z) :: l), tq_v ((k, z) :: l), xaf, xro, xsc, xho, xvk, xvf, xvs, xcv, xco, xff, xfp, xfe, xfb, xop)) : wpX_token post (xdl, nI n, xpp, xvc, xcc, xfc, xoc, xag, xan, xex, xen, xfl, xac, xst, xsp, xmd, xrt, xcu, tq_k l, tq_v l, xaf, xro, xsc, xho, xvk, xvf, xvs, xcv, xco, xff, xfp, xfe, xfb, xop) v1 v2 := by
  subst hl
  subst hk
  exact tq_tok hn rfl k1 k20 hz h
/-- a paren, a keyword -/
theorem tq_p {l : List (Nat × Int32)} (k : Nat) {v1 v2 : Int32} (hl : l.length = n) (hn : n < 64) (hk : v1 = nI k) (k1 : 1 ≤ k) (k20 : k ≤ 20) (hz : ¬ (k = 3 ∨ k = 4)) {post : Int32 → SX → Prop}
    (h : post 1 (xdl, nI (n + 1), 0, xvc, xcc, xfc, xoc, xag, xan, xex, xen, xfl, xac, -1, 0, 0, -1, -1, tq_k ((k, 0) :: l), tq_v ((k, 0) :: l), xaf, xro, xsc, xho, xvk, xvf, xvs, xcv, xco, xff, xfp, xfe, xfb, xop)) : wpX_token post (xdl, nI n, xpp, xvc, xcc, xfc, xoc, xag, xan, xex, xen, xfl, xac, xst, xsp, xmd, xrt, xcu, tq_k l, tq_v l, xaf, xro, xsc, xho, xvk, xvf, xvs, xcv, xco, xff, xfp, xfe, xfb, xop) v1 v2 :=
  tq_a k 0 hl hn hk k1 k20 (Or.inr ⟨hz, rfl⟩) h
theorem tq_n {l : List (Nat × Int32)} {v2 : Int32} (hl : l.length = n) (hn : n < 64) {post : Int32 → SX → Prop}
    (h : post 1 (xdl, nI (n + 1), 0, xvc, xcc, xfc, xoc, xag, xan, xex, xen, xfl, xac, -1, 0, 0, -1, -1, tq_k ((3, v2) :: l), tq_v ((3, v2) :: l), xaf, xro, xsc, xho, xvk, xvf, xvs, xcv, xco, xff, xfp, xfe, xfb, xop)) : wpX_token post (xdl, nI n, xpp, xvc, xcc, xfc, xoc, xag, xan, xex, xen, xfl, xac, xst, xsp, xmd, xrt, xcu, tq_k l, tq_v l, xaf, xro, xsc, xho, xvk, xvf, xvs, xcv, xco, xff, xfp, xfe, xfb, xop) 3 v2 :=
  tq_a 3 v2 hl hn rfl (by omega) (by omega) (Or.inl ⟨Or.inl rfl, rfl⟩) h
theorem tq_s {l : List (Nat × Int32)} {v2 : Int32} (hl : l.length = n) (hn : n < 64) {post : Int32 → SX → Prop}
    (h : post 1 (xdl, nI (n + 1), 0, xvc, xcc, xfc, xoc, xag, xan, xex, xen, xfl, xac, -1, 0, 0, -1, -1, tq_k ((4, v2) :: l), tq_v ((4, v2) :: l), xaf, xro, xsc, xho, xvk, xvf, xvs, xcv, xco, xff, xfp, xfe, xfb, xop)) : wpX_token post (xdl, nI n, xpp, xvc, xcc, xfc, xoc, xag, xan, xex, xen, xfl, xac, xst, xsp, xmd, xrt, xcu, tq_k l, tq_v l, xaf, xro, xsc, xho, xvk, xvf, xvs, xcv, xco, xff, xfp, xfe, xfb, xop) 4 v2 :=
  tq_a 4 v2 hl hn rfl (by omega) (by omega) (Or.inl ⟨Or.inr rfl, rfl⟩) h
/-- they compile -/
theorem tq_comp {l : List (Nat × Int32)} {c : List (Nat × Nat)} {t : List Nat} (M : tq_M l c) (hl : l.length = n) (hT : ck_T c t n = true) {post : Int32 → SX → Prop}
    (h : ∀ u', dq_OK xdl (tq_k l) (tq_v l) n u' → post 0 u') : wpX_compile post (xdl, nI n, xpp, xvc, xcc, xfc, xoc, xag, xan, xex, xen, xfl, xac, xst, xsp, xmd, xrt, xcu, tq_k l, tq_v l, xaf, xro, xsc, xho, xvk, xvf, xvs, xcv, xco, xff, xfp, xfe, xfb, xop) := by
  have S := tq_MS M
  rw [hl] at S
  have e : ∀ i, i < n → ck_k c n i = (ck_g c (n - 1 - i)).1 := fun i hi => if_pos hi
  refine cq_comp hT (fun i hi => by rw [e i hi]; exact (S i hi).1) (fun i hi h4 => (S i hi).2 (by rw [← e i hi]; exact h4)) (fun af ro sc ho vk vf vs C => h _ ⟨_, _, _, _, _, _, _, _, _, _, _, _, _, _, _,  _, _, _, _, _, _, _, _, _, _, _, _, _, _,  rfl, C⟩)
theorem tq_ok {l : List (Nat × Int32)} {c : List (Nat × Nat)} {t : List Nat} (M : tq_M l c) (hl : l.length = n) (hT : ck_T c t n = true) : tk_ok (tq_k l) n := by
  have S := tq_MS M
  rw [hl] at S
  have e : ∀ i, i < n → ck_k c n i = (ck_g c (n - 1 - i)).1 := fun i hi => if_pos hi
  exact (ck_TS hT (tv := tq_v l) (fun i hi => by rw [e i hi]; exact (S i hi).1) (fun i hi h4 => (S i hi).2 (by rw [← e i hi]; exact h4))).1
end
def tp_O (o : Nat) : Prop := o = 11 ∨ o = 15 ∨ o = 16 ∨ o = 17 ∨ o = 18 ∨ o = 19 ∨ o = 20
def tp_0 (o zz : Nat) : List (Nat × Nat) := [(2, 0), (2, 0), (3, 0), (4, 101), (1, 0), (2, 0), (2, 0), (2, 0), (2, 0), (2, 0), (2, 0), (2, 0), (3, 0), (4, 102), (16, 0), (1, 0), (4, 101), (1, 0), (4, 102), (o, 0), (1, 0), (zz, 0), (2, 0), (3, 0), (4, 102), (20, 0), (1, 0), (10, 0), (1, 0), (2, 0), (4, 102), (1, 0), (7, 0), (1, 0), (4, 101), (1, 0), (1, 0), (9, 0), (1, 0)]
def tp_e0 : List Nat := [39, 2, 34, 33, 5, 32, 7, 10, 9, 10, 31, 12, 17, 14, 15, 16, 17, 18, 30, 20, 21, 29, 23, 28, 25, 26, 27, 28, 29, 30, 31, 32, 33, 34, 38, 36, 37, 38, 39]
theorem tp_c0 {o zz : Nat} (ho : tp_O o) (hz : zz = 3 ∨ zz = 5) : ck_T (tp_0 o zz) tp_e0 39 = true := by
  rcases hz with rfl | rfl
  · rcases ho with rfl | rfl | rfl | rfl | rfl | rfl | rfl <;> decide +kernel
  · rcases ho with rfl | rfl | rfl | rfl | rfl | rfl | rfl <;> decide +kernel
def tp_1 (o : Nat) : List (Nat × Nat) := [(2, 0), (2, 0), (3, 0), (3, 0), (4, 101), (1, 0), (2, 0), (2, 0), (2, 0), (2, 0), (2, 0), (2, 0), (4, 102), (4, 103), (o, 0), (1, 0), (2, 0), (3, 0), (4, 102), (16, 0), (1, 0), (4, 101), (1, 0), (4, 103), (2, 0), (3, 0), (4, 102), (19, 0), (1, 0), (10, 0), (1, 0), (2, 0), (4, 103), (4, 102), (1, 0), (7, 0), (1, 0), (4, 101), (1, 0), (1, 0), (9, 0), (1, 0)]
def tp_e1 : List Nat := [42, 2, 36, 35, 5, 34, 7, 11, 9, 10, 11, 33, 13, 18, 15, 16, 17, 18, 19, 32, 21, 26, 23, 24, 25, 26, 31, 28, 29, 30, 31, 32, 33, 34, 35, 36, 41, 38, 39, 40, 41, 42]
theorem tp_c1 {o : Nat} (ho : tp_O o) : ck_T (tp_1 o) tp_e1 42 = true := by
  rcases ho with rfl | rfl | rfl | rfl | rfl | rfl | rfl <;> decide +kernel
def tp_2 (o : Nat) : List (Nat × Nat) := [(2, 0), (2, 0), (2, 0), (2, 0), (2, 0), (3, 0), (2, 0), (1, 0), (3, 0), (1, 0), (6, 0), (1, 0), (2, 0), (4, 105), (4, 104), (o, 0), (1, 0), (11, 0), (1, 0), (2, 0), (2, 0), (4, 106), (4, 104), (o, 0), (1, 0), (2, 0), (4, 106), (1, 0), (7, 0), (1, 0), (11, 0), (1, 0), (2, 0), (2, 0), (3, 0), (4, 105), (1, 0), (2, 0), (3, 0), (4, 104), (1, 0), (1, 0), (8, 0), (1, 0)]
def tp_e2 : List Nat := [44, 2, 12, 7, 5, 6, 7, 11, 9, 10, 11, 12, 43, 14, 25, 16, 19, 18, 19, 24, 21, 22, 23, 24, 25, 42, 27, 32, 29, 30, 31, 32, 41, 34, 40, 36, 38, 38, 39, 40, 41, 42, 43, 44]
theorem tp_c2 {o : Nat} (ho : tp_O o) : ck_T (tp_2 o) tp_e2 44 = true := by
  rcases ho with rfl | rfl | rfl | rfl | rfl | rfl | rfl <;> decide +kernel
def tp_n0 : List (Nat × Nat) := [(2, 0), (3, 0), (1, 0)]
def tp_en0 : List Nat := [3, 2, 3]
theorem tp_cn0 : ck_T tp_n0 tp_en0 3 = true := by decide +kernel
def tp_n1 : List (Nat × Nat) := [(2, 0), (3, 0), (3, 0), (1, 0)]
def tp_en1 : List Nat := [4, 2, 3, 4]
theorem tp_cn1 : ck_T tp_n1 tp_en1 4 = true := by decide +kernel
def tp_n2 : List (Nat × Nat) := [(2, 0), (3, 0), (3, 0), (3, 0), (1, 0)]
def tp_en2 : List Nat := [5, 2, 3, 4, 5]
theorem tp_cn2 : ck_T tp_n2 tp_en2 5 = true := by decide +kernel
def tp_n3 : List (Nat × Nat) := [(2, 0), (3, 0), (3, 0), (3, 0), (3, 0), (1, 0)]
def tp_en3 : List Nat := [6, 2, 3, 4, 5, 6]
theorem tp_cn3 : ck_T tp_n3 tp_en3 6 = true := by decide +kernel
def tp_l0 (o : Nat) : List (Nat × Nat) := [(2, 0), (2, 0), (2, 0), (4, 105), (4, 104), (o, 0), (1, 0), (2, 0), (4, 105), (4, 104), (1, 0), (7, 0), (1, 0), (1, 0)]
def tp_el0 : List Nat := [14, 13, 3, 7, 5, 6, 7, 12, 9, 10, 11, 12, 13, 14]
theorem tp_cl0 {o : Nat} (ho : tp_O o) : ck_T (tp_l0 o) tp_el0 14 = true := by
  rcases ho with rfl | rfl | rfl | rfl | rfl | rfl | rfl <;> decide +kernel
def tp_l1 (o : Nat) : List (Nat × Nat) := [(2, 0), (3, 0), (2, 0), (2, 0), (4, 105), (4, 104), (o, 0), (1, 0), (2, 0), (4, 105), (4, 104), (1, 0), (7, 0), (1, 0), (1, 0)]
def tp_el1 : List Nat := [15, 13, 3, 7, 5, 6, 7, 12, 9, 10, 11, 12, 13, 14, 15]
theorem tp_cl1 {o : Nat} (ho : tp_O o) : ck_T (tp_l1 o) tp_el1 15 = true := by
  rcases ho with rfl | rfl | rfl | rfl | rfl | rfl | rfl <;> decide +kernel
def tp_l2 (o : Nat) : List (Nat × Nat) := [(2, 0), (3, 0), (3, 0), (2, 0), (2, 0), (4, 105), (4, 104), (o, 0), (1, 0), (2, 0), (4, 105), (4, 104), (1, 0), (7, 0), (1, 0), (1, 0)]
def tp_el2 : List Nat := [16, 13, 3, 7, 5, 6, 7, 12, 9, 10, 11, 12, 13, 14, 15, 16]
theorem tp_cl2 {o : Nat} (ho : tp_O o) : ck_T (tp_l2 o) tp_el2 16 = true := by
  rcases ho with rfl | rfl | rfl | rfl | rfl | rfl | rfl <;> decide +kernel
def tp_l3 (o : Nat) : List (Nat × Nat) := [(2, 0), (3, 0), (3, 0), (3, 0), (2, 0), (2, 0), (4, 105), (4, 104), (o, 0), (1, 0), (2, 0), (4, 105), (4, 104), (1, 0), (7, 0), (1, 0), (1, 0)]
def tp_el3 : List Nat := [17, 13, 3, 7, 5, 6, 7, 12, 9, 10, 11, 12, 13, 14, 15, 16, 17]
theorem tp_cl3 {o : Nat} (ho : tp_O o) : ck_T (tp_l3 o) tp_el3 17 = true := by
  rcases ho with rfl | rfl | rfl | rfl | rfl | rfl | rfl <;> decide +kernel
end
section
/-! the law's own numbers: the remainder that is never negative, the cells, the operator, the clamp -/
theorem md_b1 {y P : Nat} (h : P ≤ y) (hy : y ≤ 2 ^ 31) : (-(P : Int)).bmod (2 ^ 32) = -(P : Int) := Int.bmod_eq_of_le (by omega) (by omega)
theorem md_b2 {y P M : Nat} (e : P + M = y) (hy : y ≤ 2 ^ 31) : (-(y : Int) - -(P : Int)).bmod (2 ^ 32) = -(M : Int) := by
  rw [show -(y : Int) - -(P : Int) = -(M : Int) from by omega]
  exact Int.bmod_eq_of_le (by omega) (by omega)
theorem md_neg {x : Int32} {d y : Nat} (hx : x.toInt = -(y : Int)) (hy : y ≤ 2 ^ 31) (hd : d < 2 ^ 31) : (x - x / nI d * nI d).toInt = -((y % d : Nat) : Int) := by
  have e1 := Nat.div_add_mod' y d
  have e2 := Nat.div_le_self y d
  have e3 : y / d * d ≤ y := Nat.div_mul_le_self y d
  have ed : (nI d).toInt = (d : Int) := nI_toInt hd
  have q : (x / nI d).toInt = -((y / d : Nat) : Int) := by
    rw [Int32.toInt_div, hx, ed, Int.neg_tdiv, ← Int.ofNat_tdiv]
    exact md_b1 e2 hy
  have m : (x / nI d * nI d).toInt = -((y / d * d : Nat) : Int) := by
    rw [Int32.toInt_mul, q, ed, Int.neg_mul, ← Int.natCast_mul]
    exact md_b1 e3 hy
  rw [Int32.toInt_sub, hx, m]
  exact md_b2 e1 hy
theorem md_ok (x : Int32) {d : Nat} (h0 : 0 < d) (hd : d < 2 ^ 31) : (¬ 0 ≤ x - x / nI d * nI d ∧ ∃ j, j < d ∧ x - x / nI d * nI d + nI d = nI j) ∨ (0 ≤ x - x / nI d * nI d ∧ ∃ j, j < d ∧ x - x / nI d * nI d = nI j) := by
  have z0 : (0 : Int32).toInt = 0 := by decide
  by_cases h : x < 0
  · rw [Int32.lt_iff_toInt_lt, z0] at h
    obtain ⟨y, hy⟩ : ∃ y : Nat, x.toInt = -(y : Int) := ⟨x.toInt.natAbs, by omega⟩
    have lo := Int32.le_toInt x
    have r := md_neg hy (by omega) hd
    have ml := Nat.mod_lt y h0
    by_cases z : y % d = 0
    · rw [z] at r
      refine Or.inr ⟨?_, 0, h0, Int32.toInt_inj.mp ?_⟩
      · rw [Int32.le_iff_toInt_le, r, z0]; omega
      · rw [r, nI_toInt (by omega)]; omega
    · refine Or.inl ⟨?_, d - y % d, by omega, Int32.toInt_inj.mp ?_⟩
      · rw [Int32.le_iff_toInt_le, r, z0]; omega
      · rw [Int32.toInt_add, r, nI_toInt hd, nI_toInt (by omega), show -((y % d : Nat) : Int) + (d : Int) = ((d - y % d : Nat) : Int) from by omega]
        exact Int.bmod_eq_of_le (by omega) (by omega)
  · obtain ⟨j, hj, e⟩ := nI_of h
    subst e
    rw [pk_rem hj h0 hd]
    have ml := Nat.mod_lt j h0
    exact Or.inr ⟨nI_pos' (by omega), j % d, ml, rfl⟩
def md_f (p0 p1 : Int32) : Int32 := if 0 ≤ p0 - p0 / p1 * p1 then p0 - p0 / p1 * p1 else p0 - p0 / p1 * p1 + p1
theorem md_w {post : Int32 → Prop} {u : St0} {p0 p1 : Int32} (h0 : ¬ p1 = 0) (h : post (md_f p0 p1)) : wpL_mod post u p0 p1 := by
  refine ⟨h0, fun x e => ?_⟩
  subst e
  unfold md_f at h
  by_cases z : 0 ≤ p0 - p0 / p1 * p1
  · rw [if_pos z] at h; exact br_t z h
  · rw [if_neg z] at h; exact br_f z h
theorem md_j (x : Int32) {d : Nat} (h0 : 0 < d) (hd : d < 2 ^ 31) : ∃ j, j < d ∧ md_f x (nI d) = nI j := by
  unfold md_f
  rcases md_ok x h0 hd with ⟨z, j, hj, e⟩ | ⟨z, j, hj, e⟩
  · exact ⟨j, hj, by rw [if_neg z]; exact e⟩
  · exact ⟨j, hj, by rw [if_pos z]; exact e⟩
def ce_f (L : Nat) (xs : Nat → Int32) (p1 : Int32) : Int32 := if (Int32.ofNat L) ≤ p1 then 0 else xs p1.toNatClampNeg
theorem ce_d {post : Int32 → Prop} {L : Nat} {xs : Nat → Int32} {u : St0} {p1 : Int32} {j : Nat} (hj : p1 = nI j) (hjb : j < 2 ^ 31) (hL : L ≤ 260) (h : post (ce_f L xs p1)) : wpL_cell post L xs u p1 := by
  unfold ce_f at h
  by_cases z : (Int32.ofNat L) ≤ p1
  · rw [if_pos z] at h; exact br_t z h
  · rw [if_neg z] at h
    refine br_f z ⟨?_, h⟩
    subst hj
    have w : ¬ L ≤ j := fun w => z (nI_le w hjb)
    exact vp_in_nI (by omega) (by omega)
theorem tp_b {o : Nat} (ho : tp_O o) : 1 ≤ o ∧ o ≤ 20 ∧ ¬ (o = 3 ∨ o = 4) := by
  unfold tp_O at ho
  omega
theorem tp_z {zz : Nat} (hz : zz = 3 ∨ zz = 5) : ((zz = 3 ∨ zz = 4) ∧ (0 : Int32) = 0) ∨ (¬ (zz = 3 ∨ zz = 4) ∧ (0 : Int32) = 0) := by
  rcases hz with rfl | rfl
  · exact Or.inl ⟨Or.inl rfl, rfl⟩
  · exact Or.inr ⟨by decide, rfl⟩
theorem tp_11 {o : Nat} (ho : tp_O o) (e : nI o = 11) : o = 11 := by
  have := tp_b ho
  exact (nI_eq (b := 11) (by omega) (by omega)).mp e
theorem lo_w {post : Int32 → Prop} {u : St0} {p0 : Int32} (h : ∀ o, tp_O o → post (nI o)) : wpL_op post u p0 := by
  obtain ⟨c, hc, e⟩ := md_j p0 (d := 7) (by omega) (by omega)
  refine md_w (by decide) ?_
  rw [show md_f p0 7 = nI c from e]
  refine pk_le 4 c (fun z => pk_eq c 4 (fun _ => h 11 (Or.inl rfl)) (fun w => ?_)) (fun z => ?_)
  · have q := h (c + 14) (by unfold tp_O; omega)
    rw [← nI_add] at q
    exact q
  · have q := h (15 + c) (by unfold tp_O; omega)
    rw [← nI_add] at q
    exact q
/-- the fuel that a run takes -/
def fl_C (v : Int32) (F : Nat) : Prop := (1 ≤ v ∧ v ≤ 400 ∧ v = nI F) ∨ (1 ≤ v ∧ ¬ v ≤ 400 ∧ nI F = 400) ∨ (¬ 1 ≤ v ∧ nI F = 1)
theorem fl_w {post : Int32 → Prop} {u : St0} {v : Int32} (h : ∀ F, 1 ≤ F → F ≤ 400 → fl_C v F → post (nI F)) : wpL_clampFuel post u v := by
  by_cases a : 1 ≤ v
  · by_cases b : v ≤ 400
    · refine br_t a (br_t b ?_)
      have a' := a
      rw [Int32.le_iff_toInt_le, show (1 : Int32).toInt = 1 from by decide] at a'
      have b' := b
      rw [Int32.le_iff_toInt_le, show (400 : Int32).toInt = 400 from by decide] at b'
      have e : v = nI v.toInt.toNat := Int32.toInt_inj.mp (by rw [nI_toInt (by omega)]; omega)
      have q := h v.toInt.toNat (by omega) (by omega) (Or.inl ⟨a, b, e⟩)
      rw [← e] at q
      exact q
    · exact br_t a (br_f b (h 400 (by omega) (by omega) (Or.inr (Or.inl ⟨a, b, rfl⟩))))
  · exact br_f a (h 1 (by omega) (by omega) (Or.inr (Or.inr ⟨a, rfl⟩)))
theorem fl_n {F : Nat} (h1 : 1 ≤ F) (h4 : F ≤ 400) : fl_C (nI F) F := Or.inl ⟨nI_le (a := 1) h1 (by omega), nI_le (b := 400) h4 (by omega), rfl⟩
/-- a new object -/
def cl_f (p0 : Int32) : Int32 := if 1 ≤ p0 then (if p0 ≤ 32 then p0 else 32) else 1
def nw_S (dl : Int32) : SX := (dl, nI 0, 0, 128, 0, 0, 0, 0, -1, 0, -1, 1, 0, -1, 0, 0, -1, -1, tq_k [], tq_v [], fun _ => 0, fun _ => 0, fun _ => 0, fun _ => 0, fun _ => 0, fun _ => 0, fun _ => 0, fun _ => 0, fun _ => 0, fun _ => 0, fun _ => 0, fun _ => 0, fun _ => 0, fun _ => 0)
theorem in_w {post : SX → Prop} {u : St1} {p0 : Int32} (h : post (nw_S (cl_f p0))) : wpX_init post 16 4776 u p0 := by
  obtain ⟨a1, a2, a3, a4, a5, a6, a7, a8, a9, a10, a11, a12, a13, a14, a15, a16, a17, a18⟩ := u
  refine ⟨by decide, by decide, by decide, by decide, by decide, by decide, by decide, by decide, by decide, by decide, by decide, by decide, by decide, by decide, by decide, by decide, by decide, by decide, by decide, by decide, by decide, by decide, by decide, by decide, by decide, by decide, by decide, by decide, by decide, by decide, by decide, by decide, ?_⟩
  unfold cl_f at h
  by_cases a : 1 ≤ p0
  · rw [if_pos a] at h
    by_cases b : p0 ≤ 32
    · rw [if_pos b] at h; exact br_t a (br_t b h)
    · rw [if_neg b] at h; exact br_t a (br_f b h)
  · rw [if_neg a] at h; exact br_f a h
end
section
/-! the law's token programs as lists -/
def tl_0 (o zz : Nat) (a1 : Int32) : List (Nat × Int32) := [(2, 0), (2, 0), (3, a1), (4, 101), (1, 0), (2, 0), (2, 0), (2, 0), (2, 0), (2, 0), (2, 0), (2, 0), (3, 1), (4, 102), (16, 0), (1, 0), (4, 101), (1, 0), (4, 102), (o, 0), (1, 0), (zz, 0), (2, 0), (3, 1), (4, 102), (20, 0), (1, 0), (10, 0), (1, 0), (2, 0), (4, 102), (1, 0), (7, 0), (1, 0), (4, 101), (1, 0), (1, 0), (9, 0), (1, 0)]
theorem tm_0 {o zz : Nat} {a1 : Int32} : tq_M (tl_0 o zz a1) (tp_0 o zz) := ⟨rfl, fun _ => rfl, rfl, fun _ => rfl, rfl, fun h => absurd h (by decide), rfl, fun _ => rfl, rfl, fun _ => rfl, rfl, fun _ => rfl, rfl, fun _ => rfl, rfl, fun _ => rfl, rfl, fun _ => rfl, rfl, fun _ => rfl, rfl, fun _ => rfl, rfl, fun _ => rfl, rfl, fun h => absurd h (by decide), rfl, fun _ => rfl, rfl, fun _ => rfl, rfl, fun _ => rfl, rfl, fun _ => rfl, rfl, fun _ => rfl, rfl, fun _ => rfl, rfl, fun _ => rfl, rfl, fun _ => rfl, rfl, fun _ => rfl, rfl, fun _ => rfl, rfl, fun h => absurd h (by decide), rfl, fun _ => rfl, rfl, fun _ => rfl, rfl, fun _ => rfl, rfl, fun _ => rfl, rfl, fun _ => rfl, rfl, fun _ => rfl, rfl, fun _ => rfl, rfl, fun _ => rfl, rfl, fun _ => rfl, rfl, fun _ => rfl, rfl, fun _ => rfl, rfl, fun _ => rfl, rfl, fun _ => rfl, rfl, fun _ => rfl, rfl, fun _ => rfl, trivial⟩
def tl_1 (o : Nat) (a1 b1 : Int32) : List (Nat × Int32) := [(2, 0), (2, 0), (3, b1), (3, a1), (4, 101), (1, 0), (2, 0), (2, 0), (2, 0), (2, 0), (2, 0), (2, 0), (4, 102), (4, 103), (o, 0), (1, 0), (2, 0), (3, 1), (4, 102), (16, 0), (1, 0), (4, 101), (1, 0), (4, 103), (2, 0), (3, 0), (4, 102), (19, 0), (1, 0), (10, 0), (1, 0), (2, 0), (4, 103), (4, 102), (1, 0), (7, 0), (1, 0), (4, 101), (1, 0), (1, 0), (9, 0), (1, 0)]
theorem tm_1 {o : Nat} {a1 b1 : Int32} : tq_M (tl_1 o a1 b1) (tp_1 o) := ⟨rfl, fun _ => rfl, rfl, fun _ => rfl, rfl, fun h => absurd h (by decide), rfl, fun h => absurd h (by decide), rfl, fun _ => rfl, rfl, fun _ => rfl, rfl, fun _ => rfl, rfl, fun _ => rfl, rfl, fun _ => rfl, rfl, fun _ => rfl, rfl, fun _ => rfl, rfl, fun _ => rfl, rfl, fun _ => rfl, rfl, fun _ => rfl, rfl, fun _ => rfl, rfl, fun _ => rfl, rfl, fun _ => rfl, rfl, fun h => absurd h (by decide), rfl, fun _ => rfl, rfl, fun _ => rfl, rfl, fun _ => rfl, rfl, fun _ => rfl, rfl, fun _ => rfl, rfl, fun _ => rfl, rfl, fun _ => rfl, rfl, fun h => absurd h (by decide), rfl, fun _ => rfl, rfl, fun _ => rfl, rfl, fun _ => rfl, rfl, fun _ => rfl, rfl, fun _ => rfl, rfl, fun _ => rfl, rfl, fun _ => rfl, rfl, fun _ => rfl, rfl, fun _ => rfl, rfl, fun _ => rfl, rfl, fun _ => rfl, rfl, fun _ => rfl, rfl, fun _ => rfl, rfl, fun _ => rfl, rfl, fun _ => rfl, rfl, fun _ => rfl, trivial⟩
def tl_2 (o : Nat) (a1 b1 a b : Int32) : List (Nat × Int32) := [(2, 0), (2, 0), (2, 0), (2, 0), (2, 0), (3, b), (2, 0), (1, 0), (3, a), (1, 0), (6, 0), (1, 0), (2, 0), (4, 105), (4, 104), (o, 0), (1, 0), (11, 0), (1, 0), (2, 0), (2, 0), (4, 106), (4, 104), (o, 0), (1, 0), (2, 0), (4, 106), (1, 0), (7, 0), (1, 0), (11, 0), (1, 0), (2, 0), (2, 0), (3, b1), (4, 105), (1, 0), (2, 0), (3, a1), (4, 104), (1, 0), (1, 0), (8, 0), (1, 0)]
theorem tm_2 {o : Nat} {a1 b1 a b : Int32} : tq_M (tl_2 o a1 b1 a b) (tp_2 o) := ⟨rfl, fun _ => rfl, rfl, fun _ => rfl, rfl, fun _ => rfl, rfl, fun _ => rfl, rfl, fun _ => rfl, rfl, fun h => absurd h (by decide), rfl, fun _ => rfl, rfl, fun _ => rfl, rfl, fun h => absurd h (by decide), rfl, fun _ => rfl, rfl, fun _ => rfl, rfl, fun _ => rfl, rfl, fun _ => rfl, rfl, fun _ => rfl, rfl, fun _ => rfl, rfl, fun _ => rfl, rfl, fun _ => rfl, rfl, fun _ => rfl, rfl, fun _ => rfl, rfl, fun _ => rfl, rfl, fun _ => rfl, rfl, fun _ => rfl, rfl, fun _ => rfl, rfl, fun _ => rfl, rfl, fun _ => rfl, rfl, fun _ => rfl, rfl, fun _ => rfl, rfl, fun _ => rfl, rfl, fun _ => rfl, rfl, fun _ => rfl, rfl, fun _ => rfl, rfl, fun _ => rfl, rfl, fun _ => rfl, rfl, fun _ => rfl, rfl, fun h => absurd h (by decide), rfl, fun _ => rfl, rfl, fun _ => rfl, rfl, fun _ => rfl, rfl, fun h => absurd h (by decide), rfl, fun _ => rfl, rfl, fun _ => rfl, rfl, fun _ => rfl, rfl, fun _ => rfl, rfl, fun _ => rfl, trivial⟩
def tl_n0 (a : Int32) : List (Nat × Int32) := [(2, 0), (3, a), (1, 0)]
theorem tm_n0 {a : Int32} : tq_M (tl_n0 a) tp_n0 := ⟨rfl, fun _ => rfl, rfl, fun h => absurd h (by decide), rfl, fun _ => rfl, trivial⟩
def tl_l0 (o : Nat) : List (Nat × Int32) := [(2, 0), (2, 0), (2, 0), (4, 105), (4, 104), (o, 0), (1, 0), (2, 0), (4, 105), (4, 104), (1, 0), (7, 0), (1, 0), (1, 0)]
theorem tm_l0 {o : Nat} : tq_M (tl_l0 o) (tp_l0 o) := ⟨rfl, fun _ => rfl, rfl, fun _ => rfl, rfl, fun _ => rfl, rfl, fun _ => rfl, rfl, fun _ => rfl, rfl, fun _ => rfl, rfl, fun _ => rfl, rfl, fun _ => rfl, rfl, fun _ => rfl, rfl, fun _ => rfl, rfl, fun _ => rfl, rfl, fun _ => rfl, rfl, fun _ => rfl, rfl, fun _ => rfl, trivial⟩
def tl_n1 (a : Int32) (c0 : Int32) : List (Nat × Int32) := [(2, 0), (3, c0), (3, a), (1, 0)]
theorem tm_n1 {a : Int32} {c0 : Int32} : tq_M (tl_n1 a c0) tp_n1 := ⟨rfl, fun _ => rfl, rfl, fun h => absurd h (by decide), rfl, fun h => absurd h (by decide), rfl, fun _ => rfl, trivial⟩
def tl_l1 (o : Nat) (c0 : Int32) : List (Nat × Int32) := [(2, 0), (3, c0), (2, 0), (2, 0), (4, 105), (4, 104), (o, 0), (1, 0), (2, 0), (4, 105), (4, 104), (1, 0), (7, 0), (1, 0), (1, 0)]
theorem tm_l1 {o : Nat} {c0 : Int32} : tq_M (tl_l1 o c0) (tp_l1 o) := ⟨rfl, fun _ => rfl, rfl, fun h => absurd h (by decide), rfl, fun _ => rfl, rfl, fun _ => rfl, rfl, fun _ => rfl, rfl, fun _ => rfl, rfl, fun _ => rfl, rfl, fun _ => rfl, rfl, fun _ => rfl, rfl, fun _ => rfl, rfl, fun _ => rfl, rfl, fun _ => rfl, rfl, fun _ => rfl, rfl, fun _ => rfl, rfl, fun _ => rfl, trivial⟩
def tl_n2 (a : Int32) (c0 c1 : Int32) : List (Nat × Int32) := [(2, 0), (3, c1), (3, c0), (3, a), (1, 0)]
theorem tm_n2 {a : Int32} {c0 c1 : Int32} : tq_M (tl_n2 a c0 c1) tp_n2 := ⟨rfl, fun _ => rfl, rfl, fun h => absurd h (by decide), rfl, fun h => absurd h (by decide), rfl, fun h => absurd h (by decide), rfl, fun _ => rfl, trivial⟩
def tl_l2 (o : Nat) (c0 c1 : Int32) : List (Nat × Int32) := [(2, 0), (3, c1), (3, c0), (2, 0), (2, 0), (4, 105), (4, 104), (o, 0), (1, 0), (2, 0), (4, 105), (4, 104), (1, 0), (7, 0), (1, 0), (1, 0)]
theorem tm_l2 {o : Nat} {c0 c1 : Int32} : tq_M (tl_l2 o c0 c1) (tp_l2 o) := ⟨rfl, fun _ => rfl, rfl, fun h => absurd h (by decide), rfl, fun h => absurd h (by decide), rfl, fun _ => rfl, rfl, fun _ => rfl, rfl, fun _ => rfl, rfl, fun _ => rfl, rfl, fun _ => rfl, rfl, fun _ => rfl, rfl, fun _ => rfl, rfl, fun _ => rfl, rfl, fun _ => rfl, rfl, fun _ => rfl, rfl, fun _ => rfl, rfl, fun _ => rfl, rfl, fun _ => rfl, trivial⟩
def tl_n3 (a : Int32) (c0 c1 c2 : Int32) : List (Nat × Int32) := [(2, 0), (3, c2), (3, c1), (3, c0), (3, a), (1, 0)]
theorem tm_n3 {a : Int32} {c0 c1 c2 : Int32} : tq_M (tl_n3 a c0 c1 c2) tp_n3 := ⟨rfl, fun _ => rfl, rfl, fun h => absurd h (by decide), rfl, fun h => absurd h (by decide), rfl, fun h => absurd h (by decide), rfl, fun h => absurd h (by decide), rfl, fun _ => rfl, trivial⟩
def tl_l3 (o : Nat) (c0 c1 c2 : Int32) : List (Nat × Int32) := [(2, 0), (3, c2), (3, c1), (3, c0), (2, 0), (2, 0), (4, 105), (4, 104), (o, 0), (1, 0), (2, 0), (4, 105), (4, 104), (1, 0), (7, 0), (1, 0), (1, 0)]
theorem tm_l3 {o : Nat} {c0 c1 c2 : Int32} : tq_M (tl_l3 o c0 c1 c2) (tp_l3 o) := ⟨rfl, fun _ => rfl, rfl, fun h => absurd h (by decide), rfl, fun h => absurd h (by decide), rfl, fun h => absurd h (by decide), rfl, fun _ => rfl, rfl, fun _ => rfl, rfl, fun _ => rfl, rfl, fun _ => rfl, rfl, fun _ => rfl, rfl, fun _ => rfl, rfl, fun _ => rfl, rfl, fun _ => rfl, rfl, fun _ => rfl, rfl, fun _ => rfl, rfl, fun _ => rfl, rfl, fun _ => rfl, rfl, fun _ => rfl, trivial⟩

def lw_69 (post : Int32 → Prop) (L : Nat) (xs : Nat → Int32) (m : Nat) (x4 x5 x6 x7 x8 : Int32) (kc ks : Nat) (g0 g1 : SX) : Prop := match g0, g1 with
  | (xdl, xtn, xpp, xvc, xcc, xfc, xoc, xag, xan, xex, xen, xfl, xac, xst, xsp, xmd, xrt, xcu, xtk, xtv, xaf, xro, xsc, xho, xvk, xvf, xvs, xcv, xco, xff, xfp, xfe, xfb, xop), (zdl, ztn, zpp, zvc, zcc, zfc, zoc, zag, zan, zex, zen, zfl, zac, zst, zsp, zmd, zrt, zcu, ztk, ztv, zaf, zro, zsc, zho, zvk, zvf, zvs, zcv, zco, zff, zfp, zfe, zfb, zop) => wL_law_69 post L xs m x4 x5 x6 x7 x8 kc ks xdl xtn xpp xvc xcc xfc xoc xag xan xex xen xfl xac xst xsp xmd xrt xcu xtk xtv xaf xro xsc xho xvk xvf xvs xcv xco xff xfp xfe xfb xop zdl ztn zpp zvc zcc zfc zoc zag zan zex zen zfl zac zst zsp zmd zrt zcu ztk ztv zaf zro zsc zho zvk zvf zvs zcv zco zff zfp zfe zfb zop
end
section
/-! the tokens handed to the second object, and its compile -/
section
variable {post : Int32 → Prop} {L : Nat} {xs : Nat → Int32} {m : Nat} {x4 x5 x6 x7 x8 : Int32} {kc ks : Nat} {xdl xtn xpp xvc xcc xfc xoc xag xan xex xen xfl xac xst xsp xmd xrt xcu : Int32} {xtk xtv xaf xro xsc xho xvk xvf xvs xcv xco xff xfp xfe xfb xop : Nat → Int32} {zdl ztn zpp zvc zcc zfc zoc zag zan zex zen zfl zac zst zsp zmd zrt zcu : Int32} {ztk ztv zaf zro zsc zho zvk zvf zvs zcv zco zff zfp zfe zfb zop : Nat → Int32}
theorem lc_1 {l : List (Nat × Int32)} {c : List (Nat × Nat)} {t : List Nat} {n : Nat} (M : tq_M l c) (hl : l.length = n) (hT : ck_T c t n = true) (h : ∀ u', dq_OK xdl (tq_k (l)) (tq_v (l)) n u' → lw_69 post L xs m x4 x5 x6 x7 (x8 + 1) kc ks (zdl, ztn, zpp, zvc, zcc, zfc, zoc, zag, zan, zex, zen, zfl, zac, zst, zsp, zmd, zrt, zcu, ztk, ztv, zaf, zro, zsc, zho, zvk, zvf, zvs, zcv, zco, zff, zfp, zfe, zfb, zop) u') : wL_law_1336 post L xs (wL_law_69 post L xs m) x4 x5 x6 x7 x8 kc ks zdl ztn zpp zvc zcc zfc zoc zag zan zex zen zfl zac zst zsp zmd zrt zcu ztk ztv zaf zro zsc zho zvk zvf zvs zcv zco zff zfp zfe zfb zop xdl (nI n) xpp xvc xcc xfc xoc xag xan xex xen xfl xac xst xsp xmd xrt xcu (tq_k l) (tq_v l) xaf xro xsc xho xvk xvf xvs xcv xco xff xfp xfe xfb xop := by
  refine tq_comp M hl hT (fun u' hu' => ?_)
  have h' := h u' hu'
  obtain ⟨zdl, ztn, zpp, zvc, zcc, zfc, zoc, zag, zan, zex, zen, zfl, zac, zst, zsp, zmd, zrt, zcu, ztk, ztv, zaf, zro, zsc, zho, zvk, zvf, zvs, zcv, zco, zff, zfp, zfe, zfb, zop⟩ := u'
  exact br_t rfl (nm_e h')
theorem lz_1 {o zz : Nat} {z0 : Int32} (ho : tp_O o) (e5 : x5 = nI o) (hz : zz = 3 ∨ zz = 5) (ez : z0 = nI zz) (h : ∀ u', dq_OK xdl (tq_k (tl_0 o zz (md_f x6 15 - 3))) (tq_v (tl_0 o zz (md_f x6 15 - 3))) 39 u' → lw_69 post L xs m x4 x5 x6 x7 (x8 + 1) kc ks (zdl, ztn, zpp, zvc, zcc, zfc, zoc, zag, zan, zex, zen, zfl, zac, zst, zsp, zmd, zrt, zcu, ztk, ztv, zaf, zro, zsc, zho, zvk, zvf, zvs, zcv, zco, zff, zfp, zfe, zfb, zop) u') : wL_law_249 post L xs (wL_law_69 post L xs m) x4 x5 x6 x7 x8 z0 kc ks zdl ztn zpp zvc zcc zfc zoc zag zan zex zen zfl zac zst zsp zmd zrt zcu ztk ztv zaf zro zsc zho zvk zvf zvs zcv zco zff zfp zfe zfb zop xdl (nI 17) xpp xvc xcc xfc xoc xag xan xex xen xfl xac xst xsp xmd xrt xcu (tq_k [(2, 0), (3, 1), (4, 102), (20, 0), (1, 0), (10, 0), (1, 0), (2, 0), (4, 102), (1, 0), (7, 0), (1, 0), (4, 101), (1, 0), (1, 0), (9, 0), (1, 0)]) (tq_v [(2, 0), (3, 1), (4, 102), (20, 0), (1, 0), (10, 0), (1, 0), (2, 0), (4, 102), (1, 0), (7, 0), (1, 0), (4, 101), (1, 0), (1, 0), (9, 0), (1, 0)]) xaf xro xsc xho xvk xvf xvs xcv xco xff xfp xfe xfb xop := by
  have ob := tp_b ho
  refine tq_a (n := 17) zz 0 (by rfl) (by decide) ez (by omega) (by omega) (tp_z hz) ?_
  refine tq_p (n := 18) 1 (by rfl) (by decide) (by rfl) (by decide) (by decide) (by decide) ?_
  refine tq_p (n := 19) o (by rfl) (by decide) e5 ob.1 ob.2.1 ob.2.2 ?_
  refine tq_s (n := 20) (by rfl) (by decide) ?_
  refine tq_p (n := 21) 1 (by rfl) (by decide) (by rfl) (by decide) (by decide) (by decide) ?_
  refine tq_s (n := 22) (by rfl) (by decide) ?_
  refine tq_p (n := 23) 1 (by rfl) (by decide) (by rfl) (by decide) (by decide) (by decide) ?_
  refine tq_p (n := 24) 16 (by rfl) (by decide) (by rfl) (by decide) (by decide) (by decide) ?_
  refine tq_s (n := 25) (by rfl) (by decide) ?_
  refine tq_n (n := 26) (by rfl) (by decide) ?_
  refine ⟨7 + 1, ?_⟩
  refine br_f (by decide) ?_
  refine tq_p (n := 27) 2 (by rfl) (by decide) (by rfl) (by decide) (by decide) (by decide) ?_
  refine nm_e ?_
  refine br_f (by decide) ?_
  refine tq_p (n := 28) 2 (by rfl) (by decide) (by rfl) (by decide) (by decide) (by decide) ?_
  refine nm_e ?_
  refine br_f (by decide) ?_
  refine tq_p (n := 29) 2 (by rfl) (by decide) (by rfl) (by decide) (by decide) (by decide) ?_
  refine nm_e ?_
  refine br_f (by decide) ?_
  refine tq_p (n := 30) 2 (by rfl) (by decide) (by rfl) (by decide) (by decide) (by decide) ?_
  refine nm_e ?_
  refine br_f (by decide) ?_
  refine tq_p (n := 31) 2 (by rfl) (by decide) (by rfl) (by decide) (by decide) (by decide) ?_
  refine nm_e ?_
  refine br_f (by decide) ?_
  refine tq_p (n := 32) 2 (by rfl) (by decide) (by rfl) (by decide) (by decide) (by decide) ?_
  refine nm_e ?_
  refine br_f (by decide) ?_
  refine tq_p (n := 33) 2 (by rfl) (by decide) (by rfl) (by decide) (by decide) (by decide) ?_
  refine nm_e ?_
  refine br_t (by decide) ?_
  refine tq_p (n := 34) 1 (by rfl) (by decide) (by rfl) (by decide) (by decide) (by decide) ?_
  refine tq_s (n := 35) (by rfl) (by decide) ?_
  refine md_w (by decide) ?_
  refine tq_n (n := 36) (by rfl) (by decide) ?_
  refine tq_p (n := 37) 2 (by rfl) (by decide) (by rfl) (by decide) (by decide) (by decide) ?_
  refine tq_p (n := 38) 2 (by rfl) (by decide) (by rfl) (by decide) (by decide) (by decide) ?_
  exact lc_1 tm_0 (by rfl) (tp_c0 ho hz) h
theorem l0_1 {o zz : Nat} (ho : tp_O o) (e5 : x5 = nI o) (e4 : x4 = 0) (hz : (o = 11 ∧ zz = 5) ∨ (o ≠ 11 ∧ zz = 3)) (h : ∀ u', dq_OK xdl (tq_k (tl_0 o zz (md_f x6 15 - 3))) (tq_v (tl_0 o zz (md_f x6 15 - 3))) 39 u' → lw_69 post L xs m x4 x5 x6 x7 (x8 + 1) kc ks (zdl, ztn, zpp, zvc, zcc, zfc, zoc, zag, zan, zex, zen, zfl, zac, zst, zsp, zmd, zrt, zcu, ztk, ztv, zaf, zro, zsc, zho, zvk, zvf, zvs, zcv, zco, zff, zfp, zfe, zfb, zop) u') : wL_law_85 post L xs (wL_law_69 post L xs m) x4 x5 x6 x7 x8 kc ks zdl ztn zpp zvc zcc zfc zoc zag zan zex zen zfl zac zst zsp zmd zrt zcu ztk ztv zaf zro zsc zho zvk zvf zvs zcv zco zff zfp zfe zfb zop xdl (nI 0) xpp xvc xcc xfc xoc xag xan xex xen xfl xac xst xsp xmd xrt xcu (tq_k []) (tq_v []) xaf xro xsc xho xvk xvf xvs xcv xco xff xfp xfe xfb xop := by
  refine br_t e4 ?_
  refine tq_p (n := 0) 1 (by rfl) (by decide) (by rfl) (by decide) (by decide) (by decide) ?_
  refine tq_p (n := 1) 9 (by rfl) (by decide) (by rfl) (by decide) (by decide) (by decide) ?_
  refine tq_p (n := 2) 1 (by rfl) (by decide) (by rfl) (by decide) (by decide) (by decide) ?_
  refine tq_p (n := 3) 1 (by rfl) (by decide) (by rfl) (by decide) (by decide) (by decide) ?_
  refine tq_s (n := 4) (by rfl) (by decide) ?_
  refine tq_p (n := 5) 1 (by rfl) (by decide) (by rfl) (by decide) (by decide) (by decide) ?_
  refine tq_p (n := 6) 7 (by rfl) (by decide) (by rfl) (by decide) (by decide) (by decide) ?_
  refine tq_p (n := 7) 1 (by rfl) (by decide) (by rfl) (by decide) (by decide) (by decide) ?_
  refine tq_s (n := 8) (by rfl) (by decide) ?_
  refine tq_p (n := 9) 2 (by rfl) (by decide) (by rfl) (by decide) (by decide) (by decide) ?_
  refine tq_p (n := 10) 1 (by rfl) (by decide) (by rfl) (by decide) (by decide) (by decide) ?_
  refine tq_p (n := 11) 10 (by rfl) (by decide) (by rfl) (by decide) (by decide) (by decide) ?_
  refine tq_p (n := 12) 1 (by rfl) (by decide) (by rfl) (by decide) (by decide) (by decide) ?_
  refine tq_p (n := 13) 20 (by rfl) (by decide) (by rfl) (by decide) (by decide) (by decide) ?_
  refine tq_s (n := 14) (by rfl) (by decide) ?_
  refine tq_n (n := 15) (by rfl) (by decide) ?_
  refine tq_p (n := 16) 2 (by rfl) (by decide) (by rfl) (by decide) (by decide) (by decide) ?_
  rcases hz with ⟨z, rfl⟩ | ⟨z, rfl⟩
  · exact br_t (by rw [e5, z]; rfl) (lz_1 ho e5 (Or.inr rfl) rfl h)
  · exact br_f (fun e => z (tp_11 ho (e5.symm.trans e))) (lz_1 ho e5 (Or.inl rfl) rfl h)
theorem l1_1 {o : Nat} (ho : tp_O o) (e5 : x5 = nI o) (e4 : x4 = 1) (h : ∀ u', dq_OK xdl (tq_k (tl_1 o (md_f x6 12 - 2) (md_f x7 7 - 3))) (tq_v (tl_1 o (md_f x6 12 - 2) (md_f x7 7 - 3))) 42 u' → lw_69 post L xs m x4 x5 x6 x7 (x8 + 1) kc ks (zdl, ztn, zpp, zvc, zcc, zfc, zoc, zag, zan, zex, zen, zfl, zac, zst, zsp, zmd, zrt, zcu, ztk, ztv, zaf, zro, zsc, zho, zvk, zvf, zvs, zcv, zco, zff, zfp, zfe, zfb, zop) u') : wL_law_85 post L xs (wL_law_69 post L xs m) x4 x5 x6 x7 x8 kc ks zdl ztn zpp zvc zcc zfc zoc zag zan zex zen zfl zac zst zsp zmd zrt zcu ztk ztv zaf zro zsc zho zvk zvf zvs zcv zco zff zfp zfe zfb zop xdl (nI 0) xpp xvc xcc xfc xoc xag xan xex xen xfl xac xst xsp xmd xrt xcu (tq_k []) (tq_v []) xaf xro xsc xho xvk xvf xvs xcv xco xff xfp xfe xfb xop := by
  have ob := tp_b ho
  refine br_f (by rw [e4]; decide) (br_t e4 ?_)
  refine tq_p (n := 0) 1 (by rfl) (by decide) (by rfl) (by decide) (by decide) (by decide) ?_
  refine tq_p (n := 1) 9 (by rfl) (by decide) (by rfl) (by decide) (by decide) (by decide) ?_
  refine tq_p (n := 2) 1 (by rfl) (by decide) (by rfl) (by decide) (by decide) (by decide) ?_
  refine tq_p (n := 3) 1 (by rfl) (by decide) (by rfl) (by decide) (by decide) (by decide) ?_
  refine tq_s (n := 4) (by rfl) (by decide) ?_
  refine tq_p (n := 5) 1 (by rfl) (by decide) (by rfl) (by decide) (by decide) (by decide) ?_
  refine tq_p (n := 6) 7 (by rfl) (by decide) (by rfl) (by decide) (by decide) (by decide) ?_
  refine tq_p (n := 7) 1 (by rfl) (by decide) (by rfl) (by decide) (by decide) (by decide) ?_
  refine tq_s (n := 8) (by rfl) (by decide) ?_
  refine tq_s (n := 9) (by rfl) (by decide) ?_
  refine tq_p (n := 10) 2 (by rfl) (by decide) (by rfl) (by decide) (by decide) (by decide) ?_
  refine tq_p (n := 11) 1 (by rfl) (by decide) (by rfl) (by decide) (by decide) (by decide) ?_
  refine tq_p (n := 12) 10 (by rfl) (by decide) (by rfl) (by decide) (by decide) (by decide) ?_
  refine tq_p (n := 13) 1 (by rfl) (by decide) (by rfl) (by decide) (by decide) (by decide) ?_
  refine tq_p (n := 14) 19 (by rfl) (by decide) (by rfl) (by decide) (by decide) (by decide) ?_
  refine tq_s (n := 15) (by rfl) (by decide) ?_
  refine tq_n (n := 16) (by rfl) (by decide) ?_
  refine tq_p (n := 17) 2 (by rfl) (by decide) (by rfl) (by decide) (by decide) (by decide) ?_
  refine tq_s (n := 18) (by rfl) (by decide) ?_
  refine tq_p (n := 19) 1 (by rfl) (by decide) (by rfl) (by decide) (by decide) (by decide) ?_
  refine tq_s (n := 20) (by rfl) (by decide) ?_
  refine tq_p (n := 21) 1 (by rfl) (by decide) (by rfl) (by decide) (by decide) (by decide) ?_
  refine tq_p (n := 22) 16 (by rfl) (by decide) (by rfl) (by decide) (by decide) (by decide) ?_
  refine tq_s (n := 23) (by rfl) (by decide) ?_
  refine tq_n (n := 24) (by rfl) (by decide) ?_
  refine tq_p (n := 25) 2 (by rfl) (by decide) (by rfl) (by decide) (by decide) (by decide) ?_
  refine tq_p (n := 26) 1 (by rfl) (by decide) (by rfl) (by decide) (by decide) (by decide) ?_
  refine tq_p (n := 27) o (by rfl) (by decide) e5 ob.1 ob.2.1 ob.2.2 ?_
  refine tq_s (n := 28) (by rfl) (by decide) ?_
  refine tq_s (n := 29) (by rfl) (by decide) ?_
  refine tq_p (n := 30) 2 (by rfl) (by decide) (by rfl) (by decide) (by decide) (by decide) ?_
  refine ⟨5 + 1, ?_⟩
  refine br_f (by decide) ?_
  refine tq_p (n := 31) 2 (by rfl) (by decide) (by rfl) (by decide) (by decide) (by decide) ?_
  refine nm_e ?_
  refine br_f (by decide) ?_
  refine tq_p (n := 32) 2 (by rfl) (by decide) (by rfl) (by decide) (by decide) (by decide) ?_
  refine nm_e ?_
  refine br_f (by decide) ?_
  refine tq_p (n := 33) 2 (by rfl) (by decide) (by rfl) (by decide) (by decide) (by decide) ?_
  refine nm_e ?_
  refine br_f (by decide) ?_
  refine tq_p (n := 34) 2 (by rfl) (by decide) (by rfl) (by decide) (by decide) (by decide) ?_
  refine nm_e ?_
  refine br_f (by decide) ?_
  refine tq_p (n := 35) 2 (by rfl) (by decide) (by rfl) (by decide) (by decide) (by decide) ?_
  refine nm_e ?_
  refine br_t (by decide) ?_
  refine tq_p (n := 36) 1 (by rfl) (by decide) (by rfl) (by decide) (by decide) (by decide) ?_
  refine tq_s (n := 37) (by rfl) (by decide) ?_
  refine md_w (by decide) ?_
  refine tq_n (n := 38) (by rfl) (by decide) ?_
  refine md_w (by decide) ?_
  refine tq_n (n := 39) (by rfl) (by decide) ?_
  refine tq_p (n := 40) 2 (by rfl) (by decide) (by rfl) (by decide) (by decide) (by decide) ?_
  refine tq_p (n := 41) 2 (by rfl) (by decide) (by rfl) (by decide) (by decide) (by decide) ?_
  exact lc_1 tm_1 (by rfl) (tp_c1 ho) h
theorem l2_1 {o : Nat} (ho : tp_O o) (e5 : x5 = nI o) (e4 : x4 = 2) (h : ∀ u', dq_OK xdl (tq_k (tl_2 o (md_f x6 9 - 4) (md_f x7 5 - 2) x6 x7)) (tq_v (tl_2 o (md_f x6 9 - 4) (md_f x7 5 - 2) x6 x7)) 44 u' → lw_69 post L xs m x4 x5 x6 x7 (x8 + 1) kc ks (zdl, ztn, zpp, zvc, zcc, zfc, zoc, zag, zan, zex, zen, zfl, zac, zst, zsp, zmd, zrt, zcu, ztk, ztv, zaf, zro, zsc, zho, zvk, zvf, zvs, zcv, zco, zff, zfp, zfe, zfb, zop) u') : wL_law_85 post L xs (wL_law_69 post L xs m) x4 x5 x6 x7 x8 kc ks zdl ztn zpp zvc zcc zfc zoc zag zan zex zen zfl zac zst zsp zmd zrt zcu ztk ztv zaf zro zsc zho zvk zvf zvs zcv zco zff zfp zfe zfb zop xdl (nI 0) xpp xvc xcc xfc xoc xag xan xex xen xfl xac xst xsp xmd xrt xcu (tq_k []) (tq_v []) xaf xro xsc xho xvk xvf xvs xcv xco xff xfp xfe xfb xop := by
  have ob := tp_b ho
  refine br_f (by rw [e4]; decide) (br_f (by rw [e4]; decide) (br_t e4 ?_))
  refine tq_p (n := 0) 1 (by rfl) (by decide) (by rfl) (by decide) (by decide) (by decide) ?_
  refine tq_p (n := 1) 8 (by rfl) (by decide) (by rfl) (by decide) (by decide) (by decide) ?_
  refine tq_p (n := 2) 1 (by rfl) (by decide) (by rfl) (by decide) (by decide) (by decide) ?_
  refine tq_p (n := 3) 1 (by rfl) (by decide) (by rfl) (by decide) (by decide) (by decide) ?_
  refine tq_s (n := 4) (by rfl) (by decide) ?_
  refine md_w (by decide) ?_
  refine tq_n (n := 5) (by rfl) (by decide) ?_
  refine tq_p (n := 6) 2 (by rfl) (by decide) (by rfl) (by decide) (by decide) (by decide) ?_
  refine tq_p (n := 7) 1 (by rfl) (by decide) (by rfl) (by decide) (by decide) (by decide) ?_
  refine tq_s (n := 8) (by rfl) (by decide) ?_
  refine md_w (by decide) ?_
  refine tq_n (n := 9) (by rfl) (by decide) ?_
  refine tq_p (n := 10) 2 (by rfl) (by decide) (by rfl) (by decide) (by decide) (by decide) ?_
  refine tq_p (n := 11) 2 (by rfl) (by decide) (by rfl) (by decide) (by decide) (by decide) ?_
  refine tq_p (n := 12) 1 (by rfl) (by decide) (by rfl) (by decide) (by decide) (by decide) ?_
  refine tq_p (n := 13) 11 (by rfl) (by decide) (by rfl) (by decide) (by decide) (by decide) ?_
  refine tq_p (n := 14) 1 (by rfl) (by decide) (by rfl) (by decide) (by decide) (by decide) ?_
  refine tq_p (n := 15) 7 (by rfl) (by decide) (by rfl) (by decide) (by decide) (by decide) ?_
  refine tq_p (n := 16) 1 (by rfl) (by decide) (by rfl) (by decide) (by decide) (by decide) ?_
  refine tq_s (n := 17) (by rfl) (by decide) ?_
  refine tq_p (n := 18) 2 (by rfl) (by decide) (by rfl) (by decide) (by decide) (by decide) ?_
  refine tq_p (n := 19) 1 (by rfl) (by decide) (by rfl) (by decide) (by decide) (by decide) ?_
  refine tq_p (n := 20) o (by rfl) (by decide) e5 ob.1 ob.2.1 ob.2.2 ?_
  refine tq_s (n := 21) (by rfl) (by decide) ?_
  refine tq_s (n := 22) (by rfl) (by decide) ?_
  refine tq_p (n := 23) 2 (by rfl) (by decide) (by rfl) (by decide) (by decide) (by decide) ?_
  refine tq_p (n := 24) 2 (by rfl) (by decide) (by rfl) (by decide) (by decide) (by decide) ?_
  refine tq_p (n := 25) 1 (by rfl) (by decide) (by rfl) (by decide) (by decide) (by decide) ?_
  refine tq_p (n := 26) 11 (by rfl) (by decide) (by rfl) (by decide) (by decide) (by decide) ?_
  refine tq_p (n := 27) 1 (by rfl) (by decide) (by rfl) (by decide) (by decide) (by decide) ?_
  refine tq_p (n := 28) o (by rfl) (by decide) e5 ob.1 ob.2.1 ob.2.2 ?_
  refine tq_s (n := 29) (by rfl) (by decide) ?_
  refine tq_s (n := 30) (by rfl) (by decide) ?_
  refine tq_p (n := 31) 2 (by rfl) (by decide) (by rfl) (by decide) (by decide) (by decide) ?_
  refine tq_p (n := 32) 1 (by rfl) (by decide) (by rfl) (by decide) (by decide) (by decide) ?_
  refine tq_p (n := 33) 6 (by rfl) (by decide) (by rfl) (by decide) (by decide) (by decide) ?_
  refine tq_p (n := 34) 1 (by rfl) (by decide) (by rfl) (by decide) (by decide) (by decide) ?_
  refine tq_n (n := 35) (by rfl) (by decide) ?_
  refine tq_p (n := 36) 1 (by rfl) (by decide) (by rfl) (by decide) (by decide) (by decide) ?_
  refine tq_p (n := 37) 2 (by rfl) (by decide) (by rfl) (by decide) (by decide) (by decide) ?_
  refine tq_n (n := 38) (by rfl) (by decide) ?_
  refine tq_p (n := 39) 2 (by rfl) (by decide) (by rfl) (by decide) (by decide) (by decide) ?_
  refine ⟨4 + 1, ?_⟩
  refine br_f (by decide) ?_
  refine tq_p (n := 40) 2 (by rfl) (by decide) (by rfl) (by decide) (by decide) (by decide) ?_
  refine nm_e ?_
  refine br_f (by decide) ?_
  refine tq_p (n := 41) 2 (by rfl) (by decide) (by rfl) (by decide) (by decide) (by decide) ?_
  refine nm_e ?_
  refine br_f (by decide) ?_
  refine tq_p (n := 42) 2 (by rfl) (by decide) (by rfl) (by decide) (by decide) (by decide) ?_
  refine nm_e ?_
  refine br_f (by decide) ?_
  refine tq_p (n := 43) 2 (by rfl) (by decide) (by rfl) (by decide) (by decide) (by decide) ?_
  refine nm_e ?_
  refine br_t (by decide) ?_
  exact lc_1 tm_2 (by rfl) (tp_c2 ho) h
theorem l3n0_1 (hL : L ≤ 260) (ek : md_f (ce_f L xs 6) 4 = nI 0) (h : ∀ u', dq_OK xdl (tq_k (tl_n0 x6)) (tq_v (tl_n0 x6)) 3 u' → lw_69 post L xs m x4 x5 x6 x7 (x8 + 1) kc ks (zdl, ztn, zpp, zvc, zcc, zfc, zoc, zag, zan, zex, zen, zfl, zac, zst, zsp, zmd, zrt, zcu, ztk, ztv, zaf, zro, zsc, zho, zvk, zvf, zvs, zcv, zco, zff, zfp, zfe, zfb, zop) u') : wL_law_1281 post L xs (wL_law_69 post L xs m) x4 x5 x6 x7 x8 kc ks zdl ztn zpp zvc zcc zfc zoc zag zan zex zen zfl zac zst zsp zmd zrt zcu ztk ztv zaf zro zsc zho zvk zvf zvs zcv zco zff zfp zfe zfb zop xdl (nI 2) xpp xvc xcc xfc xoc xag xan xex xen xfl xac xst xsp xmd xrt xcu (tq_k [(3, x6), (1, 0)]) (tq_v [(3, x6), (1, 0)]) xaf xro xsc xho xvk xvf xvs xcv xco xff xfp xfe xfb xop := by
  refine ce_d (j := 6) rfl (by decide) hL (md_w (by decide) ?_)
  rw [ek]
  refine ⟨0 + 1, ?_⟩
  refine br_t (by decide) ?_
  refine tq_p (n := 2) 2 (by rfl) (by decide) (by rfl) (by decide) (by decide) (by decide) ?_
  exact lc_1 tm_n0 (by rfl) tp_cn0 h
theorem l3n1_1 (hL : L ≤ 260) (ek : md_f (ce_f L xs 6) 4 = nI 1) (h : ∀ u', dq_OK xdl (tq_k (tl_n1 x6 (md_f x7 11 - 5 - 0))) (tq_v (tl_n1 x6 (md_f x7 11 - 5 - 0))) 4 u' → lw_69 post L xs m x4 x5 x6 x7 (x8 + 1) kc ks (zdl, ztn, zpp, zvc, zcc, zfc, zoc, zag, zan, zex, zen, zfl, zac, zst, zsp, zmd, zrt, zcu, ztk, ztv, zaf, zro, zsc, zho, zvk, zvf, zvs, zcv, zco, zff, zfp, zfe, zfb, zop) u') : wL_law_1281 post L xs (wL_law_69 post L xs m) x4 x5 x6 x7 x8 kc ks zdl ztn zpp zvc zcc zfc zoc zag zan zex zen zfl zac zst zsp zmd zrt zcu ztk ztv zaf zro zsc zho zvk zvf zvs zcv zco zff zfp zfe zfb zop xdl (nI 2) xpp xvc xcc xfc xoc xag xan xex xen xfl xac xst xsp xmd xrt xcu (tq_k [(3, x6), (1, 0)]) (tq_v [(3, x6), (1, 0)]) xaf xro xsc xho xvk xvf xvs xcv xco xff xfp xfe xfb xop := by
  refine ce_d (j := 6) rfl (by decide) hL (md_w (by decide) ?_)
  rw [ek]
  refine ⟨1 + 1, ?_⟩
  refine br_f (by decide) (md_w (by decide) ?_)
  refine tq_n (n := 2) (by rfl) (by decide) ?_
  refine nm_e ?_
  refine br_t (by decide) ?_
  refine tq_p (n := 3) 2 (by rfl) (by decide) (by rfl) (by decide) (by decide) (by decide) ?_
  exact lc_1 tm_n1 (by rfl) tp_cn1 h
theorem l3n2_1 (hL : L ≤ 260) (ek : md_f (ce_f L xs 6) 4 = nI 2) (h : ∀ u', dq_OK xdl (tq_k (tl_n2 x6 (md_f x7 11 - 5 - 0) (md_f x7 11 - 5 - (0 + 1)))) (tq_v (tl_n2 x6 (md_f x7 11 - 5 - 0) (md_f x7 11 - 5 - (0 + 1)))) 5 u' → lw_69 post L xs m x4 x5 x6 x7 (x8 + 1) kc ks (zdl, ztn, zpp, zvc, zcc, zfc, zoc, zag, zan, zex, zen, zfl, zac, zst, zsp, zmd, zrt, zcu, ztk, ztv, zaf, zro, zsc, zho, zvk, zvf, zvs, zcv, zco, zff, zfp, zfe, zfb, zop) u') : wL_law_1281 post L xs (wL_law_69 post L xs m) x4 x5 x6 x7 x8 kc ks zdl ztn zpp zvc zcc zfc zoc zag zan zex zen zfl zac zst zsp zmd zrt zcu ztk ztv zaf zro zsc zho zvk zvf zvs zcv zco zff zfp zfe zfb zop xdl (nI 2) xpp xvc xcc xfc xoc xag xan xex xen xfl xac xst xsp xmd xrt xcu (tq_k [(3, x6), (1, 0)]) (tq_v [(3, x6), (1, 0)]) xaf xro xsc xho xvk xvf xvs xcv xco xff xfp xfe xfb xop := by
  refine ce_d (j := 6) rfl (by decide) hL (md_w (by decide) ?_)
  rw [ek]
  refine ⟨2 + 1, ?_⟩
  refine br_f (by decide) (md_w (by decide) ?_)
  refine tq_n (n := 2) (by rfl) (by decide) ?_
  refine nm_e ?_
  refine br_f (by decide) (md_w (by decide) ?_)
  refine tq_n (n := 3) (by rfl) (by decide) ?_
  refine nm_e ?_
  refine br_t (by decide) ?_
  refine tq_p (n := 4) 2 (by rfl) (by decide) (by rfl) (by decide) (by decide) (by decide) ?_
  exact lc_1 tm_n2 (by rfl) tp_cn2 h
theorem l3n3_1 (hL : L ≤ 260) (ek : md_f (ce_f L xs 6) 4 = nI 3) (h : ∀ u', dq_OK xdl (tq_k (tl_n3 x6 (md_f x7 11 - 5 - 0) (md_f x7 11 - 5 - (0 + 1)) (md_f x7 11 - 5 - (0 + 1 + 1)))) (tq_v (tl_n3 x6 (md_f x7 11 - 5 - 0) (md_f x7 11 - 5 - (0 + 1)) (md_f x7 11 - 5 - (0 + 1 + 1)))) 6 u' → lw_69 post L xs m x4 x5 x6 x7 (x8 + 1) kc ks (zdl, ztn, zpp, zvc, zcc, zfc, zoc, zag, zan, zex, zen, zfl, zac, zst, zsp, zmd, zrt, zcu, ztk, ztv, zaf, zro, zsc, zho, zvk, zvf, zvs, zcv, zco, zff, zfp, zfe, zfb, zop) u') : wL_law_1281 post L xs (wL_law_69 post L xs m) x4 x5 x6 x7 x8 kc ks zdl ztn zpp zvc zcc zfc zoc zag zan zex zen zfl zac zst zsp zmd zrt zcu ztk ztv zaf zro zsc zho zvk zvf zvs zcv zco zff zfp zfe zfb zop xdl (nI 2) xpp xvc xcc xfc xoc xag xan xex xen xfl xac xst xsp xmd xrt xcu (tq_k [(3, x6), (1, 0)]) (tq_v [(3, x6), (1, 0)]) xaf xro xsc xho xvk xvf xvs xcv xco xff xfp xfe xfb xop := by
  refine ce_d (j := 6) rfl (by decide) hL (md_w (by decide) ?_)
  rw [ek]
  refine ⟨3 + 1, ?_⟩
  refine br_f (by decide) (md_w (by decide) ?_)
  refine tq_n (n := 2) (by rfl) (by decide) ?_
  refine nm_e ?_
  refine br_f (by decide) (md_w (by decide) ?_)
  refine tq_n (n := 3) (by rfl) (by decide) ?_
  refine nm_e ?_
  refine br_f (by decide) (md_w (by decide) ?_)
  refine tq_n (n := 4) (by rfl) (by decide) ?_
  refine nm_e ?_
  refine br_t (by decide) ?_
  refine tq_p (n := 5) 2 (by rfl) (by decide) (by rfl) (by decide) (by decide) (by decide) ?_
  exact lc_1 tm_n3 (by rfl) tp_cn3 h
theorem l3l0_1 {o : Nat} (ho : tp_O o) (hL : L ≤ 260) (ek : md_f (ce_f L xs 6) 4 = nI 0) (h : ∀ u', dq_OK xdl (tq_k (tl_l0 o)) (tq_v (tl_l0 o)) 14 u' → lw_69 post L xs m x4 x5 x6 x7 (x8 + 1) kc ks (zdl, ztn, zpp, zvc, zcc, zfc, zoc, zag, zan, zex, zen, zfl, zac, zst, zsp, zmd, zrt, zcu, ztk, ztv, zaf, zro, zsc, zho, zvk, zvf, zvs, zcv, zco, zff, zfp, zfe, zfb, zop) u') : wL_law_1281 post L xs (wL_law_69 post L xs m) x4 x5 x6 x7 x8 kc ks zdl ztn zpp zvc zcc zfc zoc zag zan zex zen zfl zac zst zsp zmd zrt zcu ztk ztv zaf zro zsc zho zvk zvf zvs zcv zco zff zfp zfe zfb zop xdl (nI 13) xpp xvc xcc xfc xoc xag xan xex xen xfl xac xst xsp xmd xrt xcu (tq_k [(2, 0), (2, 0), (4, 105), (4, 104), (o, 0), (1, 0), (2, 0), (4, 105), (4, 104), (1, 0), (7, 0), (1, 0), (1, 0)]) (tq_v [(2, 0), (2, 0), (4, 105), (4, 104), (o, 0), (1, 0), (2, 0), (4, 105), (4, 104), (1, 0), (7, 0), (1, 0), (1, 0)]) xaf xro xsc xho xvk xvf xvs xcv xco xff xfp xfe xfb xop := by
  refine ce_d (j := 6) rfl (by decide) hL (md_w (by decide) ?_)
  rw [ek]
  refine ⟨0 + 1, ?_⟩
  refine br_t (by decide) ?_
  refine tq_p (n := 13) 2 (by rfl) (by decide) (by rfl) (by decide) (by decide) (by decide) ?_
  exact lc_1 tm_l0 (by rfl) (tp_cl0 ho) h
theorem l3l1_1 {o : Nat} (ho : tp_O o) (hL : L ≤ 260) (ek : md_f (ce_f L xs 6) 4 = nI 1) (h : ∀ u', dq_OK xdl (tq_k (tl_l1 o (md_f x7 11 - 5 - 0))) (tq_v (tl_l1 o (md_f x7 11 - 5 - 0))) 15 u' → lw_69 post L xs m x4 x5 x6 x7 (x8 + 1) kc ks (zdl, ztn, zpp, zvc, zcc, zfc, zoc, zag, zan, zex, zen, zfl, zac, zst, zsp, zmd, zrt, zcu, ztk, ztv, zaf, zro, zsc, zho, zvk, zvf, zvs, zcv, zco, zff, zfp, zfe, zfb, zop) u') : wL_law_1281 post L xs (wL_law_69 post L xs m) x4 x5 x6 x7 x8 kc ks zdl ztn zpp zvc zcc zfc zoc zag zan zex zen zfl zac zst zsp zmd zrt zcu ztk ztv zaf zro zsc zho zvk zvf zvs zcv zco zff zfp zfe zfb zop xdl (nI 13) xpp xvc xcc xfc xoc xag xan xex xen xfl xac xst xsp xmd xrt xcu (tq_k [(2, 0), (2, 0), (4, 105), (4, 104), (o, 0), (1, 0), (2, 0), (4, 105), (4, 104), (1, 0), (7, 0), (1, 0), (1, 0)]) (tq_v [(2, 0), (2, 0), (4, 105), (4, 104), (o, 0), (1, 0), (2, 0), (4, 105), (4, 104), (1, 0), (7, 0), (1, 0), (1, 0)]) xaf xro xsc xho xvk xvf xvs xcv xco xff xfp xfe xfb xop := by
  refine ce_d (j := 6) rfl (by decide) hL (md_w (by decide) ?_)
  rw [ek]
  refine ⟨1 + 1, ?_⟩
  refine br_f (by decide) (md_w (by decide) ?_)
  refine tq_n (n := 13) (by rfl) (by decide) ?_
  refine nm_e ?_
  refine br_t (by decide) ?_
  refine tq_p (n := 14) 2 (by rfl) (by decide) (by rfl) (by decide) (by decide) (by decide) ?_
  exact lc_1 tm_l1 (by rfl) (tp_cl1 ho) h
theorem l3l2_1 {o : Nat} (ho : tp_O o) (hL : L ≤ 260) (ek : md_f (ce_f L xs 6) 4 = nI 2) (h : ∀ u', dq_OK xdl (tq_k (tl_l2 o (md_f x7 11 - 5 - 0) (md_f x7 11 - 5 - (0 + 1)))) (tq_v (tl_l2 o (md_f x7 11 - 5 - 0) (md_f x7 11 - 5 - (0 + 1)))) 16 u' → lw_69 post L xs m x4 x5 x6 x7 (x8 + 1) kc ks (zdl, ztn, zpp, zvc, zcc, zfc, zoc, zag, zan, zex, zen, zfl, zac, zst, zsp, zmd, zrt, zcu, ztk, ztv, zaf, zro, zsc, zho, zvk, zvf, zvs, zcv, zco, zff, zfp, zfe, zfb, zop) u') : wL_law_1281 post L xs (wL_law_69 post L xs m) x4 x5 x6 x7 x8 kc ks zdl ztn zpp zvc zcc zfc zoc zag zan zex zen zfl zac zst zsp zmd zrt zcu ztk ztv zaf zro zsc zho zvk zvf zvs zcv zco zff zfp zfe zfb zop xdl (nI 13) xpp xvc xcc xfc xoc xag xan xex xen xfl xac xst xsp xmd xrt xcu (tq_k [(2, 0), (2, 0), (4, 105), (4, 104), (o, 0), (1, 0), (2, 0), (4, 105), (4, 104), (1, 0), (7, 0), (1, 0), (1, 0)]) (tq_v [(2, 0), (2, 0), (4, 105), (4, 104), (o, 0), (1, 0), (2, 0), (4, 105), (4, 104), (1, 0), (7, 0), (1, 0), (1, 0)]) xaf xro xsc xho xvk xvf xvs xcv xco xff xfp xfe xfb xop := by
  refine ce_d (j := 6) rfl (by decide) hL (md_w (by decide) ?_)
  rw [ek]
  refine ⟨2 + 1, ?_⟩
  refine br_f (by decide) (md_w (by decide) ?_)
  refine tq_n (n := 13) (by rfl) (by decide) ?_
  refine nm_e ?_
  refine br_f (by decide) (md_w (by decide) ?_)
  refine tq_n (n := 14) (by rfl) (by decide) ?_
  refine nm_e ?_
  refine br_t (by decide) ?_
  refine tq_p (n := 15) 2 (by rfl) (by decide) (by rfl) (by decide) (by decide) (by decide) ?_
  exact lc_1 tm_l2 (by rfl) (tp_cl2 ho) h
theorem l3l3_1 {o : Nat} (ho : tp_O o) (hL : L ≤ 260) (ek : md_f (ce_f L xs 6) 4 = nI 3) (h : ∀ u', dq_OK xdl (tq_k (tl_l3 o (md_f x7 11 - 5 - 0) (md_f x7 11 - 5 - (0 + 1)) (md_f x7 11 - 5 - (0 + 1 + 1)))) (tq_v (tl_l3 o (md_f x7 11 - 5 - 0) (md_f x7 11 - 5 - (0 + 1)) (md_f x7 11 - 5 - (0 + 1 + 1)))) 17 u' → lw_69 post L xs m x4 x5 x6 x7 (x8 + 1) kc ks (zdl, ztn, zpp, zvc, zcc, zfc, zoc, zag, zan, zex, zen, zfl, zac, zst, zsp, zmd, zrt, zcu, ztk, ztv, zaf, zro, zsc, zho, zvk, zvf, zvs, zcv, zco, zff, zfp, zfe, zfb, zop) u') : wL_law_1281 post L xs (wL_law_69 post L xs m) x4 x5 x6 x7 x8 kc ks zdl ztn zpp zvc zcc zfc zoc zag zan zex zen zfl zac zst zsp zmd zrt zcu ztk ztv zaf zro zsc zho zvk zvf zvs zcv zco zff zfp zfe zfb zop xdl (nI 13) xpp xvc xcc xfc xoc xag xan xex xen xfl xac xst xsp xmd xrt xcu (tq_k [(2, 0), (2, 0), (4, 105), (4, 104), (o, 0), (1, 0), (2, 0), (4, 105), (4, 104), (1, 0), (7, 0), (1, 0), (1, 0)]) (tq_v [(2, 0), (2, 0), (4, 105), (4, 104), (o, 0), (1, 0), (2, 0), (4, 105), (4, 104), (1, 0), (7, 0), (1, 0), (1, 0)]) xaf xro xsc xho xvk xvf xvs xcv xco xff xfp xfe xfb xop := by
  refine ce_d (j := 6) rfl (by decide) hL (md_w (by decide) ?_)
  rw [ek]
  refine ⟨3 + 1, ?_⟩
  refine br_f (by decide) (md_w (by decide) ?_)
  refine tq_n (n := 13) (by rfl) (by decide) ?_
  refine nm_e ?_
  refine br_f (by decide) (md_w (by decide) ?_)
  refine tq_n (n := 14) (by rfl) (by decide) ?_
  refine nm_e ?_
  refine br_f (by decide) (md_w (by decide) ?_)
  refine tq_n (n := 15) (by rfl) (by decide) ?_
  refine nm_e ?_
  refine br_t (by decide) ?_
  refine tq_p (n := 16) 2 (by rfl) (by decide) (by rfl) (by decide) (by decide) (by decide) ?_
  exact lc_1 tm_l3 (by rfl) (tp_cl3 ho) h
theorem l3n_1 (e0 : ¬ x4 = 0) (e1 : ¬ x4 = 1) (e2 : ¬ x4 = 2) (ea : md_f x6 5 = 0) (h : wL_law_1281 post L xs (wL_law_69 post L xs m) x4 x5 x6 x7 x8 kc ks zdl ztn zpp zvc zcc zfc zoc zag zan zex zen zfl zac zst zsp zmd zrt zcu ztk ztv zaf zro zsc zho zvk zvf zvs zcv zco zff zfp zfe zfb zop xdl (nI 2) 0 xvc xcc xfc xoc xag xan xex xen xfl xac (-1) 0 0 (-1) (-1) (tq_k [(3, x6), (1, 0)]) (tq_v [(3, x6), (1, 0)]) xaf xro xsc xho xvk xvf xvs xcv xco xff xfp xfe xfb xop) : wL_law_85 post L xs (wL_law_69 post L xs m) x4 x5 x6 x7 x8 kc ks zdl ztn zpp zvc zcc zfc zoc zag zan zex zen zfl zac zst zsp zmd zrt zcu ztk ztv zaf zro zsc zho zvk zvf zvs zcv zco zff zfp zfe zfb zop xdl (nI 0) xpp xvc xcc xfc xoc xag xan xex xen xfl xac xst xsp xmd xrt xcu (tq_k []) (tq_v []) xaf xro xsc xho xvk xvf xvs xcv xco xff xfp xfe xfb xop := by
  refine br_f e0 (br_f e1 (br_f e2 ?_))
  refine tq_p (n := 0) 1 (by rfl) (by decide) (by rfl) (by decide) (by decide) (by decide) ?_
  refine md_w (by decide) ?_
  refine br_t ea ?_
  refine tq_n (n := 1) (by rfl) (by decide) ?_
  exact h
theorem l3l_1 {o : Nat} (ho : tp_O o) (e5 : x5 = nI o) (e0 : ¬ x4 = 0) (e1 : ¬ x4 = 1) (e2 : ¬ x4 = 2) (ea : ¬ md_f x6 5 = 0) (h : wL_law_1281 post L xs (wL_law_69 post L xs m) x4 x5 x6 x7 x8 kc ks zdl ztn zpp zvc zcc zfc zoc zag zan zex zen zfl zac zst zsp zmd zrt zcu ztk ztv zaf zro zsc zho zvk zvf zvs zcv zco zff zfp zfe zfb zop xdl (nI 13) 0 xvc xcc xfc xoc xag xan xex xen xfl xac (-1) 0 0 (-1) (-1) (tq_k [(2, 0), (2, 0), (4, 105), (4, 104), (o, 0), (1, 0), (2, 0), (4, 105), (4, 104), (1, 0), (7, 0), (1, 0), (1, 0)]) (tq_v [(2, 0), (2, 0), (4, 105), (4, 104), (o, 0), (1, 0), (2, 0), (4, 105), (4, 104), (1, 0), (7, 0), (1, 0), (1, 0)]) xaf xro xsc xho xvk xvf xvs xcv xco xff xfp xfe xfb xop) : wL_law_85 post L xs (wL_law_69 post L xs m) x4 x5 x6 x7 x8 kc ks zdl ztn zpp zvc zcc zfc zoc zag zan zex zen zfl zac zst zsp zmd zrt zcu ztk ztv zaf zro zsc zho zvk zvf zvs zcv zco zff zfp zfe zfb zop xdl (nI 0) xpp xvc xcc xfc xoc xag xan xex xen xfl xac xst xsp xmd xrt xcu (tq_k []) (tq_v []) xaf xro xsc xho xvk xvf xvs xcv xco xff xfp xfe xfb xop := by
  have ob := tp_b ho
  refine br_f e0 (br_f e1 (br_f e2 ?_))
  refine tq_p (n := 0) 1 (by rfl) (by decide) (by rfl) (by decide) (by decide) (by decide) ?_
  refine md_w (by decide) ?_
  refine br_f ea ?_
  refine tq_p (n := 1) 1 (by rfl) (by decide) (by rfl) (by decide) (by decide) (by decide) ?_
  refine tq_p (n := 2) 7 (by rfl) (by decide) (by rfl) (by decide) (by decide) (by decide) ?_
  refine tq_p (n := 3) 1 (by rfl) (by decide) (by rfl) (by decide) (by decide) (by decide) ?_
  refine tq_s (n := 4) (by rfl) (by decide) ?_
  refine tq_s (n := 5) (by rfl) (by decide) ?_
  refine tq_p (n := 6) 2 (by rfl) (by decide) (by rfl) (by decide) (by decide) (by decide) ?_
  refine tq_p (n := 7) 1 (by rfl) (by decide) (by rfl) (by decide) (by decide) (by decide) ?_
  refine tq_p (n := 8) o (by rfl) (by decide) e5 ob.1 ob.2.1 ob.2.2 ?_
  refine tq_s (n := 9) (by rfl) (by decide) ?_
  refine tq_s (n := 10) (by rfl) (by decide) ?_
  refine tq_p (n := 11) 2 (by rfl) (by decide) (by rfl) (by decide) (by decide) (by decide) ?_
  refine tq_p (n := 12) 2 (by rfl) (by decide) (by rfl) (by decide) (by decide) (by decide) ?_
  exact h

end
end
section
/-! the tokens handed to the first object, and its compile -/
section
variable {post : Int32 → Prop} {L : Nat} {xs : Nat → Int32} {m : Nat} {x4 x5 x6 x7 x8 : Int32} {kc ks : Nat} {xdl xtn xpp xvc xcc xfc xoc xag xan xex xen xfl xac xst xsp xmd xrt xcu : Int32} {xtk xtv xaf xro xsc xho xvk xvf xvs xcv xco xff xfp xfe xfb xop : Nat → Int32} {zdl ztn zpp zvc zcc zfc zoc zag zan zex zen zfl zac zst zsp zmd zrt zcu : Int32} {ztk ztv zaf zro zsc zho zvk zvf zvs zcv zco zff zfp zfe zfb zop : Nat → Int32}
theorem lc_0 {l : List (Nat × Int32)} {c : List (Nat × Nat)} {t : List Nat} {n : Nat} (M : tq_M l c) (hl : l.length = n) (hT : ck_T c t n = true) (h : ∀ u', dq_OK xdl (tq_k (l)) (tq_v (l)) n u' → lw_69 post L xs m x4 x5 x6 x7 (x8 + 1) kc ks u' (zdl, ztn, zpp, zvc, zcc, zfc, zoc, zag, zan, zex, zen, zfl, zac, zst, zsp, zmd, zrt, zcu, ztk, ztv, zaf, zro, zsc, zho, zvk, zvf, zvs, zcv, zco, zff, zfp, zfe, zfb, zop)) : wL_law_1336_2 post L xs (wL_law_69 post L xs m) x4 x5 x6 x7 x8 kc ks xdl (nI n) xpp xvc xcc xfc xoc xag xan xex xen xfl xac xst xsp xmd xrt xcu (tq_k l) (tq_v l) xaf xro xsc xho xvk xvf xvs xcv xco xff xfp xfe xfb xop zdl ztn zpp zvc zcc zfc zoc zag zan zex zen zfl zac zst zsp zmd zrt zcu ztk ztv zaf zro zsc zho zvk zvf zvs zcv zco zff zfp zfe zfb zop := by
  refine tq_comp M hl hT (fun u' hu' => ?_)
  have h' := h u' hu'
  obtain ⟨zdl, ztn, zpp, zvc, zcc, zfc, zoc, zag, zan, zex, zen, zfl, zac, zst, zsp, zmd, zrt, zcu, ztk, ztv, zaf, zro, zsc, zho, zvk, zvf, zvs, zcv, zco, zff, zfp, zfe, zfb, zop⟩ := u'
  exact br_t rfl (nm_e h')
theorem lz_0 {o zz : Nat} {z0 : Int32} (ho : tp_O o) (e5 : x5 = nI o) (hz : zz = 3 ∨ zz = 5) (ez : z0 = nI zz) (h : ∀ u', dq_OK xdl (tq_k (tl_0 o zz (md_f x6 15 - 3))) (tq_v (tl_0 o zz (md_f x6 15 - 3))) 39 u' → lw_69 post L xs m x4 x5 x6 x7 (x8 + 1) kc ks u' (zdl, ztn, zpp, zvc, zcc, zfc, zoc, zag, zan, zex, zen, zfl, zac, zst, zsp, zmd, zrt, zcu, ztk, ztv, zaf, zro, zsc, zho, zvk, zvf, zvs, zcv, zco, zff, zfp, zfe, zfb, zop)) : wL_law_249_2 post L xs (wL_law_69 post L xs m) x4 x5 x6 x7 x8 z0 kc ks xdl (nI 17) xpp xvc xcc xfc xoc xag xan xex xen xfl xac xst xsp xmd xrt xcu (tq_k [(2, 0), (3, 1), (4, 102), (20, 0), (1, 0), (10, 0), (1, 0), (2, 0), (4, 102), (1, 0), (7, 0), (1, 0), (4, 101), (1, 0), (1, 0), (9, 0), (1, 0)]) (tq_v [(2, 0), (3, 1), (4, 102), (20, 0), (1, 0), (10, 0), (1, 0), (2, 0), (4, 102), (1, 0), (7, 0), (1, 0), (4, 101), (1, 0), (1, 0), (9, 0), (1, 0)]) xaf xro xsc xho xvk xvf xvs xcv xco xff xfp xfe xfb xop zdl ztn zpp zvc zcc zfc zoc zag zan zex zen zfl zac zst zsp zmd zrt zcu ztk ztv zaf zro zsc zho zvk zvf zvs zcv zco zff zfp zfe zfb zop := by
  have ob := tp_b ho
  refine tq_a (n := 17) zz 0 (by rfl) (by decide) ez (by omega) (by omega) (tp_z hz) ?_
  refine tq_p (n := 18) 1 (by rfl) (by decide) (by rfl) (by decide) (by decide) (by decide) ?_
  refine tq_p (n := 19) o (by rfl) (by decide) e5 ob.1 ob.2.1 ob.2.2 ?_
  refine tq_s (n := 20) (by rfl) (by decide) ?_
  refine tq_p (n := 21) 1 (by rfl) (by decide) (by rfl) (by decide) (by decide) (by decide) ?_
  refine tq_s (n := 22) (by rfl) (by decide) ?_
  refine tq_p (n := 23) 1 (by rfl) (by decide) (by rfl) (by decide) (by decide) (by decide) ?_
  refine tq_p (n := 24) 16 (by rfl) (by decide) (by rfl) (by decide) (by decide) (by decide) ?_
  refine tq_s (n := 25) (by rfl) (by decide) ?_
  refine tq_n (n := 26) (by rfl) (by decide) ?_
  refine ⟨7 + 1, ?_⟩
  refine br_f (by decide) ?_
  refine tq_p (n := 27) 2 (by rfl) (by decide) (by rfl) (by decide) (by decide) (by decide) ?_
  refine nm_e ?_
  refine br_f (by decide) ?_
  refine tq_p (n := 28) 2 (by rfl) (by decide) (by rfl) (by decide) (by decide) (by decide) ?_
  refine nm_e ?_
  refine br_f (by decide) ?_
  refine tq_p (n := 29) 2 (by rfl) (by decide) (by rfl) (by decide) (by decide) (by decide) ?_
  refine nm_e ?_
  refine br_f (by decide) ?_
  refine tq_p (n := 30) 2 (by rfl) (by decide) (by rfl) (by decide) (by decide) (by decide) ?_
  refine nm_e ?_
  refine br_f (by decide) ?_
  refine tq_p (n := 31) 2 (by rfl) (by decide) (by rfl) (by decide) (by decide) (by decide) ?_
  refine nm_e ?_
  refine br_f (by decide) ?_
  refine tq_p (n := 32) 2 (by rfl) (by decide) (by rfl) (by decide) (by decide) (by decide) ?_
  refine nm_e ?_
  refine br_f (by decide) ?_
  refine tq_p (n := 33) 2 (by rfl) (by decide) (by rfl) (by decide) (by decide) (by decide) ?_
  refine nm_e ?_
  refine br_t (by decide) ?_
  refine tq_p (n := 34) 1 (by rfl) (by decide) (by rfl) (by decide) (by decide) (by decide) ?_
  refine tq_s (n := 35) (by rfl) (by decide) ?_
  refine md_w (by decide) ?_
  refine tq_n (n := 36) (by rfl) (by decide) ?_
  refine tq_p (n := 37) 2 (by rfl) (by decide) (by rfl) (by decide) (by decide) (by decide) ?_
  refine tq_p (n := 38) 2 (by rfl) (by decide) (by rfl) (by decide) (by decide) (by decide) ?_
  exact lc_0 tm_0 (by rfl) (tp_c0 ho hz) h
theorem l0_0 {o zz : Nat} (ho : tp_O o) (e5 : x5 = nI o) (e4 : x4 = 0) (hz : (o = 11 ∧ zz = 5) ∨ (o ≠ 11 ∧ zz = 3)) (h : ∀ u', dq_OK xdl (tq_k (tl_0 o zz (md_f x6 15 - 3))) (tq_v (tl_0 o zz (md_f x6 15 - 3))) 39 u' → lw_69 post L xs m x4 x5 x6 x7 (x8 + 1) kc ks u' (zdl, ztn, zpp, zvc, zcc, zfc, zoc, zag, zan, zex, zen, zfl, zac, zst, zsp, zmd, zrt, zcu, ztk, ztv, zaf, zro, zsc, zho, zvk, zvf, zvs, zcv, zco, zff, zfp, zfe, zfb, zop)) : wL_law_85_2 post L xs (wL_law_69 post L xs m) x4 x5 x6 x7 x8 kc ks xdl (nI 0) xpp xvc xcc xfc xoc xag xan xex xen xfl xac xst xsp xmd xrt xcu (tq_k []) (tq_v []) xaf xro xsc xho xvk xvf xvs xcv xco xff xfp xfe xfb xop zdl ztn zpp zvc zcc zfc zoc zag zan zex zen zfl zac zst zsp zmd zrt zcu ztk ztv zaf zro zsc zho zvk zvf zvs zcv zco zff zfp zfe zfb zop := by
  refine br_t e4 ?_
  refine tq_p (n := 0) 1 (by rfl) (by decide) (by rfl) (by decide) (by decide) (by decide) ?_
  refine tq_p (n := 1) 9 (by rfl) (by decide) (by rfl) (by decide) (by decide) (by decide) ?_
  refine tq_p (n := 2) 1 (by rfl) (by decide) (by rfl) (by decide) (by decide) (by decide) ?_
  refine tq_p (n := 3) 1 (by rfl) (by decide) (by rfl) (by decide) (by decide) (by decide) ?_
  refine tq_s (n := 4) (by rfl) (by decide) ?_
  refine tq_p (n := 5) 1 (by rfl) (by decide) (by rfl) (by decide) (by decide) (by decide) ?_
  refine tq_p (n := 6) 7 (by rfl) (by decide) (by rfl) (by decide) (by decide) (by decide) ?_
  refine tq_p (n := 7) 1 (by rfl) (by decide) (by rfl) (by decide) (by decide) (by decide) ?_
  refine tq_s (n := 8) (by rfl) (by decide) ?_
  refine tq_p (n := 9) 2 (by rfl) (by decide) (by rfl) (by decide) (by decide) (by decide) ?_
  refine tq_p (n := 10) 1 (by rfl) (by decide) (by rfl) (by decide) (by decide) (by decide) ?_
  refine tq_p (n := 11) 10 (by rfl) (by decide) (by rfl) (by decide) (by decide) (by decide) ?_
  refine tq_p (n := 12) 1 (by rfl) (by decide) (by rfl) (by decide) (by decide) (by decide) ?_
  refine tq_p (n := 13) 20 (by rfl) (by decide) (by rfl) (by decide) (by decide) (by decide) ?_
  refine tq_s (n := 14) (by rfl) (by decide) ?_
  refine tq_n (n := 15) (by rfl) (by decide) ?_
  refine tq_p (n := 16) 2 (by rfl) (by decide) (by rfl) (by decide) (by decide) (by decide) ?_
  rcases hz with ⟨z, rfl⟩ | ⟨z, rfl⟩
  · exact br_t (by rw [e5, z]; rfl) (lz_0 ho e5 (Or.inr rfl) rfl h)
  · exact br_f (fun e => z (tp_11 ho (e5.symm.trans e))) (lz_0 ho e5 (Or.inl rfl) rfl h)
theorem l1_0 {o : Nat} (ho : tp_O o) (e5 : x5 = nI o) (e4 : x4 = 1) (h : ∀ u', dq_OK xdl (tq_k (tl_1 o (md_f x6 12 - 2) (md_f x7 7 - 3))) (tq_v (tl_1 o (md_f x6 12 - 2) (md_f x7 7 - 3))) 42 u' → lw_69 post L xs m x4 x5 x6 x7 (x8 + 1) kc ks u' (zdl, ztn, zpp, zvc, zcc, zfc, zoc, zag, zan, zex, zen, zfl, zac, zst, zsp, zmd, zrt, zcu, ztk, ztv, zaf, zro, zsc, zho, zvk, zvf, zvs, zcv, zco, zff, zfp, zfe, zfb, zop)) : wL_law_85_2 post L xs (wL_law_69 post L xs m) x4 x5 x6 x7 x8 kc ks xdl (nI 0) xpp xvc xcc xfc xoc xag xan xex xen xfl xac xst xsp xmd xrt xcu (tq_k []) (tq_v []) xaf xro xsc xho xvk xvf xvs xcv xco xff xfp xfe xfb xop zdl ztn zpp zvc zcc zfc zoc zag zan zex zen zfl zac zst zsp zmd zrt zcu ztk ztv zaf zro zsc zho zvk zvf zvs zcv zco zff zfp zfe zfb zop := by
  have ob := tp_b ho
  refine br_f (by rw [e4]; decide) (br_t e4 ?_)
  refine tq_p (n := 0) 1 (by rfl) (by decide) (by rfl) (by decide) (by decide) (by decide) ?_
  refine tq_p (n := 1) 9 (by rfl) (by decide) (by rfl) (by decide) (by decide) (by decide) ?_
  refine tq_p (n := 2) 1 (by rfl) (by decide) (by rfl) (by decide) (by decide) (by decide) ?_
  refine tq_p (n := 3) 1 (by rfl) (by decide) (by rfl) (by decide) (by decide) (by decide) ?_
  refine tq_s (n := 4) (by rfl) (by decide) ?_
  refine tq_p (n := 5) 1 (by rfl) (by decide) (by rfl) (by decide) (by decide) (by decide) ?_
  refine tq_p (n := 6) 7 (by rfl) (by decide) (by rfl) (by decide) (by decide) (by decide) ?_
  refine tq_p (n := 7) 1 (by rfl) (by decide) (by rfl) (by decide) (by decide) (by decide) ?_
  refine tq_s (n := 8) (by rfl) (by decide) ?_
  refine tq_s (n := 9) (by rfl) (by decide) ?_
  refine tq_p (n := 10) 2 (by rfl) (by decide) (by rfl) (by decide) (by decide) (by decide) ?_
  refine tq_p (n := 11) 1 (by rfl) (by decide) (by rfl) (by decide) (by decide) (by decide) ?_
  refine tq_p (n := 12) 10 (by rfl) (by decide) (by rfl) (by decide) (by decide) (by decide) ?_
  refine tq_p (n := 13) 1 (by rfl) (by decide) (by rfl) (by decide) (by decide) (by decide) ?_
  refine tq_p (n := 14) 19 (by rfl) (by decide) (by rfl) (by decide) (by decide) (by decide) ?_
  refine tq_s (n := 15) (by rfl) (by decide) ?_
  refine tq_n (n := 16) (by rfl) (by decide) ?_
  refine tq_p (n := 17) 2 (by rfl) (by decide) (by rfl) (by decide) (by decide) (by decide) ?_
  refine tq_s (n := 18) (by rfl) (by decide) ?_
  refine tq_p (n := 19) 1 (by rfl) (by decide) (by rfl) (by decide) (by decide) (by decide) ?_
  refine tq_s (n := 20) (by rfl) (by decide) ?_
  refine tq_p (n := 21) 1 (by rfl) (by decide) (by rfl) (by decide) (by decide) (by decide) ?_
  refine tq_p (n := 22) 16 (by rfl) (by decide) (by rfl) (by decide) (by decide) (by decide) ?_
  refine tq_s (n := 23) (by rfl) (by decide) ?_
  refine tq_n (n := 24) (by rfl) (by decide) ?_
  refine tq_p (n := 25) 2 (by rfl) (by decide) (by rfl) (by decide) (by decide) (by decide) ?_
  refine tq_p (n := 26) 1 (by rfl) (by decide) (by rfl) (by decide) (by decide) (by decide) ?_
  refine tq_p (n := 27) o (by rfl) (by decide) e5 ob.1 ob.2.1 ob.2.2 ?_
  refine tq_s (n := 28) (by rfl) (by decide) ?_
  refine tq_s (n := 29) (by rfl) (by decide) ?_
  refine tq_p (n := 30) 2 (by rfl) (by decide) (by rfl) (by decide) (by decide) (by decide) ?_
  refine ⟨5 + 1, ?_⟩
  refine br_f (by decide) ?_
  refine tq_p (n := 31) 2 (by rfl) (by decide) (by rfl) (by decide) (by decide) (by decide) ?_
  refine nm_e ?_
  refine br_f (by decide) ?_
  refine tq_p (n := 32) 2 (by rfl) (by decide) (by rfl) (by decide) (by decide) (by decide) ?_
  refine nm_e ?_
  refine br_f (by decide) ?_
  refine tq_p (n := 33) 2 (by rfl) (by decide) (by rfl) (by decide) (by decide) (by decide) ?_
  refine nm_e ?_
  refine br_f (by decide) ?_
  refine tq_p (n := 34) 2 (by rfl) (by decide) (by rfl) (by decide) (by decide) (by decide) ?_
  refine nm_e ?_
  refine br_f (by decide) ?_
  refine tq_p (n := 35) 2 (by rfl) (by decide) (by rfl) (by decide) (by decide) (by decide) ?_
  refine nm_e ?_
  refine br_t (by decide) ?_
  refine tq_p (n := 36) 1 (by rfl) (by decide) (by rfl) (by decide) (by decide) (by decide) ?_
  refine tq_s (n := 37) (by rfl) (by decide) ?_
  refine md_w (by decide) ?_
  refine tq_n (n := 38) (by rfl) (by decide) ?_
  refine md_w (by decide) ?_
  refine tq_n (n := 39) (by rfl) (by decide) ?_
  refine tq_p (n := 40) 2 (by rfl) (by decide) (by rfl) (by decide) (by decide) (by decide) ?_
  refine tq_p (n := 41) 2 (by rfl) (by decide) (by rfl) (by decide) (by decide) (by decide) ?_
  exact lc_0 tm_1 (by rfl) (tp_c1 ho) h
theorem l2_0 {o : Nat} (ho : tp_O o) (e5 : x5 = nI o) (e4 : x4 = 2) (h : ∀ u', dq_OK xdl (tq_k (tl_2 o (md_f x6 9 - 4) (md_f x7 5 - 2) x6 x7)) (tq_v (tl_2 o (md_f x6 9 - 4) (md_f x7 5 - 2) x6 x7)) 44 u' → lw_69 post L xs m x4 x5 x6 x7 (x8 + 1) kc ks u' (zdl, ztn, zpp, zvc, zcc, zfc, zoc, zag, zan, zex, zen, zfl, zac, zst, zsp, zmd, zrt, zcu, ztk, ztv, zaf, zro, zsc, zho, zvk, zvf, zvs, zcv, zco, zff, zfp, zfe, zfb, zop)) : wL_law_85_2 post L xs (wL_law_69 post L xs m) x4 x5 x6 x7 x8 kc ks xdl (nI 0) xpp xvc xcc xfc xoc xag xan xex xen xfl xac xst xsp xmd xrt xcu (tq_k []) (tq_v []) xaf xro xsc xho xvk xvf xvs xcv xco xff xfp xfe xfb xop zdl ztn zpp zvc zcc zfc zoc zag zan zex zen zfl zac zst zsp zmd zrt zcu ztk ztv zaf zro zsc zho zvk zvf zvs zcv zco zff zfp zfe zfb zop := by
  have ob := tp_b ho
  refine br_f (by rw [e4]; decide) (br_f (by rw [e4]; decide) (br_t e4 ?_))
  refine tq_p (n := 0) 1 (by rfl) (by decide) (by rfl) (by decide) (by decide) (by decide) ?_
  refine tq_p (n := 1) 8 (by rfl) (by decide) (by rfl) (by decide) (by decide) (by decide) ?_
  refine tq_p (n := 2) 1 (by rfl) (by decide) (by rfl) (by decide) (by decide) (by decide) ?_
  refine tq_p (n := 3) 1 (by rfl) (by decide) (by rfl) (by decide) (by decide) (by decide) ?_
  refine tq_s (n := 4) (by rfl) (by decide) ?_
  refine md_w (by decide) ?_
  refine tq_n (n := 5) (by rfl) (by decide) ?_
  refine tq_p (n := 6) 2 (by rfl) (by decide) (by rfl) (by decide) (by decide) (by decide) ?_
  refine tq_p (n := 7) 1 (by rfl) (by decide) (by rfl) (by decide) (by decide) (by decide) ?_
  refine tq_s (n := 8) (by rfl) (by decide) ?_
  refine md_w (by decide) ?_
  refine tq_n (n := 9) (by rfl) (by decide) ?_
  refine tq_p (n := 10) 2 (by rfl) (by decide) (by rfl) (by decide) (by decide) (by decide) ?_
  refine tq_p (n := 11) 2 (by rfl) (by decide) (by rfl) (by decide) (by decide) (by decide) ?_
  refine tq_p (n := 12) 1 (by rfl) (by decide) (by rfl) (by decide) (by decide) (by decide) ?_
  refine tq_p (n := 13) 11 (by rfl) (by decide) (by rfl) (by decide) (by decide) (by decide) ?_
  refine tq_p (n := 14) 1 (by rfl) (by decide) (by rfl) (by decide) (by decide) (by decide) ?_
  refine tq_p (n := 15) 7 (by rfl) (by decide) (by rfl) (by decide) (by decide) (by decide) ?_
  refine tq_p (n := 16) 1 (by rfl) (by decide) (by rfl) (by decide) (by decide) (by decide) ?_
  refine tq_s (n := 17) (by rfl) (by decide) ?_
  refine tq_p (n := 18) 2 (by rfl) (by decide) (by rfl) (by decide) (by decide) (by decide) ?_
  refine tq_p (n := 19) 1 (by rfl) (by decide) (by rfl) (by decide) (by decide) (by decide) ?_
  refine tq_p (n := 20) o (by rfl) (by decide) e5 ob.1 ob.2.1 ob.2.2 ?_
  refine tq_s (n := 21) (by rfl) (by decide) ?_
  refine tq_s (n := 22) (by rfl) (by decide) ?_
  refine tq_p (n := 23) 2 (by rfl) (by decide) (by rfl) (by decide) (by decide) (by decide) ?_
  refine tq_p (n := 24) 2 (by rfl) (by decide) (by rfl) (by decide) (by decide) (by decide) ?_
  refine tq_p (n := 25) 1 (by rfl) (by decide) (by rfl) (by decide) (by decide) (by decide) ?_
  refine tq_p (n := 26) 11 (by rfl) (by decide) (by rfl) (by decide) (by decide) (by decide) ?_
  refine tq_p (n := 27) 1 (by rfl) (by decide) (by rfl) (by decide) (by decide) (by decide) ?_
  refine tq_p (n := 28) o (by rfl) (by decide) e5 ob.1 ob.2.1 ob.2.2 ?_
  refine tq_s (n := 29) (by rfl) (by decide) ?_
  refine tq_s (n := 30) (by rfl) (by decide) ?_
  refine tq_p (n := 31) 2 (by rfl) (by decide) (by rfl) (by decide) (by decide) (by decide) ?_
  refine tq_p (n := 32) 1 (by rfl) (by decide) (by rfl) (by decide) (by decide) (by decide) ?_
  refine tq_p (n := 33) 6 (by rfl) (by decide) (by rfl) (by decide) (by decide) (by decide) ?_
  refine tq_p (n := 34) 1 (by rfl) (by decide) (by rfl) (by decide) (by decide) (by decide) ?_
  refine tq_n (n := 35) (by rfl) (by decide) ?_
  refine tq_p (n := 36) 1 (by rfl) (by decide) (by rfl) (by decide) (by decide) (by decide) ?_
  refine tq_p (n := 37) 2 (by rfl) (by decide) (by rfl) (by decide) (by decide) (by decide) ?_
  refine tq_n (n := 38) (by rfl) (by decide) ?_
  refine tq_p (n := 39) 2 (by rfl) (by decide) (by rfl) (by decide) (by decide) (by decide) ?_
  refine ⟨4 + 1, ?_⟩
  refine br_f (by decide) ?_
  refine tq_p (n := 40) 2 (by rfl) (by decide) (by rfl) (by decide) (by decide) (by decide) ?_
  refine nm_e ?_
  refine br_f (by decide) ?_
  refine tq_p (n := 41) 2 (by rfl) (by decide) (by rfl) (by decide) (by decide) (by decide) ?_
  refine nm_e ?_
  refine br_f (by decide) ?_
  refine tq_p (n := 42) 2 (by rfl) (by decide) (by rfl) (by decide) (by decide) (by decide) ?_
  refine nm_e ?_
  refine br_f (by decide) ?_
  refine tq_p (n := 43) 2 (by rfl) (by decide) (by rfl) (by decide) (by decide) (by decide) ?_
  refine nm_e ?_
  refine br_t (by decide) ?_
  exact lc_0 tm_2 (by rfl) (tp_c2 ho) h
theorem l3n0_0 (hL : L ≤ 260) (ek : md_f (ce_f L xs 6) 4 = nI 0) (h : ∀ u', dq_OK xdl (tq_k (tl_n0 x6)) (tq_v (tl_n0 x6)) 3 u' → lw_69 post L xs m x4 x5 x6 x7 (x8 + 1) kc ks u' (zdl, ztn, zpp, zvc, zcc, zfc, zoc, zag, zan, zex, zen, zfl, zac, zst, zsp, zmd, zrt, zcu, ztk, ztv, zaf, zro, zsc, zho, zvk, zvf, zvs, zcv, zco, zff, zfp, zfe, zfb, zop)) : wL_law_1281_2 post L xs (wL_law_69 post L xs m) x4 x5 x6 x7 x8 kc ks xdl (nI 2) xpp xvc xcc xfc xoc xag xan xex xen xfl xac xst xsp xmd xrt xcu (tq_k [(3, x6), (1, 0)]) (tq_v [(3, x6), (1, 0)]) xaf xro xsc xho xvk xvf xvs xcv xco xff xfp xfe xfb xop zdl ztn zpp zvc zcc zfc zoc zag zan zex zen zfl zac zst zsp zmd zrt zcu ztk ztv zaf zro zsc zho zvk zvf zvs zcv zco zff zfp zfe zfb zop := by
  refine ce_d (j := 6) rfl (by decide) hL (md_w (by decide) ?_)
  rw [ek]
  refine ⟨0 + 1, ?_⟩
  refine br_t (by decide) ?_
  refine tq_p (n := 2) 2 (by rfl) (by decide) (by rfl) (by decide) (by decide) (by decide) ?_
  exact lc_0 tm_n0 (by rfl) tp_cn0 h
theorem l3n1_0 (hL : L ≤ 260) (ek : md_f (ce_f L xs 6) 4 = nI 1) (h : ∀ u', dq_OK xdl (tq_k (tl_n1 x6 (md_f x7 11 - 5 - 0))) (tq_v (tl_n1 x6 (md_f x7 11 - 5 - 0))) 4 u' → lw_69 post L xs m x4 x5 x6 x7 (x8 + 1) kc ks u' (zdl, ztn, zpp, zvc, zcc, zfc, zoc, zag, zan, zex, zen, zfl, zac, zst, zsp, zmd, zrt, zcu, ztk, ztv, zaf, zro, zsc, zho, zvk, zvf, zvs, zcv, zco, zff, zfp, zfe, zfb, zop)) : wL_law_1281_2 post L xs (wL_law_69 post L xs m) x4 x5 x6 x7 x8 kc ks xdl (nI 2) xpp xvc xcc xfc xoc xag xan xex xen xfl xac xst xsp xmd xrt xcu (tq_k [(3, x6), (1, 0)]) (tq_v [(3, x6), (1, 0)]) xaf xro xsc xho xvk xvf xvs xcv xco xff xfp xfe xfb xop zdl ztn zpp zvc zcc zfc zoc zag zan zex zen zfl zac zst zsp zmd zrt zcu ztk ztv zaf zro zsc zho zvk zvf zvs zcv zco zff zfp zfe zfb zop := by
  refine ce_d (j := 6) rfl (by decide) hL (md_w (by decide) ?_)
  rw [ek]
  refine ⟨1 + 1, ?_⟩
  refine br_f (by decide) (md_w (by decide) ?_)
  refine tq_n (n := 2) (by rfl) (by decide) ?_
  refine nm_e ?_
  refine br_t (by decide) ?_
  refine tq_p (n := 3) 2 (by rfl) (by decide) (by rfl) (by decide) (by decide) (by decide) ?_
  exact lc_0 tm_n1 (by rfl) tp_cn1 h
theorem l3n2_0 (hL : L ≤ 260) (ek : md_f (ce_f L xs 6) 4 = nI 2) (h : ∀ u', dq_OK xdl (tq_k (tl_n2 x6 (md_f x7 11 - 5 - 0) (md_f x7 11 - 5 - (0 + 1)))) (tq_v (tl_n2 x6 (md_f x7 11 - 5 - 0) (md_f x7 11 - 5 - (0 + 1)))) 5 u' → lw_69 post L xs m x4 x5 x6 x7 (x8 + 1) kc ks u' (zdl, ztn, zpp, zvc, zcc, zfc, zoc, zag, zan, zex, zen, zfl, zac, zst, zsp, zmd, zrt, zcu, ztk, ztv, zaf, zro, zsc, zho, zvk, zvf, zvs, zcv, zco, zff, zfp, zfe, zfb, zop)) : wL_law_1281_2 post L xs (wL_law_69 post L xs m) x4 x5 x6 x7 x8 kc ks xdl (nI 2) xpp xvc xcc xfc xoc xag xan xex xen xfl xac xst xsp xmd xrt xcu (tq_k [(3, x6), (1, 0)]) (tq_v [(3, x6), (1, 0)]) xaf xro xsc xho xvk xvf xvs xcv xco xff xfp xfe xfb xop zdl ztn zpp zvc zcc zfc zoc zag zan zex zen zfl zac zst zsp zmd zrt zcu ztk ztv zaf zro zsc zho zvk zvf zvs zcv zco zff zfp zfe zfb zop := by
  refine ce_d (j := 6) rfl (by decide) hL (md_w (by decide) ?_)
  rw [ek]
  refine ⟨2 + 1, ?_⟩
  refine br_f (by decide) (md_w (by decide) ?_)
  refine tq_n (n := 2) (by rfl) (by decide) ?_
  refine nm_e ?_
  refine br_f (by decide) (md_w (by decide) ?_)
  refine tq_n (n := 3) (by rfl) (by decide) ?_
  refine nm_e ?_
  refine br_t (by decide) ?_
  refine tq_p (n := 4) 2 (by rfl) (by decide) (by rfl) (by decide) (by decide) (by decide) ?_
  exact lc_0 tm_n2 (by rfl) tp_cn2 h
theorem l3n3_0 (hL : L ≤ 260) (ek : md_f (ce_f L xs 6) 4 = nI 3) (h : ∀ u', dq_OK xdl (tq_k (tl_n3 x6 (md_f x7 11 - 5 - 0) (md_f x7 11 - 5 - (0 + 1)) (md_f x7 11 - 5 - (0 + 1 + 1)))) (tq_v (tl_n3 x6 (md_f x7 11 - 5 - 0) (md_f x7 11 - 5 - (0 + 1)) (md_f x7 11 - 5 - (0 + 1 + 1)))) 6 u' → lw_69 post L xs m x4 x5 x6 x7 (x8 + 1) kc ks u' (zdl, ztn, zpp, zvc, zcc, zfc, zoc, zag, zan, zex, zen, zfl, zac, zst, zsp, zmd, zrt, zcu, ztk, ztv, zaf, zro, zsc, zho, zvk, zvf, zvs, zcv, zco, zff, zfp, zfe, zfb, zop)) : wL_law_1281_2 post L xs (wL_law_69 post L xs m) x4 x5 x6 x7 x8 kc ks xdl (nI 2) xpp xvc xcc xfc xoc xag xan xex xen xfl xac xst xsp xmd xrt xcu (tq_k [(3, x6), (1, 0)]) (tq_v [(3, x6), (1, 0)]) xaf xro xsc xho xvk xvf xvs xcv xco xff xfp xfe xfb xop zdl ztn zpp zvc zcc zfc zoc zag zan zex zen zfl zac zst zsp zmd zrt zcu ztk ztv zaf zro zsc zho zvk zvf zvs zcv zco zff zfp zfe zfb zop := by
  refine ce_d (j := 6) rfl (by decide) hL (md_w (by decide) ?_)
  rw [ek]
  refine ⟨3 + 1, ?_⟩
  refine br_f (by decide) (md_w (by decide) ?_)
  refine tq_n (n := 2) (by rfl) (by decide) ?_
  refine nm_e ?_
  refine br_f (by decide) (md_w (by decide) ?_)
  refine tq_n (n := 3) (by rfl) (by decide) ?_
  refine nm_e ?_
  refine br_f (by decide) (md_w (by decide) ?_)
  refine tq_n (n := 4) (by rfl) (by decide) ?_
  refine nm_e ?_
  refine br_t (by decide) ?_
  refine tq_p (n := 5) 2 (by rfl) (by decide) (by rfl) (by decide) (by decide) (by decide) ?_
  exact lc_0 tm_n3 (by rfl) tp_cn3 h
theorem l3l0_0 {o : Nat} (ho : tp_O o) (hL : L ≤ 260) (ek : md_f (ce_f L xs 6) 4 = nI 0) (h : ∀ u', dq_OK xdl (tq_k (tl_l0 o)) (tq_v (tl_l0 o)) 14 u' → lw_69 post L xs m x4 x5 x6 x7 (x8 + 1) kc ks u' (zdl, ztn, zpp, zvc, zcc, zfc, zoc, zag, zan, zex, zen, zfl, zac, zst, zsp, zmd, zrt, zcu, ztk, ztv, zaf, zro, zsc, zho, zvk, zvf, zvs, zcv, zco, zff, zfp, zfe, zfb, zop)) : wL_law_1281_2 post L xs (wL_law_69 post L xs m) x4 x5 x6 x7 x8 kc ks xdl (nI 13) xpp xvc xcc xfc xoc xag xan xex xen xfl xac xst xsp xmd xrt xcu (tq_k [(2, 0), (2, 0), (4, 105), (4, 104), (o, 0), (1, 0), (2, 0), (4, 105), (4, 104), (1, 0), (7, 0), (1, 0), (1, 0)]) (tq_v [(2, 0), (2, 0), (4, 105), (4, 104), (o, 0), (1, 0), (2, 0), (4, 105), (4, 104), (1, 0), (7, 0), (1, 0), (1, 0)]) xaf xro xsc xho xvk xvf xvs xcv xco xff xfp xfe xfb xop zdl ztn zpp zvc zcc zfc zoc zag zan zex zen zfl zac zst zsp zmd zrt zcu ztk ztv zaf zro zsc zho zvk zvf zvs zcv zco zff zfp zfe zfb zop := by
  refine ce_d (j := 6) rfl (by decide) hL (md_w (by decide) ?_)
  rw [ek]
  refine ⟨0 + 1, ?_⟩
  refine br_t (by decide) ?_
  refine tq_p (n := 13) 2 (by rfl) (by decide) (by rfl) (by decide) (by decide) (by decide) ?_
  exact lc_0 tm_l0 (by rfl) (tp_cl0 ho) h
theorem l3l1_0 {o : Nat} (ho : tp_O o) (hL : L ≤ 260) (ek : md_f (ce_f L xs 6) 4 = nI 1) (h : ∀ u', dq_OK xdl (tq_k (tl_l1 o (md_f x7 11 - 5 - 0))) (tq_v (tl_l1 o (md_f x7 11 - 5 - 0))) 15 u' → lw_69 post L xs m x4 x5 x6 x7 (x8 + 1) kc ks u' (zdl, ztn, zpp, zvc, zcc, zfc, zoc, zag, zan, zex, zen, zfl, zac, zst, zsp, zmd, zrt, zcu, ztk, ztv, zaf, zro, zsc, zho, zvk, zvf, zvs, zcv, zco, zff, zfp, zfe, zfb, zop)) : wL_law_1281_2 post L xs (wL_law_69 post L xs m) x4 x5 x6 x7 x8 kc ks xdl (nI 13) xpp xvc xcc xfc xoc xag xan xex xen xfl xac xst xsp xmd xrt xcu (tq_k [(2, 0), (2, 0), (4, 105), (4, 104), (o, 0), (1, 0), (2, 0), (4, 105), (4, 104), (1, 0), (7, 0), (1, 0), (1, 0)]) (tq_v [(2, 0), (2, 0), (4, 105), (4, 104), (o, 0), (1, 0), (2, 0), (4, 105), (4, 104), (1, 0), (7, 0), (1, 0), (1, 0)]) xaf xro xsc xho xvk xvf xvs xcv xco xff xfp xfe xfb xop zdl ztn zpp zvc zcc zfc zoc zag zan zex zen zfl zac zst zsp zmd zrt zcu ztk ztv zaf zro zsc zho zvk zvf zvs zcv zco zff zfp zfe zfb zop := by
  refine ce_d (j := 6) rfl (by decide) hL (md_w (by decide) ?_)
  rw [ek]
  refine ⟨1 + 1, ?_⟩
  refine br_f (by decide) (md_w (by decide) ?_)
  refine tq_n (n := 13) (by rfl) (by decide) ?_
  refine nm_e ?_
  refine br_t (by decide) ?_
  refine tq_p (n := 14) 2 (by rfl) (by decide) (by rfl) (by decide) (by decide) (by decide) ?_
  exact lc_0 tm_l1 (by rfl) (tp_cl1 ho) h
theorem l3l2_0 {o : Nat} (ho : tp_O o) (hL : L ≤ 260) (ek : md_f (ce_f L xs 6) 4 = nI 2) (h : ∀ u', dq_OK xdl (tq_k (tl_l2 o (md_f x7 11 - 5 - 0) (md_f x7 11 - 5 - (0 + 1)))) (tq_v (tl_l2 o (md_f x7 11 - 5 - 0) (md_f x7 11 - 5 - (0 + 1)))) 16 u' → lw_69 post L xs m x4 x5 x6 x7 (x8 + 1) kc ks u' (zdl, ztn, zpp, zvc, zcc, zfc, zoc, zag, zan, zex, zen, zfl, zac, zst, zsp, zmd, zrt, zcu, ztk, ztv, zaf, zro, zsc, zho, zvk, zvf, zvs, zcv, zco, zff, zfp, zfe, zfb, zop)) : wL_law_1281_2 post L xs (wL_law_69 post L xs m) x4 x5 x6 x7 x8 kc ks xdl (nI 13) xpp xvc xcc xfc xoc xag xan xex xen xfl xac xst xsp xmd xrt xcu (tq_k [(2, 0), (2, 0), (4, 105), (4, 104), (o, 0), (1, 0), (2, 0), (4, 105), (4, 104), (1, 0), (7, 0), (1, 0), (1, 0)]) (tq_v [(2, 0), (2, 0), (4, 105), (4, 104), (o, 0), (1, 0), (2, 0), (4, 105), (4, 104), (1, 0), (7, 0), (1, 0), (1, 0)]) xaf xro xsc xho xvk xvf xvs xcv xco xff xfp xfe xfb xop zdl ztn zpp zvc zcc zfc zoc zag zan zex zen zfl zac zst zsp zmd zrt zcu ztk ztv zaf zro zsc zho zvk zvf zvs zcv zco zff zfp zfe zfb zop := by
  refine ce_d (j := 6) rfl (by decide) hL (md_w (by decide) ?_)
  rw [ek]
  refine ⟨2 + 1, ?_⟩
  refine br_f (by decide) (md_w (by decide) ?_)
  refine tq_n (n := 13) (by rfl) (by decide) ?_
  refine nm_e ?_
  refine br_f (by decide) (md_w (by decide) ?_)
  refine tq_n (n := 14) (by rfl) (by decide) ?_
  refine nm_e ?_
  refine br_t (by decide) ?_
  refine tq_p (n := 15) 2 (by rfl) (by decide) (by rfl) (by decide) (by decide) (by decide) ?_
  exact lc_0 tm_l2 (by rfl) (tp_cl2 ho) h
theorem l3l3_0 {o : Nat} (ho : tp_O o) (hL : L ≤ 260) (ek : md_f (ce_f L xs 6) 4 = nI 3) (h : ∀ u', dq_OK xdl (tq_k (tl_l3 o (md_f x7 11 - 5 - 0) (md_f x7 11 - 5 - (0 + 1)) (md_f x7 11 - 5 - (0 + 1 + 1)))) (tq_v (tl_l3 o (md_f x7 11 - 5 - 0) (md_f x7 11 - 5 - (0 + 1)) (md_f x7 11 - 5 - (0 + 1 + 1)))) 17 u' → lw_69 post L xs m x4 x5 x6 x7 (x8 + 1) kc ks u' (zdl, ztn, zpp, zvc, zcc, zfc, zoc, zag, zan, zex, zen, zfl, zac, zst, zsp, zmd, zrt, zcu, ztk, ztv, zaf, zro, zsc, zho, zvk, zvf, zvs, zcv, zco, zff, zfp, zfe, zfb, zop)) : wL_law_1281_2 post L xs (wL_law_69 post L xs m) x4 x5 x6 x7 x8 kc ks xdl (nI 13) xpp xvc xcc xfc xoc xag xan xex xen xfl xac xst xsp xmd xrt xcu (tq_k [(2, 0), (2, 0), (4, 105), (4, 104), (o, 0), (1, 0), (2, 0), (4, 105), (4, 104), (1, 0), (7, 0), (1, 0), (1, 0)]) (tq_v [(2, 0), (2, 0), (4, 105), (4, 104), (o, 0), (1, 0), (2, 0), (4, 105), (4, 104), (1, 0), (7, 0), (1, 0), (1, 0)]) xaf xro xsc xho xvk xvf xvs xcv xco xff xfp xfe xfb xop zdl ztn zpp zvc zcc zfc zoc zag zan zex zen zfl zac zst zsp zmd zrt zcu ztk ztv zaf zro zsc zho zvk zvf zvs zcv zco zff zfp zfe zfb zop := by
  refine ce_d (j := 6) rfl (by decide) hL (md_w (by decide) ?_)
  rw [ek]
  refine ⟨3 + 1, ?_⟩
  refine br_f (by decide) (md_w (by decide) ?_)
  refine tq_n (n := 13) (by rfl) (by decide) ?_
  refine nm_e ?_
  refine br_f (by decide) (md_w (by decide) ?_)
  refine tq_n (n := 14) (by rfl) (by decide) ?_
  refine nm_e ?_
  refine br_f (by decide) (md_w (by decide) ?_)
  refine tq_n (n := 15) (by rfl) (by decide) ?_
  refine nm_e ?_
  refine br_t (by decide) ?_
  refine tq_p (n := 16) 2 (by rfl) (by decide) (by rfl) (by decide) (by decide) (by decide) ?_
  exact lc_0 tm_l3 (by rfl) (tp_cl3 ho) h
theorem l3n_0 (e0 : ¬ x4 = 0) (e1 : ¬ x4 = 1) (e2 : ¬ x4 = 2) (ea : md_f x6 5 = 0) (h : wL_law_1281_2 post L xs (wL_law_69 post L xs m) x4 x5 x6 x7 x8 kc ks xdl (nI 2) 0 xvc xcc xfc xoc xag xan xex xen xfl xac (-1) 0 0 (-1) (-1) (tq_k [(3, x6), (1, 0)]) (tq_v [(3, x6), (1, 0)]) xaf xro xsc xho xvk xvf xvs xcv xco xff xfp xfe xfb xop zdl ztn zpp zvc zcc zfc zoc zag zan zex zen zfl zac zst zsp zmd zrt zcu ztk ztv zaf zro zsc zho zvk zvf zvs zcv zco zff zfp zfe zfb zop) : wL_law_85_2 post L xs (wL_law_69 post L xs m) x4 x5 x6 x7 x8 kc ks xdl (nI 0) xpp xvc xcc xfc xoc xag xan xex xen xfl xac xst xsp xmd xrt xcu (tq_k []) (tq_v []) xaf xro xsc xho xvk xvf xvs xcv xco xff xfp xfe xfb xop zdl ztn zpp zvc zcc zfc zoc zag zan zex zen zfl zac zst zsp zmd zrt zcu ztk ztv zaf zro zsc zho zvk zvf zvs zcv zco zff zfp zfe zfb zop := by
  refine br_f e0 (br_f e1 (br_f e2 ?_))
  refine tq_p (n := 0) 1 (by rfl) (by decide) (by rfl) (by decide) (by decide) (by decide) ?_
  refine md_w (by decide) ?_
  refine br_t ea ?_
  refine tq_n (n := 1) (by rfl) (by decide) ?_
  exact h
theorem l3l_0 {o : Nat} (ho : tp_O o) (e5 : x5 = nI o) (e0 : ¬ x4 = 0) (e1 : ¬ x4 = 1) (e2 : ¬ x4 = 2) (ea : ¬ md_f x6 5 = 0) (h : wL_law_1281_2 post L xs (wL_law_69 post L xs m) x4 x5 x6 x7 x8 kc ks xdl (nI 13) 0 xvc xcc xfc xoc xag xan xex xen xfl xac (-1) 0 0 (-1) (-1) (tq_k [(2, 0), (2, 0), (4, 105), (4, 104), (o, 0), (1, 0), (2, 0), (4, 105), (4, 104), (1, 0), (7, 0), (1, 0), (1, 0)]) (tq_v [(2, 0), (2, 0), (4, 105), (4, 104), (o, 0), (1, 0), (2, 0), (4, 105), (4, 104), (1, 0), (7, 0), (1, 0), (1, 0)]) xaf xro xsc xho xvk xvf xvs xcv xco xff xfp xfe xfb xop zdl ztn zpp zvc zcc zfc zoc zag zan zex zen zfl zac zst zsp zmd zrt zcu ztk ztv zaf zro zsc zho zvk zvf zvs zcv zco zff zfp zfe zfb zop) : wL_law_85_2 post L xs (wL_law_69 post L xs m) x4 x5 x6 x7 x8 kc ks xdl (nI 0) xpp xvc xcc xfc xoc xag xan xex xen xfl xac xst xsp xmd xrt xcu (tq_k []) (tq_v []) xaf xro xsc xho xvk xvf xvs xcv xco xff xfp xfe xfb xop zdl ztn zpp zvc zcc zfc zoc zag zan zex zen zfl zac zst zsp zmd zrt zcu ztk ztv zaf zro zsc zho zvk zvf zvs zcv zco zff zfp zfe zfb zop := by
  have ob := tp_b ho
  refine br_f e0 (br_f e1 (br_f e2 ?_))
  refine tq_p (n := 0) 1 (by rfl) (by decide) (by rfl) (by decide) (by decide) (by decide) ?_
  refine md_w (by decide) ?_
  refine br_f ea ?_
  refine tq_p (n := 1) 1 (by rfl) (by decide) (by rfl) (by decide) (by decide) (by decide) ?_
  refine tq_p (n := 2) 7 (by rfl) (by decide) (by rfl) (by decide) (by decide) (by decide) ?_
  refine tq_p (n := 3) 1 (by rfl) (by decide) (by rfl) (by decide) (by decide) (by decide) ?_
  refine tq_s (n := 4) (by rfl) (by decide) ?_
  refine tq_s (n := 5) (by rfl) (by decide) ?_
  refine tq_p (n := 6) 2 (by rfl) (by decide) (by rfl) (by decide) (by decide) (by decide) ?_
  refine tq_p (n := 7) 1 (by rfl) (by decide) (by rfl) (by decide) (by decide) (by decide) ?_
  refine tq_p (n := 8) o (by rfl) (by decide) e5 ob.1 ob.2.1 ob.2.2 ?_
  refine tq_s (n := 9) (by rfl) (by decide) ?_
  refine tq_s (n := 10) (by rfl) (by decide) ?_
  refine tq_p (n := 11) 2 (by rfl) (by decide) (by rfl) (by decide) (by decide) (by decide) ?_
  refine tq_p (n := 12) 2 (by rfl) (by decide) (by rfl) (by decide) (by decide) (by decide) ?_
  exact h

end
end
section
/-! the twelve questions, the three runs -/
def lw_78 (post : Int32 → Prop) (L : Nat) (xs : Nat → Int32) (x8 x9 : Int32) (kc ks m : Nat) (x10 : Int32) (g0 g1 : SX) : Prop := match g0, g1 with
  | (xdl, xtn, xpp, xvc, xcc, xfc, xoc, xag, xan, xex, xen, xfl, xac, xst, xsp, xmd, xrt, xcu, xtk, xtv, xaf, xro, xsc, xho, xvk, xvf, xvs, xcv, xco, xff, xfp, xfe, xfb, xop), (zdl, ztn, zpp, zvc, zcc, zfc, zoc, zag, zan, zex, zen, zfl, zac, zst, zsp, zmd, zrt, zcu, ztk, ztv, zaf, zro, zsc, zho, zvk, zvf, zvs, zcv, zco, zff, zfp, zfe, zfb, zop) => wL_law_1378 post L xs x8 x9 kc ks m x10 xdl xtn xpp xvc xcc xfc xoc xag xan xex xen xfl xac xst xsp xmd xrt xcu xtk xtv xaf xro xsc xho xvk xvf xvs xcv xco xff xfp xfe xfb xop zdl ztn zpp zvc zcc zfc zoc zag zan zex zen zfl zac zst zsp zmd zrt zcu ztk ztv zaf zro zsc zho zvk zvf zvs zcv zco zff zfp zfe zfb zop
def lw_36 (post : Int32 → Prop) (L : Nat) (xs : Nat → Int32) (x8 x9 : Int32) (kc ks m : Nat) (x10 : Int32) (d : Nat) (x16 : Int32) (g0 g1 : SX) : Prop := match g0, g1 with
  | (xdl, xtn, xpp, xvc, xcc, xfc, xoc, xag, xan, xex, xen, xfl, xac, xst, xsp, xmd, xrt, xcu, xtk, xtv, xaf, xro, xsc, xho, xvk, xvf, xvs, xcv, xco, xff, xfp, xfe, xfb, xop), (zdl, ztn, zpp, zvc, zcc, zfc, zoc, zag, zan, zex, zen, zfl, zac, zst, zsp, zmd, zrt, zcu, ztk, ztv, zaf, zro, zsc, zho, zvk, zvf, zvs, zcv, zco, zff, zfp, zfe, zfb, zop) => wL_law_1536 post L xs (wL_law_1378 post L xs x8 x9 kc ks m) x8 x9 x10 kc ks d x16 xdl xtn xpp xvc xcc xfc xoc xag xan xex xen xfl xac xst xsp xmd xrt xcu xtk xtv xaf xro xsc xho xvk xvf xvs xcv xco xff xfp xfe xfb xop zdl ztn zpp zvc zcc zfc zoc zag zan zex zen zfl zac zst zsp zmd zrt zcu ztk ztv zaf zro zsc zho zvk zvf zvs zcv zco zff zfp zfe zfb zop
theorem fq_dq {dl : Int32} {tk tv : Nat → Int32} {n : Nat} {r : Int32} {se : Nat} {md : Int32} {VP : Nat → Prop} {pvk pvf pvs : Nat → Int32} {wr wc : Int32} {u : SX} (h : fq_S dl tk tv n r se md VP pvk pvf pvs wr wc u) : dq_OK dl tk tv n u := by
  obtain ⟨xvc, xcc, xfc, xoc, xag, xan, xex, xen, xfl, xac, xaf, xro, xsc, xho, xvk, xvf, xvs, xcv, xco, xff, xfp, xfe, xfb, xop, e, C, _⟩ := h
  exact ⟨_, _, _, _, _, _, _, _, _, _, _, _, _, _, _,  _, _, _, _, _, _, _, _, _, _, _, _, _, _,  e, C⟩
section
variable {post : Int32 → Prop} {L : Nat} {xs : Nat → Int32} {x8 x9 x10 : Int32} {kc ks m : Nat} {dl : Int32} {tk tv : Nat → Int32} {n : Nat} {r : Int32} {se : Nat} {md : Int32} {VP : Nat → Prop} {pvk pvf pvs : Nat → Int32} {wr : Int32}
theorem lq_loop (hL : L ≤ 260) (H : tk_ok tk n) (G : fq_G (tk_K tk n) (sk_f (tk_K tk n) n) n VP pvk pvf pvs) (hr : cu_W VP wr) (h : ∀ u v, dq_OK dl tk tv n u → dq_OK dl tk tv n v → lw_78 post L xs x8 x9 kc ks m (x10 + 1) u v) :
    ∀ (d k : Nat) (wc : Int32) (u v : SX), k + d = 12 → cu_W VP wc → fq_S dl tk tv n r se md VP pvk pvf pvs wr wc u → fq_S dl tk tv n r se md VP pvk pvf pvs wr wc v → lw_36 post L xs x8 x9 kc ks m x10 (d + 1) (nI k) u v := by
  intro d
  induction d with
  | zero =>
    intro k wc u v e hc hu hv
    have h' := h u v (fq_dq hu) (fq_dq hv)
    obtain ⟨xdl, xtn, xpp, xvc, xcc, xfc, xoc, xag, xan, xex, xen, xfl, xac, xst, xsp, xmd, xrt, xcu, xtk, xtv, xaf, xro, xsc, xho, xvk, xvf, xvs, xcv, xco, xff, xfp, xfe, xfb, xop⟩ := u
    obtain ⟨zdl, ztn, zpp, zvc, zcc, zfc, zoc, zag, zan, zex, zen, zfl, zac, zst, zsp, zmd, zrt, zcu, ztk, ztv, zaf, zro, zsc, zho, zvk, zvf, zvs, zcv, zco, zff, zfp, zfe, zfb, zop⟩ := v
    exact pk_le 12 k (fun _ => nm_e h') (fun z => by omega)
  | succ d ih =>
    intro k wc u v e hc hu hv
    obtain ⟨a1, Q1⟩ := cu_Q1 (dl := dl) (tv := tv) (r := r) (se := se) (md := md) (wr := wr) G hc
    obtain ⟨a2, Q2⟩ := cu_Q2 (dl := dl) (tv := tv) (r := r) (se := se) (md := md) (wr := wr) H G hc
    obtain ⟨a3, Q3⟩ := cu_Q3 (dl := dl) (tv := tv) (r := r) (se := se) (md := md) (wr := wr) G hc
    obtain ⟨a4, w4, c4, Q4⟩ := cu_Q4 (dl := dl) (tk := tk) (tv := tv) (n := n) (r := r) (se := se) (md := md) (pvk := pvk) (pvf := pvf) (pvs := pvs) hr hc
    obtain ⟨a5, w5, c5, Q5⟩ := cu_Q5 (dl := dl) (tv := tv) (r := r) (se := se) (md := md) (wr := wr) G hc
    obtain ⟨a6, w6, c6, Q6⟩ := cu_Q6 (dl := dl) (tv := tv) (r := r) (se := se) (md := md) (wr := wr) G hc
    have go' := ih (k + 1) wc u v (by omega) hc hu hv
    obtain ⟨xdl, xtn, xpp, xvc, xcc, xfc, xoc, xag, xan, xex, xen, xfl, xac, xst, xsp, xmd, xrt, xcu, xtk, xtv, xaf, xro, xsc, xho, xvk, xvf, xvs, xcv, xco, xff, xfp, xfe, xfb, xop⟩ := u
    obtain ⟨zdl, ztn, zpp, zvc, zcc, zfc, zoc, zag, zan, zex, zen, zfl, zac, zst, zsp, zmd, zrt, zcu, ztk, ztv, zaf, zro, zsc, zho, zvk, zvf, zvs, zcv, zco, zff, zfp, zfe, zfb, zop⟩ := v
    have go : wL_law_1536 post L xs (wL_law_1378 post L xs x8 x9 kc ks m) x8 x9 x10 kc ks (d + 1) (nI (k + 1)) xdl xtn xpp xvc xcc xfc xoc xag xan xex xen xfl xac xst xsp xmd xrt xcu xtk xtv xaf xro xsc xho xvk xvf xvs xcv xco xff xfp xfe xfb xop zdl ztn zpp zvc zcc zfc zoc zag zan zex zen zfl zac zst zsp zmd zrt zcu ztk ztv zaf zro zsc zho zvk zvf zvs zcv zco zff zfp zfe zfb zop := go'
    refine pk_le 12 k (fun z => by omega) (fun _ => ce_d (j := 7 + k) (nI_add 7 k) (by omega) hL (md_w (by decide) ?_))
    refine br_c (fun _ => cu_kind G hc hu (cu_kind G hc hv (br_t rfl (nm_r (nI_1 k) go)))) (fun _ => br_c (fun _ => Q1 _ _ hu (Q1 _ _ hv (br_t rfl (nm_r (nI_1 k) go)))) (fun _ => br_c (fun _ => Q2 _ _ hu (Q2 _ _ hv (br_t rfl (nm_r (nI_1 k) go)))) (fun _ => br_c (fun _ => Q3 _ _ hu (Q3 _ _ hv (br_t rfl (nm_r (nI_1 k) go)))) (fun _ => br_c (fun _ => Q4 _ _ hu (fun u' hu' => ?_)) (fun _ => br_c (fun _ => Q5 _ _ hu (fun u' hu' => ?_)) (fun _ => Q6 _ _ hu (fun u' hu' => ?_)))))))
    · obtain ⟨wdl, wtn, wpp, wvc, wcc, wfc, woc, wag, wan, wex, wen, wfl, wac, wst, wsp, wmd, wrt, wcu, wtk, wtv, waf, wro, wsc, who, wvk, wvf, wvs, wcv, wco, wff, wfp, wfe, wfb, wop⟩ := u'
      refine Q4 _ _ hv (fun v' hv' => ?_)
      have g2 := ih (k + 1) w4 _ v' (by omega) c4 hu' hv'
      obtain ⟨vdl, vtn, vpp, vvc, vcc, vfc, voc, vag, van, vex, ven, vfl, vac, vst, vsp, vmd, vrt, vcu, vtk, vtv, vaf, vro, vsc, vho, vvk, vvf, vvs, vcv, vco, vff, vfp, vfe, vfb, vop⟩ := v'
      have go2 : wL_law_1536 post L xs (wL_law_1378 post L xs x8 x9 kc ks m) x8 x9 x10 kc ks (d + 1) (nI (k + 1)) wdl wtn wpp wvc wcc wfc woc wag wan wex wen wfl wac wst wsp wmd wrt wcu wtk wtv waf wro wsc who wvk wvf wvs wcv wco wff wfp wfe wfb wop vdl vtn vpp vvc vcc vfc voc vag van vex ven vfl vac vst vsp vmd vrt vcu vtk vtv vaf vro vsc vho vvk vvf vvs vcv vco vff vfp vfe vfb vop := g2
      exact br_t rfl (nm_r (nI_1 k) go2)
    · obtain ⟨wdl, wtn, wpp, wvc, wcc, wfc, woc, wag, wan, wex, wen, wfl, wac, wst, wsp, wmd, wrt, wcu, wtk, wtv, waf, wro, wsc, who, wvk, wvf, wvs, wcv, wco, wff, wfp, wfe, wfb, wop⟩ := u'
      refine Q5 _ _ hv (fun v' hv' => ?_)
      have g2 := ih (k + 1) w5 _ v' (by omega) c5 hu' hv'
      obtain ⟨vdl, vtn, vpp, vvc, vcc, vfc, voc, vag, van, vex, ven, vfl, vac, vst, vsp, vmd, vrt, vcu, vtk, vtv, vaf, vro, vsc, vho, vvk, vvf, vvs, vcv, vco, vff, vfp, vfe, vfb, vop⟩ := v'
      have go2 : wL_law_1536 post L xs (wL_law_1378 post L xs x8 x9 kc ks m) x8 x9 x10 kc ks (d + 1) (nI (k + 1)) wdl wtn wpp wvc wcc wfc woc wag wan wex wen wfl wac wst wsp wmd wrt wcu wtk wtv waf wro wsc who wvk wvf wvs wcv wco wff wfp wfe wfb wop vdl vtn vpp vvc vcc vfc voc vag van vex ven vfl vac vst vsp vmd vrt vcu vtk vtv vaf vro vsc vho vvk vvf vvs vcv vco vff vfp vfe vfb vop := g2
      exact br_t rfl (nm_r (nI_1 k) go2)
    · obtain ⟨wdl, wtn, wpp, wvc, wcc, wfc, woc, wag, wan, wex, wen, wfl, wac, wst, wsp, wmd, wrt, wcu, wtk, wtv, waf, wro, wsc, who, wvk, wvf, wvs, wcv, wco, wff, wfp, wfe, wfb, wop⟩ := u'
      refine Q6 _ _ hv (fun v' hv' => ?_)
      have g2 := ih (k + 1) w6 _ v' (by omega) c6 hu' hv'
      obtain ⟨vdl, vtn, vpp, vvc, vcc, vfc, voc, vag, van, vex, ven, vfl, vac, vst, vsp, vmd, vrt, vcu, vtk, vtv, vaf, vro, vsc, vho, vvk, vvf, vvs, vcv, vco, vff, vfp, vfe, vfb, vop⟩ := v'
      have go2 : wL_law_1536 post L xs (wL_law_1378 post L xs x8 x9 kc ks m) x8 x9 x10 kc ks (d + 1) (nI (k + 1)) wdl wtn wpp wvc wcc wfc woc wag wan wex wen wfl wac wst wsp wmd wrt wcu wtk wtv waf wro wsc who wvk wvf wvs wcv wco wff wfp wfe wfb wop vdl vtn vpp vvc vcc vfc voc vag van vex ven vfl vac vst vsp vmd vrt vcu vtk vtv vaf vro vsc vho vvk vvf vvs vcv vco vff vfp vfe vfb vop := g2
      exact br_t rfl (nm_r (nI_1 k) go2)
end
section
variable {L : Nat} {xs : Nat → Int32} {x8 : Int32} {kc ks : Nat} {dl : Int32} {tk tv : Nat → Int32} {n : Nat}
theorem lr_loop (hL : L ≤ 260) (H : tk_ok tk n) {u0 : SX} (h0 : dq_OK dl tk tv n u0) {F : Nat} (F1 : 1 ≤ F) (F4 : F ≤ 400) (hf : fl_C x8 F) :
    ∀ (d k : Nat) (u v : SX), k + d = 3 → dq_OK dl tk tv n u → dq_OK dl tk tv n v → lw_78 (fun r => r = 1) L xs x8 (nI F) kc ks (d + 1) (nI k) u v := by
  obtain ⟨se, r, md, w, VP, vk, vf, vs, a1, a2, a3, a4, T⟩ := rn_all H h0
  intro d
  induction d with
  | zero =>
    intro k u v e hu hv
    obtain ⟨xdl, xtn, xpp, xvc, xcc, xfc, xoc, xag, xan, xex, xen, xfl, xac, xst, xsp, xmd, xrt, xcu, xtk, xtv, xaf, xro, xsc, xho, xvk, xvf, xvs, xcv, xco, xff, xfp, xfe, xfb, xop⟩ := u
    obtain ⟨zdl, ztn, zpp, zvc, zcc, zfc, zoc, zag, zan, zex, zen, zfl, zac, zst, zsp, zmd, zrt, zcu, ztk, ztv, zaf, zro, zsc, zho, zvk, zvf, zvs, zcv, zco, zff, zfp, zfe, zfb, zop⟩ := v
    exact pk_le 3 k (fun _ => rfl) (fun z => by omega)
  | succ d ih =>
    intro k u v e hu hv
    obtain ⟨xdl, xtn, xpp, xvc, xcc, xfc, xoc, xag, xan, xex, xen, xfl, xac, xst, xsp, xmd, xrt, xcu, xtk, xtv, xaf, xro, xsc, xho, xvk, xvf, xvs, xcv, xco, xff, xfp, xfe, xfb, xop⟩ := u
    obtain ⟨zdl, ztn, zpp, zvc, zcc, zfc, zoc, zag, zan, zex, zen, zfl, zac, zst, zsp, zmd, zrt, zcu, ztk, ztv, zaf, zro, zsc, zho, zvk, zvf, zvs, zcv, zco, zff, zfp, zfe, zfb, zop⟩ := v
    refine pk_le 3 k (fun z => by omega) (fun _ => ?_)
    by_cases hs : F < se
    · refine (T _ x8 F _ hu F4 hf).1 hs (fun u' hu' sp' => ?_)
      obtain ⟨wdl, wtn, wpp, wvc, wcc, wfc, woc, wag, wan, wex, wen, wfl, wac, wst, wsp, wmd, wrt, wcu, wtk, wtv, waf, wro, wsc, who, wvk, wvf, wvs, wcv, wco, wff, wfp, wfe, wfb, wop⟩ := u'
      have e1 : wsp = nI F := sp'
      refine br_t rfl (br_t e1 ?_)
      obtain ⟨j, hj, ej⟩ := md_j (ce_f L xs (19 + nI k)) (d := F) (by omega) (by omega)
      refine ce_d (j := 19 + k) (nI_add 19 k) (by omega) hL (br_t rfl (md_w (nI_ne0 (by omega) (by omega)) ?_))
      rw [ej]
      refine nm_r (show (1 : Int32) + nI j = nI (1 + j) from nI_add 1 j) ?_
      refine (T _ (nI (1 + j)) (1 + j) _ hv (by omega) (fl_n (by omega) (by omega))).1 (by omega) (fun v' hv' sv' => ?_)
      have g2 := ih (k + 1) _ v' (by omega) hu' hv'
      obtain ⟨vdl, vtn, vpp, vvc, vcc, vfc, voc, vag, van, vex, ven, vfl, vac, vst, vsp, vmd, vrt, vcu, vtk, vtv, vaf, vro, vsc, vho, vvk, vvf, vvs, vcv, vco, vff, vfp, vfe, vfb, vop⟩ := v'
      have e2 : vsp = nI (1 + j) := sv'
      have go2 : wL_law_1378 (fun r => r = 1) L xs x8 (nI F) kc ks (d + 1) (nI (k + 1)) wdl wtn wpp wvc wcc wfc woc wag wan wex wen wfl wac wst wsp wmd wrt wcu wtk wtv waf wro wsc who wvk wvf wvs wcv wco wff wfp wfe wfb wop vdl vtn vpp vvc vcc vfc voc vag van vex ven vfl vac vst vsp vmd vrt vcu vtk vtv vaf vro vsc vho vvk vvf vvs vcv vco vff vfp vfe vfb vop := g2
      exact br_t rfl (br_t e2 (nm_r (nI_1 k) go2))
    · refine (T _ x8 F _ hu F4 hf).2 (by omega) (fun u' hu' => ?_)
      have hu2 := hu'
      obtain ⟨wvc, wcc, wfc, woc, wag, wan, wex, wen, wfl, wac, waf, wro, wsc, who, wvk, wvf, wvs, wcv, wco, wff, wfp, wfe, wfb, wop, rfl, _, _⟩ := hu'
      refine br_f a2 (br_f (nI_nlt (b := 1) a1 (by omega)) (br_t (nI_le (by omega) (by omega)) ?_))
      have e401 : (401 : Int32) - nI se = nI (401 - se) := pk_sub (a := 401) (by omega)
      obtain ⟨j, hj, ej⟩ := md_j (ce_f L xs (19 + nI k)) (d := 401 - se) (by omega) (by omega)
      rw [← e401] at ej
      refine ce_d (j := 19 + k) (nI_add 19 k) (by omega) hL (br_f a2 (md_w (by rw [e401]; exact nI_ne0 (by omega) (by omega)) ?_))
      rw [ej]
      refine nm_r (nI_add se j) ?_
      refine (T _ (nI (se + j)) (se + j) _ hv (by omega) (fl_n (by omega) (by omega))).2 (by omega) (fun v' hv' => ?_)
      have hv2 := hv'
      obtain ⟨vvc, vcc, vfc, voc, vag, van, vex, ven, vfl, vac, vaf, vro, vsc, vho, vvk, vvf, vvs, vcv, vco, vff, vfp, vfe, vfb, vop, rfl, _, _⟩ := hv'
      refine br_t rfl (br_t rfl (br_t rfl ⟨12 + 1, ?_⟩))
      exact lq_loop hL H a3 a4 (fun u v hu hv => by rw [nI_1 k]; exact ih (k + 1) u v (by omega) hu hv) 12 0 w _ _ (by omega) a4 hu2 hv2
end
end
section
/-! the law -/
def lw_1 (post : Int32 → Prop) (L : Nat) (xs : Nat → Int32) (m : Nat) (x4 x5 x6 x7 x8 : Int32) (kc ks : Nat) (g0 g1 : SX) : Prop := match g0, g1 with
  | (xdl, xtn, xpp, xvc, xcc, xfc, xoc, xag, xan, xex, xen, xfl, xac, xst, xsp, xmd, xrt, xcu, xtk, xtv, xaf, xro, xsc, xho, xvk, xvf, xvs, xcv, xco, xff, xfp, xfe, xfb, xop), (zdl, ztn, zpp, zvc, zcc, zfc, zoc, zag, zan, zex, zen, zfl, zac, zst, zsp, zmd, zrt, zcu, ztk, ztv, zaf, zro, zsc, zho, zvk, zvf, zvs, zcv, zco, zff, zfp, zfe, zfb, zop) => wL_law_85 post L xs (wL_law_69 post L xs m) x4 x5 x6 x7 x8 kc ks xdl xtn xpp xvc xcc xfc xoc xag xan xex xen xfl xac xst xsp xmd xrt xcu xtk xtv xaf xro xsc xho xvk xvf xvs xcv xco xff xfp xfe xfb xop zdl ztn zpp zvc zcc zfc zoc zag zan zex zen zfl zac zst zsp zmd zrt zcu ztk ztv zaf zro zsc zho zvk zvf zvs zcv zco zff zfp zfe zfb zop
def lw_0 (post : Int32 → Prop) (L : Nat) (xs : Nat → Int32) (m : Nat) (x4 x5 x6 x7 x8 : Int32) (kc ks : Nat) (g0 g1 : SX) : Prop := match g0, g1 with
  | (xdl, xtn, xpp, xvc, xcc, xfc, xoc, xag, xan, xex, xen, xfl, xac, xst, xsp, xmd, xrt, xcu, xtk, xtv, xaf, xro, xsc, xho, xvk, xvf, xvs, xcv, xco, xff, xfp, xfe, xfb, xop), (zdl, ztn, zpp, zvc, zcc, zfc, zoc, zag, zan, zex, zen, zfl, zac, zst, zsp, zmd, zrt, zcu, ztk, ztv, zaf, zro, zsc, zho, zvk, zvf, zvs, zcv, zco, zff, zfp, zfe, zfb, zop) => wL_law_85_2 post L xs (wL_law_69 post L xs m) x4 x5 x6 x7 x8 kc ks xdl xtn xpp xvc xcc xfc xoc xag xan xex xen xfl xac xst xsp xmd xrt xcu xtk xtv xaf xro xsc xho xvk xvf xvs xcv xco xff xfp xfe xfb xop zdl ztn zpp zvc zcc zfc zoc zag zan zex zen zfl zac zst zsp zmd zrt zcu ztk ztv zaf zro zsc zho zvk zvf zvs zcv zco zff zfp zfe zfb zop
/-- both objects get the tokens l, and compile them -/
def lw_B (L : Nat) (xs : Nat → Int32) (x4 x5 x6 x7 : Int32) (l : List (Nat × Int32)) (n : Nat) : Prop := tk_ok (tq_k l) n ∧
  (∀ (post : Int32 → Prop) (m : Nat) (x8 : Int32) (kc ks : Nat) (dl : Int32) (g : SX), (∀ u', dq_OK dl (tq_k l) (tq_v l) n u' → lw_69 post L xs m x4 x5 x6 x7 (x8 + 1) kc ks g u') → lw_1 post L xs m x4 x5 x6 x7 x8 kc ks g (nw_S dl)) ∧
  (∀ (post : Int32 → Prop) (m : Nat) (x8 : Int32) (kc ks : Nat) (dl : Int32) (g : SX), (∀ u', dq_OK dl (tq_k l) (tq_v l) n u' → lw_69 post L xs m x4 x5 x6 x7 (x8 + 1) kc ks u' g) → lw_0 post L xs m x4 x5 x6 x7 x8 kc ks (nw_S dl) g)
section
variable {L : Nat} {xs : Nat → Int32} {x4 x5 x6 x7 : Int32} {o : Nat}
theorem lw_ex (hL : L ≤ 260) (ho : tp_O o) (e5 : x5 = nI o) : ∃ l n, lw_B L xs x4 x5 x6 x7 l n := by
  by_cases e0 : x4 = 0
  · have key : ∀ zz, (o = 11 ∧ zz = 5) ∨ (o ≠ 11 ∧ zz = 3) → ∃ l n, lw_B L xs x4 x5 x6 x7 l n := fun zz hz => by
      refine ⟨tl_0 o zz (md_f x6 15 - 3), 39, tq_ok tm_0 (by rfl) (tp_c0 ho (by omega)), fun post m x8 kc ks dl g h => ?_, fun post m x8 kc ks dl g h => ?_⟩
      · obtain ⟨zdl, ztn, zpp, zvc, zcc, zfc, zoc, zag, zan, zex, zen, zfl, zac, zst, zsp, zmd, zrt, zcu, ztk, ztv, zaf, zro, zsc, zho, zvk, zvf, zvs, zcv, zco, zff, zfp, zfe, zfb, zop⟩ := g
        exact l0_1 ho e5 e0 hz h
      · obtain ⟨zdl, ztn, zpp, zvc, zcc, zfc, zoc, zag, zan, zex, zen, zfl, zac, zst, zsp, zmd, zrt, zcu, ztk, ztv, zaf, zro, zsc, zho, zvk, zvf, zvs, zcv, zco, zff, zfp, zfe, zfb, zop⟩ := g
        exact l0_0 ho e5 e0 hz h
    by_cases z : o = 11
    · exact key 5 (Or.inl ⟨z, rfl⟩)
    · exact key 3 (Or.inr ⟨z, rfl⟩)
  · by_cases e1 : x4 = 1
    · refine ⟨tl_1 o (md_f x6 12 - 2) (md_f x7 7 - 3), 42, tq_ok tm_1 (by rfl) (tp_c1 ho), fun post m x8 kc ks dl g h => ?_, fun post m x8 kc ks dl g h => ?_⟩
      · obtain ⟨zdl, ztn, zpp, zvc, zcc, zfc, zoc, zag, zan, zex, zen, zfl, zac, zst, zsp, zmd, zrt, zcu, ztk, ztv, zaf, zro, zsc, zho, zvk, zvf, zvs, zcv, zco, zff, zfp, zfe, zfb, zop⟩ := g
        exact l1_1 ho e5 e1 h
      · obtain ⟨zdl, ztn, zpp, zvc, zcc, zfc, zoc, zag, zan, zex, zen, zfl, zac, zst, zsp, zmd, zrt, zcu, ztk, ztv, zaf, zro, zsc, zho, zvk, zvf, zvs, zcv, zco, zff, zfp, zfe, zfb, zop⟩ := g
        exact l1_0 ho e5 e1 h
    · by_cases e2 : x4 = 2
      · refine ⟨tl_2 o (md_f x6 9 - 4) (md_f x7 5 - 2) x6 x7, 44, tq_ok tm_2 (by rfl) (tp_c2 ho), fun post m x8 kc ks dl g h => ?_, fun post m x8 kc ks dl g h => ?_⟩
        · obtain ⟨zdl, ztn, zpp, zvc, zcc, zfc, zoc, zag, zan, zex, zen, zfl, zac, zst, zsp, zmd, zrt, zcu, ztk, ztv, zaf, zro, zsc, zho, zvk, zvf, zvs, zcv, zco, zff, zfp, zfe, zfb, zop⟩ := g
          exact l2_1 ho e5 e2 h
        · obtain ⟨zdl, ztn, zpp, zvc, zcc, zfc, zoc, zag, zan, zex, zen, zfl, zac, zst, zsp, zmd, zrt, zcu, ztk, ztv, zaf, zro, zsc, zho, zvk, zvf, zvs, zcv, zco, zff, zfp, zfe, zfb, zop⟩ := g
          exact l2_0 ho e5 e2 h
      · obtain ⟨k, hk, ek⟩ := md_j (ce_f L xs 6) (d := 4) (by omega) (by omega)
        by_cases ea : md_f x6 5 = 0
        · have k4 : k = 0 ∨ k = 1 ∨ k = 2 ∨ k = 3 := by omega
          rcases k4 with rfl | rfl | rfl | rfl
          · refine ⟨tl_n0 x6, 3, tq_ok tm_n0 (by rfl) tp_cn0, fun post m x8 kc ks dl g h => ?_, fun post m x8 kc ks dl g h => ?_⟩
            · obtain ⟨zdl, ztn, zpp, zvc, zcc, zfc, zoc, zag, zan, zex, zen, zfl, zac, zst, zsp, zmd, zrt, zcu, ztk, ztv, zaf, zro, zsc, zho, zvk, zvf, zvs, zcv, zco, zff, zfp, zfe, zfb, zop⟩ := g
              exact l3n_1 e0 e1 e2 ea (l3n0_1 hL ek h)
            · obtain ⟨zdl, ztn, zpp, zvc, zcc, zfc, zoc, zag, zan, zex, zen, zfl, zac, zst, zsp, zmd, zrt, zcu, ztk, ztv, zaf, zro, zsc, zho, zvk, zvf, zvs, zcv, zco, zff, zfp, zfe, zfb, zop⟩ := g
              exact l3n_0 e0 e1 e2 ea (l3n0_0 hL ek h)
          · refine ⟨tl_n1 x6 (md_f x7 11 - 5 - 0), 4, tq_ok tm_n1 (by rfl) tp_cn1, fun post m x8 kc ks dl g h => ?_, fun post m x8 kc ks dl g h => ?_⟩
            · obtain ⟨zdl, ztn, zpp, zvc, zcc, zfc, zoc, zag, zan, zex, zen, zfl, zac, zst, zsp, zmd, zrt, zcu, ztk, ztv, zaf, zro, zsc, zho, zvk, zvf, zvs, zcv, zco, zff, zfp, zfe, zfb, zop⟩ := g
              exact l3n_1 e0 e1 e2 ea (l3n1_1 hL ek h)
            · obtain ⟨zdl, ztn, zpp, zvc, zcc, zfc, zoc, zag, zan, zex, zen, zfl, zac, zst, zsp, zmd, zrt, zcu, ztk, ztv, zaf, zro, zsc, zho, zvk, zvf, zvs, zcv, zco, zff, zfp, zfe, zfb, zop⟩ := g
              exact l3n_0 e0 e1 e2 ea (l3n1_0 hL ek h)
          · refine ⟨tl_n2 x6 (md_f x7 11 - 5 - 0) (md_f x7 11 - 5 - (0 + 1)), 5, tq_ok tm_n2 (by rfl) tp_cn2, fun post m x8 kc ks dl g h => ?_, fun post m x8 kc ks dl g h => ?_⟩
            · obtain ⟨zdl, ztn, zpp, zvc, zcc, zfc, zoc, zag, zan, zex, zen, zfl, zac, zst, zsp, zmd, zrt, zcu, ztk, ztv, zaf, zro, zsc, zho, zvk, zvf, zvs, zcv, zco, zff, zfp, zfe, zfb, zop⟩ := g
              exact l3n_1 e0 e1 e2 ea (l3n2_1 hL ek h)
            · obtain ⟨zdl, ztn, zpp, zvc, zcc, zfc, zoc, zag, zan, zex, zen, zfl, zac, zst, zsp, zmd, zrt, zcu, ztk, ztv, zaf, zro, zsc, zho, zvk, zvf, zvs, zcv, zco, zff, zfp, zfe, zfb, zop⟩ := g
              exact l3n_0 e0 e1 e2 ea (l3n2_0 hL ek h)
          · refine ⟨tl_n3 x6 (md_f x7 11 - 5 - 0) (md_f x7 11 - 5 - (0 + 1)) (md_f x7 11 - 5 - (0 + 1 + 1)), 6, tq_ok tm_n3 (by rfl) tp_cn3, fun post m x8 kc ks dl g h => ?_, fun post m x8 kc ks dl g h => ?_⟩
            · obtain ⟨zdl, ztn, zpp, zvc, zcc, zfc, zoc, zag, zan, zex, zen, zfl, zac, zst, zsp, zmd, zrt, zcu, ztk, ztv, zaf, zro, zsc, zho, zvk, zvf, zvs, zcv, zco, zff, zfp, zfe, zfb, zop⟩ := g
              exact l3n_1 e0 e1 e2 ea (l3n3_1 hL ek h)
            · obtain ⟨zdl, ztn, zpp, zvc, zcc, zfc, zoc, zag, zan, zex, zen, zfl, zac, zst, zsp, zmd, zrt, zcu, ztk, ztv, zaf, zro, zsc, zho, zvk, zvf, zvs, zcv, zco, zff, zfp, zfe, zfb, zop⟩ := g
              exact l3n_0 e0 e1 e2 ea (l3n3_0 hL ek h)
        · have k4 : k = 0 ∨ k = 1 ∨ k = 2 ∨ k = 3 := by omega
          rcases k4 with rfl | rfl | rfl | rfl
          · refine ⟨tl_l0 o, 14, tq_ok tm_l0 (by rfl) (tp_cl0 ho), fun post m x8 kc ks dl g h => ?_, fun post m x8 kc ks dl g h => ?_⟩
            · obtain ⟨zdl, ztn, zpp, zvc, zcc, zfc, zoc, zag, zan, zex, zen, zfl, zac, zst, zsp, zmd, zrt, zcu, ztk, ztv, zaf, zro, zsc, zho, zvk, zvf, zvs, zcv, zco, zff, zfp, zfe, zfb, zop⟩ := g
              exact l3l_1 ho e5 e0 e1 e2 ea (l3l0_1 ho hL ek h)
            · obtain ⟨zdl, ztn, zpp, zvc, zcc, zfc, zoc, zag, zan, zex, zen, zfl, zac, zst, zsp, zmd, zrt, zcu, ztk, ztv, zaf, zro, zsc, zho, zvk, zvf, zvs, zcv, zco, zff, zfp, zfe, zfb, zop⟩ := g
              exact l3l_0 ho e5 e0 e1 e2 ea (l3l0_0 ho hL ek h)
          · refine ⟨tl_l1 o (md_f x7 11 - 5 - 0), 15, tq_ok tm_l1 (by rfl) (tp_cl1 ho), fun post m x8 kc ks dl g h => ?_, fun post m x8 kc ks dl g h => ?_⟩
            · obtain ⟨zdl, ztn, zpp, zvc, zcc, zfc, zoc, zag, zan, zex, zen, zfl, zac, zst, zsp, zmd, zrt, zcu, ztk, ztv, zaf, zro, zsc, zho, zvk, zvf, zvs, zcv, zco, zff, zfp, zfe, zfb, zop⟩ := g
              exact l3l_1 ho e5 e0 e1 e2 ea (l3l1_1 ho hL ek h)
            · obtain ⟨zdl, ztn, zpp, zvc, zcc, zfc, zoc, zag, zan, zex, zen, zfl, zac, zst, zsp, zmd, zrt, zcu, ztk, ztv, zaf, zro, zsc, zho, zvk, zvf, zvs, zcv, zco, zff, zfp, zfe, zfb, zop⟩ := g
              exact l3l_0 ho e5 e0 e1 e2 ea (l3l1_0 ho hL ek h)
          · refine ⟨tl_l2 o (md_f x7 11 - 5 - 0) (md_f x7 11 - 5 - (0 + 1)), 16, tq_ok tm_l2 (by rfl) (tp_cl2 ho), fun post m x8 kc ks dl g h => ?_, fun post m x8 kc ks dl g h => ?_⟩
            · obtain ⟨zdl, ztn, zpp, zvc, zcc, zfc, zoc, zag, zan, zex, zen, zfl, zac, zst, zsp, zmd, zrt, zcu, ztk, ztv, zaf, zro, zsc, zho, zvk, zvf, zvs, zcv, zco, zff, zfp, zfe, zfb, zop⟩ := g
              exact l3l_1 ho e5 e0 e1 e2 ea (l3l2_1 ho hL ek h)
            · obtain ⟨zdl, ztn, zpp, zvc, zcc, zfc, zoc, zag, zan, zex, zen, zfl, zac, zst, zsp, zmd, zrt, zcu, ztk, ztv, zaf, zro, zsc, zho, zvk, zvf, zvs, zcv, zco, zff, zfp, zfe, zfb, zop⟩ := g
              exact l3l_0 ho e5 e0 e1 e2 ea (l3l2_0 ho hL ek h)
          · refine ⟨tl_l3 o (md_f x7 11 - 5 - 0) (md_f x7 11 - 5 - (0 + 1)) (md_f x7 11 - 5 - (0 + 1 + 1)), 17, tq_ok tm_l3 (by rfl) (tp_cl3 ho), fun post m x8 kc ks dl g h => ?_, fun post m x8 kc ks dl g h => ?_⟩
            · obtain ⟨zdl, ztn, zpp, zvc, zcc, zfc, zoc, zag, zan, zex, zen, zfl, zac, zst, zsp, zmd, zrt, zcu, ztk, ztv, zaf, zro, zsc, zho, zvk, zvf, zvs, zcv, zco, zff, zfp, zfe, zfb, zop⟩ := g
              exact l3l_1 ho e5 e0 e1 e2 ea (l3l3_1 ho hL ek h)
            · obtain ⟨zdl, ztn, zpp, zvc, zcc, zfc, zoc, zag, zan, zex, zen, zfl, zac, zst, zsp, zmd, zrt, zcu, ztk, ztv, zaf, zro, zsc, zho, zvk, zvf, zvs, zcv, zco, zff, zfp, zfe, zfb, zop⟩ := g
              exact l3l_0 ho e5 e0 e1 e2 ea (l3l3_0 ho hL ek h)
end
theorem i_vc (xs : Nat → Int32) (L : Nat) (hL : L ≤ 260) : wpL_law (fun r => r = 1) L xs := by
  refine ce_d (j := 1) rfl (by decide) hL (md_w (by decide) (nm_e ⟨16, 4776, by decide, by decide, in_w ?_⟩))
  refine ⟨by decide, by decide, 16, 4776, by decide, by decide, in_w ?_⟩
  refine ce_d (j := 0) rfl (by decide) hL (md_w (by decide) (ce_d (j := 2) rfl (by decide) hL (lo_w (fun o ho => ce_d (j := 3) rfl (by decide) hL (ce_d (j := 4) rfl (by decide) hL ?_)))))
  obtain ⟨l, n, H, B1, B0⟩ := lw_ex (L := L) (xs := xs) (x4 := md_f (ce_f L xs 0) 4) (x5 := nI o) (x6 := ce_f L xs 3) (x7 := ce_f L xs 4) hL ho rfl
  refine ⟨2 + 1, br_f (by decide) (br_t rfl (B0 _ _ _ _ _ _ (nw_S _) (fun u0 h0 => ?_)))⟩
  obtain ⟨xdl, xtn, xpp, xvc, xcc, xfc, xoc, xag, xan, xex, xen, xfl, xac, xst, xsp, xmd, xrt, xcu, xtk, xtv, xaf, xro, xsc, xho, xvk, xvf, xvs, xcv, xco, xff, xfp, xfe, xfb, xop⟩ := u0
  refine br_f (by decide) (br_f (by decide) (B1 _ _ _ _ _ _ (xdl, xtn, xpp, xvc, xcc, xfc, xoc, xag, xan, xex, xen, xfl, xac, xst, xsp, xmd, xrt, xcu, xtk, xtv, xaf, xro, xsc, xho, xvk, xvf, xvs, xcv, xco, xff, xfp, xfe, xfb, xop) (fun u1 h1 => ?_)))
  obtain ⟨zdl, ztn, zpp, zvc, zcc, zfc, zoc, zag, zan, zex, zen, zfl, zac, zst, zsp, zmd, zrt, zcu, ztk, ztv, zaf, zro, zsc, zho, zvk, zvf, zvs, zcv, zco, zff, zfp, zfe, zfb, zop⟩ := u1
  refine br_t (by decide) (ce_d (j := 5) rfl (by decide) hL (md_w (by decide) (nm_e (fl_w (fun F F1 F4 hF => ⟨3 + 1, ?_⟩)))))
  exact lr_loop hL H h0 F1 F4 hF 3 0 _ _ (by omega) h0 h1
end
