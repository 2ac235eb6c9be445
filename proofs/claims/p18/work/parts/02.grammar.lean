/-! the grammar, by the places of its items -/
def gr_dup (V : Nat → Int32) (a : Nat → Nat) (st s : Nat) : Prop := ∃ k, k < 4 ∧ (∀ k', k' ≤ k → it_f a k' (st + 1) < s - 1) ∧ V (it_f a k (st + 1) + 1) = V s
def gr_BS (K : Nat → Nat) (V : Nat → Int32) (a : Nat → Nat) (h st b : Nat) : Prop := K b = 1 ∧ ls_C K a (b + 1) 2 ∧ K (b + 1) = 4 ∧ ¬ gr_dup V a st (b + 1) ∧ (h = 9 → K (b + 2) = 1 ∧ K (b + 3) = 7)
def gr_P (K : Nat → Nat) (V : Nat → Int32) (q c : Nat) : Prop := c ≤ 4 ∧ (∀ j, j < c → K (q + 1 + j) = 4) ∧ K (q + 1 + c) = 2 ∧ ∀ j j', j < j' → j' < c → V (q + 1 + j) ≠ V (q + 1 + j')
def gr_n (h : Nat) : Nat := if h = 10 then 3 else if h = 12 ∨ h = 13 ∨ h = 14 then 1 else 2
def gr_FS (K : Nat → Nat) (V : Nat → Int32) (a : Nat → Nat) (i h : Nat) : Prop :=
  (h = 6 ∧ ls_C K a (i + 2) 1) ∨
  (h = 7 ∧ ls_C K a (i + 2) 2 ∧ K (i + 2) = 1 ∧ ∃ c, gr_P K V (i + 2) c) ∨
  ((h = 8 ∨ h = 9) ∧ ls_C K a (i + 2) 2 ∧ K (i + 2) = 1 ∧ ∃ c, 1 ≤ c ∧ c ≤ 4 ∧ ls_C K a (i + 3) c ∧ ∀ j, j < c → gr_BS K V a h (i + 2) (it_f a j (i + 3))) ∨
  (10 ≤ h ∧ ls_C K a (i + 2) (gr_n h)) ∨
  (h < 6 ∧ ∃ c, c ≤ 4 ∧ ls_C K a (i + 1) (c + 1))
def gr_E (K a : Nat → Nat) (i c : Nat) : Prop := K i = 1 ∧ ((10 ≤ K (i + 1) ∧ ls_M K a (i + 2) c) ∨ (K (i + 1) < 6 ∧ ls_M K a (i + 1) c) ∨ (7 ≤ K (i + 1) ∧ K (i + 1) ≤ 9 ∧ c = a (i + 2)) ∨ ((K (i + 1) = 8 ∨ K (i + 1) = 9) ∧ ∃ b, ls_M K a (i + 3) b ∧ c = b + 2))
def gr_D (K a : Nat → Nat) (i c : Nat) : Prop := K i = 1 ∧ K (i + 1) = 6 ∧ ls_M K a (i + 2) c
def gr_N (K a : Nat → Nat) (i c : Nat) : Prop := K i = 1 ∧ ((K (i + 1) = 7 ∧ ls_M K a (i + 3) c) ∨ ((K (i + 1) = 8 ∨ K (i + 1) = 9) ∧ ∃ b, ls_M K a (i + 3) b ∧ c = b + 1))
def gr_SH (K : Nat → Nat) (V : Nat → Int32) (a : Nat → Nat) (i : Nat) : Prop := K i = 3 ∨ K i = 4 ∨ K i = 5 ∨ (K i = 1 ∧ gr_FS K V a i (K (i + 1)))
def gr_EC (K : Nat → Nat) (V : Nat → Int32) (a : Nat → Nat) (E D : Nat → Prop) (i : Nat) : Prop := gr_SH K V a i ∧ (∀ c, gr_E K a i c → E c) ∧ (∀ c, gr_D K a i c → D c)
def gr_DS (K a : Nat → Nat) (i : Nat) : Prop := K i = 3 ∨ K i = 5 ∨ (K i = 1 ∧ ∃ c, ls_C K a (i + 1) c)
def gr_DM (K a : Nat → Nat) (i c : Nat) : Prop := K i = 1 ∧ ls_M K a (i + 1) c
def gr_DC (K a : Nat → Nat) (D : Nat → Prop) (i : Nat) : Prop := gr_DS K a i ∧ ∀ c, gr_DM K a i c → D c
def gr_X (K : Nat → Nat) (V : Nat → Int32) (a : Nat → Nat) : Nat → Bool → Nat → Prop
  | 0, _, _ => False
  | k + 1, true, i => gr_EC K V a (gr_X K V a k true) (gr_X K V a k false) i
  | k + 1, false, i => gr_DC K a (gr_X K V a k false) i
theorem gr_X_up {K : Nat → Nat} {V : Nat → Int32} {a : Nat → Nat} : ∀ (k : Nat) (b : Bool) (i : Nat), gr_X K V a k b i → gr_X K V a (k + 1) b i
  | 0, _, _, h => False.elim h
  | k + 1, true, i, h => ⟨h.1, fun c hc => gr_X_up k true c (h.2.1 c hc), fun c hc => gr_X_up k false c (h.2.2 c hc)⟩
  | k + 1, false, i, h => ⟨h.1, fun c hc => gr_X_up k false c (h.2 c hc)⟩
section
variable {K : Nat → Nat} {V : Nat → Int32} {n : Nat}
theorem it_at {s : Nat} : ∀ {c : Nat}, (∀ j, j < c → K (s + j) ≠ 1) → it_f (sk_f K n) c s = s + c
  | 0, _ => rfl
  | c + 1, h => by
    rw [it_s, it_at (fun j hj => h j (by omega)), sk_at (h c (by omega))]
    omega
theorem gr_end {i s c : Nat} (h1 : K i = 1) (hL : dp_L K (i + 1) s) (hc : ls_C K (sk_f K n) s c) (hI : ∀ j, j < c → dp_I K (it_f (sk_f K n) j s) (sk_f K n (it_f (sk_f K n) j s))) : dp_I K i (it_f (sk_f K n) c s + 1) :=
  dp_I_w h1 (dp_L_t hL (ls_L hI)) hc.2
theorem gr_kw {i : Nat} (h : 6 ≤ K (i + 1)) : dp_L K (i + 1) (i + 2) := dp_I_L (dp_I_a (by omega) (by omega))
theorem gr_PI {q c : Nat} (h1 : K q = 1) (h : gr_P K V q c) : dp_I K q (q + 2 + c) := by
  obtain ⟨h4, hs, h2, hd⟩ := h
  have key : ∀ d, d ≤ c → dp_L K (q + 1) (q + 1 + d) := by
    intro d
    induction d with
    | zero => intro _; exact dp_L_r _
    | succ d ih =>
      intro hd
      have := hs d (by omega)
      exact dp_L_t (ih (by omega)) (dp_I_L (dp_I_a (by omega) (by omega)))
  have := dp_I_w h1 (key c (Nat.le_refl _)) h2
  rw [show q + 2 + c = q + 1 + c + 1 from by omega]
  exact this
theorem gr_Pa {q c : Nat} (h1 : K q = 1) (h : gr_P K V q c) : sk_f K n q = q + 2 + c := sk_I (gr_PI h1 h)
theorem gr_Pi {q c j : Nat} (h : gr_P K V q c) (hj : j ≤ c) : it_f (sk_f K n) j (q + 1) = q + 1 + j :=
  it_at (fun x hx => by have := h.2.1 x (by omega); omega)
theorem gr_PC {q c : Nat} (h : gr_P K V q c) : ls_C K (sk_f K n) (q + 1) c := by
  refine ⟨fun j hj => ?_, ?_⟩
  · rw [gr_Pi h (by omega)]
    have := h.2.1 j hj; omega
  · rw [gr_Pi h (Nat.le_refl _)]; exact h.2.2.1
/-- a bind -/
theorem gr_b1 {h st b : Nat} (hb : gr_BS K V (sk_f K n) h st b) : sk_f K n (b + 1) = b + 2 ∧ K (b + 2) ≠ 2 ∧ K (sk_f K n (b + 2)) = 2 := by
  obtain ⟨h1, h2, h3, h4, h5⟩ := hb
  have e : sk_f K n (b + 1) = b + 2 := sk_at (by omega)
  have t := (ls_C_t h2).2
  rw [e] at t
  have t2 := ls_C_t t
  exact ⟨e, t2.1, t2.2.2⟩
theorem gr_bI {h st b : Nat} (hb : gr_BS K V (sk_f K n) h st b) (hI : dp_I K (b + 2) (sk_f K n (b + 2))) : dp_I K b (sk_f K n (b + 2) + 1) := by
  have e := gr_b1 hb
  have h4 := hb.2.2.1
  exact dp_I_w hb.1 (dp_L_t (dp_I_L (dp_I_a (i := b + 1) (by omega) (by omega))) (dp_I_L hI)) e.2.2
theorem gr_ba {h st b : Nat} (hb : gr_BS K V (sk_f K n) h st b) (hI : dp_I K (b + 2) (sk_f K n (b + 2))) : sk_f K n b = sk_f K n (b + 2) + 1 := sk_I (gr_bI hb hI)
section
variable {E D : Nat → Prop}
/-- the binds of a LET: the list's end -/
theorem gr_LI {h st s c : Nat} (hb : ∀ j, j < c → gr_BS K V (sk_f K n) h st (it_f (sk_f K n) j s)) (hE : ∀ j, j < c → dp_I K (it_f (sk_f K n) j s + 2) (sk_f K n (it_f (sk_f K n) j s + 2))) (j : Nat) (hj : j < c) : dp_I K (it_f (sk_f K n) j s) (sk_f K n (it_f (sk_f K n) j s)) :=
  sk_IE (gr_bI (hb j hj) (hE j hj))
theorem gr_EI (hE : ∀ c, E c → dp_I K c (sk_f K n c)) (hD : ∀ c, D c → dp_I K c (sk_f K n c)) {i : Nat} (h : gr_EC K V (sk_f K n) E D i) : dp_I K i (sk_f K n i) := by
  obtain ⟨hs, he, hd⟩ := h
  rcases hs with z | z | z | ⟨h1, z⟩
  · exact sk_IE (dp_I_a (by omega) (by omega))
  · exact sk_IE (dp_I_a (by omega) (by omega))
  · exact sk_IE (dp_I_a (by omega) (by omega))
  · rcases z with ⟨k, l⟩ | ⟨k, l, k2, c, p⟩ | ⟨k, l, k2, c, c1, c4, lc, b⟩ | ⟨k, l⟩ | ⟨k, c, c4, l⟩
    · exact sk_IE (gr_end h1 (gr_kw (by omega)) l (fun j hj => hD _ (hd _ ⟨h1, k, (ls_CM l).mpr ⟨j, hj, rfl⟩⟩)))
    · refine sk_IE (gr_end h1 (gr_kw (by omega)) l (fun j hj => ?_))
      have e := gr_PI k2 p
      match j, hj with
      | 0, _ => exact sk_IE e
      | 1, _ => exact hE _ (he _ ⟨h1, Or.inr (Or.inr (Or.inl ⟨by omega, by omega, rfl⟩))⟩)
    · refine sk_IE (gr_end h1 (gr_kw (by omega)) l (fun j hj => ?_))
      have hb2 : ∀ j, j < c → dp_I K (it_f (sk_f K n) j (i + 3) + 2) (sk_f K n (it_f (sk_f K n) j (i + 3) + 2)) := fun j hj => hE _ (he _ ⟨h1, Or.inr (Or.inr (Or.inr ⟨k, _, (ls_CM lc).mpr ⟨j, hj, rfl⟩, rfl⟩))⟩)
      match j, hj with
      | 0, _ => exact sk_IE (gr_end (i := i + 2) k2 (dp_L_r _) lc (gr_LI b hb2))
      | 1, _ => exact hE _ (he _ ⟨h1, Or.inr (Or.inr (Or.inl ⟨by omega, by omega, rfl⟩))⟩)
    · exact sk_IE (gr_end h1 (gr_kw (by omega)) l (fun j hj => hE _ (he _ ⟨h1, Or.inl ⟨k, (ls_CM l).mpr ⟨j, hj, rfl⟩⟩⟩)))
    · exact sk_IE (gr_end h1 (dp_L_r _) l (fun j hj => hE _ (he _ ⟨h1, Or.inr (Or.inl ⟨k, (ls_CM l).mpr ⟨j, hj, rfl⟩⟩)⟩)))
theorem gr_DI (hD : ∀ c, D c → dp_I K c (sk_f K n c)) {i : Nat} (h : gr_DC K (sk_f K n) D i) : dp_I K i (sk_f K n i) := by
  obtain ⟨hs, hd⟩ := h
  rcases hs with z | z | ⟨h1, c, l⟩
  · exact sk_IE (dp_I_a (by omega) (by omega))
  · exact sk_IE (dp_I_a (by omega) (by omega))
  · exact sk_IE (gr_end h1 (dp_L_r _) l (fun j hj => hD _ (hd _ ⟨h1, (ls_CM l).mpr ⟨j, hj, rfl⟩⟩)))
end
theorem gr_XI : ∀ (k : Nat) (b : Bool) (i : Nat), gr_X K V (sk_f K n) k b i → dp_I K i (sk_f K n i)
  | 0, _, _, h => False.elim h
  | k + 1, true, i, h => gr_EI (fun c => gr_XI k true c) (fun c => gr_XI k false c) h
  | k + 1, false, i, h => gr_DI (fun c => gr_XI k false c) h
end
/-! the reference's goal machine, purely -/
def pm_C (K : Nat → Nat) (V : Nat → Int32) (a : Nat → Nat) (n : Nat) (E D N : Nat → Prop) : List (Nat × Nat × Nat) → Nat → Prop
  | [], p => p = n
  | (g, x, st) :: S, p =>
    (g = 1 ∧ E p ∧ pm_C K V a n E D N S (a p)) ∨
    (g = 2 ∧ D p ∧ pm_C K V a n E D N S (a p)) ∨
    (g = 3 ∧ ∃ c, ls_C K a p c ∧ (∀ j, j < c → D (it_f a j p)) ∧ pm_C K V a n E D N S (it_f a c p + 1)) ∨
    (g = 4 ∧ K p = 2 ∧ pm_C K V a n E D N S (p + 1)) ∨
    (g = 8 ∧ ∃ c, (c = 0 ∨ x + c ≤ 4) ∧ ls_C K a p c ∧ (∀ j, j < c → E (it_f a j p)) ∧ pm_C K V a n E D N S (it_f a c p)) ∨
    ((g = 5 ∨ g = 6) ∧ ∃ c, 0 < x + c ∧ (c = 0 ∨ x + c ≤ 4) ∧ ls_C K a p c ∧ (∀ j, j < c → gr_BS K V a (g + 3) st (it_f a j p) ∧ N (it_f a j p + 1) ∧ E (it_f a j p + 2)) ∧ pm_C K V a n E D N S (it_f a c p + 1)) ∨
    (g = 7 ∧ K p = 1 ∧ K (p + 1) = 7 ∧ E p ∧ pm_C K V a n E D N S (a p))
def pm_T (K : Nat → Nat) (V : Nat → Int32) (a : Nat → Nat) (p g x st p' : Nat) (new : List (Nat × Nat × Nat)) : Prop :=
  (g = 4 ∧ K p = 2 ∧ p' = p + 1 ∧ new = []) ∨
  (g = 3 ∧ K p = 2 ∧ p' = p + 1 ∧ new = []) ∨
  (g = 3 ∧ K p ≠ 2 ∧ p' = p ∧ new = [(2, 0, 0), (3, 0, 0)]) ∨
  (g = 2 ∧ K p = 1 ∧ p' = p + 1 ∧ new = [(3, 0, 0)]) ∨
  (g = 2 ∧ (K p = 3 ∨ K p = 5) ∧ p' = p + 1 ∧ new = []) ∨
  (g = 8 ∧ K p = 2 ∧ p' = p ∧ new = []) ∨
  (g = 8 ∧ K p ≠ 2 ∧ x < 4 ∧ p' = p ∧ new = [(1, 0, 0), (8, x + 1, 0)]) ∨
  ((g = 5 ∨ g = 6) ∧ K p = 2 ∧ 0 < x ∧ p' = p + 1 ∧ new = []) ∨
  ((g = 5 ∨ g = 6) ∧ K p = 1 ∧ x < 4 ∧ K (p + 1) = 4 ∧ ¬ gr_dup V a st (p + 1) ∧ p' = p + 2 ∧ new = [(if g = 5 then 1 else 7, 0, 0), (4, 0, 0), (g, x + 1, st)]) ∨
  ((g = 7 ∨ g = 1) ∧ K p = 1 ∧ K (p + 1) = 7 ∧ K (p + 2) = 1 ∧ ∃ c, gr_P K V (p + 2) c ∧ p' = p + 4 + c ∧ new = [(1, 0, 0), (4, 0, 0)]) ∨
  (g = 1 ∧ (K p = 3 ∨ K p = 4 ∨ K p = 5) ∧ p' = p + 1 ∧ new = []) ∨
  (g = 1 ∧ K p = 1 ∧ (K (p + 1) = 8 ∨ K (p + 1) = 9) ∧ K (p + 2) = 1 ∧ p' = p + 3 ∧ new = [(K (p + 1) - 3, 0, p + 2), (1, 0, 0), (4, 0, 0)]) ∨
  (g = 1 ∧ K p = 1 ∧ K (p + 1) < 6 ∧ p' = p + 1 ∧ new = [(1, 0, 0), (8, 0, 0), (4, 0, 0)]) ∨
  (g = 1 ∧ K p = 1 ∧ K (p + 1) = 6 ∧ p' = p + 2 ∧ new = [(2, 0, 0), (4, 0, 0)]) ∨
  (g = 1 ∧ K p = 1 ∧ 10 ≤ K (p + 1) ∧ p' = p + 2 ∧ new = List.replicate (gr_n (K (p + 1))) (1, 0, 0) ++ [(4, 0, 0)])
section
variable {K : Nat → Nat} {V : Nat → Int32} {n : Nat} {E D N : Nat → Prop}
theorem pm_C1 {x st : Nat} {S : List (Nat × Nat × Nat)} {p : Nat} : pm_C K V (sk_f K n) n E D N ((1, x, st) :: S) p ↔ E p ∧ pm_C K V (sk_f K n) n E D N S (sk_f K n p) := by simp [pm_C]
theorem pm_C2 {x st : Nat} {S : List (Nat × Nat × Nat)} {p : Nat} : pm_C K V (sk_f K n) n E D N ((2, x, st) :: S) p ↔ D p ∧ pm_C K V (sk_f K n) n E D N S (sk_f K n p) := by simp [pm_C]
theorem pm_C3 {x st : Nat} {S : List (Nat × Nat × Nat)} {p : Nat} : pm_C K V (sk_f K n) n E D N ((3, x, st) :: S) p ↔ ∃ c, ls_C K (sk_f K n) p c ∧ (∀ j, j < c → D (it_f (sk_f K n) j p)) ∧ pm_C K V (sk_f K n) n E D N S (it_f (sk_f K n) c p + 1) := by simp [pm_C]
theorem pm_C4 {x st : Nat} {S : List (Nat × Nat × Nat)} {p : Nat} : pm_C K V (sk_f K n) n E D N ((4, x, st) :: S) p ↔ K p = 2 ∧ pm_C K V (sk_f K n) n E D N S (p + 1) := by simp [pm_C]
theorem pm_C8 {x st : Nat} {S : List (Nat × Nat × Nat)} {p : Nat} : pm_C K V (sk_f K n) n E D N ((8, x, st) :: S) p ↔ ∃ c, (c = 0 ∨ x + c ≤ 4) ∧ ls_C K (sk_f K n) p c ∧ (∀ j, j < c → E (it_f (sk_f K n) j p)) ∧ pm_C K V (sk_f K n) n E D N S (it_f (sk_f K n) c p) := by simp [pm_C]
theorem pm_C56 {g x st : Nat} {S : List (Nat × Nat × Nat)} {p : Nat} (hg : g = 5 ∨ g = 6) : pm_C K V (sk_f K n) n E D N ((g, x, st) :: S) p ↔ ∃ c, 0 < x + c ∧ (c = 0 ∨ x + c ≤ 4) ∧ ls_C K (sk_f K n) p c ∧ (∀ j, j < c → gr_BS K V (sk_f K n) (g + 3) st (it_f (sk_f K n) j p) ∧ N (it_f (sk_f K n) j p + 1) ∧ E (it_f (sk_f K n) j p + 2)) ∧ pm_C K V (sk_f K n) n E D N S (it_f (sk_f K n) c p + 1) := by
  rcases hg with rfl | rfl <;> simp [pm_C]
theorem pm_C7 {x st : Nat} {S : List (Nat × Nat × Nat)} {p : Nat} : pm_C K V (sk_f K n) n E D N ((7, x, st) :: S) p ↔ K p = 1 ∧ K (p + 1) = 7 ∧ E p ∧ pm_C K V (sk_f K n) n E D N S (sk_f K n p) := by simp [pm_C]
theorem pm_Cr {S : List (Nat × Nat × Nat)} : ∀ {m p : Nat}, pm_C K V (sk_f K n) n E D N (List.replicate m (1, 0, 0) ++ S) p ↔ (∀ j, j < m → E (it_f (sk_f K n) j p)) ∧ pm_C K V (sk_f K n) n E D N S (it_f (sk_f K n) m p)
  | 0, p => by
    constructor
    · intro h; exact ⟨fun j hj => by omega, h⟩
    · intro h; exact h.2
  | m + 1, p => by
    show pm_C K V (sk_f K n) n E D N ((1, 0, 0) :: (List.replicate m (1, 0, 0) ++ S)) p ↔ _
    rw [pm_C1, pm_Cr]
    constructor
    · rintro ⟨h1, h2, h3⟩
      refine ⟨fun j hj => ?_, h3⟩
      cases j with
      | zero => exact h1
      | succ j => exact h2 j (by omega)
    · rintro ⟨h1, h2⟩
      exact ⟨h1 0 (by omega), fun j hj => h1 (j + 1) (by omega), h2⟩
theorem pm_Cm {E' D' : Nat → Prop} (hE : ∀ c, E c → E' c) (hD : ∀ c, D c → D' c) : ∀ (S : List (Nat × Nat × Nat)) (p : Nat), pm_C K V (sk_f K n) n E D N S p → pm_C K V (sk_f K n) n E' D' N S p
  | [], p, h => h
  | (g, x, st) :: S, p, h => by
    rcases h with ⟨e, h1, h2⟩ | ⟨e, h1, h2⟩ | ⟨e, c, h0, h1, h2⟩ | ⟨e, h1, h2⟩ | ⟨e, c, hx, h0, h1, h2⟩ | ⟨e, c, hx, hy, h0, h1, h2⟩ | ⟨e, h0, h3, h1, h2⟩
    · exact Or.inl ⟨e, hE _ h1, pm_Cm hE hD S _ h2⟩
    · exact Or.inr (Or.inl ⟨e, hD _ h1, pm_Cm hE hD S _ h2⟩)
    · exact Or.inr (Or.inr (Or.inl ⟨e, c, h0, fun j hj => hD _ (h1 j hj), pm_Cm hE hD S _ h2⟩))
    · exact Or.inr (Or.inr (Or.inr (Or.inl ⟨e, h1, pm_Cm hE hD S _ h2⟩)))
    · exact Or.inr (Or.inr (Or.inr (Or.inr (Or.inl ⟨e, c, hx, h0, fun j hj => hE _ (h1 j hj), pm_Cm hE hD S _ h2⟩))))
    · exact Or.inr (Or.inr (Or.inr (Or.inr (Or.inr (Or.inl ⟨e, c, hx, hy, h0, fun j hj => ⟨(h1 j hj).1, (h1 j hj).2.1, hE _ (h1 j hj).2.2⟩, pm_Cm hE hD S _ h2⟩)))))
    · exact Or.inr (Or.inr (Or.inr (Or.inr (Or.inr (Or.inr ⟨e, h0, h3, hE _ h1, pm_Cm hE hD S _ h2⟩)))))
end
