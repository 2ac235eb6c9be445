/-! the machine's measure; every token is spoken of -/
def pm_fl (g : Nat) : Nat := if g = 3 ∨ g = 8 then 1 else 0
def pm_fS : List (Nat × Nat × Nat) → Nat
  | [] => 0
  | (g, _, _) :: _ => pm_fl g
theorem pm_fS1 : ∀ S, pm_fS S ≤ 1
  | [] => by simp [pm_fS]
  | (g, _, _) :: _ => by simp only [pm_fS, pm_fl]; split <;> omega
section
variable {K : Nat → Nat} {V : Nat → Int32} {n : Nat}
theorem gr_n13 (h : Nat) : 1 ≤ gr_n h ∧ gr_n h ≤ 3 := by
  unfold gr_n
  split
  · omega
  · split <;> omega
theorem pm_dec (hn : ∀ i, n ≤ i → K i = 0) {p g x st p' : Nat} {new S : List (Nat × Nat × Nat)} (hp : p < n) (t : pm_T K V (sk_f K n) p g x st p' new) :
    p' ≤ n ∧ 4 * (n - p') + (new ++ S).length + 2 * pm_fS (new ++ S) < 4 * (n - p) + (S.length + 1) + 2 * pm_fl g ∧ (S.length + 1 + pm_fl g ≤ 2 * p + 2 → (new ++ S).length + pm_fS (new ++ S) ≤ 2 * p' + 2) := by
  have kn : ∀ j, K j ≠ 0 → j < n := fun j hj => by
    rcases Nat.lt_or_ge j n with z | z
    · exact z
    · exact absurd (hn j z) hj
  have f1 := pm_fS1 S
  have s1 := kn (p + 1)
  have s2 := kn (p + 2)
  rcases t with ⟨rfl, z, rfl, rfl⟩ | ⟨rfl, z, rfl, rfl⟩ | ⟨rfl, z, rfl, rfl⟩ | ⟨rfl, z, rfl, rfl⟩ | ⟨rfl, z, rfl, rfl⟩ | ⟨rfl, z, rfl, rfl⟩ | ⟨rfl, z, x4, rfl, rfl⟩ | ⟨hg, z, x0, rfl, rfl⟩ | ⟨hg, z, x4, z1, nd, rfl, rfl⟩ | ⟨hg, k1, k7, k2, c, q, rfl, rfl⟩ | ⟨rfl, z, rfl, rfl⟩ | ⟨rfl, k1, k, k2, rfl, rfl⟩ | ⟨rfl, k1, k, rfl, rfl⟩ | ⟨rfl, k1, k, rfl, rfl⟩ | ⟨rfl, k1, k, rfl, rfl⟩
  · simp only [List.nil_append, pm_fl]; simp; omega
  · simp only [List.nil_append, pm_fl]; simp; omega
  · simp [pm_fS, pm_fl]; omega
  · simp [pm_fS, pm_fl]; omega
  · simp only [List.nil_append, pm_fl]; simp; omega
  · simp only [List.nil_append, pm_fl]; simp; omega
  · simp [pm_fS, pm_fl]; omega
  · have e : pm_fl g = 0 := by unfold pm_fl; rw [if_neg (by omega)]
    rw [e]
    simp only [List.nil_append]; omega
  · have e : pm_fl g = 0 := by unfold pm_fl; rw [if_neg (by omega)]
    have e2 : pm_fl (if g = 5 then 1 else 7) = 0 := by unfold pm_fl; rw [if_neg]; split <;> omega
    rw [e]
    simp [pm_fS, e2]; omega
  · have e : pm_fl g = 0 := by unfold pm_fl; rw [if_neg (by omega)]
    have := kn (p + 2 + 1 + c) (by rw [q.2.2.1]; omega)
    rw [e]
    simp [pm_fS, pm_fl]; omega
  · simp only [List.nil_append, pm_fl]; simp; omega
  · have e2 : pm_fl (K (p + 1) - 3) = 0 := by unfold pm_fl; rw [if_neg]; omega
    simp only [List.cons_append, List.nil_append, List.length_cons, pm_fS, e2]
    simp only [pm_fl]; simp; omega
  · simp [pm_fS, pm_fl]; omega
  · simp [pm_fS, pm_fl]; omega
  · have g13 := gr_n13 (K (p + 1))
    obtain ⟨m, hm⟩ : ∃ m, gr_n (K (p + 1)) = m + 1 := ⟨gr_n (K (p + 1)) - 1, by omega⟩
    rw [hm] at g13 ⊢
    simp only [List.replicate_succ, List.cons_append, List.length_cons, List.length_append, List.length_replicate, List.length_nil, pm_fS]
    simp only [pm_fl]; simp; omega
theorem pm_cov {r : Nat → Int32} {par : Nat → Nat} (hn : ∀ i, n ≤ i → K i = 0) (W : rw_W K V (sk_f K n) n n r par)
    {g x st : Nat} {S : List (Nat × Nat × Nat)} {p p' : Nat} {new : List (Nat × Nat × Nat)} (h : pm_C K V (sk_f K n) n (fun c => r c = 1) (fun c => r c = 2) (fun c => r c = 3) ((g, x, st) :: S) p) (t : pm_T K V (sk_f K n) p g x st p' new) :
    ∀ t, p ≤ t → t < p' → (K t = 4 → (r t = 1 ∧ g = 1 ∧ t = p ∧ p' = p + 1 ∧ new = []) ∨ r t = 3) ∧ (K t = 1 → 7 ≤ K (t + 1) → K (t + 1) ≤ 9 → r t = 1) := by
  have kn : ∀ j, K j ≠ 0 → j < n := fun j hj => by
    rcases Nat.lt_or_ge j n with z | z
    · exact z
    · exact absurd (hn j z) hj
  intro u hu1 hu2
  rcases t with ⟨rfl, z, rfl, rfl⟩ | ⟨rfl, z, rfl, rfl⟩ | ⟨rfl, z, rfl, rfl⟩ | ⟨rfl, z, rfl, rfl⟩ | ⟨rfl, z, rfl, rfl⟩ | ⟨rfl, z, rfl, rfl⟩ | ⟨rfl, z, x4, rfl, rfl⟩ | ⟨hg, z, x0, rfl, rfl⟩ | ⟨hg, z, x4, z1, nd, rfl, rfl⟩ | ⟨hg, k1, k7, k2, c, q, rfl, rfl⟩ | ⟨rfl, z, rfl, rfl⟩ | ⟨rfl, k1, k, k2, rfl, rfl⟩ | ⟨rfl, k1, k, rfl, rfl⟩ | ⟨rfl, k1, k, rfl, rfl⟩ | ⟨rfl, k1, k, rfl, rfl⟩
  · have : u = p := by omega
    subst this; exact ⟨fun y => by omega, fun y => by omega⟩
  · have : u = p := by omega
    subst this; exact ⟨fun y => by omega, fun y => by omega⟩
  · omega
  · have : u = p := by omega
    subst this
    refine ⟨fun y => by omega, fun y y7 y9 => ?_⟩
    exfalso
    obtain ⟨hd, _⟩ := pm_C2.mp h
    obtain ⟨a1, a2⟩ := W.2.2.1 u (kn u (by omega)) hd
    have m := a2 (u + 1) ⟨z, ls_M_0 (by omega)⟩
    have b1 := (W.2.2.1 (u + 1) (kn (u + 1) (by omega)) m.1).1
    rcases b1 with b | b | ⟨b, _⟩ <;> omega
  · have : u = p := by omega
    subst this; exact ⟨fun y => by omega, fun y => by omega⟩
  · omega
  · omega
  · have : u = p := by omega
    subst this; exact ⟨fun y => by omega, fun y => by omega⟩
  · by_cases y : u = p
    · subst y; exact ⟨fun y => by omega, fun y => by omega⟩
    · have : u = p + 1 := by omega
      subst this
      refine ⟨fun _ => Or.inr ?_, fun y => by omega⟩
      obtain ⟨c, c0, c1, lc, hb, _⟩ := (pm_C56 hg).mp h
      cases c with
      | zero => have := ls_C_z lc; omega
      | succ c => exact (hb 0 (by omega)).2.1
  · have hp : r p = 1 := by
      rcases hg with rfl | rfl
      · exact (pm_C7.mp h).2.2.1
      · exact (pm_C1.mp h).1
    by_cases y : u = p
    · subst y; exact ⟨fun y => by omega, fun _ _ _ => hp⟩
    · by_cases y1 : u = p + 1
      · subst y1; exact ⟨fun y => by omega, fun y => by omega⟩
      · by_cases y2 : u = p + 2
        · subst y2
          refine ⟨fun y => by omega, fun _ y7 y9 => ?_⟩
          exfalso
          have q1 := q.2.2.1
          have q2 := q.2.1 0
          by_cases c0 : c = 0
          · subst c0
            change K (p + 2 + 1) = 2 at q1
            omega
          · have := q2 (by omega)
            change K (p + 2 + 1) = 4 at this
            omega
        · by_cases y3 : u = p + 3 + c
          · have q1 := q.2.2.1
            rw [show p + 2 + 1 + c = u from by omega] at q1
            exact ⟨fun y => by omega, fun y => by omega⟩
          · have e : u = p + 2 + 1 + (u - (p + 3)) := by omega
            have q2 := q.2.1 (u - (p + 3)) (by omega)
            rw [← e] at q2
            refine ⟨fun _ => Or.inr ?_, fun y => by omega⟩
            refine ((W.2.1 p (kn p (by omega)) hp).2.2.2 u ⟨k1, Or.inl ⟨k7, ?_⟩⟩).1
            exact (ls_CM (gr_PC (n := n) q)).mpr ⟨u - (p + 3), by omega, by rw [gr_Pi q (by omega)]; omega⟩
  · have : u = p := by omega
    subst this
    exact ⟨fun _ => Or.inl ⟨(pm_C1.mp h).1, rfl, rfl, rfl, rfl⟩, fun y => by omega⟩
  · have hp : r p = 1 := (pm_C1.mp h).1
    by_cases y : u = p
    · subst y; exact ⟨fun y => by omega, fun _ _ _ => hp⟩
    · by_cases y1 : u = p + 1
      · subst y1; exact ⟨fun y => by omega, fun y => by omega⟩
      · have : u = p + 2 := by omega
        subst this
        refine ⟨fun y => by omega, fun _ y7 y9 => ?_⟩
        exfalso
        rcases gr_FSof (W.2.1 p (kn p (by omega)) hp).1 k1 with ⟨k', l⟩ | ⟨k', l, k2', c, q⟩ | ⟨k', l, k2', c, c1, c4, lc, bb⟩ | ⟨k', l⟩ | ⟨k', c', c4, l⟩
        · omega
        · omega
        · have := (bb 0 (by omega)).1
          change K (p + 3) = 1 at this
          change 7 ≤ K (p + 3) at y7
          omega
        · omega
        · omega
  · have : u = p := by omega
    subst this; exact ⟨fun y => by omega, fun y => by omega⟩
  · by_cases y : u = p
    · subst y; exact ⟨fun y => by omega, fun y => by omega⟩
    · have : u = p + 1 := by omega
      subst this; exact ⟨fun y => by omega, fun y => by omega⟩
  · by_cases y : u = p
    · subst y; exact ⟨fun y => by omega, fun y => by omega⟩
    · have : u = p + 1 := by omega
      subst this; exact ⟨fun y => by omega, fun y => by omega⟩
/-- the roles are the machine's -/
theorem rw_EC {r : Nat → Int32} {par : Nat → Nat} (hrn : ∀ c, r c ≠ 0 → c < n) (W : rw_W K V (sk_f K n) n n r par) : (∀ p, r p = 1 → gr_EC K V (sk_f K n) (fun c => r c = 1) (fun c => r c = 2) p) ∧ (∀ p, r p = 1 → ∀ c, gr_N K (sk_f K n) p c → r c = 3) ∧ (∀ p, r p = 2 → gr_DC K (sk_f K n) (fun c => r c = 2) p) := by
  refine ⟨fun p hp => ?_, fun p hp c hc => ?_, fun p hp => ?_⟩
  · obtain ⟨a, b, c, d⟩ := W.2.1 p (hrn p (by rw [hp]; decide)) hp
    exact ⟨a, fun x hx => (b x hx).1, fun x hx => (c x hx).1⟩
  · exact ((W.2.1 p (hrn p (by rw [hp]; decide)) hp).2.2.2 c hc).1
  · obtain ⟨a, b⟩ := W.2.2.1 p (hrn p (by rw [hp]; decide)) hp
    exact ⟨a, fun x hx => (b x hx).1⟩
theorem pm_kc {r : Nat → Int32} {par : Nat → Nat} (hB : ∀ i, i < n → K i ≠ 2 → dp_I K i (sk_f K n i)) (hn : ∀ i, n ≤ i → K i = 0) (hrn : ∀ c, r c ≠ 0 → c < n) (hK2 : ∀ c, r c = 1 ∨ r c = 2 → K c ≠ 2) (W : rw_W K V (sk_f K n) n n r par) :
    ∀ (M : Nat) (S : List (Nat × Nat × Nat)) (p : Nat), 4 * (n - p) + S.length + 2 * pm_fS S ≤ M → p ≤ n → pm_C K V (sk_f K n) n (fun c => r c = 1) (fun c => r c = 2) (fun c => r c = 3) S p →
      (∀ t, t < p → K t = 1 → 7 ≤ K (t + 1) → K (t + 1) ≤ 9 → r t = 1) → ∀ t, K t = 1 → 7 ≤ K (t + 1) → K (t + 1) ≤ 9 → r t = 1 := by
  obtain ⟨hE, hN, hD⟩ := rw_EC hrn W
  have hEI : ∀ c, r c = 1 → dp_I K c (sk_f K n c) := fun c hc => hB c (hrn c (by rw [hc]; decide)) (hK2 c (Or.inl hc))
  have hDI : ∀ c, r c = 2 → dp_I K c (sk_f K n c) := fun c hc => hB c (hrn c (by rw [hc]; decide)) (hK2 c (Or.inr hc))
  intro M
  induction M with
  | zero =>
    intro S p hM hp hC hc t
    cases S with
    | nil =>
      intro h1 h7 h9
      refine hc t ?_ h1 h7 h9
      change p = n at hC
      rcases Nat.lt_or_ge t n with z | z
      · omega
      · have := hn t z; omega
    | cons a S => simp at hM
  | succ M ih =>
    intro S p hM hp hC hc t
    cases S with
    | nil =>
      intro h1 h7 h9
      refine hc t ?_ h1 h7 h9
      change p = n at hC
      rcases Nat.lt_or_ge t n with z | z
      · omega
      · have := hn t z; omega
    | cons a S =>
      obtain ⟨g, x, st⟩ := a
      obtain ⟨kp, p', new, T, C⟩ := pm_F hE hN hD hEI hDI hC
      have pn : p < n := by
        rcases Nat.lt_or_ge p n with z | z
        · exact z
        · exact absurd (hn p z) kp
      have d := pm_dec (S := S) hn pn T
      refine ih (new ++ S) p' ?_ d.1 C (fun u hu => ?_) t
      · have e : pm_fS ((g, x, st) :: S) = pm_fl g := rfl
        rw [e] at hM
        simp only [List.length_cons] at hM
        omega
      · rcases Nat.lt_or_ge u p with z | z
        · exact hc u z
        · exact (pm_cov hn W hC T u z hu).2
end
