/-! a check of concrete tokens, by computing -/
theorem ck_and {a b : Bool} (h : (a && b) = true) : a = true ∧ b = true := by
  cases a with
  | false => exact absurd h Bool.false_ne_true
  | true => exact ⟨rfl, h⟩
theorem ck_or {a b : Bool} (h : (a || b) = true) : a = true ∨ b = true := by
  cases a with
  | false => exact Or.inr h
  | true => exact Or.inl rfl
def ck_al (p : Nat → Bool) : Nat → Bool
  | 0 => true
  | n + 1 => p n && ck_al p n
def ck_an (p : Nat → Bool) : Nat → Bool
  | 0 => false
  | n + 1 => p n || ck_an p n
theorem ck_alS {p : Nat → Bool} : ∀ {n : Nat}, ck_al p n = true → ∀ i, i < n → p i = true
  | 0, _, i, hi => by omega
  | n + 1, h, i, hi => by
    obtain ⟨a, b⟩ := ck_and h
    by_cases z : i = n
    · rw [z]; exact a
    · exact ck_alS b i (by omega)
theorem ck_anS {p : Nat → Bool} : ∀ {n : Nat}, ck_an p n = true → ∃ i, i < n ∧ p i = true
  | 0, h => absurd h Bool.false_ne_true
  | n + 1, h => by
    rcases ck_or h with a | a
    · exact ⟨n, by omega, a⟩
    · obtain ⟨i, b, c⟩ := ck_anS a
      exact ⟨i, by omega, c⟩
/-- a list of tokens, the last first: kinds and names; a table of ends -/
def ck_g : List (Nat × Nat) → Nat → Nat × Nat
  | [], _ => (0, 0)
  | x :: _, 0 => x
  | _ :: l, i + 1 => ck_g l i
def ck_h : List Nat → Nat → Nat → Nat
  | [], _, d => d
  | x :: _, 0, _ => x
  | _ :: l, i + 1, d => ck_h l i d
theorem ck_ho : ∀ {l : List Nat} {i d : Nat}, l.length ≤ i → ck_h l i d = d
  | [], _, _, _ => rfl
  | x :: l, 0, d, h => by simp at h
  | x :: l, i + 1, d, h => by
    simp only [List.length_cons] at h
    exact ck_ho (l := l) (by omega)
def ck_k (c : List (Nat × Nat)) (n i : Nat) : Nat := if i < n then (ck_g c (n - 1 - i)).1 else 0
def ck_v (c : List (Nat × Nat)) (n i : Nat) : Nat := (ck_g c (n - 1 - i)).2
def ck_a (t : List Nat) (i : Nat) : Nat := ck_h t i (i + 1)
/-- the depth comes back to its start at the end, not before -/
def ck_s (K : Nat → Nat) : Nat → Nat → Nat → Bool
  | 0, _, d => decide (d = 0)
  | f + 1, p, d => if d = 0 then false else if K p = 1 then ck_s K f (p + 1) (d + 1) else if K p = 2 then ck_s K f (p + 1) (d - 1) else ck_s K f (p + 1) d
theorem ck_sS {K : Nat → Nat} {e : Int} : ∀ (f p d : Nat), ck_s K f p d = true → dp_d K p = e + d → dp_d K (p + f) = e ∧ ∀ m, p ≤ m → m < p + f → e < dp_d K m
  | 0, p, d, h, hd => by
    have z : d = 0 := of_decide_eq_true h
    refine ⟨?_, fun m a b => by omega⟩
    rw [Nat.add_zero, hd, z]
    omega
  | f + 1, p, d, h, hd => by
    have h : (if d = 0 then false else if K p = 1 then ck_s K f (p + 1) (d + 1) else if K p = 2 then ck_s K f (p + 1) (d - 1) else ck_s K f (p + 1) d) = true := h
    by_cases z : d = 0
    · rw [if_pos z] at h; exact absurd h Bool.false_ne_true
    · rw [if_neg z] at h
      have key : ∀ d' : Nat, ck_s K f (p + 1) d' = true → dp_d K (p + 1) = e + d' → dp_d K (p + (f + 1)) = e ∧ ∀ m, p ≤ m → m < p + (f + 1) → e < dp_d K m := by
        intro d' h' e'
        obtain ⟨a, b⟩ := ck_sS f (p + 1) d' h' e'
        rw [show p + (f + 1) = p + 1 + f from by omega]
        refine ⟨a, fun m x y => ?_⟩
        by_cases w : m = p
        · rw [w, hd]; omega
        · exact b m (by omega) y
      by_cases k1 : K p = 1
      · rw [if_pos k1] at h
        exact key _ h (by rw [dp_1 k1, hd]; omega)
      · rw [if_neg k1] at h
        by_cases k2 : K p = 2
        · rw [if_pos k2] at h
          exact key _ h (by rw [dp_2 k2, hd]; omega)
        · rw [if_neg k2] at h
          exact key _ h (by rw [dp_0 k1 k2]; exact hd)
theorem ck_I {K : Nat → Nat} {i j : Nat} (k1 : K i = 1) (hj : i + 1 < j) (h : ck_s K (j - (i + 1)) (i + 1) 1 = true) : dp_I K i j := by
  obtain ⟨a, b⟩ := ck_sS (e := dp_d K i) _ _ _ h (by have := dp_1 k1; omega)
  rw [show i + 1 + (j - (i + 1)) = j from by omega] at a b
  exact ⟨by omega, a, fun m x y => b m (by omega) y⟩
def ck_t (K A : Nat → Nat) (n : Nat) : Bool := ck_al (fun i => if K i = 1 then decide (i + 1 < A i) && ck_s K (A i - (i + 1)) (i + 1) 1 else decide (A i = i + 1)) n
section
variable {K A nm : Nat → Nat} {V : Nat → Int32} {n : Nat}
theorem ck_tS (h : ck_t K A n = true) (hn : ∀ i, n ≤ i → K i = 0 ∧ A i = i + 1) : sk_f K n = A := by
  have key : ∀ i, i < n → (if K i = 1 then decide (i + 1 < A i) && ck_s K (A i - (i + 1)) (i + 1) 1 else decide (A i = i + 1)) = true := fun i hi => ck_alS h i hi
  funext i
  by_cases k1 : K i = 1
  · have hi : i < n := by
      rcases Nat.lt_or_ge i n with z | z
      · exact z
      · have := (hn i z).1; omega
    have q := key i hi
    rw [if_pos k1] at q
    obtain ⟨a, b⟩ := ck_and q
    exact sk_I (ck_I k1 (of_decide_eq_true a) b)
  · rw [sk_at k1]
    rcases Nat.lt_or_ge i n with z | z
    · have q := key i z
      rw [if_neg k1] at q
      exact (of_decide_eq_true q).symm
    · exact (hn i z).2.symm
end
/-- the list from s has c items -/
def ck_C (K A : Nat → Nat) : Nat → Nat → Bool
  | 0, s => decide (K s = 2)
  | c + 1, s => decide (K s ≠ 2) && ck_C K A c (A s)
def ck_E (A : Nat → Nat) (f : Nat → Bool) : Nat → Nat → Bool
  | 0, _ => true
  | c + 1, s => f s && ck_E A f c (A s)
def ck_n (K A : Nat → Nat) : Nat → Nat → Nat
  | 0, _ => 0
  | f + 1, s => if K s = 2 then 0 else ck_n K A f (A s) + 1
def ck_P (K nm : Nat → Nat) (q c : Nat) : Bool := decide (c ≤ 4) && ck_al (fun j => decide (K (q + 1 + j) = 4)) c && decide (K (q + 1 + c) = 2) && ck_al (fun j' => ck_al (fun j => decide (nm (q + 1 + j) ≠ nm (q + 1 + j'))) j') c
def ck_U (K A nm : Nat → Nat) (st s : Nat) : Bool := ck_al (fun k => ck_an (fun k' => decide (¬ it_f A k' (st + 1) < s - 1)) (k + 1) || decide (K (it_f A k (st + 1) + 1) = 4 ∧ nm (it_f A k (st + 1) + 1) ≠ nm s)) 4
def ck_b (K A nm : Nat → Nat) (h st b : Nat) : Bool := decide (K b = 1 ∧ K (b + 1) = 4 ∧ (h = 9 → K (b + 2) = 1 ∧ K (b + 3) = 7)) && ck_C K A 2 (b + 1) && ck_U K A nm st (b + 1)
def ck_F (K A nm : Nat → Nat) (e d : Nat → Bool) (i : Nat) : Bool :=
  if K (i + 1) < 6 then decide (1 ≤ ck_n K A 6 (i + 1) ∧ ck_n K A 6 (i + 1) ≤ 5) && ck_C K A (ck_n K A 6 (i + 1)) (i + 1) && ck_E A e (ck_n K A 6 (i + 1)) (i + 1)
  else if K (i + 1) = 6 then ck_C K A 1 (i + 2) && d (i + 2)
  else if K (i + 1) = 7 then decide (K (i + 2) = 1) && ck_C K A 2 (i + 2) && ck_P K nm (i + 2) (ck_n K A 6 (i + 3)) && e (A (i + 2))
  else if K (i + 1) ≤ 9 then decide (K (i + 2) = 1 ∧ 1 ≤ ck_n K A 6 (i + 3) ∧ ck_n K A 6 (i + 3) ≤ 4) && ck_C K A 2 (i + 2) && ck_C K A (ck_n K A 6 (i + 3)) (i + 3) && ck_E A (fun b => ck_b K A nm (K (i + 1)) (i + 2) b && e (b + 2)) (ck_n K A 6 (i + 3)) (i + 3) && e (A (i + 2))
  else ck_C K A (gr_n (K (i + 1))) (i + 2) && ck_E A e (gr_n (K (i + 1))) (i + 2)
def ck_e (K A nm : Nat → Nat) (e d : Nat → Bool) (i : Nat) : Bool := if K i = 3 ∨ K i = 4 ∨ K i = 5 then true else if K i = 1 then ck_F K A nm e d i else false
def ck_d (K A : Nat → Nat) (d : Nat → Bool) (i : Nat) : Bool := if K i = 3 ∨ K i = 5 then true else if K i = 1 then ck_C K A (ck_n K A 6 (i + 1)) (i + 1) && ck_E A d (ck_n K A 6 (i + 1)) (i + 1) else false
def ck_X (K A nm : Nat → Nat) : Nat → Bool → Nat → Bool
  | 0, _, _ => false
  | k + 1, true, i => ck_e K A nm (ck_X K A nm k true) (ck_X K A nm k false) i
  | k + 1, false, i => ck_d K A (ck_X K A nm k false) i
section
variable {K A nm : Nat → Nat} {V : Nat → Int32} {n : Nat}
theorem ck_CS : ∀ (c s : Nat), ck_C K A c s = true → ls_C K A s c
  | 0, s, h => ls_C_0 (of_decide_eq_true h)
  | c + 1, s, h => by
    obtain ⟨a, b⟩ := ck_and h
    exact ls_C_s (of_decide_eq_true a) (ck_CS c (A s) b)
theorem ck_ES {f : Nat → Bool} : ∀ (c s : Nat), ck_E A f c s = true → ∀ j, j < c → f (it_f A j s) = true
  | 0, s, h, j, hj => by omega
  | c + 1, s, h, 0, hj => (ck_and h).1
  | c + 1, s, h, j + 1, hj => ck_ES c (A s) (ck_and h).2 j (by omega)
theorem ck_Em {f : Nat → Bool} {s c p : Nat} (l : ls_C K A s c) (h : ck_E A f c s = true) (hp : ls_M K A s p) : f p = true := by
  obtain ⟨j, hj, e⟩ := (ls_CM l).mp hp
  rw [e]; exact ck_ES c s h j hj
theorem ck_PS {q c : Nat} (hV : ∀ i, K i = 4 → V i = nI (nm i) ∧ nm i < 2 ^ 31) (h : ck_P K nm q c = true) : gr_P K V q c := by
  obtain ⟨h, h4⟩ := ck_and h
  obtain ⟨h, h3⟩ := ck_and h
  obtain ⟨h1, h2⟩ := ck_and h
  have k4 : ∀ j, j < c → K (q + 1 + j) = 4 := fun j hj => by
    have z := ck_alS h2 j hj
    exact of_decide_eq_true z
  refine ⟨of_decide_eq_true h1, k4, of_decide_eq_true h3, fun j j' a b e => ?_⟩
  have v := hV _ (k4 j (by omega))
  have v' := hV _ (k4 j' b)
  rw [v.1, v'.1] at e
  have q1 := ck_alS h4 j' b
  have q2 := ck_alS q1 j a
  have ne : nm (q + 1 + j) ≠ nm (q + 1 + j') := of_decide_eq_true q2
  exact ne ((nI_eq v.2 v'.2).mp e)
theorem ck_US {st s : Nat} (hV : ∀ i, K i = 4 → V i = nI (nm i) ∧ nm i < 2 ^ 31) (hs : K s = 4) (h : ck_U K A nm st s = true) : ¬ gr_dup V A st s := by
  rintro ⟨k, k4, hlt, e⟩
  have q := ck_alS h k k4
  rcases ck_or q with z | z
  · obtain ⟨k', a, b⟩ := ck_anS z
    have b' : ¬ it_f A k' (st + 1) < s - 1 := of_decide_eq_true b
    exact b' (hlt k' (by omega))
  · have z' : K (it_f A k (st + 1) + 1) = 4 ∧ nm (it_f A k (st + 1) + 1) ≠ nm s := of_decide_eq_true z
    have v := hV _ z'.1
    have v' := hV s hs
    rw [v.1, v'.1] at e
    exact z'.2 ((nI_eq v.2 v'.2).mp e)
theorem ck_bS {h st b : Nat} (hV : ∀ i, K i = 4 → V i = nI (nm i) ∧ nm i < 2 ^ 31) (hb : ck_b K A nm h st b = true) : gr_BS K V A h st b := by
  obtain ⟨hb, h3⟩ := ck_and hb
  obtain ⟨h1, h2⟩ := ck_and hb
  have z : K b = 1 ∧ K (b + 1) = 4 ∧ (h = 9 → K (b + 2) = 1 ∧ K (b + 3) = 7) := of_decide_eq_true h1
  exact ⟨z.1, ck_CS _ _ h2, z.2.1, ck_US hV z.2.1 h3, z.2.2⟩
theorem ck_FS {E D : Nat → Prop} {e d : Nat → Bool} {i : Nat} (hV : ∀ i, K i = 4 → V i = nI (nm i) ∧ nm i < 2 ^ 31) (hE : ∀ c, e c = true → E c) (hD : ∀ c, d c = true → D c) (k1 : K i = 1) (h : ck_F K A nm e d i = true) : gr_EC K V A E D i := by
  unfold ck_F at h
  by_cases z5 : K (i + 1) < 6
  · rw [if_pos z5] at h
    obtain ⟨h, h3⟩ := ck_and h
    obtain ⟨h1, h2⟩ := ck_and h
    have b : 1 ≤ ck_n K A 6 (i + 1) ∧ ck_n K A 6 (i + 1) ≤ 5 := of_decide_eq_true h1
    have l := ck_CS _ _ h2
    refine ⟨Or.inr (Or.inr (Or.inr ⟨k1, Or.inr (Or.inr (Or.inr (Or.inr ⟨z5, ck_n K A 6 (i + 1) - 1, by omega, ?_⟩)))⟩)), fun c hc => ?_, fun c hc => ?_⟩
    · rw [show ck_n K A 6 (i + 1) - 1 + 1 = ck_n K A 6 (i + 1) from by omega]; exact l
    · obtain ⟨_, q⟩ := hc
      rcases q with ⟨q, _⟩ | ⟨_, q⟩ | ⟨q, _, _⟩ | ⟨q, _⟩
      · omega
      · exact hE _ (ck_Em l h3 q)
      · omega
      · omega
    · have := hc.2.1; omega
  · rw [if_neg z5] at h
    by_cases z6 : K (i + 1) = 6
    · rw [if_pos z6] at h
      obtain ⟨h1, h2⟩ := ck_and h
      have l := ck_CS _ _ h1
      refine ⟨Or.inr (Or.inr (Or.inr ⟨k1, Or.inl ⟨z6, l⟩⟩)), fun c hc => ?_, fun c hc => ?_⟩
      · obtain ⟨_, q⟩ := hc
        rcases q with ⟨q, _⟩ | ⟨q, _⟩ | ⟨q, _, _⟩ | ⟨q, _⟩ <;> omega
      · obtain ⟨j, hj, ej⟩ := (ls_CM l).mp hc.2.2
        have : j = 0 := by omega
        subst this
        rw [ej]; exact hD _ h2
    · rw [if_neg z6] at h
      by_cases z7 : K (i + 1) = 7
      · rw [if_pos z7] at h
        obtain ⟨h, h4⟩ := ck_and h
        obtain ⟨h, h3⟩ := ck_and h
        obtain ⟨h1, h2⟩ := ck_and h
        have l := ck_CS _ _ h2
        refine ⟨Or.inr (Or.inr (Or.inr ⟨k1, Or.inr (Or.inl ⟨z7, l, of_decide_eq_true h1, _, ck_PS hV h3⟩)⟩)), fun c hc => ?_, fun c hc => ?_⟩
        · obtain ⟨_, q⟩ := hc
          rcases q with ⟨q, _⟩ | ⟨q, _⟩ | ⟨_, _, q⟩ | ⟨q, _⟩
          · omega
          · omega
          · rw [q]; exact hE _ h4
          · omega
        · have := hc.2.1; omega
      · rw [if_neg z7] at h
        by_cases z9 : K (i + 1) ≤ 9
        · rw [if_pos z9] at h
          obtain ⟨h, h5⟩ := ck_and h
          obtain ⟨h, h4⟩ := ck_and h
          obtain ⟨h, h3⟩ := ck_and h
          obtain ⟨h1, h2⟩ := ck_and h
          have b : K (i + 2) = 1 ∧ 1 ≤ ck_n K A 6 (i + 3) ∧ ck_n K A 6 (i + 3) ≤ 4 := of_decide_eq_true h1
          have l2 := ck_CS _ _ h2
          have l := ck_CS _ _ h3
          refine ⟨Or.inr (Or.inr (Or.inr ⟨k1, Or.inr (Or.inr (Or.inl ⟨by omega, l2, b.1, _, b.2.1, b.2.2, l, fun j hj => ?_⟩))⟩)), fun c hc => ?_, fun c hc => ?_⟩
          · have hb := ck_ES _ _ h4 j hj
            exact ck_bS hV (ck_and hb).1
          · obtain ⟨_, q⟩ := hc
            rcases q with ⟨q, _⟩ | ⟨q, _⟩ | ⟨_, _, q⟩ | ⟨_, bb, q, q2⟩
            · omega
            · omega
            · rw [q]; exact hE _ h5
            · have hb := ck_Em l h4 q
              rw [q2]; exact hE _ (ck_and hb).2
          · have := hc.2.1; omega
        · rw [if_neg z9] at h
          obtain ⟨h1, h2⟩ := ck_and h
          have l := ck_CS _ _ h1
          refine ⟨Or.inr (Or.inr (Or.inr ⟨k1, Or.inr (Or.inr (Or.inr (Or.inl ⟨by omega, l⟩)))⟩)), fun c hc => ?_, fun c hc => ?_⟩
          · obtain ⟨_, q⟩ := hc
            rcases q with ⟨_, q⟩ | ⟨q, _⟩ | ⟨_, q, _⟩ | ⟨q, _⟩
            · exact hE _ (ck_Em l h2 q)
            · omega
            · omega
            · omega
          · have := hc.2.1; omega
theorem ck_eS {E D : Nat → Prop} {e d : Nat → Bool} {i : Nat} (hV : ∀ i, K i = 4 → V i = nI (nm i) ∧ nm i < 2 ^ 31) (hE : ∀ c, e c = true → E c) (hD : ∀ c, d c = true → D c) (h : ck_e K A nm e d i = true) : gr_EC K V A E D i := by
  unfold ck_e at h
  by_cases z : K i = 3 ∨ K i = 4 ∨ K i = 5
  · refine ⟨by unfold gr_SH; omega, fun c hc => ?_, fun c hc => ?_⟩
    · have := hc.1; omega
    · have := hc.1; omega
  · rw [if_neg z] at h
    by_cases k1 : K i = 1
    · rw [if_pos k1] at h; exact ck_FS hV hE hD k1 h
    · rw [if_neg k1] at h; exact absurd h Bool.false_ne_true
theorem ck_dS {D : Nat → Prop} {d : Nat → Bool} {i : Nat} (hD : ∀ c, d c = true → D c) (h : ck_d K A d i = true) : gr_DC K A D i := by
  unfold ck_d at h
  by_cases z : K i = 3 ∨ K i = 5
  · refine ⟨by unfold gr_DS; omega, fun c hc => ?_⟩
    have := hc.1; omega
  · rw [if_neg z] at h
    by_cases k1 : K i = 1
    · rw [if_pos k1] at h
      obtain ⟨h1, h2⟩ := ck_and h
      have l := ck_CS _ _ h1
      exact ⟨Or.inr (Or.inr ⟨k1, _, l⟩), fun c hc => hD _ (ck_Em l h2 hc.2)⟩
    · rw [if_neg k1] at h; exact absurd h Bool.false_ne_true
theorem ck_XS (hV : ∀ i, K i = 4 → V i = nI (nm i) ∧ nm i < 2 ^ 31) : ∀ (k : Nat) (b : Bool) (i : Nat), ck_X K A nm k b i = true → gr_X K V A k b i
  | 0, _, _, h => absurd h Bool.false_ne_true
  | k + 1, true, i, h => ck_eS hV (fun c => ck_XS hV k true c) (fun c => ck_XS hV k false c) h
  | k + 1, false, i, h => ck_dS (fun c => ck_XS hV k false c) h
end
/-! the names: bound, or names of binders -/
def ck_M (K A : Nat → Nat) : Nat → Nat → Nat → Bool
  | 0, _, _ => false
  | f + 1, s, p => decide (K s ≠ 2) && (decide (p = s) || ck_M K A f (A s) p)
def ck_N (K A : Nat → Nat) (j m : Nat) : Bool := decide (K j = 1) && ((decide (K (j + 1) = 7) && ck_M K A 5 (j + 3) m) || (decide ((K (j + 1) = 8 ∨ K (j + 1) = 9) ∧ 1 ≤ m) && ck_M K A 5 (j + 3) (m - 1)))
def ck_B (K A nm : Nat → Nat) (n i j : Nat) : Bool := decide (j < i ∧ K j = 1 ∧ 7 ≤ K (j + 1) ∧ K (j + 1) ≤ 9 ∧ i < A j ∧ (K (j + 1) = 9 ∨ A (j + 2) ≤ i)) && ck_an (fun m => decide (K m = 4 ∧ nm m = nm i) && ck_N K A j m) n
def ck_S (K A nm : Nat → Nat) (n : Nat) : Bool := ck_al (fun i => decide (K i ≠ 4) || (ck_an (fun j => ck_N K A j i) n || ck_an (fun j => ck_B K A nm n i j) n)) n
section
variable {K A nm : Nat → Nat} {V : Nat → Int32} {n : Nat}
theorem ck_MS : ∀ (f s p : Nat), ck_M K A f s p = true → ls_M K A s p
  | 0, _, _, h => absurd h Bool.false_ne_true
  | f + 1, s, p, h => by
    obtain ⟨a, b⟩ := ck_and h
    have a' : K s ≠ 2 := of_decide_eq_true a
    rcases ck_or b with z | z
    · have e : p = s := of_decide_eq_true z
      rw [e]; exact ls_M_0 a'
    · exact ls_M_s a' (ck_MS f (A s) p z)
theorem ck_NS {j m : Nat} (h : ck_N K A j m = true) : gr_N K A j m := by
  obtain ⟨a, b⟩ := ck_and h
  refine ⟨of_decide_eq_true a, ?_⟩
  rcases ck_or b with z | z
  · obtain ⟨z1, z2⟩ := ck_and z
    exact Or.inl ⟨of_decide_eq_true z1, ck_MS _ _ _ z2⟩
  · obtain ⟨z1, z2⟩ := ck_and z
    have z1 : (K (j + 1) = 8 ∨ K (j + 1) = 9) ∧ 1 ≤ m := of_decide_eq_true z1
    exact Or.inr ⟨z1.1, m - 1, ck_MS _ _ _ z2, by omega⟩
theorem ck_SS (hV : ∀ i, K i = 4 → V i = nI (nm i) ∧ nm i < 2 ^ 31) (h : ck_S K A nm n = true) {i : Nat} (hi : i < n) (k4 : K i = 4) : (∃ j, gr_N K A j i) ∨ sc_B K V A i (V i) := by
  have q := ck_alS h i hi
  rcases ck_or q with z | z
  · have z' : K i ≠ 4 := of_decide_eq_true z
    exact absurd k4 z'
  · rcases ck_or z with z | z
    · obtain ⟨j, _, b⟩ := ck_anS z
      exact Or.inl ⟨j, ck_NS b⟩
    · obtain ⟨j, _, b⟩ := ck_anS z
      obtain ⟨b1, b2⟩ := ck_and b
      have b1 : j < i ∧ K j = 1 ∧ 7 ≤ K (j + 1) ∧ K (j + 1) ≤ 9 ∧ i < A j ∧ (K (j + 1) = 9 ∨ A (j + 2) ≤ i) := of_decide_eq_true b1
      obtain ⟨m, _, b3⟩ := ck_anS b2
      obtain ⟨b3, b4⟩ := ck_and b3
      have b3 : K m = 4 ∧ nm m = nm i := of_decide_eq_true b3
      obtain ⟨c1, c2, c3, c4, c5, c6⟩ := b1
      refine Or.inr ⟨j, c1, c2, c3, c4, c5, ⟨m, ck_NS b4, ?_⟩, c6⟩
      rw [(hV m b3.1).1, (hV i k4).1, b3.2]
end
def ck_T (c : List (Nat × Nat)) (t : List Nat) (n : Nat) : Bool :=
  decide (t.length = n ∧ 0 < n ∧ n ≤ 64 ∧ ck_a t 0 = n) && ck_al (fun i => decide (1 ≤ ck_k c n i ∧ ck_k c n i ≤ 20 ∧ ck_v c n i < 1000)) n && ck_t (ck_k c n) (ck_a t) n && ck_X (ck_k c n) (ck_a t) (ck_v c n) 20 true 0 && ck_S (ck_k c n) (ck_a t) (ck_v c n) n
theorem ck_TS {c : List (Nat × Nat)} {t : List Nat} {n : Nat} {tk tv : Nat → Int32} (h : ck_T c t n = true) (hk : ∀ i, i < n → tk i = nI (ck_k c n i)) (hv : ∀ i, i < n → ck_k c n i = 4 → tv i = nI (ck_v c n i)) :
    tk_ok tk n ∧ 0 < n ∧ sk_f (tk_K tk n) n 0 = n ∧ gr_X (tk_K tk n) tv (sk_f (tk_K tk n) n) 20 true 0 ∧ ∀ i, i < n → tk_K tk n i = 4 → (∃ j, gr_N (tk_K tk n) (sk_f (tk_K tk n) n) j i) ∨ sc_B (tk_K tk n) tv (sk_f (tk_K tk n) n) i (tv i) := by
  obtain ⟨h, h5⟩ := ck_and h
  obtain ⟨h, h4⟩ := ck_and h
  obtain ⟨h, h3⟩ := ck_and h
  obtain ⟨h1, h2⟩ := ck_and h
  have z : t.length = n ∧ 0 < n ∧ n ≤ 64 ∧ ck_a t 0 = n := of_decide_eq_true h1
  have b : ∀ i, i < n → 1 ≤ ck_k c n i ∧ ck_k c n i ≤ 20 ∧ ck_v c n i < 1000 := fun i hi => by
    have q := ck_alS h2 i hi
    exact of_decide_eq_true q
  have eK : tk_K tk n = ck_k c n := by
    funext i
    unfold tk_K
    by_cases w : i < n
    · have := b i w
      rw [if_pos w, hk i w, nI_clamp (by omega)]
    · rw [if_neg w]
      unfold ck_k
      rw [if_neg w]
  have hlt : ∀ i, ck_k c n i ≠ 0 → i < n := fun i hi => by
    rcases Nat.lt_or_ge i n with w | w
    · exact w
    · exact absurd (if_neg (by omega)) hi
  have eA : sk_f (ck_k c n) n = ck_a t := ck_tS h3 (fun i hi => ⟨if_neg (by omega), ck_ho (by omega)⟩)
  have hV : ∀ i, ck_k c n i = 4 → tv i = nI (ck_v c n i) ∧ ck_v c n i < 2 ^ 31 := fun i hi => by
    have w := hlt i (by omega)
    have := b i w
    exact ⟨hv i w hi, by omega⟩
  rw [eK, eA]
  refine ⟨⟨z.2.2.1, fun i hi => ⟨_, (b i hi).1, (b i hi).2.1, hk i hi⟩⟩, z.2.1, z.2.2.2, ck_XS hV 20 true 0 h4, fun i hi k4 => ck_SS hV h5 hi k4⟩
section
variable {xdl xtn xpp xvc xcc xfc xoc xag xan xex xen xfl xac xst xsp xmd xrt xcu : Int32} {xtk xtv xaf xro xsc xho xvk xvf xvs xcv xco xff xfp xfe xfb xop : Nat → Int32} {n : Nat}
/-- tokens that pass the check compile -/
theorem cq_comp {c : List (Nat × Nat)} {t : List Nat} (hT : ck_T c t n = true) (hk : ∀ i, i < n → xtk i = nI (ck_k c n i)) (hv : ∀ i, i < n → ck_k c n i = 4 → xtv i = nI (ck_v c n i)) {post : Int32 → SX → Prop}
    (h3 : ∀ af ro sc ho vk vf vs, cp_P xtk xtv n af ro sc ho vk vf vs → post 0 (xdl, nI n, 1, xvc, xcc, xfc, xoc, xag, xan, xex, xen, xfl, xac, -1, 0, 0, -1, -1, xtk, xtv, af, ro, sc, ho, vk, vf, vs, xcv, xco, xff, xfp, xfe, xfb, xop)) : wpX_compile post (xdl, nI n, xpp, xvc, xcc, xfc, xoc, xag, xan, xex, xen, xfl, xac, xst, xsp, xmd, xrt, xcu, xtk, xtv, xaf, xro, xsc, xho, xvk, xvf, xvs, xcv, xco, xff, xfp, xfe, xfb, xop) := by
  obtain ⟨H, n0, s0, gx, nb⟩ := ck_TS hT hk hv
  refine xc_comp H (fun af ro w => absurd ⟨n0, s0, gx⟩ (w 20)) (fun af ro sc ho par _ _ A W hC w => ?_) h3
  exfalso
  obtain ⟨i, hi, r1, k4, nB⟩ := w
  rcases nb i hi k4 with ⟨j, hN⟩ | hB
  · have k1 := hN.1
    have k79 : 7 ≤ tk_K xtk n (j + 1) ∧ tk_K xtk n (j + 1) ≤ 9 := by
      rcases hN.2 with ⟨q, _⟩ | ⟨q, _⟩ <;> omega
    have hj : j < n := tk_lt (tk := xtk) (by omega)
    have q := ((W.2.1 j hj (hC j k1 k79.1 k79.2)).2.2.2 i hN).1
    rw [r1] at q
    exact absurd q (by decide)
  · exact nB hB
end
