/-! roles, scopes and hops are what the tokens say: the same in every object -/
section
variable {K : Nat → Nat} {V : Nat → Int32} {n : Nat} {r r' sc sc' : Nat → Int32} {par par' : Nat → Nat}
theorem uq_r1 (W : rw_W K V (sk_f K n) n n r par) (W' : rw_W K V (sk_f K n) n n r' par') {c : Nat} (hc : c < n) (ih : ∀ m, m < c → r m = r' m) (h0 : r c ≠ 0) : r' c = r c := by
  rcases W.2.2.2.1 c hc h0 with z | ⟨z1, z2, z3, z⟩
  · subst z; rw [W.2.2.2.2, W'.2.2.2.2]
  · have e := ih (par c) z1
    rcases z with ⟨p1, z⟩ | ⟨p1, q1, q2⟩
    · have w := W'.2.1 (par c) z2 (e.symm.trans p1)
      rcases z with ⟨q1, q2⟩ | ⟨q1, q2⟩ | ⟨q1, q2⟩
      · rw [q1]; exact (w.2.1 c q2).1
      · rw [q1]; exact (w.2.2.1 c q2).1
      · rw [q1]; exact (w.2.2.2 c q2).1
    · rw [q1]; exact ((W'.2.2.1 (par c) z2 (e.symm.trans p1)).2 c q2).1
theorem uq_r (W : rw_W K V (sk_f K n) n n r par) (W' : rw_W K V (sk_f K n) n n r' par') : ∀ c, c < n → r c = r' c := by
  intro c
  induction c using Nat.strongRecOn with
  | ind c ih =>
    intro hc
    have ih' : ∀ m, m < c → r m = r' m := fun m hm => ih m hm (by omega)
    by_cases h0 : r c = 0
    · by_cases h1 : r' c = 0
      · rw [h0, h1]
      · exact uq_r1 W' W hc (fun m hm => (ih' m hm).symm) h1
    · exact (uq_r1 W W' hc ih' h0).symm
theorem uq_ls {i : Nat} (e : sc i = sc' i) : ∀ j, sc_ls K (sk_f K n) sc i j = sc_ls K (sk_f K n) sc' i j
  | 0 => e
  | _ + 1 => rfl
theorem uq_s (W : rw_W K V (sk_f K n) n n r par) (s0 : sc 0 = sc' 0) (hL : ∀ i, i < n → r i = 1 → K i = 1 → sc_L K (sk_f K n) sc i) (hL' : ∀ i, i < n → r i = 1 → K i = 1 → sc_L K (sk_f K n) sc' i) : ∀ c, c < n → r c = 1 ∨ r c = 3 → sc c = sc' c := by
  intro c
  induction c using Nat.strongRecOn with
  | ind c ih =>
    intro hc hr
    have h0 : r c ≠ 0 := by rcases hr with z | z <;> rw [z] <;> decide
    rcases W.2.2.2.1 c hc h0 with z | ⟨z1, z2, z3, z⟩
    · subst z; exact s0
    · have kp : r (par c) = 1 ∧ (gr_E K (sk_f K n) (par c) c ∨ gr_N K (sk_f K n) (par c) c) := by
        rcases z with ⟨p1, ⟨q1, q2⟩ | ⟨q1, q2⟩ | ⟨q1, q2⟩⟩ | ⟨p1, q1, q2⟩
        · exact ⟨p1, Or.inl q2⟩
        · rw [q1] at hr; exact absurd hr (by decide)
        · exact ⟨p1, Or.inr q2⟩
        · rw [q1] at hr; exact absurd hr (by decide)
      obtain ⟨p1, hg⟩ := kp
      have k1 : K (par c) = 1 := by rcases hg with g | g <;> exact g.1
      have e := ih (par c) z1 (by omega) (Or.inl p1)
      have L := hL (par c) (by omega) p1 k1
      have L' := hL' (par c) (by omega) p1 k1
      have hS := (W.2.1 (par c) (by omega) p1).1
      by_cases k79 : 7 ≤ K (par c + 1) ∧ K (par c + 1) ≤ 9
      · obtain ⟨m, m4, lc, hN, _⟩ := sc_N k1 k79.1 k79.2 hS
        obtain ⟨a1, a2, a3⟩ := L.2 k79.1 k79.2 m lc
        obtain ⟨b1, b2, b3⟩ := L'.2 k79.1 k79.2 m lc
        have el := uq_ls (K := K) (n := n) e
        rcases hg with ⟨_, g | g | g | g⟩ | g
        · omega
        · omega
        · rw [g.2.2, a2, b2]; exact el m
        · obtain ⟨k8, bb, hM, ec⟩ := g
          obtain ⟨j, hj, eb⟩ := (ls_CM lc).mp hM
          rw [ec, eb, a3 (by omega) j hj, b3 (by omega) j hj, el m, e]
        · obtain ⟨j, hj, ec⟩ := (hN c).mp g
          rw [ec, a1 j hj, b1 j hj]; exact el j
      · rcases hg with g | g
        · have k' : K (par c + 1) ≤ 6 ∨ 10 ≤ K (par c + 1) := by omega
          rw [L.1 k' c g, L'.1 k' c g]; exact e
        · rcases g with ⟨_, g | g⟩ <;> omega
theorem uq_H (hn : n ≤ 64) : ∀ {l l' : List Nat} {s : Int32}, (∀ m, m ∈ l → sc m = sc' m) → sc_H n sc l s → sc_H n sc' l' s → l = l'
  | [], [], _, _, _, _ => rfl
  | [], m :: _, _, _, h, h' => by
    have e : _ = (-1 : Int32) := h
    obtain ⟨e1, e2, _⟩ := h'
    rw [e1] at e
    exact absurd e (ni_nm1 (by omega))
  | m :: _, [], _, _, h, h' => by
    have e : _ = (-1 : Int32) := h'
    obtain ⟨e1, e2, _⟩ := h
    rw [e1] at e
    exact absurd e (ni_nm1 (by omega))
  | m :: l, m' :: l', s, hm, h, h' => by
    obtain ⟨e1, e2, h⟩ := h
    obtain ⟨e1', e2', h'⟩ := h'
    have e : m = m' := (nI_eq (by omega) (by omega)).mp (e1.symm.trans e1')
    subst e
    rw [← hm m List.mem_cons_self] at h'
    rw [uq_H hn (fun x hx => hm x (List.mem_cons_of_mem _ hx)) h h']
theorem uq_F {x : Int32} : ∀ {l : List Nat} {h h' : Nat}, sc_F V x l h → sc_F V x l h' → h = h'
  | [], _, _, a, _ => False.elim a
  | m :: l, h, h', a, b => by
    rcases a with ⟨a1, a2⟩ | ⟨a1, c, a2, a3⟩
    · rcases b with ⟨b1, b2⟩ | ⟨b1, c', b2, b3⟩
      · omega
      · exact absurd a1 b1
    · rcases b with ⟨b1, b2⟩ | ⟨b1, c', b2, b3⟩
      · exact absurd b1 a1
      · have := uq_F a3 b3; omega
theorem sc_Fl {x : Int32} : ∀ {l : List Nat} {h : Nat}, sc_F V x l h → h < l.length
  | [], _, h => False.elim h
  | m :: l, h, hF => by
    rcases hF with ⟨_, e⟩ | ⟨_, h', e, hF⟩
    · simp only [List.length_cons]; omega
    · have := sc_Fl hF
      simp only [List.length_cons]; omega
/-- the next of a list of data is one too -/
theorem ls_Mn {K a : Nat → Nat} {s p : Nat} (hM : ls_M K a s p) (hk : K (a p) ≠ 2) : ls_M K a s (a p) := by
  obtain ⟨j, e, hj⟩ := hM
  refine ⟨j + 1, by rw [it_s, e], fun j' hj' => ?_⟩
  by_cases z : j' = j + 1
  · rw [z, it_s, ← e]; exact hk
  · exact hj j' (by omega)
theorem nx_D (W : rw_W K V (sk_f K n) n n r par) {j : Nat} (hj : j < n) (hr : r j = 2) (hk : K (sk_f K n j) ≠ 2) : r (sk_f K n j) = 2 := by
  rcases W.2.2.2.1 j hj (by rw [hr]; decide) with z | ⟨z1, z2, z3, z⟩
  · subst z; rw [W.2.2.2.2] at hr; exact absurd hr (by decide)
  · rcases z with ⟨p1, ⟨q1, q2⟩ | ⟨q1, q2⟩ | ⟨q1, q2⟩⟩ | ⟨p1, q1, q2⟩
    · rw [q1] at hr; exact absurd hr (by decide)
    · exact ((W.2.1 (par j) z2 p1).2.2.1 _ ⟨q2.1, q2.2.1, ls_Mn q2.2.2 hk⟩).1
    · rw [q1] at hr; exact absurd hr (by decide)
    · exact ((W.2.2.1 (par j) z2 p1).2 _ ⟨q2.1, ls_Mn q2.2 hk⟩).1
theorem lt_dat (W : rw_W K V (sk_f K n) n n r par) (hrn : ∀ c, r c ≠ 0 → c < n) {j : Nat} (hr : r j = 2) : hp_L K r n j ∧ hp_L K r n (64 + j) := by
  have hj : j < n := hrn j (by rw [hr]; decide)
  refine ⟨Or.inl ⟨hj, ?_⟩, Or.inr ⟨j, hj, hr, rfl⟩⟩
  rcases (W.2.2.1 j hj hr).1 with z | z | z
  · exact Or.inl z
  · exact Or.inr (Or.inl z)
  · exact Or.inr (Or.inr ⟨hr, z.1⟩)
/-- the literals are values of a picture -/
theorem lt_V {vk vf vs : Nat → Int32} {nm : Nat → Nat} (hn : n ≤ 64) (W : rw_W K V (sk_f K n) n n r par) (hrn : ∀ c, r c ≠ 0 → c < n) (L : lt_L K V (sk_f K n) r vk vf vs n) (i : Nat) (hi : hp_L K r n i) : i < 128 ∧ hp_V K r sc n (hp_L K r n) nm 0 vk vf vs i := by
  rcases hi with ⟨hi, k3 | k5 | ⟨hr, k1⟩⟩ | ⟨j, hj, hr, e⟩
  · exact ⟨by omega, Or.inl ((L i hi).1 k3).1⟩
  · exact ⟨by omega, Or.inr (Or.inl ((L i hi).2.1 k5))⟩
  · refine ⟨by omega, ?_⟩
    have P := (L i hi).2.2.1 hr k1
    by_cases z : K (i + 1) = 2
    · exact Or.inr (Or.inl (P.1 z))
    · have q := P.2 z
      have r1 : r (i + 1) = 2 := ((W.2.2.1 i hi hr).2 _ ⟨k1, ls_M_0 z⟩).1
      have d := lt_dat W hrn r1
      exact Or.inr (Or.inr (Or.inl ⟨q.1, _, _, q.2.1, q.2.2, d.1, d.2⟩))
  · refine ⟨by omega, ?_⟩
    subst e
    have P := (L j hj).2.2.2 hr
    by_cases z : K (sk_f K n j) = 2
    · exact Or.inr (Or.inl (P.1 z))
    · have q := P.2 z
      have d := lt_dat W hrn (nx_D W hj hr z)
      exact Or.inr (Or.inr (Or.inl ⟨q.1, _, _, q.2.1, q.2.2, d.1, d.2⟩))
/-- two objects' literals agree -/
theorem lt_ag {vk vf vs vk' vf' vs' : Nat → Int32} (L : lt_L K V (sk_f K n) r vk vf vs n) (L' : lt_L K V (sk_f K n) r vk' vf' vs' n) (i : Nat) (hi : hp_L K r n i) : ag_V vk vf vs vk' vf' vs' i := by
  have key : ∀ e, lt_P K vk vf vs i e → lt_P K vk' vf' vs' i e → ag_V vk vf vs vk' vf' vs' i := fun e P P' => by
    by_cases z : K e = 2
    · have a := P.1 z
      have b := P'.1 z
      exact ⟨b.trans a.symm, fun w => absurd a w, fun w => by rw [a] at w; exact absurd w (by decide)⟩
    · have a := P.2 z
      have b := P'.2 z
      exact ⟨b.1.trans a.1.symm, fun _ => b.2.1.trans a.2.1.symm, fun _ => b.2.2.trans a.2.2.symm⟩
  rcases hi with ⟨hi, k3 | k5 | ⟨hr, k1⟩⟩ | ⟨j, hj, hr, e⟩
  · have a := (L i hi).1 k3
    have b := (L' i hi).1 k3
    exact ⟨b.1.trans a.1.symm, fun _ => b.2.trans a.2.symm, fun w => by rw [a.1] at w; exact absurd w (by decide)⟩
  · have a := (L i hi).2.1 k5
    have b := (L' i hi).2.1 k5
    exact ⟨b.trans a.symm, fun w => absurd a w, fun w => by rw [a] at w; exact absurd w (by decide)⟩
  · exact key _ ((L i hi).2.2.1 hr k1) ((L' i hi).2.2.1 hr k1)
  · subst e
    exact key _ ((L j hj).2.2.2 hr) ((L' j hj).2.2.2 hr)
end
