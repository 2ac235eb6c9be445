/-! the component's walk of roles, purely -/
section
variable {K : Nat → Nat} {V : Nat → Int32} {n : Nat}
theorem dp_cst (hn : ∀ i, n ≤ i → K i = 0) : ∀ d, dp_d K (n + d) = dp_d K n
  | 0 => rfl
  | d + 1 => by
    have h := hn (n + d) (by omega)
    rw [show n + (d + 1) = n + d + 1 from rfl, dp_0 (by omega) (by omega)]
    exact dp_cst hn d
theorem dp_le (hn : ∀ i, n ≤ i → K i = 0) {i j : Nat} (h : dp_I K i j) (hi : i < n) : j ≤ n := by
  rcases Nat.lt_or_ge n j with z | z
  · have h1 := h.2.2 n hi z
    have h2 := dp_cst hn (j - n)
    rw [show n + (j - n) = j from by omega, h.2.1] at h2
    omega
  · exact z
/-- a later place of no greater depth lies behind the item -/
theorem dp_aft {c c' j : Nat} (h : dp_I K c j) (hd : dp_d K c' ≤ dp_d K c) (hc : c < c') : j ≤ c' := by
  rcases Nat.lt_or_ge c' j with z | z
  · have := h.2.2 c' hc z; omega
  · exact z
theorem ls_Min {i s p : Nat} (hI : dp_I K i (sk_f K n i)) (h1 : K i = 1) (hL : dp_L K (i + 1) s) (hs : s < sk_f K n i) (hM : ls_M K (sk_f K n) s p) :
    s ≤ p ∧ dp_I K p (sk_f K n p) ∧ sk_f K n p < sk_f K n i ∧ dp_d K p = dp_d K i + 1 := by
  obtain ⟨c, lc, _, _, hx⟩ := ls_ex (n := n) hI h1 _ s (Nat.le_refl _) hL hs
  obtain ⟨j, hj, e⟩ := (ls_CM lc).mp hM
  have hl := ls_L (K := K) (a := sk_f K n) (s := s) (c := j) (fun x hx' => hx x (by omega))
  have d1 := dp_1 h1
  have hpI := hx j hj
  rw [← e] at hl hpI
  have l1 := hl.1
  have l2 := hl.2.1
  have l3 := hL.2.1
  have l4 := hL.1
  refine ⟨l1, hpI, ?_, by omega⟩
  -- the item ends inside
  have hpi : i < p := by omega
  have hpn : p < sk_f K n i := by
    rcases Nat.lt_or_ge p (sk_f K n i) with z | z
    · exact z
    · have q := dp_L_t hL hl
      have := q.2.2 (sk_f K n i) (by have := hI.1; have := dp_I_1 hI h1; omega) z
      have := hI.2.1
      omega
  exact dp_nest hI hpi hpn hpI
theorem gr_FSof {i : Nat} (h : gr_SH K V (sk_f K n) i) (h1 : K i = 1) : gr_FS K V (sk_f K n) i (K (i + 1)) := by
  rcases h with z | z | z | z
  · omega
  · omega
  · omega
  · exact z.2
/-- the parts of a form with a keyword lie behind it -/
theorem gr_s2 {i : Nat} (hI : dp_I K i (sk_f K n i)) (h1 : K i = 1) (h6 : 6 ≤ K (i + 1)) : i + 2 < sk_f K n i ∧ dp_L K (i + 1) (i + 2) := by
  have a := dp_I_1 hI h1
  have b := gr_kw h6
  refine ⟨?_, b⟩
  rcases Nat.lt_or_ge (i + 2) (sk_f K n i) with z | z
  · exact z
  · have e : sk_f K n i = i + 2 := by omega
    have d1 := dp_1 h1
    have := b.2.1
    have := hI.2.1
    rw [e] at this
    omega
def gr_Ch (K a : Nat → Nat) (i c : Nat) : Prop := gr_E K a i c ∨ gr_D K a i c ∨ gr_N K a i c
/-- the shape of a binding form -/
theorem gr_bind {i : Nat} (hI : dp_I K i (sk_f K n i)) (h1 : K i = 1) (h7 : 7 ≤ K (i + 1)) (h9 : K (i + 1) ≤ 9) (hS : gr_SH K V (sk_f K n) i) :
    K (i + 2) = 1 ∧ dp_I K (i + 2) (sk_f K n (i + 2)) ∧ dp_I K (sk_f K n (i + 2)) (sk_f K n (sk_f K n (i + 2))) ∧ sk_f K n (sk_f K n (i + 2)) < sk_f K n i ∧ dp_d K (sk_f K n (i + 2)) = dp_d K i + 1 := by
  have s2 := gr_s2 hI h1 (by omega)
  have key : K (i + 2) = 1 ∧ ls_C K (sk_f K n) (i + 2) 2 := by
    rcases gr_FSof hS h1 with ⟨k, l⟩ | ⟨k, l, k2, c, q⟩ | ⟨k, l, k2, c, c1, c4, lc, b⟩ | ⟨k, l⟩ | ⟨k, c, c4, l⟩
    · omega
    · exact ⟨k2, l⟩
    · exact ⟨k2, l⟩
    · omega
    · omega
  have m0 : ls_M K (sk_f K n) (i + 2) (i + 2) := (ls_CM key.2).mpr ⟨0, by omega, rfl⟩
  have m1 : ls_M K (sk_f K n) (i + 2) (sk_f K n (i + 2)) := (ls_CM key.2).mpr ⟨1, by omega, rfl⟩
  have a0 := ls_Min hI h1 s2.2 s2.1 m0
  have a1 := ls_Min hI h1 s2.2 s2.1 m1
  exact ⟨key.1, a0.2.1, a1.2.1, a1.2.2.1, a1.2.2.2⟩
/-- a bind of a LET, as it lies -/
theorem gr_bnd {i b : Nat} (hI : dp_I K i (sk_f K n i)) (h1 : K i = 1) (h8 : K (i + 1) = 8 ∨ K (i + 1) = 9) (hS : gr_SH K V (sk_f K n) i) (hb : ls_M K (sk_f K n) (i + 3) b) :
    i + 3 ≤ b ∧ K b = 1 ∧ K (b + 1) = 4 ∧ dp_I K b (sk_f K n b) ∧ dp_I K (b + 2) (sk_f K n (b + 2)) ∧ sk_f K n b = sk_f K n (b + 2) + 1 ∧ sk_f K n b < sk_f K n (i + 2) ∧ dp_d K b = dp_d K i + 2 ∧ gr_BS K V (sk_f K n) (K (i + 1)) (i + 2) b := by
  have g := gr_bind hI h1 (by omega) (by omega) hS
  have key : gr_BS K V (sk_f K n) (K (i + 1)) (i + 2) b := by
    rcases gr_FSof hS h1 with ⟨k, l⟩ | ⟨k, l, k2, c, q⟩ | ⟨k, l, k2, c, c1, c4, lc, bb⟩ | ⟨k, l⟩ | ⟨k, c, c4, l⟩
    · omega
    · omega
    · obtain ⟨j, hj, e⟩ := (ls_CM lc).mp hb
      rw [e]; exact bb j hj
    · omega
    · omega
  have m := ls_Min (i := i + 2) g.2.1 g.1 (dp_L_r _) (dp_I_1 g.2.1 g.1) hb
  have d1 := dp_1 h1
  have d2 : dp_d K (i + 2) = dp_d K i + 1 := by rw [show i + 2 = i + 1 + 1 from rfl, dp_0 (by omega) (by omega)]; exact d1
  have b1 := gr_b1 key
  have kb := key.1
  have kb4 := key.2.2.1
  have hl : dp_L K (b + 1) (b + 2) := dp_I_L (dp_I_a (by omega) (by omega))
  have lt : b + 2 < sk_f K n b := by
    have := dp_I_1 m.2.1 kb
    rcases Nat.lt_or_ge (b + 2) (sk_f K n b) with z | z
    · exact z
    · have e : sk_f K n b = b + 2 := by omega
      have := m.2.1.2.1
      have := dp_1 kb
      have := hl.2.1
      rw [e] at *
      omega
  have m2 := ls_Min (i := b) m.2.1 kb hl lt (ls_M_0 b1.2.1)
  refine ⟨m.1, kb, kb4, m.2.1, m2.2.1, gr_ba key m2.2.1, m.2.2.1, by omega, key⟩
theorem gr_in {i c : Nat} (hI : dp_I K i (sk_f K n i)) (hS : gr_SH K V (sk_f K n) i) (h : gr_Ch K (sk_f K n) i c) : i < c ∧ dp_I K c (sk_f K n c) ∧ sk_f K n c < sk_f K n i := by
  have lamN : K i = 1 → K (i + 1) = 7 → ls_M K (sk_f K n) (i + 3) c → i < c ∧ dp_I K c (sk_f K n c) ∧ sk_f K n c < sk_f K n i := by
    intro h1 h7 hm
    have g := gr_bind hI h1 (by omega) (by omega) hS
    have m := ls_Min (i := i + 2) g.2.1 g.1 (dp_L_r _) (dp_I_1 g.2.1 g.1) hm
    have := g.2.2.1.1
    exact ⟨by omega, m.2.1, by omega⟩
  rcases h with ⟨h1, h⟩ | ⟨h1, h6, h⟩ | ⟨h1, h⟩
  · rcases h with ⟨k, hm⟩ | ⟨k, hm⟩ | ⟨k, k', e⟩ | ⟨k, b, hb, e⟩
    · have s2 := gr_s2 hI h1 (by omega)
      have m := ls_Min hI h1 s2.2 s2.1 hm
      exact ⟨by omega, m.2.1, m.2.2.1⟩
    · have m := ls_Min hI h1 (dp_L_r _) (dp_I_1 hI h1) hm
      exact ⟨by omega, m.2.1, m.2.2.1⟩
    · have g := gr_bind hI h1 k k' hS
      subst e
      have := g.2.1.1
      exact ⟨by omega, g.2.2.1, g.2.2.2.1⟩
    · have g := gr_bind hI h1 (by omega) (by omega) hS
      have m := gr_bnd hI h1 k hS hb
      subst e
      obtain ⟨m1, m2, m3, m4, m5, m6, m7, m8, m9⟩ := m
      have := g.2.2.1.1
      have := g.2.2.2.1
      exact ⟨by omega, m5, by omega⟩
  · have s2 := gr_s2 hI h1 (by omega)
    have m := ls_Min hI h1 s2.2 s2.1 h
    exact ⟨by omega, m.2.1, m.2.2.1⟩
  · rcases h with ⟨k, hm⟩ | ⟨k, b, hb, e⟩
    · exact lamN h1 k hm
    · have g := gr_bind hI h1 (by omega) (by omega) hS
      have m := gr_bnd hI h1 k hS hb
      subst e
      obtain ⟨m1, m2, m3, m4, m5, m6, m7, m8, m9⟩ := m
      have := g.2.2.1.1
      have := g.2.2.2.1
      have := m5.1
      have ei : dp_I K (b + 1) (b + 1 + 1) := dp_I_a (by omega) (by omega)
      have es : sk_f K n (b + 1) = b + 1 + 1 := sk_I ei
      refine ⟨by omega, by rw [es]; exact ei, by omega⟩
/-- where a child of a form lies -/
theorem gr_lev {i c : Nat} (hI : dp_I K i (sk_f K n i)) (hS : gr_SH K V (sk_f K n) i) (h : gr_Ch K (sk_f K n) i c) :
    (dp_d K c = dp_d K i + 1 ∧ ((7 ≤ K (i + 1) ∧ K (i + 1) ≤ 9) → c = sk_f K n (i + 2))) ∨
    (7 ≤ K (i + 1) ∧ K (i + 1) ≤ 9 ∧ K i = 1 ∧ c < sk_f K n (i + 2) ∧ (sk_f K n c = c + 1 ∨ ((K (i + 1) = 8 ∨ K (i + 1) = 9) ∧ ∃ b, ls_M K (sk_f K n) (i + 3) b ∧ c = b + 2))) := by
  rcases h with ⟨h1, h⟩ | ⟨h1, h6, h⟩ | ⟨h1, h⟩
  · rcases h with ⟨k, hm⟩ | ⟨k, hm⟩ | ⟨k, k', e⟩ | ⟨k, b, hb, e⟩
    · have s2 := gr_s2 hI h1 (by omega)
      have m := ls_Min hI h1 s2.2 s2.1 hm
      exact Or.inl ⟨m.2.2.2, fun z => by omega⟩
    · have m := ls_Min hI h1 (dp_L_r _) (dp_I_1 hI h1) hm
      exact Or.inl ⟨m.2.2.2, fun z => by omega⟩
    · have g := gr_bind hI h1 k k' hS
      subst e
      exact Or.inl ⟨g.2.2.2.2, fun z => rfl⟩
    · obtain ⟨m1, m2, m3, m4, m5, m6, m7, m8, m9⟩ := gr_bnd hI h1 k hS hb
      have := m5.1
      exact Or.inr ⟨by omega, by omega, h1, by omega, Or.inr ⟨k, b, hb, e⟩⟩
  · have s2 := gr_s2 hI h1 (by omega)
    have m := ls_Min hI h1 s2.2 s2.1 h
    exact Or.inl ⟨m.2.2.2, fun z => by omega⟩
  · rcases h with ⟨k, hm⟩ | ⟨k, b, hb, e⟩
    · have g := gr_bind hI h1 (by omega) (by omega) hS
      have m := ls_Min (i := i + 2) g.2.1 g.1 (dp_L_r _) (dp_I_1 g.2.1 g.1) hm
      have := m.2.1.1
      refine Or.inr ⟨by omega, by omega, h1, by omega, Or.inl ?_⟩
      refine sk_at ?_
      rcases gr_FSof hS h1 with ⟨k, l⟩ | ⟨k, l, k2, c', q⟩ | ⟨k, l, k2, c', c1, c4, lc, bb⟩ | ⟨k, l⟩ | ⟨k, c', c4, l⟩
      · omega
      · obtain ⟨j, hj, e⟩ := (ls_CM (gr_PC (n := n) q)).mp hm
        rw [gr_Pi q (by omega)] at e
        have := q.2.1 j hj
        rw [e]; omega
      · omega
      · omega
      · omega
    · obtain ⟨m1, m2, m3, m4, m5, m6, m7, m8, m9⟩ := gr_bnd hI h1 k hS hb
      have := m5.1
      exact Or.inr ⟨by omega, by omega, h1, by omega, Or.inl (by rw [e]; exact sk_at (by omega))⟩
theorem gr_sep {i c c' : Nat} (hI : dp_I K i (sk_f K n i)) (hS : gr_SH K V (sk_f K n) i) (h : gr_Ch K (sk_f K n) i c) (h' : gr_Ch K (sk_f K n) i c') (hc : c < c') : sk_f K n c ≤ c' := by
  have gi := gr_in hI hS h
  rcases gr_lev hI hS h with ⟨d, e⟩ | ⟨k7, k9, k1, lt, z⟩
  · rcases gr_lev hI hS h' with ⟨d', e'⟩ | ⟨k7, k9, k1, lt, z⟩
    · exact dp_aft gi.2.1 (by omega) hc
    · have := e ⟨k7, k9⟩; omega
  · rcases z with z | ⟨k, b, hb, eb⟩
    · omega
    · obtain ⟨m1, m2, m3, m4, m5, m6, m7, m8, m9⟩ := gr_bnd hI k1 k hS hb
      subst eb
      rcases gr_lev hI hS h' with ⟨d', e'⟩ | ⟨_, _, _, lt', z'⟩
      · have := e' ⟨k7, k9⟩; omega
      · -- another name or bound: its bind lies behind
        have hb' : ∃ b', ls_M K (sk_f K n) (i + 3) b' ∧ (c' = b' + 1 ∨ c' = b' + 2) := by
          rcases h' with ⟨_, h'⟩ | ⟨_, q, _⟩ | ⟨_, h'⟩
          · rcases h' with ⟨q, _⟩ | ⟨q, _⟩ | ⟨_, _, e⟩ | ⟨_, b', hb', e⟩
            · omega
            · omega
            · omega
            · exact ⟨b', hb', Or.inr e⟩
          · omega
          · rcases h' with ⟨q, _⟩ | ⟨_, b', hb', e⟩
            · omega
            · exact ⟨b', hb', Or.inl e⟩
        obtain ⟨b', hb', e'⟩ := hb'
        obtain ⟨w1, w2, w3, w4, w5, w6, w7, w8, w9⟩ := gr_bnd hI k1 k hS hb'
        have := m5.1
        have := w5.1
        rcases Nat.lt_trichotomy b b' with y | y | y
        · have := dp_aft m4 (by omega) y; omega
        · subst y; omega
        · have := dp_aft w4 (by omega) y; omega
end
