section
variable {K : Nat → Nat} {V : Nat → Int32} {n : Nat} {E D N : Nat → Prop}
theorem pm_Flam (hE : ∀ p, E p → gr_EC K V (sk_f K n) E D p) (hEI : ∀ c, E c → dp_I K c (sk_f K n c)) {S : List (Nat × Nat × Nat)} {p : Nat} (h1 : K p = 1) (h7 : K (p + 1) = 7) (hp : E p) (h : pm_C K V (sk_f K n) n E D N S (sk_f K n p)) :
    K (p + 2) = 1 ∧ ∃ c, gr_P K V (p + 2) c ∧ pm_C K V (sk_f K n) n E D N ([(1, 0, 0), (4, 0, 0)] ++ S) (p + 4 + c) := by
  obtain ⟨hs, he, hd⟩ := hE p hp
  rcases hs with z | z | z | ⟨_, z⟩
  · omega
  · omega
  · omega
  · rcases z with ⟨k, l⟩ | ⟨k, l, k2, c, q⟩ | ⟨k, l, k2, c, c1, c4, lc, b⟩ | ⟨k, l⟩ | ⟨k, c, c4, l⟩
    · omega
    · refine ⟨k2, c, q, ?_⟩
      have e : sk_f K n (p + 2) = p + 4 + c := (gr_Pa k2 q).trans (by omega)
      have hb : E (p + 4 + c) := by rw [← e]; exact he _ ⟨h1, Or.inr (Or.inr (Or.inl ⟨by omega, by omega, rfl⟩))⟩
      have t := (ls_C_t l).2
      rw [e] at t
      have t2 := (ls_C_t t).2
      show pm_C K V (sk_f K n) n E D N ((1, 0, 0) :: (4, 0, 0) :: S) (p + 4 + c)
      rw [pm_C1, pm_C4]
      refine ⟨hb, t2.2, ?_⟩
      have ea : sk_f K n p = sk_f K n (p + 4 + c) + 1 := sk_I (dp_I_w h1 (dp_L_t (gr_kw (by omega)) (dp_L_t (dp_I_L (gr_PI k2 q)) (by rw [show p + 2 + 2 + c = p + 4 + c from by omega]; exact dp_I_L (hEI _ hb)))) t2.2)
      rw [← ea]; exact h
    · omega
    · omega
    · omega
theorem pm_Flet (hE : ∀ p, E p → gr_EC K V (sk_f K n) E D p) (hN : ∀ p, E p → ∀ c, gr_N K (sk_f K n) p c → N c) (hEI : ∀ c, E c → dp_I K c (sk_f K n c)) {S : List (Nat × Nat × Nat)} {p : Nat} (h1 : K p = 1) (h8 : K (p + 1) = 8 ∨ K (p + 1) = 9) (hp : E p) (h : pm_C K V (sk_f K n) n E D N S (sk_f K n p)) :
    K (p + 2) = 1 ∧ pm_C K V (sk_f K n) n E D N ((K (p + 1) - 3, 0, p + 2) :: (1, 0, 0) :: (4, 0, 0) :: S) (p + 3) := by
  obtain ⟨hs, he, hd⟩ := hE p hp
  rcases hs with z | z | z | ⟨_, z⟩
  · omega
  · omega
  · omega
  · rcases z with ⟨k, l⟩ | ⟨k, l, k2, c, q⟩ | ⟨k, l, k2, c, c1, c4, lc, b⟩ | ⟨k, l⟩ | ⟨k, c, c4, l⟩
    · omega
    · omega
    · refine ⟨k2, ?_⟩
      have hb2 : ∀ j, j < c → E (it_f (sk_f K n) j (p + 3) + 2) := fun j hj => he _ ⟨h1, Or.inr (Or.inr (Or.inr ⟨k, _, (ls_CM lc).mpr ⟨j, hj, rfl⟩, rfl⟩))⟩
      have hI := gr_LI b (fun j hj => hEI _ (hb2 j hj))
      have eI := gr_end (i := p + 2) k2 (dp_L_r _) lc hI
      have e := sk_I (n := n) eI
      have hb : E (sk_f K n (p + 2)) := he _ ⟨h1, Or.inr (Or.inr (Or.inl ⟨by omega, by omega, rfl⟩))⟩
      have t2 := (ls_C_t (ls_C_t l).2).2
      rw [pm_C56 (by omega)]
      refine ⟨c, by omega, by omega, lc, fun j hj => ⟨?_, hN p hp _ ⟨h1, Or.inr ⟨k, _, (ls_CM lc).mpr ⟨j, hj, rfl⟩, rfl⟩⟩, hb2 j hj⟩, ?_⟩
      · rw [show K (p + 1) - 3 + 3 = K (p + 1) from by omega]; exact b j hj
      · rw [← e, pm_C1, pm_C4]
        refine ⟨hb, t2.2, ?_⟩
        have ea : sk_f K n p = sk_f K n (sk_f K n (p + 2)) + 1 := sk_I (dp_I_w h1 (dp_L_t (gr_kw (by omega)) (dp_L_t (dp_I_L (sk_IE eI)) (dp_I_L (hEI _ hb)))) t2.2)
        rw [← ea]; exact h
    · omega
    · omega
theorem pm_F (hE : ∀ p, E p → gr_EC K V (sk_f K n) E D p) (hN : ∀ p, E p → ∀ c, gr_N K (sk_f K n) p c → N c) (hD : ∀ p, D p → gr_DC K (sk_f K n) D p) (hEI : ∀ c, E c → dp_I K c (sk_f K n c)) (hDI : ∀ c, D c → dp_I K c (sk_f K n c))
    {g x st : Nat} {S : List (Nat × Nat × Nat)} {p : Nat} (h : pm_C K V (sk_f K n) n E D N ((g, x, st) :: S) p) :
    K p ≠ 0 ∧ ∃ p' new, pm_T K V (sk_f K n) p g x st p' new ∧ pm_C K V (sk_f K n) n E D N (new ++ S) p' := by
  rcases h with ⟨rfl, h1, h2⟩ | ⟨rfl, h1, h2⟩ | ⟨rfl, c, h0, h1, h2⟩ | ⟨rfl, h1, h2⟩ | ⟨rfl, c, hx, h0, h1, h2⟩ | ⟨e, c, hx, hy, h0, h1, h2⟩ | ⟨rfl, h0, h3, h1, h2⟩
  · have hh := hE p h1
    obtain ⟨hs, he, hd⟩ := hh
    have atom : (K p = 3 ∨ K p = 4 ∨ K p = 5) → K p ≠ 0 ∧ ∃ p' new, pm_T K V (sk_f K n) p 1 x st p' new ∧ pm_C K V (sk_f K n) n E D N (new ++ S) p' := by
      intro z
      refine ⟨by omega, p + 1, [], ?_, ?_⟩
      · simp [pm_T, z]
      · rw [← sk_at (K := K) (n := n) (show K p ≠ 1 by omega)]; exact h2
    rcases hs with z | z | z | ⟨k1, z⟩
    · exact atom (by omega)
    · exact atom (by omega)
    · exact atom (by omega)
    · refine ⟨by omega, ?_⟩
      rcases z with ⟨k, l⟩ | ⟨k, l, k2, c, q⟩ | ⟨k, l, k2, c, c1, c4, lc, b⟩ | ⟨k, l⟩ | ⟨k, c, c4, l⟩
      · have t := ls_C_t l
        have hb : D (p + 2) := hd _ ⟨k1, k, ls_M_0 t.1⟩
        refine ⟨p + 2, [(2, 0, 0), (4, 0, 0)], by simp [pm_T, k1, k], ?_⟩
        show pm_C K V (sk_f K n) n E D N ((2, 0, 0) :: (4, 0, 0) :: S) (p + 2)
        rw [pm_C2, pm_C4]
        refine ⟨hb, t.2.2, ?_⟩
        have ea : sk_f K n p = sk_f K n (p + 2) + 1 := sk_I (dp_I_w k1 (dp_L_t (gr_kw (by omega)) (dp_I_L (hDI _ hb))) t.2.2)
        rw [← ea]; exact h2
      · obtain ⟨_, c, q, w⟩ := pm_Flam hE hEI k1 k h1 h2
        exact ⟨p + 4 + c, [(1, 0, 0), (4, 0, 0)], Or.inr (Or.inr (Or.inr (Or.inr (Or.inr (Or.inr (Or.inr (Or.inr (Or.inr (Or.inl ⟨Or.inr rfl, k1, k, k2, c, q, rfl, rfl⟩))))))))), w⟩
      · obtain ⟨_, w⟩ := pm_Flet hE hN hEI k1 k h1 h2
        refine ⟨p + 3, [(K (p + 1) - 3, 0, p + 2), (1, 0, 0), (4, 0, 0)], ?_, w⟩
        unfold pm_T
        exact Or.inr (Or.inr (Or.inr (Or.inr (Or.inr (Or.inr (Or.inr (Or.inr (Or.inr (Or.inr (Or.inr (Or.inl ⟨rfl, k1, k, k2, rfl, rfl⟩)))))))))))
      · refine ⟨p + 2, List.replicate (gr_n (K (p + 1))) (1, 0, 0) ++ [(4, 0, 0)], ?_, ?_⟩
        · unfold pm_T
          exact Or.inr (Or.inr (Or.inr (Or.inr (Or.inr (Or.inr (Or.inr (Or.inr (Or.inr (Or.inr (Or.inr (Or.inr (Or.inr (Or.inr ⟨rfl, k1, k, rfl, rfl⟩)))))))))))))
        · rw [List.append_assoc, pm_Cr]
          have hc : ∀ j, j < gr_n (K (p + 1)) → E (it_f (sk_f K n) j (p + 2)) := fun j hj => he _ ⟨k1, Or.inl ⟨k, (ls_CM l).mpr ⟨j, hj, rfl⟩⟩⟩
          refine ⟨hc, ?_⟩
          show pm_C K V (sk_f K n) n E D N ((4, 0, 0) :: S) _
          rw [pm_C4]
          refine ⟨l.2, ?_⟩
          rw [← sk_I (n := n) (gr_end k1 (gr_kw (by omega)) l (fun j hj => hEI _ (hc j hj)))]
          exact h2
      · refine ⟨p + 1, [(1, 0, 0), (8, 0, 0), (4, 0, 0)], by simp [pm_T, k1, k], ?_⟩
        have hc : ∀ j, j < c + 1 → E (it_f (sk_f K n) j (p + 1)) := fun j hj => he _ ⟨k1, Or.inr (Or.inl ⟨k, (ls_CM l).mpr ⟨j, hj, rfl⟩⟩)⟩
        show pm_C K V (sk_f K n) n E D N ((1, 0, 0) :: (8, 0, 0) :: (4, 0, 0) :: S) (p + 1)
        rw [pm_C1, pm_C8]
        refine ⟨hc 0 (by omega), c, by omega, (ls_C_t l).2, fun j hj => hc (j + 1) (by omega), ?_⟩
        rw [pm_C4]
        refine ⟨l.2, ?_⟩
        have ea := sk_I (n := n) (gr_end k1 (dp_L_r _) l (fun j hj => hEI _ (hc j hj)))
        show pm_C K V (sk_f K n) n E D N S (it_f (sk_f K n) (c + 1) (p + 1) + 1)
        rw [← ea]
        exact h2
  · obtain ⟨hs, hd⟩ := hD p h1
    rcases hs with z | z | ⟨k1, c, l⟩
    · refine ⟨by omega, p + 1, [], by simp [pm_T, z], ?_⟩
      rw [← sk_at (K := K) (n := n) (show K p ≠ 1 by omega)]; exact h2
    · refine ⟨by omega, p + 1, [], by simp [pm_T, z], ?_⟩
      rw [← sk_at (K := K) (n := n) (show K p ≠ 1 by omega)]; exact h2
    · refine ⟨by omega, p + 1, [(3, 0, 0)], by simp [pm_T, k1], ?_⟩
      have hc : ∀ j, j < c → D (it_f (sk_f K n) j (p + 1)) := fun j hj => hd _ ⟨k1, (ls_CM l).mpr ⟨j, hj, rfl⟩⟩
      show pm_C K V (sk_f K n) n E D N ((3, 0, 0) :: S) (p + 1)
      rw [pm_C3]
      refine ⟨c, l, hc, ?_⟩
      rw [← sk_I (n := n) (gr_end k1 (dp_L_r _) l (fun j hj => hDI _ (hc j hj)))]
      exact h2
  · cases c with
    | zero =>
      have z : K p = 2 := h0.2
      exact ⟨by omega, p + 1, [], by simp [pm_T, z], h2⟩
    | succ c =>
      have t := ls_C_t h0
      have d := h1 0 (by omega)
      have d2 := (hD _ d).1
      have z : K p ≠ 0 := by
        change gr_DS K (sk_f K n) p at d2
        rcases d2 with z | z | ⟨z, _⟩ <;> omega
      refine ⟨z, p, [(2, 0, 0), (3, 0, 0)], by simp [pm_T, t.1], ?_⟩
      show pm_C K V (sk_f K n) n E D N ((2, 0, 0) :: (3, 0, 0) :: S) p
      rw [pm_C2, pm_C3]
      exact ⟨d, c, t.2, fun j hj => h1 (j + 1) (by omega), h2⟩
  · exact ⟨by omega, p + 1, [], by simp [pm_T, h1], h2⟩
  · cases c with
    | zero =>
      have z : K p = 2 := h0.2
      exact ⟨by omega, p, [], by simp [pm_T, z], h2⟩
    | succ c =>
      have t := ls_C_t h0
      have d := h1 0 (by omega)
      have d2 := (hE _ d).1
      have z : K p ≠ 0 := by
        change gr_SH K V (sk_f K n) p at d2
        rcases d2 with z | z | z | ⟨z, _⟩ <;> omega
      have x4 : x < 4 := by omega
      refine ⟨z, p, [(1, 0, 0), (8, x + 1, 0)], by simp [pm_T, t.1, x4], ?_⟩
      show pm_C K V (sk_f K n) n E D N ((1, 0, 0) :: (8, x + 1, 0) :: S) p
      rw [pm_C1, pm_C8]
      exact ⟨d, c, by omega, t.2, fun j hj => h1 (j + 1) (by omega), h2⟩
  · cases c with
    | zero =>
      have z : K p = 2 := h0.2
      have x0 : 0 < x := by omega
      exact ⟨by omega, p + 1, [], by simp [pm_T, z, e, x0], h2⟩
    | succ c =>
      have t := ls_C_t h0
      obtain ⟨b, _, d⟩ := h1 0 (by omega)
      change gr_BS K V (sk_f K n) (g + 3) st p at b
      change E (p + 2) at d
      have b1 := gr_b1 b
      have ba := gr_ba b (hEI _ d)
      have bb := b
      obtain ⟨y1, y2, y3, y4, y5⟩ := bb
      have x4 : x < 4 := by omega
      refine ⟨by omega, p + 2, [(if g = 5 then 1 else 7, 0, 0), (4, 0, 0), (g, x + 1, st)], ?_, ?_⟩
      · unfold pm_T
        exact Or.inr (Or.inr (Or.inr (Or.inr (Or.inr (Or.inr (Or.inr (Or.inr (Or.inl ⟨e, y1, x4, y3, y4, rfl, rfl⟩))))))))
      · have rest : pm_C K V (sk_f K n) n E D N ((4, 0, 0) :: (g, x + 1, st) :: S) (sk_f K n (p + 2)) := by
          rw [pm_C4, pm_C56 e]
          refine ⟨b1.2.2, c, by omega, by omega, ?_, fun j hj => ?_, ?_⟩
          · rw [← ba]; exact t.2
          · rw [← ba]; exact h1 (j + 1) (by omega)
          · rw [← ba]; exact h2
        rcases e with rfl | rfl
        · exact pm_C1.mpr ⟨d, rest⟩
        · exact pm_C7.mpr ⟨(y5 rfl).1, (y5 rfl).2, d, rest⟩
  · obtain ⟨k2, c, q, w⟩ := pm_Flam hE hEI h0 h3 h1 h2
    exact ⟨by omega, p + 4 + c, [(1, 0, 0), (4, 0, 0)], Or.inr (Or.inr (Or.inr (Or.inr (Or.inr (Or.inr (Or.inr (Or.inr (Or.inr (Or.inl ⟨Or.inl rfl, h0, h3, k2, c, q, rfl, rfl⟩))))))))), w⟩
end
