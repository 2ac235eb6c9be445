section
variable {K : Nat → Nat} {V : Nat → Int32} {n : Nat} {E D E' D' N : Nat → Prop}
theorem pm_B (hNt : ∀ c, N c) (hE : ∀ p, gr_EC K V (sk_f K n) E D p → E' p) (hD : ∀ p, gr_DC K (sk_f K n) D p → D' p) (hm : ∀ c, E c → E' c) (hn : ∀ c, D c → D' c) (hEI : ∀ c, E c → dp_I K c (sk_f K n c)) (hDI : ∀ c, D c → dp_I K c (sk_f K n c))
    {g x st : Nat} {S : List (Nat × Nat × Nat)} {p p' : Nat} {new : List (Nat × Nat × Nat)} (t : pm_T K V (sk_f K n) p g x st p' new) (h : pm_C K V (sk_f K n) n E D N (new ++ S) p') :
    pm_C K V (sk_f K n) n E' D' N ((g, x, st) :: S) p := by
  have lam : K p = 1 → K (p + 1) = 7 → K (p + 2) = 1 → ∀ c, gr_P K V (p + 2) c → pm_C K V (sk_f K n) n E D N ((1, 0, 0) :: (4, 0, 0) :: S) (p + 4 + c) → E' p ∧ pm_C K V (sk_f K n) n E' D' N S (sk_f K n p) := by
    intro k1 k7 k2 c q w
    rw [pm_C1, pm_C4] at w
    obtain ⟨w1, w2, w3⟩ := w
    have e : sk_f K n (p + 2) = p + 4 + c := (gr_Pa k2 q).trans (by omega)
    have n2 := dp_I_n2 (hEI _ w1)
    constructor
    · refine hE p ⟨Or.inr (Or.inr (Or.inr ⟨k1, Or.inr (Or.inl ⟨k7, ?_, k2, c, q⟩)⟩)), fun y hy => ?_, fun y hy => ?_⟩
      · refine ls_C_s (by omega) ?_
        rw [e]
        exact ls_C_s n2 (ls_C_0 w2)
      · obtain ⟨_, hy⟩ := hy
        rcases hy with ⟨z, _⟩ | ⟨z, _⟩ | ⟨_, _, z⟩ | ⟨z, _⟩
        · omega
        · omega
        · rw [z, e]; exact w1
        · omega
      · have := hy.2.1; omega
    · have ea : sk_f K n p = sk_f K n (p + 4 + c) + 1 := sk_I (dp_I_w k1 (dp_L_t (gr_kw (by omega)) (dp_L_t (dp_I_L (gr_PI k2 q)) (by rw [show p + 2 + 2 + c = p + 4 + c from by omega]; exact dp_I_L (hEI _ w1)))) w2)
      rw [ea]; exact pm_Cm hm hn S _ w3
  rcases t with ⟨rfl, z, rfl, rfl⟩ | ⟨rfl, z, rfl, rfl⟩ | ⟨rfl, z, rfl, rfl⟩ | ⟨rfl, z, rfl, rfl⟩ | ⟨rfl, z, rfl, rfl⟩ | ⟨rfl, z, rfl, rfl⟩ | ⟨rfl, z, x4, rfl, rfl⟩ | ⟨hg, z, x0, rfl, rfl⟩ | ⟨hg, z, x4, z1, nd, rfl, rfl⟩ | ⟨hg, k1, k7, k2, c, q, rfl, rfl⟩ | ⟨rfl, z, rfl, rfl⟩ | ⟨rfl, k1, k, k2, rfl, rfl⟩ | ⟨rfl, k1, k, rfl, rfl⟩ | ⟨rfl, k1, k, rfl, rfl⟩ | ⟨rfl, k1, k, rfl, rfl⟩
  · exact pm_C4.mpr ⟨z, pm_Cm hm hn S _ h⟩
  · exact pm_C3.mpr ⟨0, ls_C_0 z, fun j hj => by omega, pm_Cm hm hn S _ h⟩
  · replace h := pm_C2.mp h
    obtain ⟨h1, h2⟩ := h
    obtain ⟨c, l, hd, h3⟩ := pm_C3.mp h2
    refine pm_C3.mpr ⟨c + 1, ls_C_s z l, fun j hj => ?_, pm_Cm hm hn S _ h3⟩
    cases j with
    | zero => exact hn _ h1
    | succ j => exact hn _ (hd j (by omega))
  · obtain ⟨c, l, hd, h3⟩ := pm_C3.mp h
    refine pm_C2.mpr ⟨hD p ⟨Or.inr (Or.inr ⟨z, c, l⟩), fun y hy => ?_⟩, ?_⟩
    · obtain ⟨j, hj, e⟩ := (ls_CM l).mp hy.2
      rw [e]; exact hd j hj
    · rw [sk_I (n := n) (gr_end z (dp_L_r _) l (fun j hj => hDI _ (hd j hj)))]
      exact pm_Cm hm hn S _ h3
  · refine pm_C2.mpr ⟨hD p ⟨by unfold gr_DS; omega, fun y hy => ?_⟩, ?_⟩
    · have := hy.1; omega
    · rw [sk_at (K := K) (n := n) (by omega)]; exact pm_Cm hm hn S _ h
  · exact pm_C8.mpr ⟨0, Or.inl rfl, ls_C_0 z, fun j hj => by omega, pm_Cm hm hn S _ h⟩
  · replace h := pm_C1.mp h
    obtain ⟨h1, h2⟩ := h
    obtain ⟨c, hx, l, hd, h3⟩ := pm_C8.mp h2
    refine pm_C8.mpr ⟨c + 1, by omega, ls_C_s z l, fun j hj => ?_, pm_Cm hm hn S _ h3⟩
    cases j with
    | zero => exact hm _ h1
    | succ j => exact hm _ (hd j (by omega))
  · exact (pm_C56 hg).mpr ⟨0, by omega, Or.inl rfl, ls_C_0 z, fun j hj => by omega, pm_Cm hm hn S _ h⟩
  · have hh : E (p + 2) ∧ (g = 6 → K (p + 2) = 1 ∧ K (p + 3) = 7) ∧ pm_C K V (sk_f K n) n E D N ((4, 0, 0) :: (g, x + 1, st) :: S) (sk_f K n (p + 2)) := by
      rcases hg with rfl | rfl
      · have w := pm_C1.mp h
        exact ⟨w.1, fun y => by omega, w.2⟩
      · have w := pm_C7.mp h
        exact ⟨w.2.2.1, fun y => ⟨w.1, w.2.1⟩, w.2.2.2⟩
    obtain ⟨h1, h6, h2⟩ := hh
    obtain ⟨h3, h4⟩ := pm_C4.mp h2
    obtain ⟨c, hx, hy, l, hd, h5⟩ := (pm_C56 hg).mp h4
    have e1 : sk_f K n (p + 1) = p + 2 := sk_at (by omega)
    have b : gr_BS K V (sk_f K n) (g + 3) st p := by
      refine ⟨z, ls_C_s (by omega) ?_, z1, nd, fun y => h6 (by omega)⟩
      rw [e1]
      exact ls_C_s (dp_I_n2 (hEI _ h1)) (ls_C_0 h3)
    have ba := gr_ba b (hEI _ h1)
    refine (pm_C56 hg).mpr ⟨c + 1, by omega, by omega, ls_C_s (by omega) (by rw [ba]; exact l), fun j hj => ?_, ?_⟩
    · cases j with
      | zero => exact ⟨b, hNt _, hm _ h1⟩
      | succ j =>
        show gr_BS K V (sk_f K n) (g + 3) st (it_f (sk_f K n) j (sk_f K n p)) ∧ N (it_f (sk_f K n) j (sk_f K n p) + 1) ∧ E' (it_f (sk_f K n) j (sk_f K n p) + 2)
        rw [ba]
        exact ⟨(hd j (by omega)).1, hNt _, hm _ (hd j (by omega)).2.2⟩
    · show pm_C K V (sk_f K n) n E' D' N S (it_f (sk_f K n) c (sk_f K n p) + 1)
      rw [ba]; exact pm_Cm hm hn S _ h5
  · have w := lam k1 k7 k2 c q h
    rcases hg with rfl | rfl
    · exact pm_C7.mpr ⟨k1, k7, w.1, w.2⟩
    · exact pm_C1.mpr ⟨w.1, w.2⟩
  · refine pm_C1.mpr ⟨hE p ⟨by unfold gr_SH; omega, fun y hy => ?_, fun y hy => ?_⟩, ?_⟩
    · have := hy.1; omega
    · have := hy.1; omega
    · rw [sk_at (K := K) (n := n) (by omega)]; exact pm_Cm hm hn S _ h
  · replace h : pm_C K V (sk_f K n) n E D N ((K (p + 1) - 3, 0, p + 2) :: (1, 0, 0) :: (4, 0, 0) :: S) (p + 3) := h
    obtain ⟨c, hx, hy, l, hd, h5⟩ := (pm_C56 (by omega)).mp h
    rw [pm_C1, pm_C4] at h5
    obtain ⟨h6, h7, h8⟩ := h5
    have b : ∀ j, j < c → gr_BS K V (sk_f K n) (K (p + 1)) (p + 2) (it_f (sk_f K n) j (p + 3)) := fun j hj => by
      have := (hd j hj).1
      rw [show K (p + 1) - 3 + 3 = K (p + 1) from by omega] at this
      exact this
    have hI := gr_LI b (fun j hj => hEI _ (hd j hj).2.2)
    have eI := gr_end (i := p + 2) k2 (dp_L_r _) l hI
    have e := sk_I (n := n) eI
    rw [← e] at h6 h7 h8
    refine pm_C1.mpr ⟨hE p ⟨Or.inr (Or.inr (Or.inr ⟨k1, Or.inr (Or.inr (Or.inl ⟨k, ?_, k2, c, by omega, by omega, l, b⟩))⟩)), fun y hy => ?_, fun y hy => ?_⟩, ?_⟩
    · exact ls_C_s (by omega) (ls_C_s (dp_I_n2 (hEI _ h6)) (ls_C_0 h7))
    · obtain ⟨_, hy⟩ := hy
      rcases hy with ⟨z, _⟩ | ⟨z, _⟩ | ⟨_, _, z⟩ | ⟨_, bb, z, z2⟩
      · omega
      · omega
      · rw [z]; exact h6
      · obtain ⟨j, hj, ej⟩ := (ls_CM l).mp z
        rw [z2, ej]; exact (hd j hj).2.2
    · have := hy.2.1; omega
    · rw [sk_I (n := n) (dp_I_w k1 (dp_L_t (gr_kw (by omega)) (dp_L_t (dp_I_L (sk_IE eI)) (dp_I_L (hEI _ h6)))) h7)]
      exact pm_Cm hm hn S _ h8
  · replace h : pm_C K V (sk_f K n) n E D N ((1, 0, 0) :: (8, 0, 0) :: (4, 0, 0) :: S) (p + 1) := h
    rw [pm_C1] at h
    obtain ⟨h1, h2⟩ := h
    obtain ⟨c, hx, l, hd, h3⟩ := pm_C8.mp h2
    rw [pm_C4] at h3
    have l2 : ls_C K (sk_f K n) (p + 1) (c + 1) := ls_C_s (dp_I_n2 (hEI _ h1)) l
    have hc : ∀ j, j < c + 1 → E (it_f (sk_f K n) j (p + 1)) := fun j hj => by
      cases j with
      | zero => exact h1
      | succ j => exact hd j (by omega)
    refine pm_C1.mpr ⟨hE p ⟨Or.inr (Or.inr (Or.inr ⟨k1, Or.inr (Or.inr (Or.inr (Or.inr ⟨k, c, by omega, l2⟩)))⟩)), fun y hy => ?_, fun y hy => ?_⟩, ?_⟩
    · obtain ⟨_, hy⟩ := hy
      rcases hy with ⟨z, _⟩ | ⟨_, z⟩ | ⟨z, _, _⟩ | ⟨z, _⟩
      · omega
      · obtain ⟨j, hj, ej⟩ := (ls_CM l2).mp z
        rw [ej]; exact hc j hj
      · omega
      · omega
    · have := hy.2.1; omega
    · rw [sk_I (n := n) (gr_end k1 (dp_L_r _) l2 (fun j hj => hEI _ (hc j hj)))]
      exact pm_Cm hm hn S _ h3.2
  · replace h : pm_C K V (sk_f K n) n E D N ((2, 0, 0) :: (4, 0, 0) :: S) (p + 2) := h
    rw [pm_C2, pm_C4] at h
    obtain ⟨h1, h2, h3⟩ := h
    have l : ls_C K (sk_f K n) (p + 2) 1 := ls_C_s (dp_I_n2 (hDI _ h1)) (ls_C_0 h2)
    refine pm_C1.mpr ⟨hE p ⟨Or.inr (Or.inr (Or.inr ⟨k1, Or.inl ⟨k, l⟩⟩)), fun y hy => ?_, fun y hy => ?_⟩, ?_⟩
    · obtain ⟨_, hy⟩ := hy
      rcases hy with ⟨z, _⟩ | ⟨z, _⟩ | ⟨z, _, _⟩ | ⟨z, _⟩ <;> omega
    · obtain ⟨j, hj, ej⟩ := (ls_CM l).mp hy.2.2
      have : j = 0 := by omega
      subst this
      rw [ej]; exact h1
    · rw [sk_I (n := n) (dp_I_w k1 (dp_L_t (gr_kw (by omega)) (dp_I_L (hDI _ h1))) h2)]
      exact pm_Cm hm hn S _ h3
  · rw [List.append_assoc] at h
    obtain ⟨h1, h2⟩ := pm_Cr.mp h
    replace h2 := pm_C4.mp h2
    have l : ls_C K (sk_f K n) (p + 2) (gr_n (K (p + 1))) := ⟨fun j hj => dp_I_n2 (hEI _ (h1 j hj)), h2.1⟩
    refine pm_C1.mpr ⟨hE p ⟨Or.inr (Or.inr (Or.inr ⟨k1, Or.inr (Or.inr (Or.inr (Or.inl ⟨k, l⟩)))⟩)), fun y hy => ?_, fun y hy => ?_⟩, ?_⟩
    · obtain ⟨_, hy⟩ := hy
      rcases hy with ⟨_, z⟩ | ⟨z, _⟩ | ⟨_, z, _⟩ | ⟨z, _⟩
      · obtain ⟨j, hj, ej⟩ := (ls_CM l).mp z
        rw [ej]; exact h1 j hj
      · omega
      · omega
      · omega
    · have := hy.2.1; omega
    · rw [sk_I (n := n) (gr_end k1 (gr_kw (by omega)) l (fun j hj => hEI _ (h1 j hj)))]
      exact pm_Cm hm hn S _ h2.2
end
