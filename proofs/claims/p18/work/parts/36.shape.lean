/-! the shape of forms, as a run needs it -/
section
variable {K : Nat → Nat} {V r sc : Nat → Int32} {n : Nat} {par : Nat → Nat}
theorem st_in (hn : ∀ i, n ≤ i → K i = 0) (hB : ∀ i, i < n → K i ≠ 2 → dp_I K i (sk_f K n i)) (W : rw_W K V (sk_f K n) n n r par) {q c : Nat} (hq : q < n) (hr : r q = 1) (h : gr_E K (sk_f K n) q c) : c < n ∧ r c = 1 ∧ K c ≠ 2 ∧ q < c ∧ sk_f K n c < sk_f K n q ∧ sk_f K n q ≤ n := by
  have w := W.2.1 q hq hr
  have k1 := h.1
  have hI := hB q hq (by omega)
  have gi := gr_in hI w.1 (Or.inl h)
  have g1 := gi.2.1.1
  have l := dp_le hn hI hq
  have rc := (w.2.1 c h).1
  refine ⟨by omega, rc, ?_, gi.1, gi.2.2, l⟩
  exact dp_I_n2 gi.2.1
theorem st_op (hn : ∀ i, n ≤ i → K i = 0) (hB : ∀ i, i < n → K i ≠ 2 → dp_I K i (sk_f K n i)) (W : rw_W K V (sk_f K n) n n r par) (hL : ∀ i, i < n → r i = 1 → K i = 1 → sc_L K (sk_f K n) sc i) {q : Nat} (hq : q < n) (hr : r q = 1) (k1 : K q = 1) (k10 : 10 ≤ K (q + 1)) :
    ls_C K (sk_f K n) (q + 2) (gr_n (K (q + 1))) ∧ (∀ k, k < gr_n (K (q + 1)) → it_f (sk_f K n) k (q + 2) < n ∧ r (it_f (sk_f K n) k (q + 2)) = 1 ∧ K (it_f (sk_f K n) k (q + 2)) ≠ 2 ∧ q + 2 ≤ it_f (sk_f K n) k (q + 2) ∧ sc (it_f (sk_f K n) k (q + 2)) = sc q) ∧ it_f (sk_f K n) (gr_n (K (q + 1))) (q + 2) < n := by
  have hS := (W.2.1 q hq hr).1
  rcases gr_FSof hS k1 with ⟨k, l⟩ | ⟨k, l, k2, c', q'⟩ | ⟨k, l, k2, c', c1, c4, lc, bb⟩ | ⟨k, l⟩ | ⟨k, c', c4, l⟩
  · omega
  · omega
  · omega
  · have bd := ls_bd hn l
    refine ⟨l, fun x hx => ?_, (bd.1 _ (Nat.le_refl _)).1⟩
    have hE : gr_E K (sk_f K n) q (it_f (sk_f K n) x (q + 2)) := ⟨k1, Or.inl ⟨k, (ls_CM l).mpr ⟨x, hx, rfl⟩⟩⟩
    have s := st_in hn hB W hq hr hE
    exact ⟨s.1, s.2.1, s.2.2.1, by have := (bd.1 x (by omega)).2; omega, (hL q hq hr k1).1 (Or.inr k) _ hE⟩
  · omega
theorem st_app (hn : ∀ i, n ≤ i → K i = 0) (hB : ∀ i, i < n → K i ≠ 2 → dp_I K i (sk_f K n i)) (W : rw_W K V (sk_f K n) n n r par) (hL : ∀ i, i < n → r i = 1 → K i = 1 → sc_L K (sk_f K n) sc i) {q : Nat} (hq : q < n) (hr : r q = 1) (k1 : K q = 1) (k6 : K (q + 1) < 6) :
    ∃ c, c ≤ 4 ∧ ls_C K (sk_f K n) (q + 1) (c + 1) ∧ (∀ k, k ≤ c → it_f (sk_f K n) k (q + 1) < n ∧ r (it_f (sk_f K n) k (q + 1)) = 1 ∧ K (it_f (sk_f K n) k (q + 1)) ≠ 2 ∧ q + 1 + k ≤ it_f (sk_f K n) k (q + 1) ∧ sc (it_f (sk_f K n) k (q + 1)) = sc q) ∧ it_f (sk_f K n) (c + 1) (q + 1) < n := by
  have hS := (W.2.1 q hq hr).1
  rcases gr_FSof hS k1 with ⟨k, l⟩ | ⟨k, l, k2, c', q'⟩ | ⟨k, l, k2, c', c1, c4, lc, bb⟩ | ⟨k, l⟩ | ⟨k, c, c4, l⟩
  · omega
  · omega
  · omega
  · omega
  · have bd := ls_bd hn l
    refine ⟨c, c4, l, fun x hx => ?_, (bd.1 _ (Nat.le_refl _)).1⟩
    have hE : gr_E K (sk_f K n) q (it_f (sk_f K n) x (q + 1)) := ⟨k1, Or.inr (Or.inl ⟨k, (ls_CM l).mpr ⟨x, by omega, rfl⟩⟩)⟩
    have s := st_in hn hB W hq hr hE
    exact ⟨s.1, s.2.1, s.2.2.1, by have := (bd.1 x (by omega)).2; omega, (hL q hq hr k1).1 (Or.inl (by omega)) _ hE⟩
theorem st_let (hn : ∀ i, n ≤ i → K i = 0) (hB : ∀ i, i < n → K i ≠ 2 → dp_I K i (sk_f K n i)) (W : rw_W K V (sk_f K n) n n r par) (hL : ∀ i, i < n → r i = 1 → K i = 1 → sc_L K (sk_f K n) sc i) {q : Nat} (hq : q < n) (hr : r q = 1) (k1 : K q = 1) (k8 : K (q + 1) = 8 ∨ K (q + 1) = 9) :
    ∃ c, 1 ≤ c ∧ c ≤ 4 ∧ ls_C K (sk_f K n) (q + 3) c ∧
      (∀ k, k < c → K (it_f (sk_f K n) k (q + 3)) = 1 ∧ it_f (sk_f K n) k (q + 3) + 2 < n ∧ r (it_f (sk_f K n) k (q + 3) + 2) = 1 ∧ K (it_f (sk_f K n) k (q + 3) + 2) ≠ 2 ∧ q + 3 ≤ it_f (sk_f K n) k (q + 3) ∧ it_f (sk_f K n) (k + 1) (q + 3) = sk_f K n (it_f (sk_f K n) k (q + 3) + 2) + 1 ∧ it_f (sk_f K n) (k + 1) (q + 3) < n ∧ sc (it_f (sk_f K n) k (q + 3) + 2) = (if K (q + 1) = 9 then hb_s (sc q) (fun i => it_f (sk_f K n) i (q + 3) + 1) c else sc q) ∧ (K (q + 1) = 9 → K (it_f (sk_f K n) k (q + 3) + 2) = 1 ∧ K (it_f (sk_f K n) k (q + 3) + 3) = 7) ∧ sc (it_f (sk_f K n) k (q + 3) + 1) = hb_s (sc q) (fun i => it_f (sk_f K n) i (q + 3) + 1) k) ∧
      (∀ j k, j < k → k < c → V (it_f (sk_f K n) j (q + 3) + 1) ≠ V (it_f (sk_f K n) k (q + 3) + 1)) ∧
      q + 2 < n ∧ K (q + 2) = 1 ∧ sk_f K n (q + 2) = it_f (sk_f K n) c (q + 3) + 1 ∧ sk_f K n (q + 2) < n ∧ r (sk_f K n (q + 2)) = 1 ∧ sc (sk_f K n (q + 2)) = hb_s (sc q) (fun i => it_f (sk_f K n) i (q + 3) + 1) c := by
  have hS := (W.2.1 q hq hr).1
  have hI := hB q hq (by omega)
  have L := (hL q hq hr k1).2 (by omega) (by omega)
  have gb := gr_bind hI k1 (by omega) (by omega) hS
  have nme : ∀ j, sc_nm K (sk_f K n) q j = it_f (sk_f K n) j (q + 3) + 1 := fun j => if_neg (by omega)
  have lse : ∀ j, sc_ls K (sk_f K n) sc q j = hb_s (sc q) (fun i => it_f (sk_f K n) i (q + 3) + 1) j := fun j => by
    cases j with
    | zero => rfl
    | succ j => show nI (sc_nm K (sk_f K n) q j) = _; rw [nme]; rfl
  rcases gr_FSof hS k1 with ⟨k, l⟩ | ⟨k, l, k2, c', q'⟩ | ⟨k, l, k2, c, c1, c4, lc, bb⟩ | ⟨k, l⟩ | ⟨k, c', c4, l⟩
  · omega
  · omega
  · obtain ⟨bp1, bp2, bp3, bp4, bp5⟩ := xs_bp (V := V) hn hB hq k1 k8 hS lc
    obtain ⟨L1, L2, L3⟩ := L c lc
    have bd := ls_bd hn lc
    have hEb : gr_E K (sk_f K n) q (sk_f K n (q + 2)) := ⟨k1, Or.inr (Or.inr (Or.inl ⟨by omega, by omega, rfl⟩))⟩
    refine ⟨c, c1, c4, lc, fun x hx => ?_, fun j x hj hx => ?_, ?_, k2, bp4.symm, bp5, ((W.2.1 q hq hr).2.1 _ hEb).1, by rw [L2, lse]⟩
    · have hE : gr_E K (sk_f K n) q (it_f (sk_f K n) x (q + 3) + 2) := ⟨k1, Or.inr (Or.inr (Or.inr ⟨k8, _, (ls_CM lc).mpr ⟨x, hx, rfl⟩, rfl⟩))⟩
      have s := st_in hn hB W hq hr hE
      obtain ⟨m1, m2, m3, m4, m5, m6, m7, m8, m9⟩ := gr_bnd hI k1 k8 hS ((ls_CM lc).mpr ⟨x, hx, rfl⟩)
      refine ⟨m2, s.1, s.2.1, s.2.2.1, m1, by rw [it_s]; exact m6, (bd.1 (x + 1) (by omega)).1, ?_, fun z => m9.2.2.2.2 z, ?_⟩
      · have := L3 (by omega) x hx
        rw [this, lse]
      · have := L1 x hx
        rw [nme, lse] at this
        exact this
    · intro ev
      have nd := (bb x hx).2.2.2.1
      exact nd ((xl_dup (K := K) (n := n) (L := q + 2) hn (by omega)).mpr ⟨j, hj, ev⟩)
    · have := gb.2.1.1
      have := gb.2.2.1.1
      have := gb.2.2.2.1
      have := dp_le hn hI hq
      omega
  · omega
  · omega
theorem st_lam (hn : ∀ i, n ≤ i → K i = 0) (hB : ∀ i, i < n → K i ≠ 2 → dp_I K i (sk_f K n i)) (W : rw_W K V (sk_f K n) n n r par) (hL : ∀ i, i < n → r i = 1 → K i = 1 → sc_L K (sk_f K n) sc i) {q : Nat} (hq : q < n) (hr : r q = 1) (k1 : K q = 1) (k7 : K (q + 1) = 7) :
    ∃ c, c ≤ 4 ∧ gr_P K V (q + 2) c ∧ ls_C K (sk_f K n) (q + 3) c ∧ (∀ k, k < c → q + 3 + k < n ∧ sc (q + 3 + k) = hb_s (sc q) (fun i => q + 3 + i) k) ∧ q + 3 + c < n ∧ q + 2 < n ∧ K (q + 2) = 1 ∧ sk_f K n (q + 2) = q + 4 + c ∧ sk_f K n (q + 2) < n ∧ r (sk_f K n (q + 2)) = 1 ∧ sc (sk_f K n (q + 2)) = hb_s (sc q) (fun i => q + 3 + i) c := by
  have hS := (W.2.1 q hq hr).1
  have hI := hB q hq (by omega)
  obtain ⟨c, c4, lc, hN, hP, _⟩ := sc_N k1 (by omega) (by omega) hS
  have P := hP k7
  have gb := gr_bind hI k1 (by omega) (by omega) hS
  obtain ⟨L1, L2, _⟩ := (hL q hq hr k1).2 (by omega) (by omega) c lc
  have nme : ∀ j, sc_nm K (sk_f K n) q j = q + 3 + j := fun j => if_pos k7
  have lse : ∀ j, sc_ls K (sk_f K n) sc q j = hb_s (sc q) (fun i => q + 3 + i) j := fun j => by
    cases j with
    | zero => rfl
    | succ j => show nI (sc_nm K (sk_f K n) q j) = _; rw [nme]; rfl
  have ea : sk_f K n (q + 2) = q + 2 + 2 + c := gr_Pa gb.1 P
  have hEb : gr_E K (sk_f K n) q (sk_f K n (q + 2)) := ⟨k1, Or.inr (Or.inr (Or.inl ⟨by omega, by omega, rfl⟩))⟩
  have s := st_in hn hB W hq hr hEb
  refine ⟨c, c4, P, lc, fun x hx => ⟨by omega, ?_⟩, by omega, by omega, gb.1, by omega, s.1, s.2.1, by rw [L2, lse]⟩
  have := L1 x hx
  rw [nme, lse] at this
  exact this
end
