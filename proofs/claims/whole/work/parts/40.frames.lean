/-! the frames -/
def fr_W (K a : Nat → Nat) (R sc : Nat → Int32) (n : Nat) (g nm : Nat → Nat) (cc : Nat) (ff fp fe fb P E S N B : Nat → Int32) (x y b k q : Nat) : Prop :=
  q < n ∧ R q = 1 ∧ K q = 1 ∧ ff x = nI q ∧ P y = nI q ∧ fb x = nI b ∧ B y = nI b ∧ hb_E g nm cc (fe x) (E y) (sc q) ∧
   ((K (q + 1) = 10 ∧ k = 0 ∧ fp x = nI (q + 2) ∧ S y = 1) ∨
    (11 ≤ K (q + 1) ∧ k < gr_n (K (q + 1)) ∧ fp x = nI (it_f a k (q + 2)) ∧ S y = nI (k + 1) ∧ N y = nI (it_f a (k + 1) (q + 2))) ∨
    (K (q + 1) = 8 ∧ (∃ c, ls_C K a (q + 3) c ∧ k < c) ∧ fp x = nI (it_f a k (q + 3) + 2) ∧ S y = 0 ∧ N y = nI (it_f a (k + 1) (q + 3))) ∨
    (K (q + 1) < 6 ∧ ∃ c, ls_C K a (q + 1) (c + 1) ∧ ((k < c ∧ fp x = nI (it_f a (k + 1) (q + 1)) ∧ S y = 0 ∧ N y = nI (it_f a (k + 2) (q + 1))) ∨ (k = c ∧ fp x = nI (q + 1) ∧ S y = 1))))
def fr_P (K : Nat → Nat) (n : Nat) (P S B : Nat → Int32) (y o : Nat) : Prop := B y = nI o ∧ ∃ q, q < n ∧ P y = nI q ∧ ((K (q + 1) = 10 ∧ S y = 2) ∨ (K (q + 1) = 8 ∧ S y = 1) ∨ (K (q + 1) = 9 ∧ S y = 2))
def fr_C (K : Nat → Nat) (n : Nat) (fp P S B : Nat → Int32) (x y o : Nat) : Prop := fp x = -1 ∧ (∃ q, q < n ∧ P y = nI q ∧ K (q + 1) < 6) ∧ S y = 2 ∧ B y = nI o
def fr_R (K a : Nat → Nat) (R sc : Nat → Int32) (n : Nat) (g nm : Nat → Nat) (cc : Nat) (ff fp fe fb P E S N B : Nat → Int32) : Nat → Nat → Nat → Nat → Prop
  | 0, x, o, u => x = 0 ∧ o = 0 ∧ u = 0
  | y + 1, x, o, u =>
    (fr_P K n P S B y o ∧ fr_R K a R sc n g nm cc ff fp fe fb P E S N B y x o u) ∨
    (∃ x', x = x' + 1 ∧ fr_C K n fp P S B x' y o ∧ fr_R K a R sc n g nm cc ff fp fe fb P E S N B y x' o u) ∨
    (∃ x' b k u' q, x = x' + 1 ∧ u = u' + 1 ∧ o = b + k ∧ fr_W K a R sc n g nm cc ff fp fe fb P E S N B x' y b k q ∧ fr_R K a R sc n g nm cc ff fp fe fb P E S N B y x' b u')
section
variable {K a : Nat → Nat} {R sc : Nat → Int32} {n : Nat} {g nm g' nm' : Nat → Nat} {cc cc' : Nat} {ff fp fe fb P E S N B ff' fp' fe' fb' P' E' S' N' B' : Nat → Int32}
theorem fr_Wk {x y b k q : Nat} (hc : cc ≤ cc') (hg : ∀ i, i < cc → g' i = g i ∧ nm' i = nm i) (hx : ff' x = ff x ∧ fp' x = fp x ∧ fe' x = fe x ∧ fb' x = fb x) (hy : P' y = P y ∧ E' y = E y ∧ S' y = S y ∧ N' y = N y ∧ B' y = B y)
    (h : fr_W K a R sc n g nm cc ff fp fe fb P E S N B x y b k q) : fr_W K a R sc n g' nm' cc' ff' fp' fe' fb' P' E' S' N' B' x y b k q := by
  unfold fr_W at h ⊢
  rw [hx.1, hx.2.1, hx.2.2.1, hx.2.2.2, hy.1, hy.2.1, hy.2.2.1, hy.2.2.2.1, hy.2.2.2.2]
  obtain ⟨h1, h2, h3, h4, h5, h6, h7, h8, h9⟩ := h
  exact ⟨h1, h2, h3, h4, h5, h6, h7, hb_Em hc hg h8, h9⟩
theorem fr_k (hc : cc ≤ cc') (hg : ∀ i, i < cc → g' i = g i ∧ nm' i = nm i) : ∀ {y x o u : Nat}, (∀ i, i < x → ff' i = ff i ∧ fp' i = fp i ∧ fe' i = fe i ∧ fb' i = fb i) → (∀ i, i < y → P' i = P i ∧ E' i = E i ∧ S' i = S i ∧ N' i = N i ∧ B' i = B i) →
    fr_R K a R sc n g nm cc ff fp fe fb P E S N B y x o u → fr_R K a R sc n g' nm' cc' ff' fp' fe' fb' P' E' S' N' B' y x o u
  | 0, _, _, _, _, _, h => h
  | y + 1, x, o, u, hx, hy, h => by
    have q := hy y (by omega)
    rcases h with ⟨h1, h2⟩ | ⟨x', e, h1, h2⟩ | ⟨x', b, k, u', q', e1, e2, e3, h1, h2⟩
    · refine Or.inl ⟨?_, fr_k hc hg hx (fun i hi => hy i (by omega)) h2⟩
      unfold fr_P at h1 ⊢
      rw [q.1, q.2.2.1, q.2.2.2.2]; exact h1
    · refine Or.inr (Or.inl ⟨x', e, ?_, fr_k hc hg (fun i hi => hx i (by omega)) (fun i hi => hy i (by omega)) h2⟩)
      unfold fr_C at h1 ⊢
      rw [q.1, q.2.2.1, q.2.2.2.2, (hx x' (by omega)).2.1]; exact h1
    · exact Or.inr (Or.inr ⟨x', b, k, u', q', e1, e2, e3, fr_Wk hc hg (hx x' (by omega)) q h1, fr_k hc hg (fun i hi => hx i (by omega)) (fun i hi => hy i (by omega)) h2⟩)
end
/-- operands and the reference's value stack -/
def op_R (VR : Nat → Nat → Prop) (op yvs : Nat → Int32) (oc : Nat) : Prop := ∀ k, k < oc → ∃ a b, op k = nI a ∧ yvs k = nI b ∧ VR a b
def sr_N (vc cc hp fc oc y u s t it ans F : Nat) : Prop := vc + u ≤ 128 + s ∧ 128 ≤ vc ∧ cc + oc + fc + ans ≤ s ∧ hp + 4 * u ≤ 1 + 122 * s ∧ y ≤ s ∧ t + ans + fc ≤ 2 * s ∧ it + y + ans ≤ 3 * s + 1 ∧ s ≤ F ∧ F ≤ 400 ∧ ans ≤ 1
/-- the invariant of a run -/
def sr_I (K : Nat → Nat) (V : Nat → Int32) (a : Nat → Nat) (R sc : Nat → Int32) (n : Nat) (VR : Nat → Nat → Prop) (g nm : Nat → Nat) (vc cc hp fc oc y u s t it ans F : Nat) (xvk xvf xvs xcv xco xff xfp xfe xfb xop yck yca ycb ycc yfp yfe yfS yfn yfb yvs : Nat → Int32) : Prop :=
  hb_B K V R sc n VR g nm vc cc hp cc xvk xvf xvs xcv xco yck yca ycb ycc ∧ op_R VR xop yvs oc ∧ fr_R K a R sc n g nm cc xff xfp xfe xfb yfp yfe yfS yfn yfb y fc oc u ∧ sr_N vc cc hp fc oc y u s t it ans F ∧ lt_L K V a R xvk xvf xvs n
theorem op_m {VR VR' : Nat → Nat → Prop} {op yvs op' yvs' : Nat → Int32} {oc : Nat} (hV : ∀ a b, VR a b → VR' a b) (h1 : ∀ k, k < oc → op' k = op k ∧ yvs' k = yvs k) (h : op_R VR op yvs oc) : op_R VR' op' yvs' oc := fun k hk => by
  obtain ⟨a, b, e1, e2, v⟩ := h k hk
  have q := h1 k hk
  exact ⟨a, b, q.1.trans e1, q.2.trans e2, hV _ _ v⟩
theorem op_s {VR VR' : Nat → Nat → Prop} {op yvs yvs' : Nat → Int32} {oc a b : Nat} (hV : ∀ a b, VR a b → VR' a b) (h1 : ∀ k, k < oc → yvs' k = yvs k) (h2 : yvs' oc = nI b) (v : VR' a b) (h : op_R VR op yvs oc) : op_R VR' (upd op oc (nI a)) yvs' (oc + 1) := fun k hk => by
  by_cases z : k = oc
  · subst z; exact ⟨a, b, pk_us, h2, v⟩
  · obtain ⟨a', b', e1, e2, v'⟩ := h k (by omega)
    exact ⟨a', b', (pk_un z).trans e1, (h1 k (by omega)).trans e2, hV _ _ v'⟩
theorem op_l {VR : Nat → Nat → Prop} {op yvs : Nat → Int32} {oc oc' : Nat} (hl : oc' ≤ oc) (h : op_R VR op yvs oc) : op_R VR op yvs oc' := fun k hk => h k (by omega)
/-! the shape of forms, as a run needs it -/
section
variable {K : Nat → Nat} {V r sc : Nat → Int32} {n : Nat} {par : Nat → Nat}
theorem st_in (hn : ∀ i, n ≤ i → K i = 0) (hB : ∀ i, i < n → K i ≠ 2 → dp_I K i (sk_f K n i)) (W : rw_W K V (sk_f K n) n n r par) {q c : Nat} (hq : q < n) (hr : r q = 1) (h : gr_E K (sk_f K n) q c) : c < n ∧ r c = 1 ∧ K c ≠ 2 ∧ q < c ∧ sk_f K n c < sk_f K n q ∧ sk_f K n q ≤ n := by
  have w := W.2.1 q hq hr
  have k1 := h.1
  have hI := hB q hq (by omega)
  have gi := gr_in hI w.1 (Or.inl h)
  have g1 := gi.2.1.1
  have l := dp_le hn hI hq
  have rc := (w.2.1 c h).1
  refine ⟨by omega, rc, ?_, gi.1, gi.2.2, l⟩
  exact dp_I_n2 gi.2.1
theorem st_op (hn : ∀ i, n ≤ i → K i = 0) (hB : ∀ i, i < n → K i ≠ 2 → dp_I K i (sk_f K n i)) (W : rw_W K V (sk_f K n) n n r par) (hL : ∀ i, i < n → r i = 1 → K i = 1 → sc_L K (sk_f K n) sc i) {q : Nat} (hq : q < n) (hr : r q = 1) (k1 : K q = 1) (k10 : 10 ≤ K (q + 1)) :
    ls_C K (sk_f K n) (q + 2) (gr_n (K (q + 1))) ∧ (∀ k, k < gr_n (K (q + 1)) → it_f (sk_f K n) k (q + 2) < n ∧ r (it_f (sk_f K n) k (q + 2)) = 1 ∧ K (it_f (sk_f K n) k (q + 2)) ≠ 2 ∧ q + 2 ≤ it_f (sk_f K n) k (q + 2) ∧ sc (it_f (sk_f K n) k (q + 2)) = sc q) ∧ it_f (sk_f K n) (gr_n (K (q + 1))) (q + 2) < n := by
  have hS := (W.2.1 q hq hr).1
  rcases gr_FSof hS k1 with ⟨k, l⟩ | ⟨k, l, k2, c', q'⟩ | ⟨k, l, k2, c', c1, c4, lc, bb⟩ | ⟨k, l⟩ | ⟨k, c', c4, l⟩
  · omega
  · omega
  · omega
  · have bd := ls_bd hn l
    refine ⟨l, fun x hx => ?_, (bd.1 _ (Nat.le_refl _)).1⟩
    have hE : gr_E K (sk_f K n) q (it_f (sk_f K n) x (q + 2)) := ⟨k1, Or.inl ⟨k, (ls_CM l).mpr ⟨x, hx, rfl⟩⟩⟩
    have s := st_in hn hB W hq hr hE
    exact ⟨s.1, s.2.1, s.2.2.1, by have := (bd.1 x (by omega)).2; omega, (hL q hq hr k1).1 (Or.inr k) _ hE⟩
  · omega
theorem st_app (hn : ∀ i, n ≤ i → K i = 0) (hB : ∀ i, i < n → K i ≠ 2 → dp_I K i (sk_f K n i)) (W : rw_W K V (sk_f K n) n n r par) (hL : ∀ i, i < n → r i = 1 → K i = 1 → sc_L K (sk_f K n) sc i) {q : Nat} (hq : q < n) (hr : r q = 1) (k1 : K q = 1) (k6 : K (q + 1) < 6) :
    ∃ c, c ≤ 4 ∧ ls_C K (sk_f K n) (q + 1) (c + 1) ∧ (∀ k, k ≤ c → it_f (sk_f K n) k (q + 1) < n ∧ r (it_f (sk_f K n) k (q + 1)) = 1 ∧ K (it_f (sk_f K n) k (q + 1)) ≠ 2 ∧ q + 1 + k ≤ it_f (sk_f K n) k (q + 1) ∧ sc (it_f (sk_f K n) k (q + 1)) = sc q) ∧ it_f (sk_f K n) (c + 1) (q + 1) < n := by
  have hS := (W.2.1 q hq hr).1
  rcases gr_FSof hS k1 with ⟨k, l⟩ | ⟨k, l, k2, c', q'⟩ | ⟨k, l, k2, c', c1, c4, lc, bb⟩ | ⟨k, l⟩ | ⟨k, c, c4, l⟩
  · omega
  · omega
  · omega
  · omega
  · have bd := ls_bd hn l
    refine ⟨c, c4, l, fun x hx => ?_, (bd.1 _ (Nat.le_refl _)).1⟩
    have hE : gr_E K (sk_f K n) q (it_f (sk_f K n) x (q + 1)) := ⟨k1, Or.inr (Or.inl ⟨k, (ls_CM l).mpr ⟨x, by omega, rfl⟩⟩)⟩
    have s := st_in hn hB W hq hr hE
    exact ⟨s.1, s.2.1, s.2.2.1, by have := (bd.1 x (by omega)).2; omega, (hL q hq hr k1).1 (Or.inl (by omega)) _ hE⟩
theorem st_let (hn : ∀ i, n ≤ i → K i = 0) (hB : ∀ i, i < n → K i ≠ 2 → dp_I K i (sk_f K n i)) (W : rw_W K V (sk_f K n) n n r par) (hL : ∀ i, i < n → r i = 1 → K i = 1 → sc_L K (sk_f K n) sc i) {q : Nat} (hq : q < n) (hr : r q = 1) (k1 : K q = 1) (k8 : K (q + 1) = 8 ∨ K (q + 1) = 9) :
    ∃ c, 1 ≤ c ∧ c ≤ 4 ∧ ls_C K (sk_f K n) (q + 3) c ∧
      (∀ k, k < c → K (it_f (sk_f K n) k (q + 3)) = 1 ∧ it_f (sk_f K n) k (q + 3) + 2 < n ∧ r (it_f (sk_f K n) k (q + 3) + 2) = 1 ∧ K (it_f (sk_f K n) k (q + 3) + 2) ≠ 2 ∧ q + 3 ≤ it_f (sk_f K n) k (q + 3) ∧ it_f (sk_f K n) (k + 1) (q + 3) = sk_f K n (it_f (sk_f K n) k (q + 3) + 2) + 1 ∧ it_f (sk_f K n) (k + 1) (q + 3) < n ∧ sc (it_f (sk_f K n) k (q + 3) + 2) = (if K (q + 1) = 9 then hb_s (sc q) (fun i => it_f (sk_f K n) i (q + 3) + 1) c else sc q) ∧ (K (q + 1) = 9 → K (it_f (sk_f K n) k (q + 3) + 2) = 1 ∧ K (it_f (sk_f K n) k (q + 3) + 3) = 7) ∧ sc (it_f (sk_f K n) k (q + 3) + 1) = hb_s (sc q) (fun i => it_f (sk_f K n) i (q + 3) + 1) k) ∧
      (∀ j k, j < k → k < c → V (it_f (sk_f K n) j (q + 3) + 1) ≠ V (it_f (sk_f K n) k (q + 3) + 1)) ∧
      q + 2 < n ∧ K (q + 2) = 1 ∧ sk_f K n (q + 2) = it_f (sk_f K n) c (q + 3) + 1 ∧ sk_f K n (q + 2) < n ∧ r (sk_f K n (q + 2)) = 1 ∧ sc (sk_f K n (q + 2)) = hb_s (sc q) (fun i => it_f (sk_f K n) i (q + 3) + 1) c := by
  have hS := (W.2.1 q hq hr).1
  have hI := hB q hq (by omega)
  have L := (hL q hq hr k1).2 (by omega) (by omega)
  have gb := gr_bind hI k1 (by omega) (by omega) hS
  have nme : ∀ j, sc_nm K (sk_f K n) q j = it_f (sk_f K n) j (q + 3) + 1 := fun j => if_neg (by omega)
  have lse : ∀ j, sc_ls K (sk_f K n) sc q j = hb_s (sc q) (fun i => it_f (sk_f K n) i (q + 3) + 1) j := fun j => by
    cases j with
    | zero => rfl
    | succ j => show nI (sc_nm K (sk_f K n) q j) = _; rw [nme]; rfl
  rcases gr_FSof hS k1 with ⟨k, l⟩ | ⟨k, l, k2, c', q'⟩ | ⟨k, l, k2, c, c1, c4, lc, bb⟩ | ⟨k, l⟩ | ⟨k, c', c4, l⟩
  · omega
  · omega
  · obtain ⟨bp1, bp2, bp3, bp4, bp5⟩ := xs_bp (V := V) hn hB hq k1 k8 hS lc
    obtain ⟨L1, L2, L3⟩ := L c lc
    have bd := ls_bd hn lc
    have hEb : gr_E K (sk_f K n) q (sk_f K n (q + 2)) := ⟨k1, Or.inr (Or.inr (Or.inl ⟨by omega, by omega, rfl⟩))⟩
    refine ⟨c, c1, c4, lc, fun x hx => ?_, fun j x hj hx => ?_, ?_, k2, bp4.symm, bp5, ((W.2.1 q hq hr).2.1 _ hEb).1, by rw [L2, lse]⟩
    · have hE : gr_E K (sk_f K n) q (it_f (sk_f K n) x (q + 3) + 2) := ⟨k1, Or.inr (Or.inr (Or.inr ⟨k8, _, (ls_CM lc).mpr ⟨x, hx, rfl⟩, rfl⟩))⟩
      have s := st_in hn hB W hq hr hE
      obtain ⟨m1, m2, m3, m4, m5, m6, m7, m8, m9⟩ := gr_bnd hI k1 k8 hS ((ls_CM lc).mpr ⟨x, hx, rfl⟩)
      refine ⟨m2, s.1, s.2.1, s.2.2.1, m1, by rw [it_s]; exact m6, (bd.1 (x + 1) (by omega)).1, ?_, fun z => m9.2.2.2.2 z, ?_⟩
      · have := L3 (by omega) x hx
        rw [this, lse]
      · have := L1 x hx
        rw [nme, lse] at this
        exact this
    · intro ev
      have nd := (bb x hx).2.2.2.1
      exact nd ((xl_dup (K := K) (n := n) (L := q + 2) hn (by omega)).mpr ⟨j, hj, ev⟩)
    · have := gb.2.1.1
      have := gb.2.2.1.1
      have := gb.2.2.2.1
      have := dp_le hn hI hq
      omega
  · omega
  · omega
theorem st_lam (hn : ∀ i, n ≤ i → K i = 0) (hB : ∀ i, i < n → K i ≠ 2 → dp_I K i (sk_f K n i)) (W : rw_W K V (sk_f K n) n n r par) (hL : ∀ i, i < n → r i = 1 → K i = 1 → sc_L K (sk_f K n) sc i) {q : Nat} (hq : q < n) (hr : r q = 1) (k1 : K q = 1) (k7 : K (q + 1) = 7) :
    ∃ c, c ≤ 4 ∧ gr_P K V (q + 2) c ∧ ls_C K (sk_f K n) (q + 3) c ∧ (∀ k, k < c → q + 3 + k < n ∧ sc (q + 3 + k) = hb_s (sc q) (fun i => q + 3 + i) k) ∧ q + 3 + c < n ∧ q + 2 < n ∧ K (q + 2) = 1 ∧ sk_f K n (q + 2) = q + 4 + c ∧ sk_f K n (q + 2) < n ∧ r (sk_f K n (q + 2)) = 1 ∧ sc (sk_f K n (q + 2)) = hb_s (sc q) (fun i => q + 3 + i) c := by
  have hS := (W.2.1 q hq hr).1
  have hI := hB q hq (by omega)
  obtain ⟨c, c4, lc, hN, hP, _⟩ := sc_N k1 (by omega) (by omega) hS
  have P := hP k7
  have gb := gr_bind hI k1 (by omega) (by omega) hS
  obtain ⟨L1, L2, _⟩ := (hL q hq hr k1).2 (by omega) (by omega) c lc
  have nme : ∀ j, sc_nm K (sk_f K n) q j = q + 3 + j := fun j => if_pos k7
  have lse : ∀ j, sc_ls K (sk_f K n) sc q j = hb_s (sc q) (fun i => q + 3 + i) j := fun j => by
    cases j with
    | zero => rfl
    | succ j => show nI (sc_nm K (sk_f K n) q j) = _; rw [nme]; rfl
  have ea : sk_f K n (q + 2) = q + 2 + 2 + c := gr_Pa gb.1 P
  have hEb : gr_E K (sk_f K n) q (sk_f K n (q + 2)) := ⟨k1, Or.inr (Or.inr (Or.inl ⟨by omega, by omega, rfl⟩))⟩
  have s := st_in hn hB W hq hr hEb
  refine ⟨c, c4, P, lc, fun x hx => ⟨by omega, ?_⟩, by omega, by omega, gb.1, by omega, s.1, s.2.1, by rw [L2, lse]⟩
  have := L1 x hx
  rw [nme, lse] at this
  exact this
end
