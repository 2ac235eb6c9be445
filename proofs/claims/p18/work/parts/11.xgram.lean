section
variable {xdl xtn xpp xvc xcc xfc xoc xag xan xex xen xfl xac xst xsp xmd xrt xcu : Int32} {xtk xtv xaf xro xsc xho xvk xvf xvs xcv xco xff xfp xfe xfb xop : Nat → Int32} {n : Nat}
/-- the number of a list's items, for a matched paren -/
theorem xl_cnt (H : tk_ok xtk n) (A : xb_A (tk_K xtk n) n xaf) {i : Nat} (hi : i < n) (k1 : tk_K xtk n i = 1) : ∃ c, ls_C (tk_K xtk n) (sk_f (tk_K xtk n) n) (i + 1) c ∧ it_f (sk_f (tk_K xtk n) n) c (i + 1) + 1 = sk_f (tk_K xtk n) n i ∧ c + (i + 1) < sk_f (tk_K xtk n) n i ∧ sk_f (tk_K xtk n) n i ≤ n := by
  have hI := (A i hi (by omega)).1
  obtain ⟨c, a, b, d, _⟩ := ls_in (n := n) hI k1
  exact ⟨c, a, b, d, dp_le (K := (tk_K xtk n)) (n := n) (fun i => tk_0) hI hi⟩
/-- names so far: no list of names ends before them -/
theorem xl_Px {q x c : Nat} (h : ∀ j, j < x → tk_K xtk n (q + 1 + j) = 4) (p : gr_P (tk_K xtk n) xtv q c) : x ≤ c := by
  rcases Nat.lt_or_ge c x with z | z
  · have := h c z; have := p.2.2.1; omega
  · exact z
theorem xl_59 (H : tk_ok xtk n) (A : xb_A (tk_K xtk n) n xaf) {i x : Nat} {r' : Nat → Int32} (k1 : tk_K xtk n i = 1) (k7 : tk_K xtk n (i + 1) = 7) (l2 : ls_C (tk_K xtk n) (sk_f (tk_K xtk n) n) (i + 2) 2) (k2 : tk_K xtk n (i + 2) = 1) {post : Int32 → SX → Prop}
    (h1 : ∀ r', gr_FS (tk_K xtk n) xtv (sk_f (tk_K xtk n) n) i 7 → (∀ c, gr_E (tk_K xtk n) (sk_f (tk_K xtk n) n) i c → r' c = 1) → (∀ c, gr_N (tk_K xtk n) (sk_f (tk_K xtk n) n) i c → r' c = 3) → (∀ c, ¬ gr_Ch (tk_K xtk n) (sk_f (tk_K xtk n) n) i c → r' c = xro c) → post 1 (xdl, xtn, xpp, xvc, xcc, xfc, xoc, xag, xan, xex, xen, xfl, xac, xst, xsp, xmd, xrt, xcu, xtk, xtv, xaf, r', xsc, xho, xvk, xvf, xvs, xcv, xco, xff, xfp, xfe, xfb, xop))
    (h0 : ∀ r', ¬ gr_FS (tk_K xtk n) xtv (sk_f (tk_K xtk n) n) i 7 → post 0 (xdl, xtn, xpp, xvc, xcc, xfc, xoc, xag, xan, xex, xen, xfl, xac, xst, xsp, xmd, xrt, xcu, xtk, xtv, xaf, r', xsc, xho, xvk, xvf, xvs, xcv, xco, xff, xfp, xfe, xfb, xop))
    (hx : x ≤ 4) (hp : i + 2 + 1 + x < n) (hk : ∀ j, j < x → tk_K xtk n (i + 2 + 1 + j) = 4) (hd : ∀ j j', j < j' → j' < x → xtv (i + 2 + 1 + j) ≠ xtv (i + 2 + 1 + j')) (hr : ∀ j, j < x → r' (i + 2 + 1 + j) = 3) (hn : ∀ q, (∀ j, j < x → q ≠ i + 2 + 1 + j) → r' q = xro q)
    (hend : tk_K xtk n (i + 2 + 1 + x) ≠ 2 → x = 4) : wX_lambdaFits_59 post (nI (i + 2)) (nI (i + 2 + 1 + x)) xdl xtn xpp xvc xcc xfc xoc xag xan xex xen xfl xac xst xsp xmd xrt xcu xtk xtv xaf r' xsc xho xvk xvf xvs xcv xco xff xfp xfe xfb xop := by
  have H1 := H.1
  have i2 : i + 2 < n := tk_lt (tk := xtk) (by omega)
  have e2 : xaf (nI (i + 2)).toNatClampNeg = nI (sk_f (tk_K xtk n) n (i + 2)) := by rw [nI_clamp (by omega)]; exact (A _ i2 (by omega)).2
  have b1 : sk_f (tk_K xtk n) n (i + 2) < n := ((ls_bd (K := (tk_K xtk n)) (n := n) (fun i => tk_0) l2).1 1 (by omega)).1
  refine ⟨tk_in H i2, ?_, fun r8 e8 => ⟨tk_in H hp, tk_b H hp 2 (fun k => ?_) (fun k => ?_)⟩⟩
  · rw [e2]; exact tk_in H b1
  · rw [e2, nI_clamp (by omega)] at e8
    have P : gr_P (tk_K xtk n) xtv (i + 2) x := ⟨hx, hk, k, hd⟩
    have ea : sk_f (tk_K xtk n) n (i + 2) = i + 2 + 2 + x := gr_Pa k2 P
    have lc := gr_PC (n := n) P
    refine h1 r8 (Or.inr (Or.inl ⟨rfl, l2, k2, x, P⟩)) (fun c hc => ?_) (fun c hc => ?_) (fun c hc => ?_)
    · obtain ⟨_, hc⟩ := hc
      rcases hc with ⟨z, _⟩ | ⟨z, _⟩ | ⟨_, _, z⟩ | ⟨z, _⟩
      · omega
      · omega
      · rw [e8, z]; exact pk_us
      · omega
    · obtain ⟨_, hc⟩ := hc
      rcases hc with ⟨_, hc⟩ | ⟨z, _⟩
      · obtain ⟨j, hj, e⟩ := (ls_CM lc).mp hc
        rw [gr_Pi P (by omega)] at e
        rw [e8, pk_un (by omega), e]; exact hr j hj
      · omega
    · have n1 : c ≠ sk_f (tk_K xtk n) n (i + 2) := fun z => hc (Or.inl ⟨k1, Or.inr (Or.inr (Or.inl ⟨by omega, by omega, z⟩))⟩)
      rw [e8, pk_un n1]
      refine hn c (fun j hj z => hc (Or.inr (Or.inr ⟨k1, Or.inl ⟨k7, ?_⟩⟩)))
      exact (ls_CM lc).mpr ⟨j, hj, by rw [gr_Pi P (by omega)]; exact z⟩
  · have x4 := hend k
    refine h0 r8 (fun z => ?_)
    rcases z with ⟨z, _⟩ | ⟨_, _, _, c, P⟩ | ⟨z, _⟩ | ⟨z, _⟩ | ⟨z, _⟩
    · omega
    · have := xl_Px hk P
      have := P.1
      have e : c = x := by omega
      subst e
      exact k P.2.2.1
    · omega
    · omega
    · omega
theorem xl_lamL (H : tk_ok xtk n) (A : xb_A (tk_K xtk n) n xaf) {i : Nat} (k1 : tk_K xtk n i = 1) (k7 : tk_K xtk n (i + 1) = 7) (l2 : ls_C (tk_K xtk n) (sk_f (tk_K xtk n) n) (i + 2) 2) (k2 : tk_K xtk n (i + 2) = 1) (hz : ∀ m, i < m → m < sk_f (tk_K xtk n) n i → xro m = 0) {post : Int32 → SX → Prop}
    (h1 : ∀ r', gr_FS (tk_K xtk n) xtv (sk_f (tk_K xtk n) n) i 7 → (∀ c, gr_E (tk_K xtk n) (sk_f (tk_K xtk n) n) i c → r' c = 1) → (∀ c, gr_N (tk_K xtk n) (sk_f (tk_K xtk n) n) i c → r' c = 3) → (∀ c, ¬ gr_Ch (tk_K xtk n) (sk_f (tk_K xtk n) n) i c → r' c = xro c) → post 1 (xdl, xtn, xpp, xvc, xcc, xfc, xoc, xag, xan, xex, xen, xfl, xac, xst, xsp, xmd, xrt, xcu, xtk, xtv, xaf, r', xsc, xho, xvk, xvf, xvs, xcv, xco, xff, xfp, xfe, xfb, xop))
    (h0 : ∀ r', ¬ gr_FS (tk_K xtk n) xtv (sk_f (tk_K xtk n) n) i 7 → post 0 (xdl, xtn, xpp, xvc, xcc, xfc, xoc, xag, xan, xex, xen, xfl, xac, xst, xsp, xmd, xrt, xcu, xtk, xtv, xaf, r', xsc, xho, xvk, xvf, xvs, xcv, xco, xff, xfp, xfe, xfb, xop)) :
    ∀ d x (r' : Nat → Int32), x + d = 4 → (∀ j, j < x → tk_K xtk n (i + 2 + 1 + j) = 4) → (∀ j j', j < j' → j' < x → xtv (i + 2 + 1 + j) ≠ xtv (i + 2 + 1 + j')) → (∀ j, j < x → r' (i + 2 + 1 + j) = 3) → (∀ q, (∀ j, j < x → q ≠ i + 2 + 1 + j) → r' q = xro q) →
      wX_lambdaFits_23 post (nI (i + 2)) (d + 1) (nI (i + 2 + 1 + x)) (nI x) xdl xtn xpp xvc xcc xfc xoc xag xan xex xen xfl xac xst xsp xmd xrt xcu xtk xtv xaf r' xsc xho xvk xvf xvs xcv xco xff xfp xfe xfb xop := by
  have H1 := H.1
  have i2 : i + 2 < n := tk_lt (tk := xtk) (by omega)
  obtain ⟨c', lc', _, _, _⟩ := xl_cnt H A i2 k2
  have hpos : ∀ x, (∀ j, j < x → tk_K xtk n (i + 2 + 1 + j) = 4) → i + 2 + 1 + x < n := by
    intro x hk
    have e : ∀ j, j ≤ x → it_f (sk_f (tk_K xtk n) n) j (i + 2 + 1) = i + 2 + 1 + j := fun j hj => it_at (fun y hy => by have := hk y (by omega); omega)
    have hc : x ≤ c' := by
      rcases Nat.lt_or_ge c' x with z | z
      · have := lc'.2; rw [e c' (by omega)] at this; have := hk c' z; omega
      · exact z
    have := ((ls_bd (K := (tk_K xtk n)) (n := n) (fun i => tk_0) lc').1 x hc).1
    rw [e x (Nat.le_refl _)] at this
    exact this
  intro d
  induction d with
  | zero =>
    intro x r' e hk hd hr hn
    exact pk_le 4 x (fun _ => xl_59 H A k1 k7 l2 k2 h1 h0 (by omega) (hpos x hk) hk hd hr hn (fun _ => by omega)) (fun z => by omega)
  | succ d ih =>
    intro x r' e hk hd hr hn
    have hp := hpos x hk
    refine pk_le 4 x (fun z => by omega) (fun _ => ⟨tk_in H hp, tk_b H hp 2 (fun k => xl_59 H A k1 k7 l2 k2 h1 h0 (by omega) hp hk hd hr hn (fun z => absurd k z)) (fun k => ?_)⟩)
    refine xn_take (xro := r') H (by omega) hp (fun k4 hq => ?_) (fun z => ?_)
    · refine br_f (by decide) (nm_r (nI_1 _) (nm_r (nI_1 x) (ih (x + 1) _ (by omega) (fun j hj => ?_) (fun j j' h1 h2 => ?_) (fun j hj => ?_) (fun q hq2 => ?_))))
      · by_cases z : j = x
        · subst z; exact k4
        · exact hk j (by omega)
      · by_cases z : j' = x
        · subst z
          exact hq (i + 2 + 1 + j) (by omega) (by omega) (hr j h1)
        · exact hd j j' h1 (by omega)
      · by_cases z : j = x
        · subst z; exact pk_us
        · rw [pk_un (by omega)]; exact hr j (by omega)
      · rw [pk_un (hq2 x (by omega))]
        exact hn q (fun j hj => hq2 j (by omega))
    · refine br_t rfl (h0 r' (fun w => ?_))
      rcases w with ⟨w, _⟩ | ⟨_, _, _, c, P⟩ | ⟨w, _⟩ | ⟨w, _⟩ | ⟨w, _⟩
      · omega
      · have hxc := xl_Px hk P
        have hxc2 : x < c := by
          rcases Nat.lt_or_ge x c with y | y
          · exact y
          · have : c = x := by omega
            subst this; exact absurd P.2.2.1 k
        rcases z with z | ⟨y, y1, y2, y3, y4⟩
        · exact z (P.2.1 x hxc2)
        · have ey : y = i + 2 + 1 + (y - (i + 2 + 1)) := by omega
          rw [ey] at y4
          exact P.2.2.2 (y - (i + 2 + 1)) x (by omega) hxc2 y4
      · omega
      · omega
      · omega
theorem xl_lam (H : tk_ok xtk n) (A : xb_A (tk_K xtk n) n xaf) {i : Nat} (k1 : tk_K xtk n i = 1) (k7 : tk_K xtk n (i + 1) = 7) (l2 : ls_C (tk_K xtk n) (sk_f (tk_K xtk n) n) (i + 2) 2) (hz : ∀ m, i < m → m < sk_f (tk_K xtk n) n i → xro m = 0) {post : Int32 → SX → Prop}
    (h1 : ∀ r', gr_FS (tk_K xtk n) xtv (sk_f (tk_K xtk n) n) i 7 → (∀ c, gr_E (tk_K xtk n) (sk_f (tk_K xtk n) n) i c → r' c = 1) → (∀ c, gr_N (tk_K xtk n) (sk_f (tk_K xtk n) n) i c → r' c = 3) → (∀ c, ¬ gr_Ch (tk_K xtk n) (sk_f (tk_K xtk n) n) i c → r' c = xro c) → post 1 (xdl, xtn, xpp, xvc, xcc, xfc, xoc, xag, xan, xex, xen, xfl, xac, xst, xsp, xmd, xrt, xcu, xtk, xtv, xaf, r', xsc, xho, xvk, xvf, xvs, xcv, xco, xff, xfp, xfe, xfb, xop))
    (h0 : ∀ r', ¬ gr_FS (tk_K xtk n) xtv (sk_f (tk_K xtk n) n) i 7 → post 0 (xdl, xtn, xpp, xvc, xcc, xfc, xoc, xag, xan, xex, xen, xfl, xac, xst, xsp, xmd, xrt, xcu, xtk, xtv, xaf, r', xsc, xho, xvk, xvf, xvs, xcv, xco, xff, xfp, xfe, xfb, xop)) : wpX_lambdaFits post (xdl, xtn, xpp, xvc, xcc, xfc, xoc, xag, xan, xex, xen, xfl, xac, xst, xsp, xmd, xrt, xcu, xtk, xtv, xaf, xro, xsc, xho, xvk, xvf, xvs, xcv, xco, xff, xfp, xfe, xfb, xop) (nI i) := by
  have i2 : i + 2 < n := by have := (ls_bd (K := (tk_K xtk n)) (n := n) (fun i => tk_0) l2).2; omega
  refine nm_r (ni_2 i) ⟨tk_in H i2, tk_b H i2 1 (fun k2 => nm_r (nI_1 (i + 2)) ⟨5, ?_⟩) (fun k2 => h0 xro (fun w => ?_))⟩
  · rcases w with ⟨w, _⟩ | ⟨_, _, w, c, P⟩ | ⟨w, _⟩ | ⟨w, _⟩ | ⟨w, _⟩
    · omega
    · exact k2 w
    · omega
    · omega
    · omega
  · exact xl_lamL H A k1 k7 l2 k2 hz h1 h0 4 0 xro (by omega) (fun j hj => by omega) (fun j j' _ hj => by omega) (fun j hj => by omega) (fun q _ => rfl)
end
