section
variable {xdl xtn xpp xvc xcc xfc xoc xag xan xex xen xfl xac xst xsp xmd xrt xcu : Int32} {xtk xtv xaf xro xsc xho xvk xvf xvs xcv xco xff xfp xfe xfb xop : Nat → Int32} {n : Nat}
theorem xl_dup {K : Nat → Nat} {V : Nat → Int32} {n L x : Nat} (hn : ∀ i, n ≤ i → K i = 0) (hx : x ≤ 4) : gr_dup V (sk_f K n) L (it_f (sk_f K n) x (L + 1) + 1) ↔ ∃ k, k < x ∧ V (it_f (sk_f K n) k (L + 1) + 1) = V (it_f (sk_f K n) x (L + 1) + 1) := by
  constructor
  · rintro ⟨k, k4, kl, kv⟩
    refine ⟨k, ?_, kv⟩
    rcases Nat.lt_or_ge k x with z | z
    · exact z
    · have := kl x z; omega
  · rintro ⟨k, hk, kv⟩
    refine ⟨k, by omega, fun k' h' => ?_, kv⟩
    have := it_gt hn (L + 1) k' (x - k')
    rw [show k' + (x - k') = x from by omega] at this
    omega
theorem xl_bind (H : tk_ok xtk n) (A : xb_A (tk_K xtk n) n xaf) {L b : Nat} {ol : Int32} (hL : L < b) (hb : b < n) {post : Int32 → SX → Prop}
    (h1 : tk_K xtk n b = 1 → ls_C (tk_K xtk n) (sk_f (tk_K xtk n) n) (b + 1) 2 → tk_K xtk n (b + 1) = 4 → (∀ x, L < x → x < b + 1 → xro x = 3 → xtv x ≠ xtv (b + 1)) → (ol ≠ 0 → tk_K xtk n (b + 2) = 1 ∧ tk_K xtk n (b + 3) = 7) → post 1 (xdl, xtn, xpp, xvc, xcc, xfc, xoc, xag, xan, xex, xen, xfl, xac, xst, xsp, xmd, xrt, xcu, xtk, xtv, xaf, upd (upd xro (b + 1) 3) (b + 2) 1, xsc, xho, xvk, xvf, xvs, xcv, xco, xff, xfp, xfe, xfb, xop))
    (h0 : ∀ r', ¬ (tk_K xtk n b = 1 ∧ ls_C (tk_K xtk n) (sk_f (tk_K xtk n) n) (b + 1) 2 ∧ tk_K xtk n (b + 1) = 4 ∧ (∀ x, L < x → x < b + 1 → xro x = 3 → xtv x ≠ xtv (b + 1)) ∧ (ol ≠ 0 → tk_K xtk n (b + 2) = 1 ∧ tk_K xtk n (b + 3) = 7)) → post 0 (xdl, xtn, xpp, xvc, xcc, xfc, xoc, xag, xan, xex, xen, xfl, xac, xst, xsp, xmd, xrt, xcu, xtk, xtv, xaf, r', xsc, xho, xvk, xvf, xvs, xcv, xco, xff, xfp, xfe, xfb, xop)) :
    wpX_bindFits post (xdl, xtn, xpp, xvc, xcc, xfc, xoc, xag, xan, xex, xen, xfl, xac, xst, xsp, xmd, xrt, xcu, xtk, xtv, xaf, xro, xsc, xho, xvk, xvf, xvs, xcv, xco, xff, xfp, xfe, xfb, xop) (nI L) (nI b) ol := by
  have H1 := H.1
  refine ⟨tk_in H hb, tk_b H hb 1 (fun k1 => ?_) (fun k1 => h0 xro (fun w => k1 w.1))⟩
  obtain ⟨c, lc, e1, e2, e3⟩ := xl_cnt H A hb k1
  refine xi_items H A lc (pk_eq c 2 (fun c2 => ?_) (fun c2 => h0 xro (fun w => c2 (ls_C_u lc w.2.1))))
  subst c2
  rw [nI_1 b]
  refine xn_take H (by omega) (by omega) (fun k4 hq => ?_) (fun z => br_t rfl (h0 xro (fun w => ?_)))
  · refine br_f (by decide) (nm_r (ni_2 b) ⟨tk_in H (by omega), fun r7 e7 => ?_⟩)
    rw [nI_clamp (by omega)] at e7
    subst e7
    by_cases o : ol = 0
    · exact br_t o (h1 k1 lc k4 hq (fun z => absurd o z))
    · refine br_f o ⟨tk_in H (by omega), tk_b H (by omega) 1 (fun kk => ?_) (fun kk => h0 _ (fun w => kk (w.2.2.2.2 o).1))⟩
      rw [nI_1 (b + 2)]
      exact ⟨tk_in H (by omega), tk_b H (by omega) 7 (fun k7 => h1 k1 lc k4 hq (fun _ => ⟨kk, k7⟩)) (fun k7 => h0 _ (fun w => k7 (w.2.2.2.2 o).2))⟩
  · rcases z with z | ⟨y, y1, y2, y3, y4⟩
    · exact z w.2.2.1
    · exact w.2.2.2.1 y y1 y2 y3 y4
/-- binds lie apart -/
theorem xl_ap {K : Nat → Nat} {V : Nat → Int32} {n h L s x : Nat} (hn : ∀ i, n ≤ i → K i = 0) (hB : ∀ i, i < n → K i ≠ 2 → dp_I K i (sk_f K n i)) (hb : ∀ j, j < x → gr_BS K V (sk_f K n) h L (it_f (sk_f K n) j s)) {j : Nat} (hj : j < x) : it_f (sk_f K n) j s + 4 ≤ it_f (sk_f K n) x s := by
  have b := hb j hj
  have kb := b.1
  have bn : it_f (sk_f K n) j s < n := by
    rcases Nat.lt_or_ge (it_f (sk_f K n) j s) n with z | z
    · exact z
    · have := hn _ z; omega
  obtain ⟨c, lc, e1, e2, _⟩ := ls_in (n := n) (hB _ bn (by omega)) kb
  have := ls_C_u lc b.2.1
  subst this
  have g := it_gt hn s (j + 1) (x - (j + 1))
  rw [show j + 1 + (x - (j + 1)) = x from by omega, it_s] at g
  omega
theorem xl_100 (H : tk_ok xtk n) (A : xb_A (tk_K xtk n) n xaf) {i x : Nat} {r' : Nat → Int32} (hi : i < n) (k1 : tk_K xtk n i = 1) (k8 : tk_K xtk n (i + 1) = 8 ∨ tk_K xtk n (i + 1) = 9) (l2 : ls_C (tk_K xtk n) (sk_f (tk_K xtk n) n) (i + 2) 2) (k2 : tk_K xtk n (i + 2) = 1) (k3 : tk_K xtk n (i + 2 + 1) ≠ 2) {post : Int32 → SX → Prop}
    (h1 : ∀ r', gr_FS (tk_K xtk n) xtv (sk_f (tk_K xtk n) n) i (tk_K xtk n (i + 1)) → (∀ c, gr_E (tk_K xtk n) (sk_f (tk_K xtk n) n) i c → r' c = 1) → (∀ c, gr_N (tk_K xtk n) (sk_f (tk_K xtk n) n) i c → r' c = 3) → (∀ c, ¬ gr_Ch (tk_K xtk n) (sk_f (tk_K xtk n) n) i c → r' c = xro c) → post 1 (xdl, xtn, xpp, xvc, xcc, xfc, xoc, xag, xan, xex, xen, xfl, xac, xst, xsp, xmd, xrt, xcu, xtk, xtv, xaf, r', xsc, xho, xvk, xvf, xvs, xcv, xco, xff, xfp, xfe, xfb, xop))
    (h0 : ∀ r', ¬ gr_FS (tk_K xtk n) xtv (sk_f (tk_K xtk n) n) i (tk_K xtk n (i + 1)) → post 0 (xdl, xtn, xpp, xvc, xcc, xfc, xoc, xag, xan, xex, xen, xfl, xac, xst, xsp, xmd, xrt, xcu, xtk, xtv, xaf, r', xsc, xho, xvk, xvf, xvs, xcv, xco, xff, xfp, xfe, xfb, xop))
    (hx : x ≤ 4) (hp : it_f (sk_f (tk_K xtk n) n) x (i + 2 + 1) < n) (hk : ∀ j, j < x → tk_K xtk n (it_f (sk_f (tk_K xtk n) n) j (i + 2 + 1)) ≠ 2) (hb : ∀ j, j < x → gr_BS (tk_K xtk n) xtv (sk_f (tk_K xtk n) n) (tk_K xtk n (i + 1)) (i + 2) (it_f (sk_f (tk_K xtk n) n) j (i + 2 + 1))) (hr : ∀ j, j < x → r' (it_f (sk_f (tk_K xtk n) n) j (i + 2 + 1) + 1) = 3 ∧ r' (it_f (sk_f (tk_K xtk n) n) j (i + 2 + 1) + 2) = 1) (hn : ∀ q, (∀ j, j < x → q ≠ it_f (sk_f (tk_K xtk n) n) j (i + 2 + 1) + 1 ∧ q ≠ it_f (sk_f (tk_K xtk n) n) j (i + 2 + 1) + 2) → r' q = xro q)
    (hend : tk_K xtk n (it_f (sk_f (tk_K xtk n) n) x (i + 2 + 1)) ≠ 2 → x = 4) : wX_letFits_100 post (nI (i + 2)) (nI (it_f (sk_f (tk_K xtk n) n) x (i + 2 + 1))) xdl xtn xpp xvc xcc xfc xoc xag xan xex xen xfl xac xst xsp xmd xrt xcu xtk xtv xaf r' xsc xho xvk xvf xvs xcv xco xff xfp xfe xfb xop := by
  have H1 := H.1
  have hB : ∀ i, i < n → tk_K xtk n i ≠ 2 → dp_I (tk_K xtk n) i (sk_f (tk_K xtk n) n i) := fun i hi hk => (A i hi hk).1
  have i2 : i + 2 < n := tk_lt (tk := xtk) (by omega)
  have e2 : xaf (nI (i + 2)).toNatClampNeg = nI (sk_f (tk_K xtk n) n (i + 2)) := by rw [nI_clamp (by omega)]; exact (A _ i2 (by omega)).2
  have b1 : sk_f (tk_K xtk n) n (i + 2) < n := ((ls_bd (K := (tk_K xtk n)) (n := n) (fun i => tk_0) l2).1 1 (by omega)).1
  refine ⟨tk_in H i2, ?_, fun r8 e8 => ⟨tk_in H hp, tk_b H hp 2 (fun k => ?_) (fun k => ?_)⟩⟩
  · rw [e2]; exact tk_in H b1
  · rw [e2, nI_clamp (by omega)] at e8
    have lc : ls_C (tk_K xtk n) (sk_f (tk_K xtk n) n) (i + 3) x := ⟨hk, k⟩
    have x1 : 1 ≤ x := by
      rcases Nat.lt_or_ge x 1 with z | z
      · have : x = 0 := by omega
        subst this; exact absurd k k3
      · exact z
    have F : gr_FS (tk_K xtk n) xtv (sk_f (tk_K xtk n) n) i (tk_K xtk n (i + 1)) := Or.inr (Or.inr (Or.inl ⟨k8, l2, k2, x, x1, hx, lc, hb⟩))
    have S : gr_SH (tk_K xtk n) xtv (sk_f (tk_K xtk n) n) i := Or.inr (Or.inr (Or.inr ⟨k1, F⟩))
    have hI := hB i hi (by omega)
    refine h1 r8 F (fun c hc => ?_) (fun c hc => ?_) (fun c hc => ?_)
    · obtain ⟨_, hc⟩ := hc
      rcases hc with ⟨z, _⟩ | ⟨z, _⟩ | ⟨_, _, z⟩ | ⟨_, b, z, z2⟩
      · omega
      · omega
      · rw [e8, z]; exact pk_us
      · obtain ⟨j, hj, e⟩ := (ls_CM lc).mp z
        by_cases y : c = sk_f (tk_K xtk n) n (i + 2)
        · rw [e8, y]; exact pk_us
        · rw [e8, pk_un y, z2, e]; exact (hr j hj).2
    · have hc0 := hc
      obtain ⟨_, hc⟩ := hc
      rcases hc with ⟨z, _⟩ | ⟨_, b, z, z2⟩
      · omega
      · obtain ⟨j, hj, e⟩ := (ls_CM lc).mp z
        obtain ⟨m1, m2, m3, m4, m5, m6, m7, m8, m9⟩ := gr_bnd hI k1 k8 S z
        have := m5.1
        rw [e8, pk_un (by omega), z2, e]; exact (hr j hj).1
    · have n1 : c ≠ sk_f (tk_K xtk n) n (i + 2) := fun z => hc (Or.inl ⟨k1, Or.inr (Or.inr (Or.inl ⟨by omega, by omega, z⟩))⟩)
      rw [e8, pk_un n1]
      refine hn c (fun j hj => ⟨fun z => hc (Or.inr (Or.inr ⟨k1, Or.inr ⟨k8, _, (ls_CM lc).mpr ⟨j, hj, rfl⟩, z⟩⟩)), fun z => hc (Or.inl ⟨k1, Or.inr (Or.inr (Or.inr ⟨k8, _, (ls_CM lc).mpr ⟨j, hj, rfl⟩, z⟩))⟩)⟩)
  · have x4 := hend k
    refine h0 r8 (fun z => ?_)
    rcases z with ⟨z, _⟩ | ⟨z, _⟩ | ⟨_, _, _, c, c1, c4, lc, b⟩ | ⟨z, _⟩ | ⟨z, _⟩
    · omega
    · omega
    · have e : c = 4 := by
        rcases Nat.lt_or_ge c 4 with y | y
        · exact absurd lc.2 (hk c (by omega))
        · omega
      rw [x4, ← e] at k
      exact k lc.2
    · omega
    · omega
theorem xl_letL (H : tk_ok xtk n) (A : xb_A (tk_K xtk n) n xaf) {i : Nat} {ol : Int32} (hi : i < n) (k1 : tk_K xtk n i = 1) (k8 : tk_K xtk n (i + 1) = 8 ∨ tk_K xtk n (i + 1) = 9) (ho : ol ≠ 0 ↔ tk_K xtk n (i + 1) = 9) (l2 : ls_C (tk_K xtk n) (sk_f (tk_K xtk n) n) (i + 2) 2) (k2 : tk_K xtk n (i + 2) = 1) (k3 : tk_K xtk n (i + 2 + 1) ≠ 2) (hz : ∀ m, i < m → m < sk_f (tk_K xtk n) n i → xro m = 0) {post : Int32 → SX → Prop}
    (h1 : ∀ r', gr_FS (tk_K xtk n) xtv (sk_f (tk_K xtk n) n) i (tk_K xtk n (i + 1)) → (∀ c, gr_E (tk_K xtk n) (sk_f (tk_K xtk n) n) i c → r' c = 1) → (∀ c, gr_N (tk_K xtk n) (sk_f (tk_K xtk n) n) i c → r' c = 3) → (∀ c, ¬ gr_Ch (tk_K xtk n) (sk_f (tk_K xtk n) n) i c → r' c = xro c) → post 1 (xdl, xtn, xpp, xvc, xcc, xfc, xoc, xag, xan, xex, xen, xfl, xac, xst, xsp, xmd, xrt, xcu, xtk, xtv, xaf, r', xsc, xho, xvk, xvf, xvs, xcv, xco, xff, xfp, xfe, xfb, xop))
    (h0 : ∀ r', ¬ gr_FS (tk_K xtk n) xtv (sk_f (tk_K xtk n) n) i (tk_K xtk n (i + 1)) → post 0 (xdl, xtn, xpp, xvc, xcc, xfc, xoc, xag, xan, xex, xen, xfl, xac, xst, xsp, xmd, xrt, xcu, xtk, xtv, xaf, r', xsc, xho, xvk, xvf, xvs, xcv, xco, xff, xfp, xfe, xfb, xop)) :
    ∀ d x (r' : Nat → Int32), x + d = 4 → (∀ j, j < x → tk_K xtk n (it_f (sk_f (tk_K xtk n) n) j (i + 2 + 1)) ≠ 2) → (∀ j, j < x → gr_BS (tk_K xtk n) xtv (sk_f (tk_K xtk n) n) (tk_K xtk n (i + 1)) (i + 2) (it_f (sk_f (tk_K xtk n) n) j (i + 2 + 1))) → (∀ j, j < x → r' (it_f (sk_f (tk_K xtk n) n) j (i + 2 + 1) + 1) = 3 ∧ r' (it_f (sk_f (tk_K xtk n) n) j (i + 2 + 1) + 2) = 1) → (∀ q, (∀ j, j < x → q ≠ it_f (sk_f (tk_K xtk n) n) j (i + 2 + 1) + 1 ∧ q ≠ it_f (sk_f (tk_K xtk n) n) j (i + 2 + 1) + 2) → r' q = xro q) →
      wX_letFits_55 post (nI (i + 2)) ol (d + 1) (nI (it_f (sk_f (tk_K xtk n) n) x (i + 2 + 1))) (nI x) xdl xtn xpp xvc xcc xfc xoc xag xan xex xen xfl xac xst xsp xmd xrt xcu xtk xtv xaf r' xsc xho xvk xvf xvs xcv xco xff xfp xfe xfb xop := by
  have H1 := H.1
  have hB : ∀ i, i < n → tk_K xtk n i ≠ 2 → dp_I (tk_K xtk n) i (sk_f (tk_K xtk n) n i) := fun i hi hk => (A i hi hk).1
  have i2 : i + 2 < n := tk_lt (tk := xtk) (by omega)
  obtain ⟨c', lc', q1, q2, q3⟩ := xl_cnt H A i2 k2
  obtain ⟨c0, lc0, p1, p2, p3⟩ := xl_cnt H A hi k1
  have hI := hB i hi (by omega)
  have hlt : sk_f (tk_K xtk n) n (i + 2) < sk_f (tk_K xtk n) n i := dp_nest hI (by omega) (by
    have s2 := gr_s2 hI k1 (by omega)
    omega) (hB _ i2 (by omega))
  have hpos : ∀ x, (∀ j, j < x → tk_K xtk n (it_f (sk_f (tk_K xtk n) n) j (i + 2 + 1)) ≠ 2) → it_f (sk_f (tk_K xtk n) n) x (i + 2 + 1) < n ∧ x ≤ c' ∧ i + 2 + 1 ≤ it_f (sk_f (tk_K xtk n) n) x (i + 2 + 1) ∧ it_f (sk_f (tk_K xtk n) n) x (i + 2 + 1) < sk_f (tk_K xtk n) n (i + 2) := by
    intro x hk
    have hc : x ≤ c' := by
      rcases Nat.lt_or_ge c' x with z | z
      · exact absurd lc'.2 (hk c' z)
      · exact z
    have := (ls_bd (K := (tk_K xtk n)) (n := n) (fun i => tk_0) lc').1 x hc
    have g := it_gt (K := (tk_K xtk n)) (n := n) (fun i => tk_0) (i + 2 + 1) x (c' - x)
    rw [show x + (c' - x) = c' from by omega] at g
    exact ⟨this.1, hc, by omega, by omega⟩
  intro d
  induction d with
  | zero =>
    intro x r' e hk hb hr hn
    exact pk_le 4 x (fun _ => xl_100 H A hi k1 k8 l2 k2 k3 h1 h0 (by omega) (hpos x hk).1 hk hb hr hn (fun _ => by omega)) (fun z => by omega)
  | succ d ih =>
    intro x r' e hk hb hr hn
    obtain ⟨hp, hxc, hge, hltx⟩ := hpos x hk
    refine pk_le 4 x (fun z => by omega) (fun _ => ⟨tk_in H hp, tk_b H hp 2 (fun k => xl_100 H A hi k1 k8 l2 k2 k3 h1 h0 (by omega) hp hk hb hr hn (fun z => absurd k z)) (fun k => ?_)⟩)
    have ap : ∀ j, j < x → it_f (sk_f (tk_K xtk n) n) j (i + 2 + 1) + 4 ≤ it_f (sk_f (tk_K xtk n) n) x (i + 2 + 1) := fun j hj => xl_ap (K := (tk_K xtk n)) (n := n) (fun i => tk_0) hB hb hj
    have hdup : (∀ q, i + 2 < q → q < it_f (sk_f (tk_K xtk n) n) x (i + 2 + 1) + 1 → r' q = 3 → xtv q ≠ xtv (it_f (sk_f (tk_K xtk n) n) x (i + 2 + 1) + 1)) ↔ ¬ gr_dup xtv (sk_f (tk_K xtk n) n) (i + 2) (it_f (sk_f (tk_K xtk n) n) x (i + 2 + 1) + 1) := by
      rw [xl_dup (K := (tk_K xtk n)) (n := n) (fun i => tk_0) (by omega)]
      constructor
      · rintro w ⟨j, hj, ev⟩
        have := ap j hj
        exact w _ (by have := (hpos j (fun y hy => hk y (by omega))).2.2.1; omega) (by omega) (hr j hj).1 ev
      · intro w q w1 w2 w3 ev
        by_cases z : ∀ j, j < x → q ≠ it_f (sk_f (tk_K xtk n) n) j (i + 2 + 1) + 1 ∧ q ≠ it_f (sk_f (tk_K xtk n) n) j (i + 2 + 1) + 2
        · rw [hn q z, hz q (by omega) (by omega)] at w3
          exact absurd w3 (by decide)
        · refine w ?_
          refine Classical.byContradiction (fun no => z (fun j hj => ⟨fun e1 => no ⟨j, hj, by rw [← e1]; exact ev⟩, fun e1 => ?_⟩))
          rw [e1, (hr j hj).2] at w3
          exact absurd w3 (by decide)
    refine xl_bind (xro := r') H A (by omega) hp (fun b1 b2 b3 b4 b5 => ?_) (fun r2 w => br_t rfl (h0 r2 (fun F => ?_)))
    · have bs : gr_BS (tk_K xtk n) xtv (sk_f (tk_K xtk n) n) (tk_K xtk n (i + 1)) (i + 2) (it_f (sk_f (tk_K xtk n) n) x (i + 2 + 1)) := ⟨b1, b2, b3, hdup.mp b4, fun z => b5 (ho.mpr z)⟩
      refine br_f (by decide) ⟨tk_in H hp, nm_r ?_ (nm_r (nI_1 x) (ih (x + 1) _ (by omega) (fun j hj => ?_) (fun j hj => ?_) (fun j hj => ?_) (fun q hq => ?_)))⟩
      · rw [nI_clamp (by omega), (A _ hp k).2, it_s]
      · by_cases z : j = x
        · subst z; exact k
        · exact hk j (by omega)
      · by_cases z : j = x
        · subst z; exact bs
        · exact hb j (by omega)
      · by_cases z : j = x
        · subst z
          exact ⟨by rw [pk_un (by omega)]; exact pk_us, pk_us⟩
        · have := ap j (by omega)
          rw [pk_un (by omega), pk_un (by omega), pk_un (by omega), pk_un (by omega)]
          exact hr j (by omega)
      · have w := hq x (by omega)
        rw [pk_un w.2, pk_un w.1]
        exact hn q (fun j hj => hq j (by omega))
    · rcases F with ⟨z, _⟩ | ⟨z, _⟩ | ⟨_, _, _, c, c1, c4, lc, b⟩ | ⟨z, _⟩ | ⟨z, _⟩
      · omega
      · omega
      · have hxc2 : x < c := by
          rcases Nat.lt_or_ge x c with y | y
          · exact y
          · have ec : c = c' := ls_C_u lc lc'
            have : x = c := by omega
            subst this; exact absurd lc.2 k
        obtain ⟨y1, y2, y3, y4, y5⟩ := b x hxc2
        exact w ⟨y1, y2, y3, hdup.mpr y4, fun z => y5 (ho.mp z)⟩
      · omega
      · omega
theorem xl_let (H : tk_ok xtk n) (A : xb_A (tk_K xtk n) n xaf) {i : Nat} (hi : i < n) (k1 : tk_K xtk n i = 1) (k8 : tk_K xtk n (i + 1) = 8 ∨ tk_K xtk n (i + 1) = 9) (l2 : ls_C (tk_K xtk n) (sk_f (tk_K xtk n) n) (i + 2) 2) (hz : ∀ m, i < m → m < sk_f (tk_K xtk n) n i → xro m = 0) {post : Int32 → SX → Prop}
    (h1 : ∀ r', gr_FS (tk_K xtk n) xtv (sk_f (tk_K xtk n) n) i (tk_K xtk n (i + 1)) → (∀ c, gr_E (tk_K xtk n) (sk_f (tk_K xtk n) n) i c → r' c = 1) → (∀ c, gr_N (tk_K xtk n) (sk_f (tk_K xtk n) n) i c → r' c = 3) → (∀ c, ¬ gr_Ch (tk_K xtk n) (sk_f (tk_K xtk n) n) i c → r' c = xro c) → post 1 (xdl, xtn, xpp, xvc, xcc, xfc, xoc, xag, xan, xex, xen, xfl, xac, xst, xsp, xmd, xrt, xcu, xtk, xtv, xaf, r', xsc, xho, xvk, xvf, xvs, xcv, xco, xff, xfp, xfe, xfb, xop))
    (h0 : ∀ r', ¬ gr_FS (tk_K xtk n) xtv (sk_f (tk_K xtk n) n) i (tk_K xtk n (i + 1)) → post 0 (xdl, xtn, xpp, xvc, xcc, xfc, xoc, xag, xan, xex, xen, xfl, xac, xst, xsp, xmd, xrt, xcu, xtk, xtv, xaf, r', xsc, xho, xvk, xvf, xvs, xcv, xco, xff, xfp, xfe, xfb, xop)) : wpX_letFits post (xdl, xtn, xpp, xvc, xcc, xfc, xoc, xag, xan, xex, xen, xfl, xac, xst, xsp, xmd, xrt, xcu, xtk, xtv, xaf, xro, xsc, xho, xvk, xvf, xvs, xcv, xco, xff, xfp, xfe, xfb, xop) (nI i) := by
  have i2 : i + 2 < n := by have := (ls_bd (K := (tk_K xtk n)) (n := n) (fun i => tk_0) l2).2; omega
  have F2 : ∀ {k : Prop}, (gr_FS (tk_K xtk n) xtv (sk_f (tk_K xtk n) n) i (tk_K xtk n (i + 1)) → tk_K xtk n (i + 2) = 1 ∧ tk_K xtk n (i + 2 + 1) ≠ 2) := by
    intro _ w
    rcases w with ⟨z, _⟩ | ⟨z, _⟩ | ⟨_, _, z, c, c1, c4, lc, b⟩ | ⟨z, _⟩ | ⟨z, _⟩
    · omega
    · omega
    · exact ⟨z, lc.1 0 (by omega)⟩
    · omega
    · omega
  have H1 := H.1
  refine nm_r (ni_2 i) ⟨tk_in H i2, tk_b H i2 1 (fun k2 => ?_) (fun k2 => h0 xro (fun w => k2 (F2 (k := True) w).1))⟩
  obtain ⟨c', lc', q1, q2, q3⟩ := xl_cnt H A i2 k2
  have i3 : i + 2 + 1 < n := by omega
  rw [nI_1 (i + 2), nI_1 i]
  refine ⟨tk_in H i3, tk_b H i3 2 (fun k3 => h0 xro (fun w => (F2 (k := True) w).2 k3)) (fun k3 => ⟨tk_in H (by omega), tk_b H (by omega) 9 (fun k9 => nm_e ⟨5, ?_⟩) (fun k9 => nm_e ⟨5, ?_⟩)⟩)⟩
  · exact xl_letL H A hi k1 k8 ⟨fun _ => k9, fun _ => by decide⟩ l2 k2 k3 hz h1 h0 4 0 xro (by omega) (fun j hj => by omega) (fun j hj => by omega) (fun j hj => by omega) (fun q _ => rfl)
  · exact xl_letL H A hi k1 k8 ⟨fun z => absurd rfl z, fun z => absurd z k9⟩ l2 k2 k3 hz h1 h0 4 0 xro (by omega) (fun j hj => by omega) (fun j hj => by omega) (fun j hj => by omega) (fun q _ => rfl)
end
