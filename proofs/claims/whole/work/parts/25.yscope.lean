/-- a binder at j names x for the place i -/
def sc_J (K : Nat → Nat) (V : Nat → Int32) (a : Nat → Nat) (j i : Nat) (x : Int32) : Prop := K j = 1 ∧ 7 ≤ K (j + 1) ∧ K (j + 1) ≤ 9 ∧ i < a j ∧ (∃ m, gr_N K a j m ∧ V m = x) ∧ (K (j + 1) = 9 ∨ a (j + 2) ≤ i)
section
variable {yli yn ypr ygs ypo yhp yfs yvp yfu ysp ymd yac yst yrt ycu yhv : Int32} {ytk ytv yus ygk yga ygb yck yca ycb ycc yfp yfe yfS yfn yfb yvs yds : Nat → Int32} {ynk yna ynb ync : Nat} {n : Nat}
theorem yb_loop (H : tk_ok ytk n) (hB : ∀ i, i < n → tk_K ytk n i ≠ 2 → dp_I (tk_K ytk n) i (sk_f (tk_K ytk n) n i)) {j i : Nat} {x : Int32} (hj : j < n) (hi : i < n) (k1 : tk_K ytk n j = 1) (k7 : 7 ≤ tk_K ytk n (j + 1)) (k9 : tk_K ytk n (j + 1) ≤ 9) (hS : gr_SH (tk_K ytk n) ytv (sk_f (tk_K ytk n) n) j) (hin : i < sk_f (tk_K ytk n) n j) {post : Int32 → Prop}
    (h1 : sc_J (tk_K ytk n) ytv (sk_f (tk_K ytk n) n) j i x → post 1) (h0 : ¬ sc_J (tk_K ytk n) ytv (sk_f (tk_K ytk n) n) j i x → post 0) {c : Nat} (c4 : c ≤ 4) (lc : ls_C (tk_K ytk n) (sk_f (tk_K ytk n) n) (j + 3) c) (hN : ∀ m, gr_N (tk_K ytk n) (sk_f (tk_K ytk n) n) j m ↔ ∃ y, y < c ∧ m = sc_nm (tk_K ytk n) (sk_f (tk_K ytk n) n) j y) (hP : tk_K ytk n (j + 1) = 7 → gr_P (tk_K ytk n) ytv (j + 2) c) :
    ∀ d y (fd : Int32), y + d = c → (fd = 0 ∨ fd = 1) → (fd ≠ 0 ↔ ∃ y', y' < y ∧ ytv (sc_nm (tk_K ytk n) (sk_f (tk_K ytk n) n) j y') = x) → wY_binds_45 post (nI i) x (nI (tk_K ytk n (j + 1))) yli (nI n) ypr ygs ypo yhp yfs yvp yfu ysp ymd yac yst yrt ycu yhv ytk ytv yus ygk yga ygb yck yca ycb ycc yfp yfe yfS yfn yfb yvs yds ynk yna ynb ync (d + 1) fd (nI (it_f (sk_f (tk_K ytk n) n) y (j + 3))) (nI y) := by
  have H1 := H.1
  have hI := hB j hj (by omega)
  have g := gr_bind hI k1 k7 k9 hS
  have bd := ls_bd (K := (tk_K ytk n)) (n := n) (fun i => tk_0) lc
  have q1 : it_f (sk_f (tk_K ytk n) n) c (j + 3) + 1 = sk_f (tk_K ytk n) n (j + 2) := by
    obtain ⟨c', lc', q1, _, _⟩ := ls_in (n := n) g.2.1 g.1
    have ec : c' = c := ls_C_u lc' lc
    subst ec
    exact q1
  intro d
  induction d with
  | zero =>
    intro y fd e hf hfd
    have ec : y = c := by omega
    subst ec
    have hx := (bd.1 y (Nat.le_refl _)).1
    have kc := lc.2
    refine pk_le 5 y (fun z => by omega) (fun _ => pk_le n (it_f (sk_f (tk_K ytk n) n) y (j + 3)) (fun z => by omega) (fun _ => yt_t (i := it_f (sk_f (tk_K ytk n) n) y (j + 3)) H (by omega) (pk_eq (tk_K ytk n (it_f (sk_f (tk_K ytk n) n) y (j + 3))) 2 (fun _ => ?_) (fun z => absurd lc.2 z))))
    have nm : fd ≠ 0 ↔ ∃ m, gr_N (tk_K ytk n) (sk_f (tk_K ytk n) n) j m ∧ ytv m = x := by
      rw [hfd]
      constructor
      · rintro ⟨y', hy, ev⟩
        exact ⟨_, (hN _).mpr ⟨y', hy, rfl⟩, ev⟩
      · rintro ⟨m, hm, ev⟩
        obtain ⟨y', hy, em⟩ := (hN m).mp hm
        exact ⟨y', hy, by rw [← em]; exact ev⟩
    by_cases f0 : fd = 0
    · exact br_t f0 (h0 (fun w => (nm.mpr w.2.2.2.2.1) f0))
    · refine br_f f0 (pk_eq (tk_K ytk n (j + 1)) 9 (fun k => h1 ⟨k1, k7, k9, hin, nm.mp f0, Or.inl k⟩) (fun k => pk_le i (it_f (sk_f (tk_K ytk n) n) y (j + 3)) (fun z => h0 (fun w => ?_)) (fun z => h1 ⟨k1, k7, k9, hin, nm.mp f0, Or.inr (by omega)⟩)))
      rcases w.2.2.2.2.2 with w | w
      · exact k w
      · omega
  | succ d ih =>
    intro y fd e hf hfd
    have hx := (bd.1 y (by omega)).1
    have hx2 := (bd.1 (y + 1) (by omega)).1
    have kc := lc.1 y (by omega)
    have k20 := tk_20 H (it_f (sk_f (tk_K ytk n) n) y (j + 3))
    have nxt : ∀ fd', (fd' = 0 ∨ fd' = 1) → (fd' ≠ 0 ↔ fd ≠ 0 ∨ ytv (sc_nm (tk_K ytk n) (sk_f (tk_K ytk n) n) j y) = x) → wY_binds_45 post (nI i) x (nI (tk_K ytk n (j + 1))) yli (nI n) ypr ygs ypo yhp yfs yvp yfu ysp ymd yac yst yrt ycu yhv ytk ytv yus ygk yga ygb yck yca ycb ycc yfp yfe yfS yfn yfb yvs yds ynk yna ynb ync (d + 1) fd' (nI (it_f (sk_f (tk_K ytk n) n) (y + 1) (j + 3))) (nI (y + 1)) := by
      intro fd' hf' hiff
      refine ih (y + 1) fd' (by omega) hf' ?_
      rw [hiff, hfd]
      constructor
      · rintro (⟨y', hy, ev⟩ | ev)
        · exact ⟨y', by omega, ev⟩
        · exact ⟨y, by omega, ev⟩
      · rintro ⟨y', hy, ev⟩
        by_cases z : y' = y
        · subst z; exact Or.inr ev
        · exact Or.inl ⟨y', by omega, ev⟩
    refine pk_le 5 y (fun z => by omega) (fun _ => pk_le n (it_f (sk_f (tk_K ytk n) n) y (j + 3)) (fun z => by omega) (fun _ => yt_t (i := it_f (sk_f (tk_K ytk n) n) y (j + 3)) H (by omega) (pk_eq (tk_K ytk n (it_f (sk_f (tk_K ytk n) n) y (j + 3))) 2 (fun z => absurd z kc) (fun _ => pk_eq (tk_K ytk n (j + 1)) 7 (fun z7 => ?_) (fun z7 => ?_)))))
    · have P := hP z7
      have e1 : it_f (sk_f (tk_K ytk n) n) y (j + 3) = j + 3 + y := gr_Pi P (by omega)
      have e2 : it_f (sk_f (tk_K ytk n) n) (y + 1) (j + 3) = j + 3 + (y + 1) := gr_Pi P (by omega)
      have en : sc_nm (tk_K ytk n) (sk_f (tk_K ytk n) n) j y = it_f (sk_f (tk_K ytk n) n) y (j + 3) := by rw [e1]; exact if_pos z7
      have e3 : nI (it_f (sk_f (tk_K ytk n) n) y (j + 3)) + 1 = nI (it_f (sk_f (tk_K ytk n) n) (y + 1) (j + 3)) := by rw [nI_1, e1, e2]; rfl
      refine yt_v (i := it_f (sk_f (tk_K ytk n) n) y (j + 3)) H hx ?_
      by_cases ev : ytv (it_f (sk_f (tk_K ytk n) n) y (j + 3)) = x
      · exact br_t ev (nm_r e3 (nm_r (nI_1 y) (nxt 1 (Or.inr rfl) ⟨fun _ => Or.inr (by rw [en]; exact ev), fun _ => by decide⟩)))
      · exact br_f ev (nm_r e3 (nm_r (nI_1 y) (nxt fd hf ⟨Or.inl, fun w => w.elim id (fun w => absurd (by rw [en] at w; exact w) ev)⟩)))
    · have en : sc_nm (tk_K ytk n) (sk_f (tk_K ytk n) n) j y = it_f (sk_f (tk_K ytk n) n) y (j + 3) + 1 := if_neg z7
      obtain ⟨m1, m2, m3, m4, m5, m6, m7, m8, m9⟩ := gr_bnd hI k1 (by omega) hS ((ls_CM lc).mpr ⟨y, by omega, rfl⟩)
      have lim := dp_le (K := (tk_K ytk n)) (n := n) (fun i => tk_0) m4 hx
      have m51 := m5.1
      rw [nI_1 (it_f (sk_f (tk_K ytk n) n) y (j + 3))]
      refine yt_v (i := it_f (sk_f (tk_K ytk n) n) y (j + 3) + 1) H (by omega) ?_
      by_cases ev : ytv (it_f (sk_f (tk_K ytk n) n) y (j + 3) + 1) = x
      · refine br_t ev (yk_skip (i := it_f (sk_f (tk_K ytk n) n) y (j + 3)) H (by omega) (nm_r (nI_1 y) ?_))
        rw [← it_s (sk_f (tk_K ytk n) n) y (j + 3)]
        exact nxt 1 (Or.inr rfl) ⟨fun _ => Or.inr (by rw [en]; exact ev), fun _ => by decide⟩
      · refine br_f ev (yk_skip (i := it_f (sk_f (tk_K ytk n) n) y (j + 3)) H (by omega) (nm_r (nI_1 y) ?_))
        rw [← it_s (sk_f (tk_K ytk n) n) y (j + 3)]
        exact nxt fd hf ⟨Or.inl, fun w => w.elim id (fun w => absurd (by rw [en] at w; exact w) ev)⟩
theorem yb_binds (H : tk_ok ytk n) {r : Nat → Int32} {par : Nat → Nat} (hB : ∀ i, i < n → tk_K ytk n i ≠ 2 → dp_I (tk_K ytk n) i (sk_f (tk_K ytk n) n i)) (W : rw_W (tk_K ytk n) ytv (sk_f (tk_K ytk n) n) n n r par) (hC : ∀ j, tk_K ytk n j = 1 → 7 ≤ tk_K ytk n (j + 1) → tk_K ytk n (j + 1) ≤ 9 → r j = 1) {j i : Nat} {x : Int32} (hj : j < n) (hi : i < n) (k1 : tk_K ytk n j = 1) {post : Int32 → Prop}
    (h1 : sc_J (tk_K ytk n) ytv (sk_f (tk_K ytk n) n) j i x → post 1) (h0 : ¬ sc_J (tk_K ytk n) ytv (sk_f (tk_K ytk n) n) j i x → post 0) : wpY_binds post (yli, nI n, ypr, ygs, ypo, yhp, yfs, yvp, yfu, ysp, ymd, yac, yst, yrt, ycu, yhv, ytk, ytv, yus, ygk, yga, ygb, yck, yca, ycb, ycc, yfp, yfe, yfS, yfn, yfb, yvs, yds, ynk, yna, ynb, ync) (nI j) (nI i) x := by
  have H1 := H.1
  have k20 := tk_20 H (j + 1)
  have lim := dp_le (K := (tk_K ytk n)) (n := n) (fun i => tk_0) (hB j hj (by omega)) hj
  unfold wpY_binds
  dsimp only
  rw [nI_1 j]
  refine yt_t (i := j + 1) H (by omega) (pk_lt (tk_K ytk n (j + 1)) 7 (fun z => h0 (fun w => by have := w.2.1; omega)) (fun k7 => pk_lt 9 (tk_K ytk n (j + 1)) (fun z => h0 (fun w => by have := w.2.2.1; omega)) (fun k9 => yk_skip (i := j) H (by omega) (pk_lt i (sk_f (tk_K ytk n) n j) (fun hin => nm_r (ni_3 j) ?_) (fun z => h0 (fun w => by have := w.2.2.2.1; omega))))))
  have hS := (W.2.1 j hj (hC j k1 k7 k9)).1
  obtain ⟨c, c4, lc, hN, hP, _⟩ := sc_N k1 k7 k9 hS
  exact ⟨c + 1, yb_loop H hB hj hi k1 k7 k9 hS hin h1 h0 c4 lc hN hP c 0 0 (by omega) (Or.inl rfl) ⟨fun z => absurd rfl z, fun ⟨y, hy, _⟩ => by omega⟩⟩
theorem yo_in (H : tk_ok ytk n) {r : Nat → Int32} {par : Nat → Nat} (hB : ∀ i, i < n → tk_K ytk n i ≠ 2 → dp_I (tk_K ytk n) i (sk_f (tk_K ytk n) n i)) (W : rw_W (tk_K ytk n) ytv (sk_f (tk_K ytk n) n) n n r par) (hC : ∀ j, tk_K ytk n j = 1 → 7 ≤ tk_K ytk n (j + 1) → tk_K ytk n (j + 1) ≤ 9 → r j = 1) {i : Nat} (hi : i < n) {post : Int32 → Prop} {J : Int32 → Prop}
    (h1 : sc_B (tk_K ytk n) ytv (sk_f (tk_K ytk n) n) i (ytv i) → J (nI (i + 1))) (h0 : ¬ sc_B (tk_K ytk n) ytv (sk_f (tk_K ytk n) n) i (ytv i) → post 0) :
    ∀ d j (ok : Int32), j + d = i → (ok ≠ 0 ↔ ∃ j', j' < j ∧ sc_J (tk_K ytk n) ytv (sk_f (tk_K ytk n) n) j' i (ytv i)) → wY_scoped_26 post J (nI i) yli (nI n) ypr ygs ypo yhp yfs yvp yfu ysp ymd yac yst yrt ycu yhv ytk ytv yus ygk yga ygb yck yca ycb ycc yfp yfe yfS yfn yfb yvs yds ynk yna ynb ync (d + 1) ok (nI j) := by
  have H1 := H.1
  intro d
  induction d with
  | zero =>
    intro j ok e hok
    have ej : j = i := by omega
    subst ej
    refine pk_le j j (fun _ => ?_) (fun z => by omega)
    by_cases o : ok = 0
    · exact br_t o (h0 (fun ⟨q, a, b⟩ => (hok.mpr ⟨q, a, b⟩) o))
    · obtain ⟨q, a, b⟩ := hok.mp o
      exact br_f o (nm_r (nI_1 j) (h1 ⟨q, a, b⟩))
  | succ d ih =>
    intro j ok e hok
    have hj : j < n := by omega
    have hc : (nI i).toNatClampNeg = i := nI_clamp (by omega)
    have nxt : ∀ ok', (ok' ≠ 0 ↔ ok ≠ 0 ∨ sc_J (tk_K ytk n) ytv (sk_f (tk_K ytk n) n) j i (ytv i)) → wY_scoped_26 post J (nI i) yli (nI n) ypr ygs ypo yhp yfs yvp yfu ysp ymd yac yst yrt ycu yhv ytk ytv yus ygk yga ygb yck yca ycb ycc yfp yfe yfS yfn yfb yvs yds ynk yna ynb ync (d + 1) ok' (nI (j + 1)) := by
      intro ok' hiff
      refine ih (j + 1) ok' (by omega) ?_
      rw [hiff, hok]
      constructor
      · rintro (⟨q, a, b⟩ | b)
        · exact ⟨q, by omega, b⟩
        · exact ⟨j, by omega, b⟩
      · rintro ⟨q, a, b⟩
        by_cases z : q = j
        · subst z; exact Or.inr b
        · exact Or.inl ⟨q, by omega, b⟩
    refine pk_le i j (fun z => by omega) (fun _ => ⟨tk_in H hj, tk_b H hj 1 (fun k1 => ⟨tk_in H hi, ?_⟩) (fun k1 => nm_r (nI_1 j) (nxt ok ⟨Or.inl, fun w => w.elim id (fun w => absurd w.1 k1)⟩))⟩)
    rw [hc]
    refine yb_binds H hB W hC hj hi k1 (fun w => br_f (by decide) (nm_r (nI_1 j) (nxt 1 ⟨fun _ => Or.inr w, fun _ => by decide⟩))) (fun w => br_t rfl (nm_r (nI_1 j) (nxt ok ⟨Or.inl, fun v => v.elim id (fun v => absurd v w)⟩)))
theorem yo_loop (H : tk_ok ytk n) {r : Nat → Int32} {par : Nat → Nat} (hB : ∀ i, i < n → tk_K ytk n i ≠ 2 → dp_I (tk_K ytk n) i (sk_f (tk_K ytk n) n i)) (W : rw_W (tk_K ytk n) ytv (sk_f (tk_K ytk n) n) n n r par) (hC : ∀ j, tk_K ytk n j = 1 → 7 ≤ tk_K ytk n (j + 1) → tk_K ytk n (j + 1) ≤ 9 → r j = 1) (hu : ∀ i, i < n → yus i = if r i = 1 ∧ tk_K ytk n i = 4 then 1 else 0) {post : Int32 → Prop}
    (h1 : (∀ i, i < n → r i = 1 → tk_K ytk n i = 4 → sc_B (tk_K ytk n) ytv (sk_f (tk_K ytk n) n) i (ytv i)) → post 1) (h0 : (∃ i, i < n ∧ r i = 1 ∧ tk_K ytk n i = 4 ∧ ¬ sc_B (tk_K ytk n) ytv (sk_f (tk_K ytk n) n) i (ytv i)) → post 0) :
    ∀ d i, i + d = n → (∀ q, q < i → r q = 1 → tk_K ytk n q = 4 → sc_B (tk_K ytk n) ytv (sk_f (tk_K ytk n) n) q (ytv q)) → wY_scoped_2 post yli (nI n) ypr ygs ypo yhp yfs yvp yfu ysp ymd yac yst yrt ycu yhv ytk ytv yus ygk yga ygb yck yca ycb ycc yfp yfe yfS yfn yfb yvs yds ynk yna ynb ync (d + 1) (nI i) := by
  have H1 := H.1
  intro d
  induction d with
  | zero =>
    intro i e hq
    have ei : i = n := by omega
    subst ei
    exact pk_le i i (fun _ => h1 hq) (fun z => by omega)
  | succ d ih =>
    intro i e hq
    have hi : i < n := by omega
    have hc : (nI i).toNatClampNeg = i := nI_clamp (by omega)
    refine pk_le n i (fun z => by omega) (fun _ => ⟨tk_in H hi, ?_⟩)
    rw [hc, hu i hi]
    by_cases w : r i = 1 ∧ tk_K ytk n i = 4
    · rw [if_pos w]
      refine br_f (by decide) ⟨i + 1, yo_in H hB W hC hi (fun b => ih (i + 1) (by omega) (fun q hq1 hr hk => ?_)) (fun b => h0 ⟨i, hi, w.1, w.2, b⟩) i 0 0 (by omega) ⟨fun z => absurd rfl z, fun ⟨q, a, _⟩ => by omega⟩⟩
      by_cases z : q = i
      · subst z; exact b
      · exact hq q (by omega) hr hk
    · rw [if_neg w]
      refine br_t rfl (nm_r (nI_1 i) (ih (i + 1) (by omega) (fun q hq1 hr hk => ?_)))
      by_cases z : q = i
      · subst z; exact absurd ⟨hr, hk⟩ w
      · exact hq q (by omega) hr hk
theorem yo_scoped (H : tk_ok ytk n) {r : Nat → Int32} {par : Nat → Nat} (hB : ∀ i, i < n → tk_K ytk n i ≠ 2 → dp_I (tk_K ytk n) i (sk_f (tk_K ytk n) n i)) (W : rw_W (tk_K ytk n) ytv (sk_f (tk_K ytk n) n) n n r par) (hC : ∀ j, tk_K ytk n j = 1 → 7 ≤ tk_K ytk n (j + 1) → tk_K ytk n (j + 1) ≤ 9 → r j = 1) (hu : ∀ i, i < n → yus i = if r i = 1 ∧ tk_K ytk n i = 4 then 1 else 0) {post : Int32 → Prop}
    (h1 : (∀ i, i < n → r i = 1 → tk_K ytk n i = 4 → sc_B (tk_K ytk n) ytv (sk_f (tk_K ytk n) n) i (ytv i)) → post 1) (h0 : (∃ i, i < n ∧ r i = 1 ∧ tk_K ytk n i = 4 ∧ ¬ sc_B (tk_K ytk n) ytv (sk_f (tk_K ytk n) n) i (ytv i)) → post 0) : wpY_scoped post (yli, nI n, ypr, ygs, ypo, yhp, yfs, yvp, yfu, ysp, ymd, yac, yst, yrt, ycu, yhv, ytk, ytv, yus, ygk, yga, ygb, yck, yca, ycb, ycc, yfp, yfe, yfS, yfn, yfb, yvs, yds, ynk, yna, ynb, ync) :=
  ⟨n + 1, yo_loop H hB W hC hu h1 h0 n 0 (by omega) (fun q hq => by omega)⟩
/-! the reference's compile -/
theorem yc_neg (H : tk_ok ytk n) (no : ∀ k, ¬ (0 < n ∧ sk_f (tk_K ytk n) n 0 = n ∧ gr_X (tk_K ytk n) ytv (sk_f (tk_K ytk n) n) k true 0)) {post : Int32 → SY → Prop}
    (hp : ∀ us' gs' po' gk' ga' gb', post 1 (yli, nI n, 0, gs', po', yhp, yfs, yvp, yfu, 0, 0, yac, -1, yrt, ycu, 0, ytk, ytv, us', gk', ga', gb', yck, yca, ycb, ycc, yfp, yfe, yfS, yfn, yfb, yvs, yds, ynk, yna, ynb, ync)) : wpY_compile post (yli, nI n, ypr, ygs, ypo, yhp, yfs, yvp, yfu, ysp, ymd, yac, yst, yrt, ycu, yhv, ytk, ytv, yus, ygk, yga, ygb, yck, yca, ycb, ycc, yfp, yfe, yfS, yfn, yfb, yvs, yds, ynk, yna, ynb, ync) := by
  unfold wpY_compile wpY_clearRun
  dsimp only
  exact yp_neg H no (fun us' gs' po' gk' ga' gb' => br_t rfl (hp us' gs' po' gk' ga' gb'))
theorem yc_pos (H : tk_ok ytk n) {r : Nat → Int32} {par : Nat → Nat} (n0 : 0 < n) (I0 : dp_I (tk_K ytk n) 0 n) (hB : ∀ i, i < n → tk_K ytk n i ≠ 2 → dp_I (tk_K ytk n) i (sk_f (tk_K ytk n) n i)) (hrn : ∀ c, r c ≠ 0 → c < n) (W : rw_W (tk_K ytk n) ytv (sk_f (tk_K ytk n) n) n n r par) (hC : ∀ j, tk_K ytk n j = 1 → 7 ≤ tk_K ytk n (j + 1) → tk_K ytk n (j + 1) ≤ 9 → r j = 1) {post : Int32 → SY → Prop}
    (h2 : (∃ i, i < n ∧ r i = 1 ∧ tk_K ytk n i = 4 ∧ ¬ sc_B (tk_K ytk n) ytv (sk_f (tk_K ytk n) n) i (ytv i)) → ∀ us' gs' po' gk' ga' gb', post 2 (yli, nI n, 0, gs', po', yhp, yfs, yvp, yfu, 0, 0, yac, -1, yrt, ycu, 0, ytk, ytv, us', gk', ga', gb', yck, yca, ycb, ycc, yfp, yfe, yfS, yfn, yfb, yvs, yds, ynk, yna, ynb, ync))
    (h3 : (∀ i, i < n → r i = 1 → tk_K ytk n i = 4 → sc_B (tk_K ytk n) ytv (sk_f (tk_K ytk n) n) i (ytv i)) → ∀ us' gs' po' gk' ga' gb', post 0 (yli, nI n, 1, gs', po', yhp, yfs, yvp, yfu, 0, 0, yac, -1, yrt, ycu, 0, ytk, ytv, us', gk', ga', gb', yck, yca, ycb, ycc, yfp, yfe, yfS, yfn, yfb, yvs, yds, ynk, yna, ynb, ync)) : wpY_compile post (yli, nI n, ypr, ygs, ypo, yhp, yfs, yvp, yfu, ysp, ymd, yac, yst, yrt, ycu, yhv, ytk, ytv, yus, ygk, yga, ygb, yck, yca, ycb, ycc, yfp, yfe, yfS, yfn, yfb, yvs, yds, ynk, yna, ynb, ync) := by
  unfold wpY_compile wpY_clearRun
  dsimp only
  refine yp_pos H n0 I0 hB hrn W (fun us' gs' po' gk' ga' gb' hu => br_f (by decide) ?_)
  exact yo_scoped (yus := us') (ygs := gs') (ypo := po') (ygk := gk') (yga := ga') (ygb := gb') H hB W hC hu (fun w => br_f (by decide) (h3 w us' gs' po' gk' ga' gb')) (fun w => br_t rfl (h2 w us' gs' po' gk' ga' gb'))
end
