section
variable {xdl xtn xpp xvc xcc xfc xoc xag xan xex xen xfl xac xst xsp xmd xrt xcu : Int32} {xtk xtv xaf xro xsc xho xvk xvf xvs xcv xco xff xfp xfe xfb xop : Nat → Int32} {yli yn ypr ygs ypo yhp yfs yvp yfu ysp ymd yac yst yrt ycu yhv : Int32} {ytk ytv yus ygk yga ygb yck yca ycb ycc yfp yfe yfS yfn yfb yvs yds : Nat → Int32} {ynk yna ynb ync : Nat} {n : Nat} {par : Nat → Nat} {VR : Nat → Nat → Prop} {g nm : Nat → Nat} {vc cc hp y s t it F d x b k q u1 va vb : Nat}
/-- k cells filled from the operands, on both sides -/
theorem sl_cells {c0 e0 s0 : Int32} {tn : Nat → Nat} {m : Nat} {op' : Nat → Int32} (B : hb_B (tk_K xtk n) xtv (xr_c n xro) xsc n VR g nm vc cc hp cc xvk xvf xvs xcv xco yck yca ycb ycc) (hE : hb_E g nm cc c0 e0 s0) (ht : ∀ j, j < m → tn j < n ∧ xsc (tn j) = hb_s s0 tn j) (hO : ∀ j, j < m → ∃ a c, op' (b + j) = nI a ∧ yvs (b + j) = nI c ∧ VR a c) :
    ∃ g' nm', (∀ i, i < cc → g' i = g i ∧ nm' i = nm i) ∧ hb_E g' nm' (cc + m) (hb_e c0 cc m) (hb_e e0 hp m) (hb_s s0 tn m) ∧
      hb_B (tk_K xtk n) xtv (xr_c n xro) xsc n VR g' nm' vc (cc + m) (hp + m) (cc + m) xvk xvf xvs (xc_v xcv (fun i => op' (b + i)) cc m) (xc_v xco (hb_e c0 cc) cc m) (xc_v yck (fun _ => 5) hp m) (xc_v yca (fun i => xtv (tn i)) hp m) (xc_v ycb (fun i => yvs (b + i)) hp m) (xc_v ycc (hb_e e0 hp) hp m) := by
  have B' : hb_B (tk_K xtk n) xtv (xr_c n xro) xsc n VR g nm vc cc hp cc xvk xvf xvs (xc_v xcv (fun i => op' (b + i)) cc m) (xc_v xco (hb_e c0 cc) cc m) (xc_v yck (fun _ => 5) hp m) (xc_v yca (fun i => xtv (tn i)) hp m) (xc_v ycb (fun i => yvs (b + i)) hp m) (xc_v ycc (hb_e e0 hp) hp m) :=
    hb_add (Nat.le_refl _) (Nat.le_refl _) (fun _ _ z => z) (fun _ _ => ⟨rfl, rfl, rfl⟩) (fun i hi => ⟨xc_vn hi, xc_vn hi, xc_vn hi, xc_vn hi⟩) (fun i hi => ⟨xc_vn hi, xc_vn hi⟩) (fun a b z => Or.inl z) B
  obtain ⟨g', nm', h1, _, h3, _, h5⟩ := hb_cells (fil := True) (k := m) hE ht (fun j hj => xc_vs hj) (fun j hj => ⟨xc_vs hj, xc_vs hj, xc_vs hj⟩) (fun _ j hj => by
    obtain ⟨a, c, e1, e2, v⟩ := hO j hj
    exact ⟨a, c, (xc_vs hj).trans e1, (xc_vs hj).trans e2, v⟩) B'
  exact ⟨g', nm', h1, h3, h5 trivial⟩
theorem sl_f (PG : pg_F xtk xtv xaf xro xsc xho n par) (J : (sr_J (tk_K xtk n) xtv (sk_f (tk_K xtk n) n) (xr_c n xro) xsc n VR g nm vc cc hp x b k q y u1 s t it F xvk xvf xvs xcv xco xff xfp xfe xfb xop yck yca ycb ycc yfp yfe yfS yfn yfb yvs va vb)) (k8 : tk_K xtk n (q + 1) = 8) : q + 1 < n ∧ xfp x = nI (it_f (sk_f (tk_K xtk n) n) k (q + 3) + 2) ∧ yfS y = 0 ∧ yfn y = nI (it_f (sk_f (tk_K xtk n) n) (k + 1) (q + 3)) ∧ ∃ c, ls_C (tk_K xtk n) (sk_f (tk_K xtk n) n) (q + 3) c ∧ k < c := by
  obtain ⟨B, O, Wf, R, N, L, hv, v⟩ := J
  obtain ⟨hq, rq, k1, w1, w2, w3, w4, w5, w6⟩ := Wf
  have hq1 : q + 1 < n := tk_lt (tk := xtk) (by omega)
  rcases w6 with w | w | w | w
  · omega
  · omega
  · exact ⟨hq1, w.2.2.1, w.2.2.2.1, w.2.2.2.2, w.2.1⟩
  · omega
theorem sl_let (PG : pg_F xtk xtv xaf xro xsc xho n par) (J : (sr_J (tk_K xtk n) xtv (sk_f (tk_K xtk n) n) (xr_c n xro) xsc n VR g nm vc cc hp x b k q y u1 s t it F xvk xvf xvs xcv xco xff xfp xfe xfb xop yck yca ycb ycc yfp yfe yfS yfn yfb yvs va vb)) (k8 : tk_K xtk n (q + 1) = 8) (ht : t + (d + 1) = 900) (IHE : sm_ET xdl xtk xtv xaf xro xsc xho n F d) : sm_R (xdl, nI n, 1, nI vc, nI cc, nI (x + 1), nI (b + k), 1, nI va, xex, xen, nI F, xac, -1, nI s, xmd, -1, -1, xtk, xtv, xaf, xro, xsc, xho, xvk, xvf, xvs, xcv, xco, xff, xfp, xfe, xfb, xop) (xdl, nI n, 1, ygs, ypo, nI hp, nI (y + 1), nI (b + k + 1), nI F, nI s, xmd, xac, yst, yrt, ycu, 0, xtk, xtv, yus, ygk, yga, ygb, yck, yca, ycb, ycc, yfp, yfe, yfS, yfn, yfb, yvs, yds, 50000, 50000, 50000, 50000) t it := by
  have H := PG.1
  have H1 := H.1
  obtain ⟨hq1, f1, f2, f3, c0, lc0, hk0⟩ := sl_f PG J k8
  have J' := J
  obtain ⟨B, O, Wf, R, N, L, hv, v⟩ := J
  obtain ⟨hq, rq, k1, w1, w2, w3, w4, w5, _⟩ := Wf
  unfold sr_N at N
  have hn0 : ∀ i, n ≤ i → tk_K xtk n i = 0 := fun i => tk_0
  have hBp : ∀ i, i < n → tk_K xtk n i ≠ 2 → dp_I (tk_K xtk n) i (sk_f (tk_K xtk n) n i) := fun i hi hk => (PG.2.1 i hi hk).1
  obtain ⟨c, c1, c4, lc, st, _, h2, k2, e2, h3, r3, sc3⟩ := st_let hn0 hBp PG.2.2.1 PG.2.2.2.1 hq rq k1 (Or.inl k8)
  have ec := ls_C_u lc0 lc
  subst ec
  obtain ⟨b1, b2, b3, b4, b5, b6, b7, b8, b9, b10⟩ := st k hk0
  have hO : op_R VR (upd xop (b + k) (nI va)) yvs (b + k + 1) := op_s (fun _ _ z => z) (fun _ _ => rfl) hv v O
  by_cases hk : k + 1 < c0
  · obtain ⟨d1, d2, d3, d4, d5, d6, d7, d8, d9, d10⟩ := st (k + 1) hk
    have hA : xp_A (tk_K xtk n) (sk_f (tk_K xtk n) n) n q (it_f (sk_f (tk_K xtk n) n) k (q + 3) + 2) (nI (it_f (sk_f (tk_K xtk n) n) (k + 1) (q + 3) + 2)) := by
      refine ⟨b2, b4, Or.inr (Or.inr (Or.inl ⟨Or.inl k8, by omega, by omega, Or.inr ⟨?_, ?_⟩⟩))⟩
      · rw [← b6]; omega
      · rw [b6]
    refine sm_RE (y := y) (v2 := (xdl, nI n, 1, ygs, ypo, nI hp, nI (y + 1), nI (b + k + 1), nI F, nI s, xmd, xac, yst, yrt, ycu, 0, xtk, xtv, yus, ygk, yga, ygb, yck, yca, ycb, ycc, yfp, yfe, yfS, upd yfn y (nI (sk_f (tk_K xtk n) n (it_f (sk_f (tk_K xtk n) n) (k + 1) (q + 3)))), yfb, yvs, yds, 50000, 50000, 50000, 50000)) (q' := nI (it_f (sk_f (tk_K xtk n) n) (k + 1) (q + 3) + 2)) (e' := yfe y) (by omega) (by omega) (by omega) (fun Q h => xr_more H PG.2.1 (p := it_f (sk_f (tk_K xtk n) n) k (q + 3) + 2) (by omega) (by omega) hq1 w1 f1 (by omega) hA h) (fun Q h => yF_dLet H (by omega) w2 hq k8 (yL_n H (by omega) f2 f3 (by omega) d1 h)) ?_
    refine IHE VR g nm vc cc hp (x + 1) (b + k + 1) (y + 1) (u1 + 1) s (t + 1) (it + 1) (it_f (sk_f (tk_K xtk n) n) (k + 1) (q + 3) + 2) _ _ _ _ _ _ _ _ _ _  _ _ _ _ _ _ _ _ _ _ _ _ _ _ _ _ _ _ _ _ _ _ _ _ _  (by omega) ⟨B, hO, Or.inr (Or.inr ⟨x, b, k + 1, u1, q, rfl, rfl, by omega, ⟨hq, rq, k1, w1, w2, w3, w4, w5, Or.inr (Or.inr (Or.inl ⟨k8, ⟨c0, lc, hk⟩, pk_us, f2, ?_⟩))⟩, fr_k (Nat.le_refl _) (fun _ _ => ⟨rfl, rfl⟩) (fun i hi => ⟨rfl, pk_un (by omega), rfl, rfl⟩) (fun i hi => ⟨rfl, rfl, rfl, pk_un (by omega), rfl⟩) R⟩), by unfold sr_N; omega, L⟩ d2 d3 ?_
    · rw [pk_us, ← it_s (sk_f (tk_K xtk n) n) (k + 1) (q + 3)]
    · rw [if_neg (by omega)] at d8
      rw [d8]; exact w5
  · have ek : c0 = k + 1 := by omega
    subst ek
    have hA : xp_A (tk_K xtk n) (sk_f (tk_K xtk n) n) n q (it_f (sk_f (tk_K xtk n) n) k (q + 3) + 2) (-1) := by
      refine ⟨b2, b4, Or.inr (Or.inr (Or.inl ⟨Or.inl k8, by omega, by omega, Or.inl ⟨?_, rfl⟩⟩))⟩
      rw [← b6]; exact lc.2
    obtain ⟨g', nm', h1', hE', B'⟩ := sl_cells (b := b) (op' := upd xop (b + k) (nI va)) (yvs := yvs) (m := k + 1) (tn := fun i => it_f (sk_f (tk_K xtk n) n) i (q + 3) + 1) B w5 (fun j hj => by
      obtain ⟨a1, a2, _, _, _, _, _, _, _, a10⟩ := st j hj
      exact ⟨by omega, a10⟩) (fun j hj => hO (b + j) (by omega))
    refine sm_RE (y := y) (u1 := (xdl, nI n, 1, nI vc, nI (cc + (k + 1)), nI x, nI b, 0, nI va, nI (sk_f (tk_K xtk n) n (q + 2)), hb_e (xfe x) cc (k + 1), nI F, xac, -1, nI s, xmd, -1, -1, xtk, xtv, xaf, xro, xsc, xho, xvk, xvf, xvs, xc_v xcv (fun i => upd xop (b + k) (nI va) (b + i)) cc (k + 1), xc_v xco (hb_e (xfe x) cc) cc (k + 1), xff, upd xfp x (-1), xfe, xfb, upd xop (b + k) (nI va))) (v2 := (xdl, nI n, 1, ygs, ypo, nI (hp + (k + 1)), nI (y + 1), nI b, nI F, nI s, xmd, xac, yst, yrt, ycu, 0, xtk, xtv, yus, ygk, yga, ygb, xc_v yck (fun _ => 5) hp (k + 1), xc_v yca (fun i => xtv (it_f (sk_f (tk_K xtk n) n) i (q + 3) + 1)) hp (k + 1), xc_v ycb (fun i => yvs (b + i)) hp (k + 1), xc_v ycc (hb_e (yfe y) hp) hp (k + 1), yfp, yfe, upd yfS y 1, yfn, yfb, yvs, yds, 50000, 50000, 50000, 50000)) (q' := nI (it_f (sk_f (tk_K xtk n) n) (k + 1) (q + 3) + 1)) (e' := hb_e (yfe y) hp (k + 1)) (by omega) (by omega) (by omega) (fun Q h => xr_last H PG.2.1 (p := it_f (sk_f (tk_K xtk n) n) k (q + 3) + 2) (by omega) (by omega) hq1 w1 f1 hA (xF_let (xop := upd xop (b + k) (nI va)) (xfp := upd xfp x (-1)) (k := k + 1) H PG.2.1 (by omega) (by omega) (by omega) w1 w3 k8 h2 (by omega) (fun cv' co' S => by obtain ⟨rfl, rfl⟩ := S; exact h))) (fun Q h => yF_dLet H (by omega) w2 hq k8 (yL_b H (by omega) f2 w2 w4 c4 lc f3 (fun i hi => by
      obtain ⟨a1, a2, _⟩ := st i hi
      exact ⟨a1, by omega⟩) (by omega) (by omega) (fun ck' ca' cb' cC' S => by obtain ⟨rfl, rfl, rfl, rfl⟩ := S; exact h))) ?_
    rw [← e2]
    refine IHE VR g' nm' vc (cc + (k + 1)) (hp + (k + 1)) x b (y + 1) u1 s (t + 1) (it + 1) (sk_f (tk_K xtk n) n (q + 2)) _ _ _ _ _ _ _ _ _ _  _ _ _ _ _ _ _ _ _ _ _ _ _ _ _ _ _ _ _ _ _ _ _ _ _  (by omega) ⟨B', op_l (by omega) hO, Or.inl ⟨⟨w4, q, hq, w2, Or.inr (Or.inl ⟨k8, pk_us⟩)⟩, fr_k (by omega) h1' (fun i hi => ⟨rfl, pk_un (by omega), rfl, rfl⟩) (fun i hi => ⟨rfl, rfl, pk_un (by omega), rfl, rfl⟩) R⟩, by unfold sr_N; omega, L⟩ h3 r3 (by rw [sc3]; exact hE')
theorem sa_f (PG : pg_F xtk xtv xaf xro xsc xho n par) (J : (sr_J (tk_K xtk n) xtv (sk_f (tk_K xtk n) n) (xr_c n xro) xsc n VR g nm vc cc hp x b k q y u1 s t it F xvk xvf xvs xcv xco xff xfp xfe xfb xop yck yca ycb ycc yfp yfe yfS yfn yfb yvs va vb)) (k6 : tk_K xtk n (q + 1) < 6) : ∃ c, ls_C (tk_K xtk n) (sk_f (tk_K xtk n) n) (q + 1) (c + 1) ∧ ((k < c ∧ xfp x = nI (it_f (sk_f (tk_K xtk n) n) (k + 1) (q + 1)) ∧ yfS y = 0 ∧ yfn y = nI (it_f (sk_f (tk_K xtk n) n) (k + 2) (q + 1))) ∨ (k = c ∧ xfp x = nI (q + 1) ∧ yfS y = 1)) := by
  obtain ⟨B, O, Wf, R, N, L, hv, v⟩ := J
  obtain ⟨hq, rq, k1, w1, w2, w3, w4, w5, w6⟩ := Wf
  rcases w6 with w | w | w | w
  · omega
  · omega
  · omega
  · exact w.2
theorem sa_arg (PG : pg_F xtk xtv xaf xro xsc xho n par) (J : (sr_J (tk_K xtk n) xtv (sk_f (tk_K xtk n) n) (xr_c n xro) xsc n VR g nm vc cc hp x b k q y u1 s t it F xvk xvf xvs xcv xco xff xfp xfe xfb xop yck yca ycb ycc yfp yfe yfS yfn yfb yvs va vb)) (k6 : tk_K xtk n (q + 1) < 6) {c : Nat} (lc0 : ls_C (tk_K xtk n) (sk_f (tk_K xtk n) n) (q + 1) (c + 1)) (hk : k < c) (f1 : xfp x = nI (it_f (sk_f (tk_K xtk n) n) (k + 1) (q + 1))) (f2 : yfS y = 0) (f3 : yfn y = nI (it_f (sk_f (tk_K xtk n) n) (k + 2) (q + 1))) (ht : t + (d + 1) = 900) (IHE : sm_ET xdl xtk xtv xaf xro xsc xho n F d) : sm_R (xdl, nI n, 1, nI vc, nI cc, nI (x + 1), nI (b + k), 1, nI va, xex, xen, nI F, xac, -1, nI s, xmd, -1, -1, xtk, xtv, xaf, xro, xsc, xho, xvk, xvf, xvs, xcv, xco, xff, xfp, xfe, xfb, xop) (xdl, nI n, 1, ygs, ypo, nI hp, nI (y + 1), nI (b + k + 1), nI F, nI s, xmd, xac, yst, yrt, ycu, 0, xtk, xtv, yus, ygk, yga, ygb, yck, yca, ycb, ycc, yfp, yfe, yfS, yfn, yfb, yvs, yds, 50000, 50000, 50000, 50000) t it := by
  have H := PG.1
  have H1 := H.1
  obtain ⟨B, O, Wf, R, N, L, hv, v⟩ := J
  obtain ⟨hq, rq, k1, w1, w2, w3, w4, w5, _⟩ := Wf
  unfold sr_N at N
  have hn0 : ∀ i, n ≤ i → tk_K xtk n i = 0 := fun i => tk_0
  have hBp : ∀ i, i < n → tk_K xtk n i ≠ 2 → dp_I (tk_K xtk n) i (sk_f (tk_K xtk n) n i) := fun i hi hk => (PG.2.1 i hi hk).1
  obtain ⟨c', c4, lc, st, hend⟩ := st_app hn0 hBp PG.2.2.1 PG.2.2.2.1 hq rq k1 k6
  have ec : c' = c := by have := ls_C_u lc0 lc; omega
  subst ec
  have s0 := st 0 (by omega)
  change q + 1 < n ∧ xr_c n xro (q + 1) = 1 ∧ tk_K xtk n (q + 1) ≠ 2 ∧ _ ∧ xsc (q + 1) = xsc q at s0
  have s1 := st (k + 1) (by omega)
  have hO : op_R VR (upd xop (b + k) (nI va)) yvs (b + k + 1) := op_s (fun _ _ z => z) (fun _ _ => rfl) hv v O
  have ei : sk_f (tk_K xtk n) n (it_f (sk_f (tk_K xtk n) n) (k + 1) (q + 1)) = it_f (sk_f (tk_K xtk n) n) (k + 2) (q + 1) := (it_s (sk_f (tk_K xtk n) n) (k + 1) (q + 1)).symm
  by_cases hk2 : k + 1 < c'
  · have s2 := st (k + 2) (by omega)
    have hA : xp_A (tk_K xtk n) (sk_f (tk_K xtk n) n) n q (it_f (sk_f (tk_K xtk n) n) (k + 1) (q + 1)) (nI (it_f (sk_f (tk_K xtk n) n) (k + 2) (q + 1))) := by
      refine ⟨s1.1, s1.2.2.1, Or.inr (Or.inr (Or.inr ⟨Or.inl k6, by omega, ?_, Or.inl ⟨?_, ?_⟩⟩))⟩
      · rw [ei]; exact s2.1
      · rw [ei]; exact s2.2.2.1
      · rw [ei]
    refine sm_RE (y := y) (v2 := (xdl, nI n, 1, ygs, ypo, nI hp, nI (y + 1), nI (b + k + 1), nI F, nI s, xmd, xac, yst, yrt, ycu, 0, xtk, xtv, yus, ygk, yga, ygb, yck, yca, ycb, ycc, yfp, yfe, yfS, upd yfn y (nI (sk_f (tk_K xtk n) n (it_f (sk_f (tk_K xtk n) n) (k + 2) (q + 1)))), yfb, yvs, yds, 50000, 50000, 50000, 50000)) (q' := nI (it_f (sk_f (tk_K xtk n) n) (k + 2) (q + 1))) (e' := yfe y) (by omega) (by omega) (by omega) (fun Q h => xr_more H PG.2.1 (p := it_f (sk_f (tk_K xtk n) n) (k + 1) (q + 1)) (by omega) (by omega) s0.1 w1 f1 (by omega) hA h) (fun Q h => yF_dApp H (by omega) w2 hq k6 (yA_a H (by omega) f2 f3 s2.1 s2.2.2.1 h)) ?_
    refine IHE VR g nm vc cc hp (x + 1) (b + k + 1) (y + 1) (u1 + 1) s (t + 1) (it + 1) (it_f (sk_f (tk_K xtk n) n) (k + 2) (q + 1)) _ _ _ _ _ _ _ _ _ _  _ _ _ _ _ _ _ _ _ _ _ _ _ _ _ _ _ _ _ _ _ _ _ _ _  (by omega) ⟨B, hO, Or.inr (Or.inr ⟨x, b, k + 1, u1, q, rfl, rfl, by omega, ⟨hq, rq, k1, w1, w2, w3, w4, w5, Or.inr (Or.inr (Or.inr ⟨k6, c', lc, Or.inl ⟨hk2, pk_us, f2, ?_⟩⟩))⟩, fr_k (Nat.le_refl _) (fun _ _ => ⟨rfl, rfl⟩) (fun i hi => ⟨rfl, pk_un (by omega), rfl, rfl⟩) (fun i hi => ⟨rfl, rfl, rfl, pk_un (by omega), rfl⟩) R⟩), by unfold sr_N; omega, L⟩ s2.1 s2.2.1 (by rw [s2.2.2.2.2]; exact w5)
    rw [pk_us, ← it_s (sk_f (tk_K xtk n) n) (k + 2) (q + 1)]
  · have ek : c' = k + 1 := by omega
    subst ek
    have hA : xp_A (tk_K xtk n) (sk_f (tk_K xtk n) n) n q (it_f (sk_f (tk_K xtk n) n) (k + 1) (q + 1)) (nI (q + 1)) := by
      refine ⟨s1.1, s1.2.2.1, Or.inr (Or.inr (Or.inr ⟨Or.inl k6, by omega, ?_, Or.inr (Or.inl ⟨?_, k6, rfl⟩)⟩))⟩
      · rw [ei]; exact hend
      · rw [ei]; exact lc.2
    refine sm_RE (y := y) (v2 := (xdl, nI n, 1, ygs, ypo, nI hp, nI (y + 1), nI (b + k + 1), nI F, nI s, xmd, xac, yst, yrt, ycu, 0, xtk, xtv, yus, ygk, yga, ygb, yck, yca, ycb, ycc, yfp, yfe, upd yfS y 1, yfn, yfb, yvs, yds, 50000, 50000, 50000, 50000)) (q' := nI (q + 1)) (e' := yfe y) (by omega) (by omega) (by omega) (fun Q h => xr_more H PG.2.1 (p := it_f (sk_f (tk_K xtk n) n) (k + 1) (q + 1)) (by omega) (by omega) s0.1 w1 f1 (by omega) hA h) (fun Q h => yF_dApp H (by omega) w2 hq k6 (yA_h H (by omega) f2 w2 f3 hend lc.2 h)) ?_
    exact IHE VR g nm vc cc hp (x + 1) (b + k + 1) (y + 1) (u1 + 1) s (t + 1) (it + 1) (q + 1) _ _ _ _ _ _ _ _ _ _  _ _ _ _ _ _ _ _ _ _ _ _ _ _ _ _ _ _ _ _ _ _ _ _ _  (by omega) ⟨B, hO, Or.inr (Or.inr ⟨x, b, k + 1, u1, q, rfl, rfl, by omega, ⟨hq, rq, k1, w1, w2, w3, w4, w5, Or.inr (Or.inr (Or.inr ⟨k6, k + 1, lc, Or.inr ⟨rfl, pk_us, pk_us⟩⟩))⟩, fr_k (Nat.le_refl _) (fun _ _ => ⟨rfl, rfl⟩) (fun i hi => ⟨rfl, pk_un (by omega), rfl, rfl⟩) (fun i hi => ⟨rfl, rfl, pk_un (by omega), rfl, rfl⟩) R⟩), by unfold sr_N; omega, L⟩ s0.1 s0.2.1 (by rw [s0.2.2.2.2]; exact w5)
end
