section
variable {xdl xtn xpp xvc xcc xfc xoc xag xan xex xen xfl xac xst xsp xmd xrt xcu : Int32} {xtk xtv xaf xro xsc xho xvk xvf xvs xcv xco xff xfp xfe xfb xop : Nat → Int32} {yli yn ypr ygs ypo yhp yfs yvp yfu ysp ymd yac yst yrt ycu yhv : Int32} {ytk ytv yus ygk yga ygb yck yca ycb ycc yfp yfe yfS yfn yfb yvs yds : Nat → Int32} {ynk yna ynb ync : Nat} {n : Nat} {par : Nat → Nat} {VR : Nat → Nat → Prop} {g nm : Nat → Nat} {vc cc hp y s t it F d x b k q u1 va vb : Nat}
theorem sa_call (PG : pg_F xtk xtv xaf xro xsc xho n par) (J : (sr_J (tk_K xtk n) xtv (sk_f (tk_K xtk n) n) (xr_c n xro) xsc n VR g nm vc cc hp x b k q y u1 s t it F xvk xvf xvs xcv xco xff xfp xfe xfb xop yck yca ycb ycc yfp yfe yfS yfn yfb yvs va vb)) (k6 : tk_K xtk n (q + 1) < 6) (lc0 : ls_C (tk_K xtk n) (sk_f (tk_K xtk n) n) (q + 1) (k + 1)) (f1 : xfp x = nI (q + 1)) (f2 : yfS y = 1) (ht : t + (d + 1) = 900) (IHE : sm_ET xdl xtk xtv xaf xro xsc xho n F d) : sm_R (xdl, nI n, 1, nI vc, nI cc, nI (x + 1), nI (b + k), 1, nI va, xex, xen, nI F, xac, -1, nI s, xmd, -1, -1, xtk, xtv, xaf, xro, xsc, xho, xvk, xvf, xvs, xcv, xco, xff, xfp, xfe, xfb, xop) (xdl, nI n, 1, ygs, ypo, nI hp, nI (y + 1), nI (b + k + 1), nI F, nI s, xmd, xac, yst, yrt, ycu, 0, xtk, xtv, yus, ygk, yga, ygb, yck, yca, ycb, ycc, yfp, yfe, yfS, yfn, yfb, yvs, yds, 50000, 50000, 50000, 50000) t it := by
  have H := PG.1
  have H1 := H.1
  obtain ⟨B, O, Wf, R, N, L, hv, v⟩ := J
  obtain ⟨hq, rq, k1, w1, w2, w3, w4, w5, _⟩ := Wf
  unfold sr_N at N
  have hn0 : ∀ i, n ≤ i → tk_K xtk n i = 0 := fun i => tk_0
  have hBp : ∀ i, i < n → tk_K xtk n i ≠ 2 → dp_I (tk_K xtk n) i (sk_f (tk_K xtk n) n i) := fun i hi hk => (PG.2.1 i hi hk).1
  obtain ⟨c', c4, lc, st, hend⟩ := st_app hn0 hBp PG.2.2.1 PG.2.2.2.1 hq rq k1 k6
  have ec : c' = k := by have := ls_C_u lc0 lc; omega
  subst ec
  have s0 := st 0 (by omega)
  change q + 1 < n ∧ xr_c n xro (q + 1) = 1 ∧ tk_K xtk n (q + 1) ≠ 2 ∧ _ ∧ xsc (q + 1) = xsc q at s0
  have hO : op_R VR (upd xop (b + c') (nI va)) yvs (b + c' + 1) := op_s (fun _ _ z => z) (fun _ _ => rfl) hv v O
  have hA : xp_A (tk_K xtk n) (sk_f (tk_K xtk n) n) n q (q + 1) (-1) := ⟨s0.1, s0.2.2.1, Or.inr (Or.inl ⟨k6, rfl, rfl⟩)⟩
  have kd := hb_kind B v
  have opk : upd xop (b + c') (nI va) (b + c') = nI va := pk_us
  by_cases v4 : xvk va = 4
  · have c4' : yck vb = 4 := by rw [← kd.2.2.1]; exact v4
    obtain ⟨_, _, hV⟩ := B.1 va vb v
    have pr : ∃ p, p < n ∧ xr_c n xro p = 1 ∧ tk_K xtk n p = 1 ∧ tk_K xtk n (p + 1) = 7 ∧ xvf va = nI p ∧ yca vb = nI p ∧ hb_E g nm cc (xvs va) (ycb vb) (xsc p) := by
      rcases hV with w | w | w | w
      · rw [v4] at w; exact absurd w.1 (by decide)
      · rw [v4] at w; exact absurd w.1 (by decide)
      · rw [v4] at w; exact absurd w.1 (by decide)
      · exact w.2.2
    obtain ⟨p, p1, p2, p3, p4, p5, p6, p7⟩ := pr
    obtain ⟨m, m4, P, lcm, sn, hm3, h2, k2, e2, h3, r3, sc3⟩ := st_lam hn0 hBp PG.2.2.1 PG.2.2.2.1 p1 p2 p3 p4
    by_cases em : m = c'
    · subst em
      by_cases ea : xac = xdl
      · exact sm_Rerr (y := y) (r := 5) (u1 := (xdl, nI n, 1, nI vc, nI cc, nI (x + 1), nI b, 1, nI va, xex, xen, nI F, xac, 5, nI s, xmd, -1, -1, xtk, xtv, xaf, xro, xsc, xho, xvk, xvf, xvs, xcv, xco, xff, upd xfp x (-1), xfe, xfb, upd xop (b + m) (nI va))) (v2 := (xdl, nI n, 1, ygs, ypo, nI hp, nI (y + 1), nI (b + m + 1), nI F, nI s, xmd, xac, yst, yrt, ycu, 0, xtk, xtv, yus, ygk, yga, ygb, yck, yca, ycb, ycc, yfp, yfe, yfS, yfn, yfb, yvs, yds, 50000, 50000, 50000, 50000)) (by omega) (by omega) (by omega) (by decide) (by decide) rfl (fun Q h => xr_last H PG.2.1 (p := q + 1) (by omega) (by omega) s0.1 w1 f1 hA (xF_call (xop := upd xop (b + m) (nI va)) (xfp := upd xfp x (-1)) (k := m) H PG.2.1 (by omega) (by omega) (by omega) (by omega) w1 w3 k6 s0.1 opk (fun z => absurd v4 z) (fun _ => ⟨p, m, p5, h2, by omega, lcm, by omega, fun z => absurd rfl z, fun _ _ => h, fun _ z => absurd ea z⟩))) (fun Q h => yF_dApp H (by omega) w2 hq k6 (yA_c (k := m) H (by omega) f2 w4 (by omega) (by omega) m4 (by omega) hv (fun z => absurd c4' z) (fun _ => ⟨p, m, p6, hm3, P, fun z => absurd rfl z, fun _ _ => h, fun _ z => absurd ea z⟩))) (sf_err PG B.2.2.2.2 L)
      · obtain ⟨g', nm', h1', hE', B'⟩ := sl_cells (b := b) (op' := upd xop (b + m) (nI va)) (yvs := yvs) (m := m) (tn := fun i => p + 3 + i) B p7 sn (fun j hj => hO (b + j) (by omega))
        refine sm_RE (y := y) (u1 := (xdl, nI n, 1, nI vc, nI (cc + m), nI (x + 1), nI b, 0, nI va, nI (sk_f (tk_K xtk n) n (p + 2)), hb_e (xvs va) cc m, nI F, xac + 1, -1, nI s, if xac + 1 ≤ xmd then xmd else xac + 1, -1, -1, xtk, xtv, xaf, xro, xsc, xho, xvk, xvf, xvs, xc_v xcv (fun i => upd xop (b + m) (nI va) (b + i)) cc m, xc_v xco (hb_e (xvs va) cc) cc m, xff, upd xfp x (-1), xfe, xfb, upd xop (b + m) (nI va))) (v2 := (xdl, nI n, 1, ygs, ypo, nI (hp + m), nI (y + 1), nI b, nI F, nI s, if xac + 1 ≤ xmd then xmd else xac + 1, xac + 1, yst, yrt, ycu, 0, xtk, xtv, yus, ygk, yga, ygb, xc_v yck (fun _ => 5) hp m, xc_v yca (fun i => xtv (p + 3 + i)) hp m, xc_v ycb (fun i => yvs (b + i)) hp m, xc_v ycc (hb_e (ycb vb) hp) hp m, yfp, yfe, upd yfS y 2, yfn, yfb, yvs, yds, 50000, 50000, 50000, 50000)) (q' := nI (p + 4 + m)) (e' := hb_e (ycb vb) hp m) (by omega) (by omega) (by omega) (fun Q h => xr_last H PG.2.1 (p := q + 1) (by omega) (by omega) s0.1 w1 f1 hA (xF_call (xop := upd xop (b + m) (nI va)) (xfp := upd xfp x (-1)) (k := m) H PG.2.1 (by omega) (by omega) (by omega) (by omega) w1 w3 k6 s0.1 opk (fun z => absurd v4 z) (fun _ => ⟨p, m, p5, h2, by omega, lcm, by omega, fun z => absurd rfl z, fun _ z => absurd z ea, fun _ _ cv' co' md' emd S => by obtain ⟨rfl, rfl⟩ := S; subst emd; exact h⟩))) (fun Q h => yF_dApp H (by omega) w2 hq k6 (yA_c (k := m) H (by omega) f2 w4 (by omega) (by omega) m4 (by omega) hv (fun z => absurd c4' z) (fun _ => ⟨p, m, p6, hm3, P, fun z => absurd rfl z, fun _ z => absurd z ea, fun _ _ ck' ca' cb' cC' md' emd S => by obtain ⟨rfl, rfl, rfl, rfl⟩ := S; subst emd; exact h⟩))) ?_
        rw [← e2]
        exact IHE VR g' nm' vc (cc + m) (hp + m) (x + 1) b (y + 1) u1 s (t + 1) (it + 1) (sk_f (tk_K xtk n) n (p + 2)) _ _ _ _ _ _ _ _ _ _  _ _ _ _ _ _ _ _ _ _ _ _ _ _ _ _ _ _ _ _ _ _ _ _ _  (by omega) ⟨B', op_l (by omega) hO, Or.inr (Or.inl ⟨x, rfl, ⟨pk_us, ⟨q, hq, w2, k6⟩, pk_us, w4⟩, fr_k (by omega) h1' (fun i hi => ⟨rfl, pk_un (by omega), rfl, rfl⟩) (fun i hi => ⟨rfl, rfl, pk_un (by omega), rfl, rfl⟩) R⟩), by unfold sr_N; omega, L⟩ h3 r3 (by rw [sc3]; exact hE')
    · exact sm_Rerr (y := y) (r := 9) (u1 := (xdl, nI n, 1, nI vc, nI cc, nI (x + 1), nI b, 1, nI va, xex, xen, nI F, xac, 9, nI s, xmd, -1, -1, xtk, xtv, xaf, xro, xsc, xho, xvk, xvf, xvs, xcv, xco, xff, upd xfp x (-1), xfe, xfb, upd xop (b + c') (nI va))) (v2 := (xdl, nI n, 1, ygs, ypo, nI hp, nI (y + 1), nI (b + c' + 1), nI F, nI s, xmd, xac, yst, yrt, ycu, 0, xtk, xtv, yus, ygk, yga, ygb, yck, yca, ycb, ycc, yfp, yfe, yfS, yfn, yfb, yvs, yds, 50000, 50000, 50000, 50000)) (by omega) (by omega) (by omega) (by decide) (by decide) rfl (fun Q h => xr_last H PG.2.1 (p := q + 1) (by omega) (by omega) s0.1 w1 f1 hA (xF_call (xop := upd xop (b + c') (nI va)) (xfp := upd xfp x (-1)) (k := c') H PG.2.1 (by omega) (by omega) (by omega) (by omega) w1 w3 k6 s0.1 opk (fun z => absurd v4 z) (fun _ => ⟨p, m, p5, h2, by omega, lcm, by omega, fun _ => h, fun z => absurd z em, fun z => absurd z em⟩))) (fun Q h => yF_dApp H (by omega) w2 hq k6 (yA_c (k := c') H (by omega) f2 w4 (by omega) (by omega) c4 (by omega) hv (fun z => absurd c4' z) (fun _ => ⟨p, m, p6, hm3, P, fun _ => h, fun z => absurd z em, fun z => absurd z em⟩))) (sf_err PG B.2.2.2.2 L)
  · have c4' : yck vb ≠ 4 := by rw [← kd.2.2.1]; exact v4
    exact sm_Rerr (y := y) (r := 8) (u1 := (xdl, nI n, 1, nI vc, nI cc, nI (x + 1), nI b, 1, nI va, xex, xen, nI F, xac, 8, nI s, xmd, -1, -1, xtk, xtv, xaf, xro, xsc, xho, xvk, xvf, xvs, xcv, xco, xff, upd xfp x (-1), xfe, xfb, upd xop (b + c') (nI va))) (v2 := (xdl, nI n, 1, ygs, ypo, nI hp, nI (y + 1), nI (b + c' + 1), nI F, nI s, xmd, xac, yst, yrt, ycu, 0, xtk, xtv, yus, ygk, yga, ygb, yck, yca, ycb, ycc, yfp, yfe, yfS, yfn, yfb, yvs, yds, 50000, 50000, 50000, 50000)) (by omega) (by omega) (by omega) (by decide) (by decide) rfl (fun Q h => xr_last H PG.2.1 (p := q + 1) (by omega) (by omega) s0.1 w1 f1 hA (xF_call (xop := upd xop (b + c') (nI va)) (xfp := upd xfp x (-1)) (k := c') H PG.2.1 (by omega) (by omega) (by omega) (by omega) w1 w3 k6 s0.1 opk (fun _ => h) (fun z => absurd z v4))) (fun Q h => yF_dApp H (by omega) w2 hq k6 (yA_c (k := c') H (by omega) f2 w4 (by omega) (by omega) c4 (by omega) hv (fun _ => h) (fun z => absurd z c4'))) (sf_err PG B.2.2.2.2 L)
/-- a form's part has been answered -/
theorem sr_W (PG : pg_F xtk xtv xaf xro xsc xho n par) (J : (sr_J (tk_K xtk n) xtv (sk_f (tk_K xtk n) n) (xr_c n xro) xsc n VR g nm vc cc hp x b k q y u1 s t it F xvk xvf xvs xcv xco xff xfp xfe xfb xop yck yca ycb ycc yfp yfe yfS yfn yfb yvs va vb)) (ht : t + (d + 1) = 900) (IHE : sm_ET xdl xtk xtv xaf xro xsc xho n F d) (IHR : sm_RT xdl xtk xtv xaf xro xsc xho n F d) : sm_R (xdl, nI n, 1, nI vc, nI cc, nI (x + 1), nI (b + k), 1, nI va, xex, xen, nI F, xac, -1, nI s, xmd, -1, -1, xtk, xtv, xaf, xro, xsc, xho, xvk, xvf, xvs, xcv, xco, xff, xfp, xfe, xfb, xop) (xdl, nI n, 1, ygs, ypo, nI hp, nI (y + 1), nI (b + k + 1), nI F, nI s, xmd, xac, yst, yrt, ycu, 0, xtk, xtv, yus, ygk, yga, ygb, yck, yca, ycb, ycc, yfp, yfe, yfS, yfn, yfb, yvs, yds, 50000, 50000, 50000, 50000) t it := by
  have k20 := tk_20 PG.1 (q + 1)
  have J' := J
  obtain ⟨B, O, Wf, R, N, L, hv, v⟩ := J'
  obtain ⟨hq, rq, k1, w1, w2, w3, w4, w5, w6⟩ := Wf
  rcases w6 with w | w | w | w
  · exact sr_if PG J w.1 ht IHE
  · by_cases hk : k + 1 < gr_n (tk_K xtk n (q + 1))
    · exact so_more PG J w.1 hk ht IHE
    · have hk' : k + 1 = gr_n (tk_K xtk n (q + 1)) := by have := w.2.1; omega
      by_cases z11 : tk_K xtk n (q + 1) = 11
      · exact so_cons PG J z11 hk' ht IHR
      · by_cases z12 : tk_K xtk n (q + 1) = 12 ∨ tk_K xtk n (q + 1) = 13
        · exact so_part PG J z12 hk' ht IHR
        · by_cases z14 : tk_K xtk n (q + 1) = 14
          · exact so_null PG J z14 hk' ht IHR
          · exact so_calc PG J (by omega) hk' ht IHR
  · exact sl_let PG J w.1 ht IHE
  · obtain ⟨c, lc, w⟩ := w.2
    have k6 : tk_K xtk n (q + 1) < 6 := by
      rename_i w0
      exact w0.1
    rcases w with ⟨z, f1, f2, f3⟩ | ⟨z, f1, f2⟩
    · exact sa_arg PG J k6 lc z f1 f2 f3 ht IHE
    · subst z
      exact sa_call PG J k6 lc f1 f2 ht IHE
end
/-- an answer is there: by the reference's innermost frame -/
theorem sr_all {xdl : Int32} {xtk xtv xaf xro xsc xho : Nat → Int32} {n F d : Nat} {par : Nat → Nat} (PG : pg_F xtk xtv xaf xro xsc xho n par) (IHE : sm_ET xdl xtk xtv xaf xro xsc xho n F d) (IHR : sm_RT xdl xtk xtv xaf xro xsc xho n F d) : sm_RT xdl xtk xtv xaf xro xsc xho n F (d + 1) := by
  intro VR g nm vc cc hp fc oc y
  induction y generalizing fc oc with
  | zero =>
    intro u s t it a b xex xen xac xmd ygs ypo yst yrt ycu xvk xvf xvs xcv xco xff xfp xfe xfb xop yus ygk yga ygb yck yca ycb ycc yfp yfe yfS yfn yfb yvs yds ht I hv v
    have N := I.2.2.2.1
    unfold sr_N at N
    exact sr_fin PG I hv v (by omega) (by omega)
  | succ y ih =>
    intro u s t it a b xex xen xac xmd ygs ypo yst yrt ycu xvk xvf xvs xcv xco xff xfp xfe xfb xop yus ygk yga ygb yck yca ycb ycc yfp yfe yfS yfn yfb yvs yds ht I hv v
    have I' := I
    obtain ⟨B, O, R, N, L⟩ := I
    have H := PG.1
    have H1 := H.1
    have N' := N
    unfold sr_N at N
    rcases R with ⟨⟨hB, q, hq, hP, hS⟩, R⟩ | ⟨x, e, ⟨c1, ⟨q, hq, hP, k6⟩, c3, c4⟩, R⟩ | ⟨x, b', k, u', q, e1, e2, e3, Wf, R⟩
    · have nxt : sm_R (xdl, nI n, 1, nI vc, nI cc, nI fc, nI oc, 1, nI a, xex, xen, nI F, xac, -1, nI s, xmd, -1, -1, xtk, xtv, xaf, xro, xsc, xho, xvk, xvf, xvs, xcv, xco, xff, xfp, xfe, xfb, xop) (xdl, nI n, 1, ygs, ypo, nI hp, nI y, nI (oc + 1), nI F, nI s, xmd, xac, yst, yrt, ycu, 0, xtk, xtv, yus, ygk, yga, ygb, yck, yca, ycb, ycc, yfp, yfe, yfS, yfn, yfb, upd yvs oc (yvs oc), yds, 50000, 50000, 50000, 50000) t (it + 1) := by
        refine ih fc oc u s t (it + 1) a b _ _ _ _ _ _ _ _ _  _ _ _ _ _ _ _ _ _ _ _ _ _ _ _ _ _ _ _ _ _ _ _ _ _  ht ⟨B, op_m (fun _ _ z => z) (fun i hi => ⟨rfl, pk_un (by omega)⟩) O, R, by unfold sr_N; omega, L⟩ (pk_us.trans hv) v
      rcases hS with ⟨k10, h2⟩ | ⟨k8, h2⟩ | ⟨k9, h2⟩
      · exact sm_Rp (y := y) (by omega) (by omega) (fun Q h => yF_dIf H (by omega) hP hq k10 (yI_2 (by omega) h2 hB (by omega) h)) nxt
      · exact sm_Rp (y := y) (by omega) (by omega) (fun Q h => yF_dLet H (by omega) hP hq k8 (yL_p (by omega) h2 hB (by omega) h)) nxt
      · exact sm_Rp (y := y) (by omega) (by omega) (fun Q h => yF_dLr H (by omega) hP hq k9 (yR_p (by omega) h2 hB (by omega) h)) nxt
    · subst e
      refine sm_RR (y := y) (by omega) (by omega) (by omega) (fun Q h => xr_ret (by omega) c1 h) (fun Q h => yF_dApp H (by omega) hP hq k6 (yA_r (by omega) c3 c4 (by omega) h)) ?_
      exact IHR VR g nm vc cc hp x oc y u s (t + 1) (it + 1) a b _ _ _ _ _ _ _ _ _  _ _ _ _ _ _ _ _ _ _ _ _ _ _ _ _ _ _ _ _ _ _ _ _ _  (by omega) ⟨B, op_m (fun _ _ z => z) (fun i hi => ⟨rfl, pk_un (by omega)⟩) O, R, by unfold sr_N; omega, L⟩ (pk_us.trans hv) v
    · subst e1 e2 e3
      exact sr_W PG ⟨B, O, Wf, R, N', L, hv, v⟩ ht IHE IHR
