section
variable {xdl xtn xpp xvc xcc xfc xoc xag xan xex xen xfl xac xst xsp xmd xrt xcu : Int32} {xtk xtv xaf xro xsc xho xvk xvf xvs xcv xco xff xfp xfe xfb xop : Nat → Int32} {yli yn ypr ygs ypo yhp yfs yvp yfu ysp ymd yac yst yrt ycu yhv : Int32} {ytk ytv yus ygk yga ygb yck yca ycb ycc yfp yfe yfS yfn yfb yvs yds : Nat → Int32} {ynk yna ynb ync : Nat} {n : Nat} {par : Nat → Nat} {VR : Nat → Nat → Prop} {g nm : Nat → Nat} {vc cc hp y s t it F d x b k q u1 va vb : Nat}
/-- the operator's frame -/
theorem so_f (PG : pg_F xtk xtv xaf xro xsc xho n par) (J : (sr_J (tk_K xtk n) xtv (sk_f (tk_K xtk n) n) (xr_c n xro) xsc n VR g nm vc cc hp x b k q y u1 s t it F xvk xvf xvs xcv xco xff xfp xfe xfb xop yck yca ycb ycc yfp yfe yfS yfn yfb yvs va vb)) (k11 : 11 ≤ tk_K xtk n (q + 1)) : q + 1 < n ∧ k < gr_n (tk_K xtk n (q + 1)) ∧ xfp x = nI (it_f (sk_f (tk_K xtk n) n) k (q + 2)) ∧ yfS y = nI (k + 1) ∧ yfn y = nI (it_f (sk_f (tk_K xtk n) n) (k + 1) (q + 2)) ∧
    (k + 1 < gr_n (tk_K xtk n (q + 1)) → xp_A (tk_K xtk n) (sk_f (tk_K xtk n) n) n q (it_f (sk_f (tk_K xtk n) n) k (q + 2)) (nI (it_f (sk_f (tk_K xtk n) n) (k + 1) (q + 2))) ∧ it_f (sk_f (tk_K xtk n) n) (k + 1) (q + 2) < n ∧ xr_c n xro (it_f (sk_f (tk_K xtk n) n) (k + 1) (q + 2)) = 1 ∧ xsc (it_f (sk_f (tk_K xtk n) n) (k + 1) (q + 2)) = xsc q) ∧ (k + 1 = gr_n (tk_K xtk n (q + 1)) → xp_A (tk_K xtk n) (sk_f (tk_K xtk n) n) n q (it_f (sk_f (tk_K xtk n) n) k (q + 2)) (-1)) := by
  obtain ⟨B, O, Wf, R, N, L, hv, v⟩ := J
  obtain ⟨hq, rq, k1, w1, w2, w3, w4, w5, w6⟩ := Wf
  have H := PG.1
  have H1 := H.1
  have hn0 : ∀ i, n ≤ i → tk_K xtk n i = 0 := fun i => tk_0
  have hBp : ∀ i, i < n → tk_K xtk n i ≠ 2 → dp_I (tk_K xtk n) i (sk_f (tk_K xtk n) n i) := fun i hi hk => (PG.2.1 i hi hk).1
  have hq1 : q + 1 < n := tk_lt (tk := xtk) (by omega)
  obtain ⟨lc, st, hend⟩ := st_op hn0 hBp PG.2.2.1 PG.2.2.2.1 hq rq k1 (by omega)
  have w6' : k < gr_n (tk_K xtk n (q + 1)) ∧ xfp x = nI (it_f (sk_f (tk_K xtk n) n) k (q + 2)) ∧ yfS y = nI (k + 1) ∧ yfn y = nI (it_f (sk_f (tk_K xtk n) n) (k + 1) (q + 2)) := by
    rcases w6 with w | w | w | w
    · omega
    · exact w.2
    · omega
    · omega
  obtain ⟨w7, w8, w9, w10⟩ := w6'
  have s0 := st k w7
  refine ⟨hq1, w7, w8, w9, w10, fun z => ?_, fun z => ?_⟩
  · have s1 := st (k + 1) z
    refine ⟨⟨s0.1, s0.2.2.1, Or.inr (Or.inr (Or.inr ⟨Or.inr (by omega), by omega, ?_, Or.inl ⟨?_, ?_⟩⟩))⟩, s1.1, s1.2.1, s1.2.2.2.2⟩
    · rw [← it_s (sk_f (tk_K xtk n) n) k (q + 2)]; exact s1.1
    · rw [← it_s (sk_f (tk_K xtk n) n) k (q + 2)]; exact s1.2.2.1
    · rw [← it_s (sk_f (tk_K xtk n) n) k (q + 2)]
  · refine ⟨s0.1, s0.2.2.1, Or.inr (Or.inr (Or.inr ⟨Or.inr (by omega), by omega, ?_, Or.inr (Or.inr ⟨?_, by omega, rfl⟩)⟩))⟩
    · rw [← it_s (sk_f (tk_K xtk n) n) k (q + 2), z]; exact hend
    · rw [← it_s (sk_f (tk_K xtk n) n) k (q + 2), z]; exact lc.2
theorem so_more (PG : pg_F xtk xtv xaf xro xsc xho n par) (J : (sr_J (tk_K xtk n) xtv (sk_f (tk_K xtk n) n) (xr_c n xro) xsc n VR g nm vc cc hp x b k q y u1 s t it F xvk xvf xvs xcv xco xff xfp xfe xfb xop yck yca ycb ycc yfp yfe yfS yfn yfb yvs va vb)) (k11 : 11 ≤ tk_K xtk n (q + 1)) (hk : k + 1 < gr_n (tk_K xtk n (q + 1))) (ht : t + (d + 1) = 900) (IHE : sm_ET xdl xtk xtv xaf xro xsc xho n F d) : sm_R (xdl, nI n, 1, nI vc, nI cc, nI (x + 1), nI (b + k), 1, nI va, xex, xen, nI F, xac, -1, nI s, xmd, -1, -1, xtk, xtv, xaf, xro, xsc, xho, xvk, xvf, xvs, xcv, xco, xff, xfp, xfe, xfb, xop) (xdl, nI n, 1, ygs, ypo, nI hp, nI (y + 1), nI (b + k + 1), nI F, nI s, xmd, xac, yst, yrt, ycu, 0, xtk, xtv, yus, ygk, yga, ygb, yck, yca, ycb, ycc, yfp, yfe, yfS, yfn, yfb, yvs, yds, 50000, 50000, 50000, 50000) t it := by
  have H := PG.1
  have H1 := H.1
  have k20 := tk_20 H (q + 1)
  have g13 := gr_n13 (tk_K xtk n (q + 1))
  obtain ⟨hq1, f1, f2, f3, f4, f5, _⟩ := so_f PG J k11
  obtain ⟨hA, p1, p2, p3⟩ := f5 hk
  obtain ⟨B, O, Wf, R, N, L, hv, v⟩ := J
  obtain ⟨hq, rq, k1, w1, w2, w3, w4, w5, _⟩ := Wf
  unfold sr_N at N
  refine sm_RE (y := y) (v2 := (xdl, nI n, 1, ygs, ypo, nI hp, nI (y + 1), nI (b + k + 1), nI F, nI s, xmd, xac, yst, yrt, ycu, 0, xtk, xtv, yus, ygk, yga, ygb, yck, yca, ycb, ycc, yfp, yfe, upd yfS y (nI (k + 1 + 1)), upd yfn y (nI (sk_f (tk_K xtk n) n (it_f (sk_f (tk_K xtk n) n) (k + 1) (q + 2)))), yfb, yvs, yds, 50000, 50000, 50000, 50000)) (q' := nI (it_f (sk_f (tk_K xtk n) n) (k + 1) (q + 2))) (e' := yfe y) (by omega) (by omega) (by omega) (fun Q h => xr_more H PG.2.1 (p := it_f (sk_f (tk_K xtk n) n) k (q + 2)) (by omega) (by omega) hq1 w1 f2 (by omega) hA h) (fun Q h => yF_dOp H (by omega) w2 hq rfl k11 (yO_sel ⟨k11, k20⟩ (yO_n (k := k + 1) H (by omega) hk (by omega) f3 f4 p1 h))) ?_
  refine IHE VR g nm vc cc hp (x + 1) (b + k + 1) (y + 1) (u1 + 1) s (t + 1) (it + 1) (it_f (sk_f (tk_K xtk n) n) (k + 1) (q + 2)) _ _ _ _ _ _ _ _ _ _  _ _ _ _ _ _ _ _ _ _ _ _ _ _ _ _ _ _ _ _ _ _ _ _ _  (by omega) ⟨B, op_s (fun _ _ z => z) (fun _ _ => rfl) hv v O, Or.inr (Or.inr ⟨x, b, k + 1, u1, q, rfl, rfl, by omega, ⟨hq, rq, k1, w1, w2, w3, w4, w5, Or.inr (Or.inl ⟨k11, hk, pk_us, pk_us, ?_⟩)⟩, fr_k (Nat.le_refl _) (fun _ _ => ⟨rfl, rfl⟩) (fun i hi => ⟨rfl, pk_un (by omega), rfl, rfl⟩) (fun i hi => ⟨rfl, rfl, pk_un (by omega), pk_un (by omega), rfl⟩) R⟩), by unfold sr_N; omega, L⟩ p1 p2 (by rw [p3]; exact w5)
  rw [pk_us, ← it_s (sk_f (tk_K xtk n) n) (k + 1) (q + 2)]
/-- an operator has made a value -/
theorem so_new {kd f s2 ka kb : Int32} (PG : pg_F xtk xtv xaf xro xsc xho n par) (J : (sr_J (tk_K xtk n) xtv (sk_f (tk_K xtk n) n) (xr_c n xro) xsc n VR g nm vc cc hp x b k q y u1 s t it F xvk xvf xvs xcv xco xff xfp xfe xfb xop yck yca ycb ycc yfp yfe yfS yfn yfb yvs va vb)) {xf' : Nat → Int32} (hxf : ∀ i, i < x → xf' i = xfp i) {op' : Nat → Int32} (hop : ∀ i, i < b → op' i = xop i)
    (hV : hb_V (tk_K xtk n) (xr_c n xro) xsc n (fun a c => VR a c ∨ (a = vc ∧ c = hp)) g nm cc (upd xvk vc kd) (upd xvf vc f) (upd xvs vc s2) (upd yck hp kd) (upd yca hp ka) (upd ycb hp kb) vc hp) (ht : t + (d + 1) = 900) (IHR : sm_RT xdl xtk xtv xaf xro xsc xho n F d) :
    sm_R (xdl, nI n, 1, nI (vc + 1), nI cc, nI x, nI b, 1, nI vc, xex, xfe x, nI F, xac, -1, nI s, xmd, -1, -1, xtk, xtv, xaf, xro, xsc, xho, upd xvk vc kd, upd xvf vc f, upd xvs vc s2, xcv, xco, xff, xf', xfe, xfb, op') (xdl, nI n, 1, ygs, ypo, nI (hp + 1), nI y, nI (b + 1), nI F, nI s, xmd, xac, yst, yrt, ycu, 0, xtk, xtv, yus, ygk, yga, ygb, upd yck hp kd, upd yca hp ka, upd ycb hp kb, upd ycc hp 0, yfp, yfe, yfS, yfn, yfb, upd yvs b (nI hp), yds, 50000, 50000, 50000, 50000) (t + 1) (it + 1) := by
  obtain ⟨B, O, Wf, R, N, L, hv, v⟩ := J
  unfold sr_N at N
  have hyy : ∀ i, i < hp → upd yck hp kd i = yck i ∧ upd yca hp ka i = yca i ∧ upd ycb hp kb i = ycb i ∧ upd ycc hp 0 i = ycc i := fun i hi => ⟨pk_un (by omega), pk_un (by omega), pk_un (by omega), pk_un (by omega)⟩
  have hxx : ∀ i, i < vc → upd xvk vc kd i = xvk i ∧ upd xvf vc f i = xvf i ∧ upd xvs vc s2 i = xvs i := fun i hi => ⟨pk_un (by omega), pk_un (by omega), pk_un (by omega)⟩
  have H1 := PG.1.1
  refine IHR (fun a c => VR a c ∨ (a = vc ∧ c = hp)) g nm (vc + 1) cc (hp + 1) x b y u1 s (t + 1) (it + 1) vc hp _ _ _ _ _ _ _ _ _  _ _ _ _ _ _ _ _ _ _ _ _ _ _ _ _ _ _ _ _ _ _ _ _ _  (by omega) ⟨?_, ?_, ?_, by unfold sr_N; omega, ?_⟩ pk_us (Or.inr ⟨rfl, rfl⟩)
  · refine hb_add (by omega) (by omega) (fun a b z => Or.inl z) hxx hyy (fun _ _ => ⟨rfl, rfl⟩) (fun a b z => ?_) B
    rcases z with z | ⟨z1, z2⟩
    · exact Or.inl z
    · refine Or.inr ?_
      rw [z1, z2]
      exact ⟨by omega, by omega, hV⟩
  · exact op_m (fun a b z => Or.inl z) (fun i hi => ⟨hop i hi, pk_un (by omega)⟩) (op_l (by omega) O)
  · exact fr_k (Nat.le_refl _) (fun _ _ => ⟨rfl, rfl⟩) (fun i hi => ⟨rfl, hxf i hi, rfl, rfl⟩) (fun i hi => ⟨rfl, rfl, rfl, rfl, rfl⟩) R
  · exact lt_Lk L (fun j hj => ⟨hxx j (by omega), hxx (64 + j) (by omega)⟩)
theorem so_cons (PG : pg_F xtk xtv xaf xro xsc xho n par) (J : (sr_J (tk_K xtk n) xtv (sk_f (tk_K xtk n) n) (xr_c n xro) xsc n VR g nm vc cc hp x b k q y u1 s t it F xvk xvf xvs xcv xco xff xfp xfe xfb xop yck yca ycb ycc yfp yfe yfS yfn yfb yvs va vb)) (k11 : tk_K xtk n (q + 1) = 11) (hk : k + 1 = gr_n (tk_K xtk n (q + 1))) (ht : t + (d + 1) = 900) (IHR : sm_RT xdl xtk xtv xaf xro xsc xho n F d) : sm_R (xdl, nI n, 1, nI vc, nI cc, nI (x + 1), nI (b + k), 1, nI va, xex, xen, nI F, xac, -1, nI s, xmd, -1, -1, xtk, xtv, xaf, xro, xsc, xho, xvk, xvf, xvs, xcv, xco, xff, xfp, xfe, xfb, xop) (xdl, nI n, 1, ygs, ypo, nI hp, nI (y + 1), nI (b + k + 1), nI F, nI s, xmd, xac, yst, yrt, ycu, 0, xtk, xtv, yus, ygk, yga, ygb, yck, yca, ycb, ycc, yfp, yfe, yfS, yfn, yfb, yvs, yds, 50000, 50000, 50000, 50000) t it := by
  have H := PG.1
  have H1 := H.1
  obtain ⟨hq1, f1, f2, f3, f4, _, f6⟩ := so_f PG J (by omega)
  have hA := f6 hk
  rw [k11] at hk
  have k1e : k = 1 := by have : gr_n 11 = 2 := rfl; omega
  subst k1e
  have J' := J
  obtain ⟨B, O, Wf, R, N, L, hv, v⟩ := J
  obtain ⟨hq, rq, k1, w1, w2, w3, w4, w5, _⟩ := Wf
  unfold sr_N at N
  obtain ⟨a0, b0, o1, o2, o3⟩ := O b (by omega)
  have e1 : upd xop (b + 1) (nI va) b = nI a0 := (pk_un (by omega)).trans o1
  have e2 : upd xop (b + 1) (nI va) (b + 1) = nI va := pk_us
  refine sm_RR (y := y) (by omega) (by omega) (by omega) (fun Q h => xr_last H PG.2.1 (p := it_f (sk_f (tk_K xtk n) n) 1 (q + 2)) (by omega) (by omega) hq1 w1 f2 hA (xF_cons (xop := upd xop (b + 1) (nI va)) (xfp := upd xfp x (-1)) H (by omega) (by omega) (by omega) w1 w3 k11 hq1 (by rw [e1, e2]; exact h))) (fun Q h => yF_dOp H (by omega) w2 hq k11 (by omega) (yO_sel (by omega) (yO_cons (by omega) (by omega) (by omega) f3 w4 (by rw [o2, hv]; exact h)))) (so_new PG J' (fun i hi => pk_un (by omega)) (fun i hi => pk_un (by omega)) ?_ ht IHR)
  refine Or.inr (Or.inr (Or.inl ⟨pk_us, pk_us, a0, va, b0, vb, pk_us, pk_us, pk_us, pk_us, Or.inl o3, Or.inl v⟩))
theorem so_null (PG : pg_F xtk xtv xaf xro xsc xho n par) (J : (sr_J (tk_K xtk n) xtv (sk_f (tk_K xtk n) n) (xr_c n xro) xsc n VR g nm vc cc hp x b k q y u1 s t it F xvk xvf xvs xcv xco xff xfp xfe xfb xop yck yca ycb ycc yfp yfe yfS yfn yfb yvs va vb)) (k14 : tk_K xtk n (q + 1) = 14) (hk : k + 1 = gr_n (tk_K xtk n (q + 1))) (ht : t + (d + 1) = 900) (IHR : sm_RT xdl xtk xtv xaf xro xsc xho n F d) : sm_R (xdl, nI n, 1, nI vc, nI cc, nI (x + 1), nI (b + k), 1, nI va, xex, xen, nI F, xac, -1, nI s, xmd, -1, -1, xtk, xtv, xaf, xro, xsc, xho, xvk, xvf, xvs, xcv, xco, xff, xfp, xfe, xfb, xop) (xdl, nI n, 1, ygs, ypo, nI hp, nI (y + 1), nI (b + k + 1), nI F, nI s, xmd, xac, yst, yrt, ycu, 0, xtk, xtv, yus, ygk, yga, ygb, yck, yca, ycb, ycc, yfp, yfe, yfS, yfn, yfb, yvs, yds, 50000, 50000, 50000, 50000) t it := by
  have H := PG.1
  have H1 := H.1
  obtain ⟨hq1, f1, f2, f3, f4, _, f6⟩ := so_f PG J (by omega)
  have hA := f6 hk
  rw [k14] at hk
  have k0e : k = 0 := by have : gr_n 14 = 1 := rfl; omega
  subst k0e
  have J' := J
  obtain ⟨B, O, Wf, R, N, L, hv, v⟩ := J
  obtain ⟨hq, rq, k1, w1, w2, w3, w4, w5, _⟩ := Wf
  unfold sr_N at N
  have kd := hb_kind B v
  have e2 : upd xop (b + 0) (nI va) b = nI va := pk_us
  refine sm_RR (y := y) (by omega) (by omega) (by omega) (fun Q h => xr_last H PG.2.1 (p := it_f (sk_f (tk_K xtk n) n) 0 (q + 2)) (by omega) (by omega) hq1 w1 f2 hA (xF_null (xop := upd xop (b + 0) (nI va)) (xfp := upd xfp x (-1)) H (by omega) (by omega) (by omega) (by omega) w1 w3 k14 hq1 e2 h)) (fun Q h => yF_dOp H (by omega) w2 hq k14 (by omega) (yO_sel (by omega) (yO_null (by omega) (by omega) (by omega) (by omega) f3 w4 hv h))) (so_new PG J' (fun i hi => pk_un (by omega)) (fun i hi => pk_un (by omega)) ?_ ht IHR)
  refine Or.inl ⟨pk_us, pk_us, ?_⟩
  rw [pk_us, pk_us, kd.2.2.1]
theorem so_part (PG : pg_F xtk xtv xaf xro xsc xho n par) (J : (sr_J (tk_K xtk n) xtv (sk_f (tk_K xtk n) n) (xr_c n xro) xsc n VR g nm vc cc hp x b k q y u1 s t it F xvk xvf xvs xcv xco xff xfp xfe xfb xop yck yca ycb ycc yfp yfe yfS yfn yfb yvs va vb)) (k12 : tk_K xtk n (q + 1) = 12 ∨ tk_K xtk n (q + 1) = 13) (hk : k + 1 = gr_n (tk_K xtk n (q + 1))) (ht : t + (d + 1) = 900) (IHR : sm_RT xdl xtk xtv xaf xro xsc xho n F d) : sm_R (xdl, nI n, 1, nI vc, nI cc, nI (x + 1), nI (b + k), 1, nI va, xex, xen, nI F, xac, -1, nI s, xmd, -1, -1, xtk, xtv, xaf, xro, xsc, xho, xvk, xvf, xvs, xcv, xco, xff, xfp, xfe, xfb, xop) (xdl, nI n, 1, ygs, ypo, nI hp, nI (y + 1), nI (b + k + 1), nI F, nI s, xmd, xac, yst, yrt, ycu, 0, xtk, xtv, yus, ygk, yga, ygb, yck, yca, ycb, ycc, yfp, yfe, yfS, yfn, yfb, yvs, yds, 50000, 50000, 50000, 50000) t it := by
  have H := PG.1
  have H1 := H.1
  obtain ⟨hq1, f1, f2, f3, f4, _, f6⟩ := so_f PG J (by omega)
  have hA := f6 hk
  have g1 : gr_n (tk_K xtk n (q + 1)) = 1 := by unfold gr_n; rw [if_neg (by omega), if_pos (by omega)]
  have k0e : k = 0 := by omega
  subst k0e
  obtain ⟨B, O, Wf, R, N, L, hv, v⟩ := J
  obtain ⟨hq, rq, k1, w1, w2, w3, w4, w5, _⟩ := Wf
  unfold sr_N at N
  have kd := hb_kind B v
  have e2 : upd xop (b + 0) (nI va) b = nI va := pk_us
  by_cases v3 : xvk va = 3
  · have c3 : yck vb = 3 := by rw [← kd.2.2.1]; exact v3
    obtain ⟨_, _, hV⟩ := B.1 va vb v
    have pr : ∃ a1 b1 a2 b2, xvf va = nI a1 ∧ xvs va = nI b1 ∧ yca vb = nI a2 ∧ ycb vb = nI b2 ∧ VR a1 a2 ∧ VR b1 b2 := by
      rcases hV with w | w | w | w
      · rw [v3] at w; exact absurd w.1 (by decide)
      · rw [v3] at w; exact absurd w.1 (by decide)
      · exact w.2.2
      · rw [v3] at w; exact absurd w.1 (by decide)
    obtain ⟨a1, b1, a2, b2, p1, p2, p3, p4, p5, p6⟩ := pr
    have key : ∀ (A1 A2 : Nat), nI A1 = (if tk_K xtk n (q + 1) = 12 then xvf va else xvs va) → nI A2 = (if tk_K xtk n (q + 1) = 12 then yca vb else ycb vb) → VR A1 A2 → sm_R (xdl, nI n, 1, nI vc, nI cc, nI (x + 1), nI (b + 0), 1, nI va, xex, xen, nI F, xac, -1, nI s, xmd, -1, -1, xtk, xtv, xaf, xro, xsc, xho, xvk, xvf, xvs, xcv, xco, xff, xfp, xfe, xfb, xop) (xdl, nI n, 1, ygs, ypo, nI hp, nI (y + 1), nI (b + 0 + 1), nI F, nI s, xmd, xac, yst, yrt, ycu, 0, xtk, xtv, yus, ygk, yga, ygb, yck, yca, ycb, ycc, yfp, yfe, yfS, yfn, yfb, yvs, yds, 50000, 50000, 50000, 50000) t it := by
      intro A1 A2 h1 h2 h3
      refine sm_RR (y := y) (by omega) (by omega) (by omega) (fun Q h => xr_last H PG.2.1 (p := it_f (sk_f (tk_K xtk n) n) 0 (q + 2)) (by omega) (by omega) hq1 w1 f2 hA (xF_part (xop := upd xop (b + 0) (nI va)) (xfp := upd xfp x (-1)) H (by omega) (by omega) (by omega) w1 w3 rfl k12 hq1 e2 (fun z => absurd v3 z) (fun _ => by rw [← h1]; exact h))) (fun Q h => yF_dOp H (by omega) w2 hq rfl (by omega) (yO_sel (by omega) (by rw [g1]; exact yO_part (by omega) (by omega) (by omega) k12 f3 w4 hv (fun z => absurd c3 z) (fun _ => by rw [← h2]; exact h)))) ?_
      refine IHR VR g nm vc cc hp x b y u1 s (t + 1) (it + 1) A1 A2 _ _ _ _ _ _ _ _ _  _ _ _ _ _ _ _ _ _ _ _ _ _ _ _ _ _ _ _ _ _ _ _ _ _  (by omega) ⟨B, ?_, ?_, by unfold sr_N; omega, L⟩ pk_us h3
      · exact op_m (fun a b z => z) (fun i hi => ⟨pk_un (by omega), pk_un (by omega)⟩) (op_l (by omega) O)
      · exact fr_k (Nat.le_refl _) (fun _ _ => ⟨rfl, rfl⟩) (fun i hi => ⟨rfl, pk_un (by omega), rfl, rfl⟩) (fun i hi => ⟨rfl, rfl, rfl, rfl, rfl⟩) R
    by_cases z : tk_K xtk n (q + 1) = 12
    · exact key a1 a2 (by rw [if_pos z]; exact p1.symm) (by rw [if_pos z]; exact p3.symm) p5
    · exact key b1 b2 (by rw [if_neg z]; exact p2.symm) (by rw [if_neg z]; exact p4.symm) p6
  · have c3 : yck vb ≠ 3 := by rw [← kd.2.2.1]; exact v3
    exact sm_Rerr (y := y) (r := 6) (u1 := (xdl, nI n, 1, nI vc, nI cc, nI x, nI b, 1, nI va, xex, xfe x, nI F, xac, 6, nI s, xmd, -1, -1, xtk, xtv, xaf, xro, xsc, xho, xvk, xvf, xvs, xcv, xco, xff, upd xfp x (-1), xfe, xfb, upd xop (b + 0) (nI va))) (v2 := (xdl, nI n, 1, ygs, ypo, nI hp, nI (y + 1), nI (b + 0 + 1), nI F, nI s, xmd, xac, yst, yrt, ycu, 0, xtk, xtv, yus, ygk, yga, ygb, yck, yca, ycb, ycc, yfp, yfe, yfS, yfn, yfb, yvs, yds, 50000, 50000, 50000, 50000)) (by omega) (by omega) (by omega) (by decide) (by decide) rfl (fun Q h => xr_last H PG.2.1 (p := it_f (sk_f (tk_K xtk n) n) 0 (q + 2)) (by omega) (by omega) hq1 w1 f2 hA (xF_part (xop := upd xop (b + 0) (nI va)) (xfp := upd xfp x (-1)) H (by omega) (by omega) (by omega) w1 w3 rfl k12 hq1 e2 (fun _ => h) (fun z => absurd z v3))) (fun Q h => yF_dOp H (by omega) w2 hq rfl (by omega) (yO_sel (by omega) (by rw [g1]; exact yO_part (by omega) (by omega) (by omega) k12 f3 w4 hv (fun _ => h) (fun z => absurd z c3)))) (sf_err PG B.2.2.2.2 L)
theorem so_calc (PG : pg_F xtk xtv xaf xro xsc xho n par) (J : (sr_J (tk_K xtk n) xtv (sk_f (tk_K xtk n) n) (xr_c n xro) xsc n VR g nm vc cc hp x b k q y u1 s t it F xvk xvf xvs xcv xco xff xfp xfe xfb xop yck yca ycb ycc yfp yfe yfS yfn yfb yvs va vb)) (k15 : 15 ≤ tk_K xtk n (q + 1)) (hk : k + 1 = gr_n (tk_K xtk n (q + 1))) (ht : t + (d + 1) = 900) (IHR : sm_RT xdl xtk xtv xaf xro xsc xho n F d) : sm_R (xdl, nI n, 1, nI vc, nI cc, nI (x + 1), nI (b + k), 1, nI va, xex, xen, nI F, xac, -1, nI s, xmd, -1, -1, xtk, xtv, xaf, xro, xsc, xho, xvk, xvf, xvs, xcv, xco, xff, xfp, xfe, xfb, xop) (xdl, nI n, 1, ygs, ypo, nI hp, nI (y + 1), nI (b + k + 1), nI F, nI s, xmd, xac, yst, yrt, ycu, 0, xtk, xtv, yus, ygk, yga, ygb, yck, yca, ycb, ycc, yfp, yfe, yfS, yfn, yfb, yvs, yds, 50000, 50000, 50000, 50000) t it := by
  have H := PG.1
  have H1 := H.1
  have k20 := tk_20 H (q + 1)
  obtain ⟨hq1, f1, f2, f3, f4, _, f6⟩ := so_f PG J (by omega)
  have hA := f6 hk
  have g2 : gr_n (tk_K xtk n (q + 1)) = 2 := by unfold gr_n; rw [if_neg (by omega), if_neg (by omega)]
  have k1e : k = 1 := by omega
  subst k1e
  have J' := J
  obtain ⟨B, O, Wf, R, N, L, hv, v⟩ := J
  obtain ⟨hq, rq, k1, w1, w2, w3, w4, w5, _⟩ := Wf
  unfold sr_N at N
  obtain ⟨a0, b0, o1, o2, o3⟩ := O b (by omega)
  have kd := hb_kind B v
  have kd0 := hb_kind B o3
  have e1 : upd xop (b + 1) (nI va) b = nI a0 := (pk_un (by omega)).trans o1
  have e2 : upd xop (b + 1) (nI va) (b + 1) = nI va := pk_us
  by_cases v1 : xvk a0 = 1 ∧ xvk va = 1
  · have c1 : yck b0 = 1 ∧ yck vb = 1 := ⟨kd0.2.2.1 ▸ v1.1, kd.2.2.1 ▸ v1.2⟩
    have ea := kd0.2.2.2 v1.1
    have ec := kd.2.2.2 v1.2
    by_cases dz : tk_K xtk n (q + 1) = 18 ∧ xvf va = 0
    · have dz2 : yca vb = 0 := by rw [← ec]; exact dz.2
      exact sm_Rerr (y := y) (r := 7) (u1 := (xdl, nI n, 1, nI vc, nI cc, nI x, nI b, 1, nI va, xex, xfe x, nI F, xac, 7, nI s, xmd, -1, -1, xtk, xtv, xaf, xro, xsc, xho, xvk, xvf, xvs, xcv, xco, xff, upd xfp x (-1), xfe, xfb, upd xop (b + 1) (nI va))) (v2 := (xdl, nI n, 1, ygs, ypo, nI hp, nI (y + 1), nI (b + 1 + 1), nI F, nI s, xmd, xac, yst, yrt, ycu, 0, xtk, xtv, yus, ygk, yga, ygb, yck, yca, ycb, ycc, yfp, yfe, yfS, yfn, yfb, yvs, yds, 50000, 50000, 50000, 50000)) (by omega) (by omega) (by omega) (by decide) (by decide) rfl (fun Q h => xr_last H PG.2.1 (p := it_f (sk_f (tk_K xtk n) n) 1 (q + 2)) (by omega) (by omega) hq1 w1 f2 hA (xF_calc (xop := upd xop (b + 1) (nI va)) (xfp := upd xfp x (-1)) H (by omega) (by omega) (by omega) (by omega) (by omega) w1 w3 rfl ⟨k15, k20⟩ hq1 e1 e2 (fun z => absurd v1 z) (fun _ _ _ _ => h) (fun _ _ z => absurd dz z))) (fun Q h => yF_dOp H (by omega) w2 hq rfl (by omega) (yO_sel (by omega) (by rw [g2]; exact yO_calc (by omega) (by omega) (by omega) (by omega) (by omega) ⟨k15, k20⟩ f3 w4 o2 hv (fun z => absurd c1 z) (fun _ _ _ _ => h) (fun _ _ z => absurd ⟨dz.1, dz2⟩ z)))) (sf_err PG B.2.2.2.2 L)
    · have dz2 : ¬ (tk_K xtk n (q + 1) = 18 ∧ yca vb = 0) := by rw [← ec]; exact dz
      refine sm_RR (y := y) (by omega) (by omega) (by omega) (fun Q h => xr_last H PG.2.1 (p := it_f (sk_f (tk_K xtk n) n) 1 (q + 2)) (by omega) (by omega) hq1 w1 f2 hA (xF_calc (xop := upd xop (b + 1) (nI va)) (xfp := upd xfp x (-1)) H (by omega) (by omega) (by omega) (by omega) (by omega) w1 w3 rfl ⟨k15, k20⟩ hq1 e1 e2 (fun z => absurd v1 z) (fun _ _ z1 z2 => absurd ⟨z1, z2⟩ dz) (fun _ _ _ => h))) (fun Q h => yF_dOp H (by omega) w2 hq rfl (by omega) (yO_sel (by omega) (by rw [g2]; exact yO_calc (by omega) (by omega) (by omega) (by omega) (by omega) ⟨k15, k20⟩ f3 w4 o2 hv (fun z => absurd c1 z) (fun _ _ z1 z2 => absurd ⟨z1, z2⟩ dz2) (fun _ _ _ => h)))) (so_new PG J' (fun i hi => pk_un (by omega)) (fun i hi => pk_un (by omega)) ?_ ht IHR)
      refine Or.inl ⟨pk_us, pk_us, ?_⟩
      rw [pk_us, pk_us, ea, ec]
  · have c1 : ¬ (yck b0 = 1 ∧ yck vb = 1) := fun z => v1 ⟨kd0.2.2.1 ▸ z.1, kd.2.2.1 ▸ z.2⟩
    exact sm_Rerr (y := y) (r := 6) (u1 := (xdl, nI n, 1, nI vc, nI cc, nI x, nI b, 1, nI va, xex, xfe x, nI F, xac, 6, nI s, xmd, -1, -1, xtk, xtv, xaf, xro, xsc, xho, xvk, xvf, xvs, xcv, xco, xff, upd xfp x (-1), xfe, xfb, upd xop (b + 1) (nI va))) (v2 := (xdl, nI n, 1, ygs, ypo, nI hp, nI (y + 1), nI (b + 1 + 1), nI F, nI s, xmd, xac, yst, yrt, ycu, 0, xtk, xtv, yus, ygk, yga, ygb, yck, yca, ycb, ycc, yfp, yfe, yfS, yfn, yfb, yvs, yds, 50000, 50000, 50000, 50000)) (by omega) (by omega) (by omega) (by decide) (by decide) rfl (fun Q h => xr_last H PG.2.1 (p := it_f (sk_f (tk_K xtk n) n) 1 (q + 2)) (by omega) (by omega) hq1 w1 f2 hA (xF_calc (xop := upd xop (b + 1) (nI va)) (xfp := upd xfp x (-1)) H (by omega) (by omega) (by omega) (by omega) (by omega) w1 w3 rfl ⟨k15, k20⟩ hq1 e1 e2 (fun _ => h) (fun z1 z2 => absurd ⟨z1, z2⟩ v1) (fun z1 z2 => absurd ⟨z1, z2⟩ v1))) (fun Q h => yF_dOp H (by omega) w2 hq rfl (by omega) (yO_sel (by omega) (by rw [g2]; exact yO_calc (by omega) (by omega) (by omega) (by omega) (by omega) ⟨k15, k20⟩ f3 w4 o2 hv (fun _ => h) (fun z1 z2 => absurd ⟨z1, z2⟩ c1) (fun z1 z2 => absurd ⟨z1, z2⟩ c1)))) (sf_err PG B.2.2.2.2 L)
end
