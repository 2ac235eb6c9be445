section
variable {xdl xtn xpp xvc xcc xfc xoc xag xan xex xen xfl xac xst xsp xmd xrt xcu : Int32} {xtk xtv xaf xro xsc xho xvk xvf xvs xcv xco xff xfp xfe xfb xop : Nat → Int32} {yli yn ypr ygs ypo yhp yfs yvp yfu ysp ymd yac yst yrt ycu yhv : Int32} {ytk ytv yus ygk yga ygb yck yca ycb ycc yfp yfe yfS yfn yfb yvs yds : Nat → Int32} {ynk yna ynb ync : Nat} {n : Nat} {par : Nat → Nat} {VR : Nat → Nat → Prop} {g nm : Nat → Nat} {vc cc hp fc oc y u s t it F d : Nat}
theorem sI_open (I : (sr_I (tk_K xtk n) xtv (sk_f (tk_K xtk n) n) (xr_c n xro) xsc n VR g nm vc cc hp fc oc y u s t it 0 F xvk xvf xvs xcv xco xff xfp xfe xfb xop yck yca ycb ycc yfp yfe yfS yfn yfb yvs)) {q p : Nat} {e : Int32} {S' N' : Nat → Int32} (hs : s < F)
    (hW : fr_W (tk_K xtk n) (sk_f (tk_K xtk n) n) (xr_c n xro) xsc n g nm cc (upd xff fc (nI q)) (upd xfp fc (nI p)) (upd xfe fc xen) (upd xfb fc (nI oc)) (upd yfp y (nI q)) (upd yfe y e) S' N' (upd yfb y (nI oc)) fc y oc 0 q)
    (hS' : ∀ i, i < y → S' i = yfS i ∧ N' i = yfn i) : (sr_I (tk_K xtk n) xtv (sk_f (tk_K xtk n) n) (xr_c n xro) xsc n VR g nm vc cc hp (fc + 1) oc (y + 1) (u + 1) (s + 1) (t + 1) (it + 1) 0 F xvk xvf xvs xcv xco (upd xff fc (nI q)) (upd xfp fc (nI p)) (upd xfe fc xen) (upd xfb fc (nI oc)) xop yck yca ycb ycc (upd yfp y (nI q)) (upd yfe y e) S' N' (upd yfb y (nI oc)) yvs) := by
  obtain ⟨B, O, R, N, L⟩ := I
  refine ⟨B, O, Or.inr (Or.inr ⟨fc, oc, 0, u, q, rfl, rfl, rfl, hW, fr_k (Nat.le_refl _) (fun _ _ => ⟨rfl, rfl⟩) (fun i hi => ⟨pk_un (by omega), pk_un (by omega), pk_un (by omega), pk_un (by omega)⟩) (fun i hi => ⟨pk_un (by omega), pk_un (by omega), (hS' i hi).1, (hS' i hi).2, pk_un (by omega)⟩) R⟩), ?_, L⟩
  unfold sr_N at N ⊢
  omega
theorem se_if (PG : pg_F xtk xtv xaf xro xsc xho n par) (I : (sr_I (tk_K xtk n) xtv (sk_f (tk_K xtk n) n) (xr_c n xro) xsc n VR g nm vc cc hp fc oc y u s t it 0 F xvk xvf xvs xcv xco xff xfp xfe xfb xop yck yca ycb ycc yfp yfe yfS yfn yfb yvs)) (hs : s < F) {q : Nat} {e : Int32} (hq : q < n) (rq : xr_c n xro q = 1) (k1 : tk_K xtk n q = 1) (k10 : tk_K xtk n (q + 1) = 10) (hE : hb_E g nm cc xen e (xsc q)) (ht : t + (d + 1) = 900) (IH : sm_ET xdl xtk xtv xaf xro xsc xho n F d) : sm_E (xdl, nI n, 1, nI vc, nI cc, nI fc, nI oc, 0, xan, nI q, xen, nI F, xac, -1, nI s, xmd, -1, -1, xtk, xtv, xaf, xro, xsc, xho, xvk, xvf, xvs, xcv, xco, xff, xfp, xfe, xfb, xop) (xdl, nI n, 1, ygs, ypo, nI hp, nI y, nI oc, nI F, nI s, xmd, xac, yst, yrt, ycu, 0, xtk, xtv, yus, ygk, yga, ygb, yck, yca, ycb, ycc, yfp, yfe, yfS, yfn, yfb, yvs, yds, 50000, 50000, 50000, 50000) t it (nI q) e := by
  have H := PG.1
  have H1 := H.1
  have N := I.2.2.2.1
  unfold sr_N at N
  have hn0 : ∀ i, n ≤ i → tk_K xtk n i = 0 := fun i => tk_0
  have hBp : ∀ i, i < n → tk_K xtk n i ≠ 2 → dp_I (tk_K xtk n) i (sk_f (tk_K xtk n) n i) := fun i hi hk => (PG.2.1 i hi hk).1
  have hq1 : q + 1 < n := tk_lt (tk := xtk) (by omega)
  obtain ⟨lc, st, _⟩ := st_op hn0 hBp PG.2.2.1 PG.2.2.2.1 hq rq k1 (by omega)
  have st0 := st 0 (by rw [k10]; decide)
  have st5 : xsc (q + 2) = xsc q := st0.2.2.2.2
  refine sm_EE (y := y) (v2 := (xdl, nI n, 1, ygs, ypo, nI hp, nI (y + 1), nI oc, nI F, nI (s + 1), xmd, xac, yst, yrt, ycu, 0, xtk, xtv, yus, ygk, yga, ygb, yck, yca, ycb, ycc, upd yfp y (nI q), upd yfe y e, upd (upd yfS y 0) y 1, upd yfn y (nI (q + 2)), upd yfb y (nI oc), yvs, yds, 50000, 50000, 50000, 50000)) (q' := nI (q + 2)) (e' := e) (by omega) (by omega) (by omega) (fun Q h => xr_form H hq k1 hs (by omega) (xr_open H PG.2.1 (p := q + 2) hq1 (Or.inr (Or.inl ⟨by omega, rfl⟩)) (by omega) (by omega) h)) (fun Q h => yq_open H (q + 2) hq k1 (by omega) (by omega) hs (by omega) (by omega) (Or.inr (Or.inl ⟨by omega, rfl⟩)) h) (fun Q h => yF_dIf H (by omega) pk_us hq k10 (yI_0 (by omega) pk_us pk_us (by rw [pk_us]; exact h))) ?_
  refine IH VR g nm vc cc hp (fc + 1) oc (y + 1) (u + 1) (s + 1) (t + 1) (it + 1) (q + 2) _ _ _ _ _ _ _ _ _ _  _ _ _ _ _ _ _ _ _ _ _ _ _ _ _ _ _ _ _ _ _ _ _ _ _  (by omega) (sI_open I hs ?_ (fun i hi => ⟨(pk_un (by omega)).trans (pk_un (by omega)), pk_un (by omega)⟩)) st0.1 st0.2.1 (by rw [st5]; exact hE)
  exact ⟨hq, rq, k1, pk_us, pk_us, pk_us, pk_us, by rw [pk_us, pk_us]; exact hE, Or.inl ⟨k10, rfl, pk_us, pk_us⟩⟩
theorem se_op (PG : pg_F xtk xtv xaf xro xsc xho n par) (I : (sr_I (tk_K xtk n) xtv (sk_f (tk_K xtk n) n) (xr_c n xro) xsc n VR g nm vc cc hp fc oc y u s t it 0 F xvk xvf xvs xcv xco xff xfp xfe xfb xop yck yca ycb ycc yfp yfe yfS yfn yfb yvs)) (hs : s < F) {q : Nat} {e : Int32} (hq : q < n) (rq : xr_c n xro q = 1) (k1 : tk_K xtk n q = 1) (k11 : 11 ≤ tk_K xtk n (q + 1)) (hE : hb_E g nm cc xen e (xsc q)) (ht : t + (d + 1) = 900) (IH : sm_ET xdl xtk xtv xaf xro xsc xho n F d) : sm_E (xdl, nI n, 1, nI vc, nI cc, nI fc, nI oc, 0, xan, nI q, xen, nI F, xac, -1, nI s, xmd, -1, -1, xtk, xtv, xaf, xro, xsc, xho, xvk, xvf, xvs, xcv, xco, xff, xfp, xfe, xfb, xop) (xdl, nI n, 1, ygs, ypo, nI hp, nI y, nI oc, nI F, nI s, xmd, xac, yst, yrt, ycu, 0, xtk, xtv, yus, ygk, yga, ygb, yck, yca, ycb, ycc, yfp, yfe, yfS, yfn, yfb, yvs, yds, 50000, 50000, 50000, 50000) t it (nI q) e := by
  have H := PG.1
  have H1 := H.1
  have N := I.2.2.2.1
  unfold sr_N at N
  have k20 := tk_20 H (q + 1)
  have hn0 : ∀ i, n ≤ i → tk_K xtk n i = 0 := fun i => tk_0
  have hBp : ∀ i, i < n → tk_K xtk n i ≠ 2 → dp_I (tk_K xtk n) i (sk_f (tk_K xtk n) n i) := fun i hi hk => (PG.2.1 i hi hk).1
  have hq1 : q + 1 < n := tk_lt (tk := xtk) (by omega)
  obtain ⟨lc, st, _⟩ := st_op hn0 hBp PG.2.2.1 PG.2.2.2.1 hq rq k1 (by omega)
  have g13 := gr_n13 (tk_K xtk n (q + 1))
  have st0 := st 0 (by omega)
  have st5 : xsc (q + 2) = xsc q := st0.2.2.2.2
  refine sm_EE (y := y) (v2 := (xdl, nI n, 1, ygs, ypo, nI hp, nI (y + 1), nI oc, nI F, nI (s + 1), xmd, xac, yst, yrt, ycu, 0, xtk, xtv, yus, ygk, yga, ygb, yck, yca, ycb, ycc, upd yfp y (nI q), upd yfe y e, upd (upd yfS y 0) y (nI (0 + 1)), upd (upd yfn y (nI (q + 2))) y (nI (sk_f (tk_K xtk n) n (q + 2))), upd yfb y (nI oc), yvs, yds, 50000, 50000, 50000, 50000)) (q' := nI (q + 2)) (e' := e) (by omega) (by omega) (by omega) (fun Q h => xr_form H hq k1 hs (by omega) (xr_open H PG.2.1 (p := q + 2) hq1 (Or.inr (Or.inl ⟨by omega, rfl⟩)) (by omega) (by omega) h)) (fun Q h => yq_open H (q + 2) hq k1 (by omega) (by omega) hs (by omega) (by omega) (Or.inr (Or.inl ⟨by omega, rfl⟩)) h) (fun Q h => yF_dOp H (by omega) pk_us hq rfl k11 (yO_sel ⟨k11, k20⟩ (yO_n (k := 0) (p := q + 2) H (by omega) (by omega) (by omega) pk_us pk_us st0.1 (by rw [pk_us]; exact h)))) ?_
  refine IH VR g nm vc cc hp (fc + 1) oc (y + 1) (u + 1) (s + 1) (t + 1) (it + 1) (q + 2) _ _ _ _ _ _ _ _ _ _  _ _ _ _ _ _ _ _ _ _ _ _ _ _ _ _ _ _ _ _ _ _ _ _ _  (by omega) (sI_open I hs ?_ (fun i hi => ⟨(pk_un (by omega)).trans (pk_un (by omega)), (pk_un (by omega)).trans (pk_un (by omega))⟩)) st0.1 st0.2.1 (by rw [st5]; exact hE)
  exact ⟨hq, rq, k1, pk_us, pk_us, pk_us, pk_us, by rw [pk_us, pk_us]; exact hE, Or.inr (Or.inl ⟨k11, by omega, pk_us, pk_us, pk_us⟩)⟩
theorem se_let (PG : pg_F xtk xtv xaf xro xsc xho n par) (I : (sr_I (tk_K xtk n) xtv (sk_f (tk_K xtk n) n) (xr_c n xro) xsc n VR g nm vc cc hp fc oc y u s t it 0 F xvk xvf xvs xcv xco xff xfp xfe xfb xop yck yca ycb ycc yfp yfe yfS yfn yfb yvs)) (hs : s < F) {q : Nat} {e : Int32} (hq : q < n) (rq : xr_c n xro q = 1) (k1 : tk_K xtk n q = 1) (k8 : tk_K xtk n (q + 1) = 8) (hE : hb_E g nm cc xen e (xsc q)) (ht : t + (d + 1) = 900) (IH : sm_ET xdl xtk xtv xaf xro xsc xho n F d) : sm_E (xdl, nI n, 1, nI vc, nI cc, nI fc, nI oc, 0, xan, nI q, xen, nI F, xac, -1, nI s, xmd, -1, -1, xtk, xtv, xaf, xro, xsc, xho, xvk, xvf, xvs, xcv, xco, xff, xfp, xfe, xfb, xop) (xdl, nI n, 1, ygs, ypo, nI hp, nI y, nI oc, nI F, nI s, xmd, xac, yst, yrt, ycu, 0, xtk, xtv, yus, ygk, yga, ygb, yck, yca, ycb, ycc, yfp, yfe, yfS, yfn, yfb, yvs, yds, 50000, 50000, 50000, 50000) t it (nI q) e := by
  have H := PG.1
  have H1 := H.1
  have N := I.2.2.2.1
  unfold sr_N at N
  have hn0 : ∀ i, n ≤ i → tk_K xtk n i = 0 := fun i => tk_0
  have hBp : ∀ i, i < n → tk_K xtk n i ≠ 2 → dp_I (tk_K xtk n) i (sk_f (tk_K xtk n) n i) := fun i hi hk => (PG.2.1 i hi hk).1
  have hq1 : q + 1 < n := tk_lt (tk := xtk) (by omega)
  obtain ⟨c, c1, c4, lc, st, _⟩ := st_let hn0 hBp PG.2.2.1 PG.2.2.2.1 hq rq k1 (Or.inl k8)
  obtain ⟨b1, b2, b3, b4, b5, b6, b7, b8, b9, b10⟩ := st 0 (by omega)
  change tk_K xtk n (q + 3) = 1 at b1
  change q + 3 + 2 < n at b2
  change xr_c n xro (q + 3 + 2) = 1 at b3
  refine sm_EE (y := y) (v2 := (xdl, nI n, 1, ygs, ypo, nI hp, nI (y + 1), nI oc, nI F, nI (s + 1), xmd, xac, yst, yrt, ycu, 0, xtk, xtv, yus, ygk, yga, ygb, yck, yca, ycb, ycc, upd yfp y (nI q), upd yfe y e, upd yfS y 0, upd (upd yfn y (nI (q + 3))) y (nI (sk_f (tk_K xtk n) n (q + 3))), upd yfb y (nI oc), yvs, yds, 50000, 50000, 50000, 50000)) (q' := nI (q + 3 + 2)) (e' := e) (by omega) (by omega) (by omega) (fun Q h => xr_form H hq k1 hs (by omega) (xr_open H PG.2.1 (p := q + 5) hq1 (Or.inl ⟨Or.inl k8, rfl⟩) (by omega) (by omega) h)) (fun Q h => yq_open H (q + 3) hq k1 (by omega) (by omega) hs (by omega) (by omega) (Or.inl ⟨Or.inl k8, rfl⟩) h) (fun Q h => yF_dLet H (by omega) pk_us hq k8 (yL_n (p := q + 3) H (by omega) pk_us pk_us (by omega) b1 (by rw [pk_us]; exact h))) ?_
  refine IH VR g nm vc cc hp (fc + 1) oc (y + 1) (u + 1) (s + 1) (t + 1) (it + 1) (q + 5) _ _ _ _ _ _ _ _ _ _  _ _ _ _ _ _ _ _ _ _ _ _ _ _ _ _ _ _ _ _ _ _ _ _ _  (by omega) (sI_open I hs ?_ (fun i hi => ⟨pk_un (by omega), (pk_un (by omega)).trans (pk_un (by omega))⟩)) b2 b3 ?_
  · exact ⟨hq, rq, k1, pk_us, pk_us, pk_us, pk_us, by rw [pk_us, pk_us]; exact hE, Or.inr (Or.inr (Or.inl ⟨k8, ⟨c, lc, by omega⟩, pk_us, pk_us, pk_us⟩))⟩
  · rw [if_neg (by omega)] at b8
    change xsc (q + 5) = xsc q at b8
    rw [b8]; exact hE
theorem se_app (PG : pg_F xtk xtv xaf xro xsc xho n par) (I : (sr_I (tk_K xtk n) xtv (sk_f (tk_K xtk n) n) (xr_c n xro) xsc n VR g nm vc cc hp fc oc y u s t it 0 F xvk xvf xvs xcv xco xff xfp xfe xfb xop yck yca ycb ycc yfp yfe yfS yfn yfb yvs)) (hs : s < F) {q : Nat} {e : Int32} (hq : q < n) (rq : xr_c n xro q = 1) (k1 : tk_K xtk n q = 1) (k6 : tk_K xtk n (q + 1) < 6) (hE : hb_E g nm cc xen e (xsc q)) (ht : t + (d + 1) = 900) (IH : sm_ET xdl xtk xtv xaf xro xsc xho n F d) : sm_E (xdl, nI n, 1, nI vc, nI cc, nI fc, nI oc, 0, xan, nI q, xen, nI F, xac, -1, nI s, xmd, -1, -1, xtk, xtv, xaf, xro, xsc, xho, xvk, xvf, xvs, xcv, xco, xff, xfp, xfe, xfb, xop) (xdl, nI n, 1, ygs, ypo, nI hp, nI y, nI oc, nI F, nI s, xmd, xac, yst, yrt, ycu, 0, xtk, xtv, yus, ygk, yga, ygb, yck, yca, ycb, ycc, yfp, yfe, yfS, yfn, yfb, yvs, yds, 50000, 50000, 50000, 50000) t it (nI q) e := by
  have H := PG.1
  have H1 := H.1
  have N := I.2.2.2.1
  unfold sr_N at N
  have hn0 : ∀ i, n ≤ i → tk_K xtk n i = 0 := fun i => tk_0
  have hBp : ∀ i, i < n → tk_K xtk n i ≠ 2 → dp_I (tk_K xtk n) i (sk_f (tk_K xtk n) n i) := fun i hi hk => (PG.2.1 i hi hk).1
  obtain ⟨c, c4, lc, st, hend⟩ := st_app hn0 hBp PG.2.2.1 PG.2.2.2.1 hq rq k1 k6
  obtain ⟨a1, a2, a3, a4, a5⟩ := st 0 (by omega)
  change q + 1 < n at a1
  change xr_c n xro (q + 1) = 1 at a2
  change tk_K xtk n (q + 1) ≠ 2 at a3
  change xsc (q + 1) = xsc q at a5
  by_cases c0 : c = 0
  · subst c0
    have ke : tk_K xtk n (sk_f (tk_K xtk n) n (q + 1)) = 2 := lc.2
    have hend : sk_f (tk_K xtk n) n (q + 1) < n := hend
    refine sm_EE (y := y) (v2 := (xdl, nI n, 1, ygs, ypo, nI hp, nI (y + 1), nI oc, nI F, nI (s + 1), xmd, xac, yst, yrt, ycu, 0, xtk, xtv, yus, ygk, yga, ygb, yck, yca, ycb, ycc, upd yfp y (nI q), upd yfe y e, upd (upd yfS y 0) y 1, upd yfn y (nI (sk_f (tk_K xtk n) n (q + 1))), upd yfb y (nI oc), yvs, yds, 50000, 50000, 50000, 50000)) (q' := nI (q + 1)) (e' := e) (by omega) (by omega) (by omega) (fun Q h => xr_form H hq k1 hs (by omega) (xr_open H PG.2.1 (p := q + 1) a1 (Or.inr (Or.inr ⟨k6, a3, hend, Or.inl ⟨ke, rfl⟩⟩)) (by omega) (by omega) h)) (fun Q h => yq_open H (sk_f (tk_K xtk n) n (q + 1)) hq k1 (by omega) (by omega) hs (by omega) (by omega) (Or.inr (Or.inr ⟨k6, rfl⟩)) h) (fun Q h => yF_dApp H (by omega) pk_us hq k6 (yA_h (p := sk_f (tk_K xtk n) n (q + 1)) (q := q) H (by omega) pk_us pk_us pk_us hend ke (by rw [pk_us]; exact h))) ?_
    refine IH VR g nm vc cc hp (fc + 1) oc (y + 1) (u + 1) (s + 1) (t + 1) (it + 1) (q + 1) _ _ _ _ _ _ _ _ _ _  _ _ _ _ _ _ _ _ _ _ _ _ _ _ _ _ _ _ _ _ _ _ _ _ _  (by omega) (sI_open I hs ?_ (fun i hi => ⟨(pk_un (by omega)).trans (pk_un (by omega)), pk_un (by omega)⟩)) a1 a2 (by rw [a5]; exact hE)
    exact ⟨hq, rq, k1, pk_us, pk_us, pk_us, pk_us, by rw [pk_us, pk_us]; exact hE, Or.inr (Or.inr (Or.inr ⟨k6, 0, lc, Or.inr ⟨rfl, pk_us, pk_us⟩⟩))⟩
  · obtain ⟨b1, b2, b3, b4, b5⟩ := st 1 (by omega)
    change sk_f (tk_K xtk n) n (q + 1) < n at b1
    change xr_c n xro (sk_f (tk_K xtk n) n (q + 1)) = 1 at b2
    change tk_K xtk n (sk_f (tk_K xtk n) n (q + 1)) ≠ 2 at b3
    change xsc (sk_f (tk_K xtk n) n (q + 1)) = xsc q at b5
    refine sm_EE (y := y) (v2 := (xdl, nI n, 1, ygs, ypo, nI hp, nI (y + 1), nI oc, nI F, nI (s + 1), xmd, xac, yst, yrt, ycu, 0, xtk, xtv, yus, ygk, yga, ygb, yck, yca, ycb, ycc, upd yfp y (nI q), upd yfe y e, upd yfS y 0, upd (upd yfn y (nI (sk_f (tk_K xtk n) n (q + 1)))) y (nI (sk_f (tk_K xtk n) n (sk_f (tk_K xtk n) n (q + 1)))), upd yfb y (nI oc), yvs, yds, 50000, 50000, 50000, 50000)) (q' := nI (sk_f (tk_K xtk n) n (q + 1))) (e' := e) (by omega) (by omega) (by omega) (fun Q h => xr_form H hq k1 hs (by omega) (xr_open H PG.2.1 (p := sk_f (tk_K xtk n) n (q + 1)) a1 (Or.inr (Or.inr ⟨k6, a3, b1, Or.inr ⟨b3, rfl⟩⟩)) (by omega) (by omega) h)) (fun Q h => yq_open H (sk_f (tk_K xtk n) n (q + 1)) hq k1 (by omega) (by omega) hs (by omega) (by omega) (Or.inr (Or.inr ⟨k6, rfl⟩)) h) (fun Q h => yF_dApp H (by omega) pk_us hq k6 (yA_a (p := sk_f (tk_K xtk n) n (q + 1)) H (by omega) pk_us pk_us b1 b3 (by rw [pk_us]; exact h))) ?_
    refine IH VR g nm vc cc hp (fc + 1) oc (y + 1) (u + 1) (s + 1) (t + 1) (it + 1) (sk_f (tk_K xtk n) n (q + 1)) _ _ _ _ _ _ _ _ _ _  _ _ _ _ _ _ _ _ _ _ _ _ _ _ _ _ _ _ _ _ _ _ _ _ _  (by omega) (sI_open I hs ?_ (fun i hi => ⟨pk_un (by omega), (pk_un (by omega)).trans (pk_un (by omega))⟩)) b1 b2 (by rw [b5]; exact hE)
    exact ⟨hq, rq, k1, pk_us, pk_us, pk_us, pk_us, by rw [pk_us, pk_us]; exact hE, Or.inr (Or.inr (Or.inr ⟨k6, c, lc, Or.inl ⟨by omega, pk_us, pk_us, pk_us⟩⟩))⟩
end
