def sy_fs (v : SY) : Int32 := match v with | (yli, yn, ypr, ygs, ypo, yhp, yfs, yvp, yfu, ysp, ymd, yac, yst, yrt, ycu, yhv, ytk, ytv, yus, ygk, yga, ygb, yck, yca, ycb, ycc, yfp, yfe, yfS, yfn, yfb, yvs, yds, ynk, yna, ynb, ync) => yfs
theorem yr_turn2 {post : Int32 → SY → Prop} {f it y : Nat} {v : SY} (hv : sy_fs v = nI (y + 1)) (ht : it < 100000) (hy : y < 512) (h : ∀ Q : Int32 → SY → Prop, (∀ r u', ry_L post f r (nI (it + 1)) u' → Q r u') → wpY_stepFrame Q v) : ry_L post (f + 1) 0 (nI it) v := by
  obtain ⟨yli, yn, ypr, ygs, ypo, yhp, yfs, yvp, yfu, ysp, ymd, yac, yst, yrt, ycu, yhv, ytk, ytv, yus, ygk, yga, ygb, yck, yca, ycb, ycc, yfp, yfe, yfS, yfn, yfb, yvs, yds, ynk, yna, ynb, ync⟩ := v
  have e : yfs = nI (y + 1) := hv
  subst e
  exact yr_turn ht hy h
section
variable {xdl xtn xpp xvc xcc xfc xoc xag xan xex xen xfl xac xst xsp xmd xrt xcu : Int32} {xtk xtv xaf xro xsc xho xvk xvf xvs xcv xco xff xfp xfe xfb xop : Nat → Int32} {t it : Nat}
theorem sm_EEE {u1 : SX} {v0 v1 v1' v2 : SY} {q e q' e' : Int32} {y : Nat} (ht : t < 990) (hit : it < 1900) (hy : y < 512) (hv1 : sy_fs v1 = nI (y + 1)) (hv2 : sy_fs v1' = nI (y + 1)) (stepX : ∀ Q : SX → Prop, Q u1 → wpX_startExpr Q (xdl, xtn, xpp, xvc, xcc, xfc, xoc, 0, xan, xex, xen, xfl, xac, -1, xsp, xmd, xrt, xcu, xtk, xtv, xaf, xro, xsc, xho, xvk, xvf, xvs, xcv, xco, xff, xfp, xfe, xfb, xop)) (stepY : ∀ Q : Int32 → SY → Prop, Q 0 v1 → wpY_req Q v0 q e) (stepY2 : ∀ Q : Int32 → SY → Prop, Q 0 v1' → wpY_stepFrame Q v1) (stepY3 : ∀ Q : Int32 → SY → Prop, wpY_req Q v2 q' e' → wpY_stepFrame Q v1') (N : sm_E u1 v2 (t + 1) (it + 1 + 1) q' e') : sm_E (xdl, xtn, xpp, xvc, xcc, xfc, xoc, 0, xan, xex, xen, xfl, xac, -1, xsp, xmd, xrt, xcu, xtk, xtv, xaf, xro, xsc, xho, xvk, xvf, xvs, xcv, xco, xff, xfp, xfe, xfb, xop) v0 t it q e := by
  obtain ⟨r, u', v', F, NX, NY⟩ := N
  refine ⟨r, u', v', F, fun post fx hx hp => ?_, fun post fy Q hfy hQ hp => stepY Q (hQ 0 _ ?_)⟩
  · obtain ⟨f, rfl⟩ : ∃ f, fx = f + 1 := ⟨fx - 1, by omega⟩
    exact xr_E (by omega) (fun Q hQ => stepX Q (hQ u1 (NX post f (by omega) hp)))
  · obtain ⟨f, rfl⟩ : ∃ f, fy = f + 1 + 1 := ⟨fy - 2, by omega⟩
    exact yr_turn2 hv1 (by omega) hy (fun Q hQ => stepY2 Q (hQ 0 v1' (yr_turn2 hv2 (by omega) hy (fun Q' hQ' => stepY3 Q' (NY post f Q' (by omega) hQ' hp)))))
end
section
variable {xdl xtn xpp xvc xcc xfc xoc xag xan xex xen xfl xac xst xsp xmd xrt xcu : Int32} {xtk xtv xaf xro xsc xho xvk xvf xvs xcv xco xff xfp xfe xfb xop : Nat → Int32} {yli yn ypr ygs ypo yhp yfs yvp yfu ysp ymd yac yst yrt ycu yhv : Int32} {ytk ytv yus ygk yga ygb yck yca ycb ycc yfp yfe yfS yfn yfb yvs yds : Nat → Int32} {ynk yna ynb ync : Nat} {n : Nat} {par : Nat → Nat} {VR : Nat → Nat → Prop} {g nm : Nat → Nat} {vc cc hp fc oc y u s t it F d : Nat}
theorem se_letrec (PG : pg_F xtk xtv xaf xro xsc xho n par) (I : (sr_I (tk_K xtk n) xtv (sk_f (tk_K xtk n) n) (xr_c n xro) xsc n VR g nm vc cc hp fc oc y u s t it 0 F xvk xvf xvs xcv xco xff xfp xfe xfb xop yck yca ycb ycc yfp yfe yfS yfn yfb yvs)) (hs : s < F) {q : Nat} {e : Int32} (hq : q < n) (rq : xr_c n xro q = 1) (k1 : tk_K xtk n q = 1) (k9 : tk_K xtk n (q + 1) = 9) (hE : hb_E g nm cc xen e (xsc q)) (ht : t + d = 900) (IH : ∀ d', d' < d → sm_ET xdl xtk xtv xaf xro xsc xho n F d') : sm_E (xdl, nI n, 1, nI vc, nI cc, nI fc, nI oc, 0, xan, nI q, xen, nI F, xac, -1, nI s, xmd, -1, -1, xtk, xtv, xaf, xro, xsc, xho, xvk, xvf, xvs, xcv, xco, xff, xfp, xfe, xfb, xop) (xdl, nI n, 1, ygs, ypo, nI hp, nI y, nI oc, nI F, nI s, xmd, xac, yst, yrt, ycu, 0, xtk, xtv, yus, ygk, yga, ygb, yck, yca, ycb, ycc, yfp, yfe, yfS, yfn, yfb, yvs, yds, 50000, 50000, 50000, 50000) t it (nI q) e := by
  obtain ⟨B, O, R, N, L⟩ := I
  have H := PG.1
  have H1 := H.1
  unfold sr_N at N
  have hn0 : ∀ i, n ≤ i → tk_K xtk n i = 0 := fun i => tk_0
  have hBp : ∀ i, i < n → tk_K xtk n i ≠ 2 → dp_I (tk_K xtk n) i (sk_f (tk_K xtk n) n i) := fun i hi hk => (PG.2.1 i hi hk).1
  have hq1 : q + 1 < n := tk_lt (tk := xtk) (by omega)
  obtain ⟨c, c1, c4, lc, st, dist, h2, k2, e2, h3, r3, sc3⟩ := st_let hn0 hBp PG.2.2.1 PG.2.2.2.1 hq rq k1 (Or.inr k9)
  obtain ⟨b1, b2, b3, b4, b5, b6, b7, b8, b9, b10⟩ := st 0 (by omega)
  change tk_K xtk n (q + 3) = 1 at b1
  change q + 3 + 2 < n at b2
  have hk1 : ∀ i, i < c → tk_K xtk n (it_f (sk_f (tk_K xtk n) n) i (q + 3)) = 1 ∧ it_f (sk_f (tk_K xtk n) n) i (q + 3) + 1 < n := fun i hi => by
    obtain ⟨a1, a2, _⟩ := st i hi
    exact ⟨a1, by omega⟩
  have pe : upd yfe y e y = e := pk_us
  have B' : hb_B (tk_K xtk n) xtv (xr_c n xro) xsc n VR g nm vc cc hp cc xvk xvf xvs (xc_v xcv (fun _ => -1) cc c) (xc_v xco (hb_e xen cc) cc c) (xc_v yck (fun _ => 5) hp c) (xc_v yca (fun i => xtv (it_f (sk_f (tk_K xtk n) n) i (q + 3) + 1)) hp c) (xc_v ycb (fun _ => 0) hp c) (xc_v ycc (hb_e e hp) hp c) :=
    hb_add (Nat.le_refl _) (Nat.le_refl _) (fun _ _ z => z) (fun _ _ => ⟨rfl, rfl, rfl⟩) (fun i hi => ⟨xc_vn hi, xc_vn hi, xc_vn hi, xc_vn hi⟩) (fun i hi => ⟨xc_vn hi, xc_vn hi⟩) (fun a b z => Or.inl z) B
  obtain ⟨g', nm', a1, a2, a3, a4, _⟩ := hb_cells (fil := False) (k := c) (t := fun i => it_f (sk_f (tk_K xtk n) n) i (q + 3) + 1) hE (fun j hj => by
    obtain ⟨z1, z2, _, _, _, _, _, _, _, z10⟩ := st j hj
    exact ⟨by omega, z10⟩) (fun j hj => xc_vs hj) (fun j hj => ⟨xc_vs hj, xc_vs hj, xc_vs hj⟩) (fun z => False.elim z) B'
  refine sm_EEE (y := y) (u1 := (xdl, nI n, 1, nI vc, nI (cc + c), nI (fc + 1), nI oc, 0, xan, nI (q + 5), hb_e xen cc c, nI F, xac, -1, nI (s + 1), xmd, -1, -1, xtk, xtv, xaf, xro, xsc, xho, xvk, xvf, xvs, xc_v xcv (fun _ => -1) cc c, xc_v xco (hb_e xen cc) cc c, upd xff fc (nI q), upd xfp fc (nI (q + 5)), upd xfe fc (hb_e xen cc c), upd xfb fc (nI oc), xop))
    (v1 := (xdl, nI n, 1, ygs, ypo, nI hp, nI (y + 1), nI oc, nI F, nI (s + 1), xmd, xac, yst, yrt, ycu, 0, xtk, xtv, yus, ygk, yga, ygb, yck, yca, ycb, ycc, upd yfp y (nI q), upd yfe y e, upd yfS y 0, upd yfn y (nI (q + 3)), upd yfb y (nI oc), yvs, yds, 50000, 50000, 50000, 50000))
    (v1' := (xdl, nI n, 1, ygs, ypo, nI (hp + c), nI (y + 1), nI oc, nI F, nI (s + 1), xmd, xac, yst, yrt, ycu, 0, xtk, xtv, yus, ygk, yga, ygb, xc_v yck (fun _ => 5) hp c, xc_v yca (fun i => xtv (it_f (sk_f (tk_K xtk n) n) i (q + 3) + 1)) hp c, xc_v ycb (fun _ => 0) hp c, xc_v ycc (hb_e e hp) hp c, upd yfp y (nI q), upd (upd yfe y e) y (hb_e e hp c), upd (upd yfS y 0) y 1, upd yfn y (nI (q + 3)), upd yfb y (nI oc), yvs, yds, 50000, 50000, 50000, 50000))
    (v2 := (xdl, nI n, 1, ygs, ypo, nI (hp + c), nI (y + 1), nI oc, nI F, nI (s + 1), xmd, xac, yst, yrt, ycu, 0, xtk, xtv, yus, ygk, yga, ygb, xc_v yck (fun _ => 5) hp c, xc_v yca (fun i => xtv (it_f (sk_f (tk_K xtk n) n) i (q + 3) + 1)) hp c, xc_v ycb (fun _ => 0) hp c, xc_v ycc (hb_e e hp) hp c, upd yfp y (nI q), upd (upd yfe y e) y (hb_e e hp c), upd (upd yfS y 0) y 1, upd (upd yfn y (nI (q + 3))) y (nI (sk_f (tk_K xtk n) n (q + 3))), upd yfb y (nI oc), yvs, yds, 50000, 50000, 50000, 50000)) (q' := nI (q + 3 + 2)) (e' := hb_e e hp c) (by omega) (by omega) (by omega) rfl rfl
    (fun Q h => xr_form H hq k1 hs (by omega) (xr_letrec H PG.2.1 hq1 k9 (by omega) (by omega) lc (fun cv' co' S => by obtain ⟨rfl, rfl⟩ := S; exact h)))
    (fun Q h => yq_open H (q + 3) hq k1 (by omega) (by omega) hs (by omega) (by omega) (Or.inl ⟨Or.inr k9, rfl⟩) h)
    (fun Q h => yF_dLr H (by omega) pk_us hq k9 (yR_0 H (by omega) pk_us pk_us c4 lc hk1 (by omega) (fun ck' ca' cb' cC' S => by obtain ⟨rfl, rfl, rfl, rfl⟩ := S; rw [pe]; exact h)))
    (fun Q h => yF_dLr H (by omega) pk_us hq k9 (yR_n (p := q + 3) H (by omega) pk_us pk_us (by omega) b1 (by rw [pk_us]; exact h))) ?_
  refine sq_lam PG hq rq k1 k9 lc IH (c - 1) 0 VR vc (hp + c) (s + 1) (t + 1) (it + 1 + 1) _ _ _ _ _ _ _ _  _ _ _ _ _ _ _ _ _ _ _ _ _ _ _ _ _ _ _ _ _ _ _ _ _  (by omega) (by omega) ⟨a4, O, fr_k (by omega) a1 (fun i hi => ⟨pk_un (by omega), pk_un (by omega), pk_un (by omega), pk_un (by omega)⟩) (fun i hi => ⟨pk_un (by omega), (pk_un (by omega)).trans (pk_un (by omega)), (pk_un (by omega)).trans (pk_un (by omega)), (pk_un (by omega)).trans (pk_un (by omega)), pk_un (by omega)⟩) R, ⟨pk_us, pk_us, pk_us, pk_us⟩, ⟨pk_us, pk_us, pk_us, pk_us, pk_us⟩, a3, fun i hi => ⟨(a2 i hi).1, xc_vs hi, xc_vs hi, xc_vs hi⟩, Nat.le_refl _, by omega, L⟩
end
theorem sm_main {xdl : Int32} {xtk xtv xaf xro xsc xho : Nat → Int32} {n F : Nat} {par : Nat → Nat} (PG : pg_F xtk xtv xaf xro xsc xho n par) : ∀ D d, d < D → sm_ET xdl xtk xtv xaf xro xsc xho n F d ∧ sm_RT xdl xtk xtv xaf xro xsc xho n F d := by
  intro D
  induction D with
  | zero => intro d hd; omega
  | succ D ih =>
    intro d hd
    have IHE : ∀ d', d' < d → sm_ET xdl xtk xtv xaf xro xsc xho n F d' := fun d' h => (ih d' (by omega)).1
    constructor
    · intro VR g nm vc cc hp fc oc y u s t it q xan xen e xac xmd ygs ypo yst yrt ycu xvk xvf xvs xcv xco xff xfp xfe xfb xop yus ygk yga ygb yck yca ycb ycc yfp yfe yfS yfn yfb yvs yds ht I hq rq hE
      have N := I.2.2.2.1
      unfold sr_N at N
      obtain ⟨d', rfl⟩ : ∃ d', d = d' + 1 := ⟨d - 1, by omega⟩
      obtain ⟨hET, hRT⟩ := ih d' (by omega)
      have k20 := tk_20 PG.1 (q + 1)
      by_cases hs : s = F
      · exact se_fuel PG I (by omega) (by omega) hs
      · have hs : s < F := by omega
        have hS := (PG.2.2.1.2.1 q hq rq).1
        rcases hS with k3 | k4 | k5 | ⟨k1, hF⟩
        · exact se_num PG I hs hq k3 ht hRT
        · exact se_sym PG I hs hq rq k4 hE ht hRT
        · exact se_nil PG I hs hq k5 ht hRT
        · by_cases z6 : tk_K xtk n (q + 1) < 6
          · exact se_app PG I hs hq rq k1 z6 hE ht hET
          · by_cases z : tk_K xtk n (q + 1) = 6
            · exact se_quote PG I hs hq rq k1 z ht hRT
            · by_cases z7 : tk_K xtk n (q + 1) = 7
              · exact se_lam PG I hs hq rq k1 z7 hE ht hRT
              · by_cases z8 : tk_K xtk n (q + 1) = 8
                · exact se_let PG I hs hq rq k1 z8 hE ht hET
                · by_cases z9 : tk_K xtk n (q + 1) = 9
                  · exact se_letrec PG I hs hq rq k1 z9 hE ht IHE
                  · by_cases z10 : tk_K xtk n (q + 1) = 10
                    · exact se_if PG I hs hq rq k1 z10 hE ht hET
                    · exact se_op PG I hs hq rq k1 (by omega) hE ht hET
    · cases d with
      | zero =>
        intro VR g nm vc cc hp fc oc y u s t it a b xex xen xac xmd ygs ypo yst yrt ycu xvk xvf xvs xcv xco xff xfp xfe xfb xop yus ygk yga ygb yck yca ycb ycc yfp yfe yfS yfn yfb yvs yds ht I hv v
        have N := I.2.2.2.1
        unfold sr_N at N
        omega
      | succ d => exact sr_all PG (ih d (by omega)).1 (ih d (by omega)).2
