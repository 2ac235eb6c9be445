/-! the relation -/
def vl_R (xtk xtv xro xsc : Nat → Int32) (n : Nat) (pp hv xrt xcu yrt ycu : Int32) (xvk xvf xvs xcv xco yck yca ycb ycc : Nat → Int32) : Prop :=
  (hv = 0 ∧ xrt = -1 ∧ xcu = -1) ∨
  (hv = 1 ∧ pp = 1 ∧ ∃ (VR : Nat → Nat → Prop) (g nm : Nat → Nat) (vc cc hp : Nat), hb_B (tk_K xtk n) xtv (xr_c n xro) xsc n VR g nm vc cc hp cc xvk xvf xvs xcv xco yck yca ycb ycc ∧ vc ≤ 528 ∧ hp ≤ 50000 ∧ ∃ a b a' b', xrt = nI a ∧ yrt = nI b ∧ VR a b ∧ xcu = nI a' ∧ ycu = nI b' ∧ VR a' b')
def i_Rel (_ : Nat) (u : SX) (v : SY) : Prop :=
  ∃ (xdl xpp xvc xcc xfc xoc xag xan xex xen xfl xac xst xsp xmd xrt xcu : Int32) (xtk xtv xaf xro xsc xho xvk xvf xvs xcv xco xff xfp xfe xfb xop : Nat → Int32) (ygs ypo yhp yfs yvp yfu yac yrt ycu yhv : Int32) (yus ygk yga ygb yck yca ycb ycc yfp yfe yfS yfn yfb yvs yds : Nat → Int32) (n : Nat),
    u = (xdl, nI n, xpp, xvc, xcc, xfc, xoc, xag, xan, xex, xen, xfl, xac, xst, xsp, xmd, xrt, xcu, xtk, xtv, xaf, xro, xsc, xho, xvk, xvf, xvs, xcv, xco, xff, xfp, xfe, xfb, xop) ∧ v = (xdl, nI n, xpp, ygs, ypo, yhp, yfs, yvp, yfu, xsp, xmd, yac, xst, yrt, ycu, yhv, xtk, xtv, yus, ygk, yga, ygb, yck, yca, ycb, ycc, yfp, yfe, yfS, yfn, yfb, yvs, yds, 50000, 50000, 50000, 50000) ∧ tk_ok xtk n ∧ yck 0 = 2 ∧
    (xpp = 0 ∨ (xpp = 1 ∧ cp_P xtk xtv n xaf xro xsc xho xvk xvf xvs)) ∧ vl_R xtk xtv xro xsc n xpp yhv xrt xcu yrt ycu xvk xvf xvs xcv xco yck yca ycb ycc
theorem i_up {k : Nat} {u : SX} {v : SY} (h : i_Rel k u v) : i_Rel (k + 3) u v := h
/-! a simulation: both sides lead to related ends -/
def sx_st (u : SX) : Int32 := match u with | (xdl, xtn, xpp, xvc, xcc, xfc, xoc, xag, xan, xex, xen, xfl, xac, xst, xsp, xmd, xrt, xcu, xtk, xtv, xaf, xro, xsc, xho, xvk, xvf, xvs, xcv, xco, xff, xfp, xfe, xfb, xop) => xst
def sy_st (r : Int32) (v : SY) : SY := match v with | (yli, yn, ypr, ygs, ypo, yhp, yfs, yvp, yfu, ysp, ymd, yac, yst, yrt, ycu, yhv, ytk, ytv, yus, ygk, yga, ygb, yck, yca, ycb, ycc, yfp, yfe, yfS, yfn, yfb, yvs, yds, ynk, yna, ynb, ync) => (yli, yn, ypr, ygs, ypo, yhp, yfs, yvp, yfu, ysp, ymd, yac, r, yrt, ycu, yhv, ytk, ytv, yus, ygk, yga, ygb, yck, yca, ycb, ycc, yfp, yfe, yfS, yfn, yfb, yvs, yds, ynk, yna, ynb, ync)
def sm_E (u0 : SX) (v0 : SY) (t it : Nat) (q e : Int32) : Prop := ∃ r u' v', i_Rel 0 u' v' ∧ (∀ (post : Int32 → SX → Prop) (fx : Nat), t + fx = 1000 → post r u' → rx_L post fx (nI t) u0) ∧ (∀ (post : Int32 → SY → Prop) (fy : Nat) (Q : Int32 → SY → Prop), it + fy = 2000 → (∀ r u', ry_L post fy r (nI it) u' → Q r u') → post r v' → wpY_req Q v0 q e)
def sm_R (u0 : SX) (v0 : SY) (t it : Nat) : Prop := ∃ r u' v', i_Rel 0 u' v' ∧ (∀ (post : Int32 → SX → Prop) (fx : Nat), t + fx = 1000 → post r u' → rx_L post fx (nI t) u0) ∧ (∀ (post : Int32 → SY → Prop) (fy : Nat), it + fy = 2000 → post r v' → ry_L post fy 0 (nI it) v0)
section
variable {xdl xtn xpp xvc xcc xfc xoc xag xan xex xen xfl xac xst xsp xmd xrt xcu : Int32} {xtk xtv xaf xro xsc xho xvk xvf xvs xcv xco xff xfp xfe xfb xop : Nat → Int32} {yli yn ypr ygs ypo yhp yfs yvp yfu ysp ymd yac yst yrt ycu yhv : Int32} {ytk ytv yus ygk yga ygb yck yca ycb ycc yfp yfe yfS yfn yfb yvs yds : Nat → Int32} {ynk yna ynb ync : Nat} {t it : Nat}
theorem sm_xend {post : Int32 → SX → Prop} {f : Nat} {r : Int32} {u : SX} (ht : t < 1600) (hr : ¬ r = -1) (hu : sx_st u = r) (h : post r u) : rx_L post (f + 1) (nI t) u := by
  obtain ⟨xdl, xtn, xpp, xvc, xcc, xfc, xoc, xag, xan, xex, xen, xfl, xac, xst, xsp, xmd, xrt, xcu, xtk, xtv, xaf, xro, xsc, xho, xvk, xvf, xvs, xcv, xco, xff, xfp, xfe, xfb, xop⟩ := u
  have e : xst = r := hu
  subst e
  exact xr_end ht hr h
theorem sm_yerr {post : Int32 → SY → Prop} {f : Nat} {r : Int32} {v : SY} (ht : it < 100000) (hr : ¬ r = 0) (h : post r (sy_st r v)) : ry_L post (f + 1) r (nI it) v := by
  obtain ⟨yli, yn, ypr, ygs, ypo, yhp, yfs, yvp, yfu, ysp, ymd, yac, yst, yrt, ycu, yhv, ytk, ytv, yus, ygk, yga, ygb, yck, yca, ycb, ycc, yfp, yfe, yfS, yfn, yfb, yvs, yds, ynk, yna, ynb, ync⟩ := v
  exact yr_err ht hr h
theorem sm_ER {u1 : SX} {v0 v1 : SY} {q e : Int32} (ht : t < 990) (stepX : ∀ Q : SX → Prop, Q u1 → wpX_startExpr Q (xdl, xtn, xpp, xvc, xcc, xfc, xoc, 0, xan, xex, xen, xfl, xac, -1, xsp, xmd, xrt, xcu, xtk, xtv, xaf, xro, xsc, xho, xvk, xvf, xvs, xcv, xco, xff, xfp, xfe, xfb, xop)) (stepY : ∀ Q : Int32 → SY → Prop, Q 0 v1 → wpY_req Q v0 q e) (N : sm_R u1 v1 (t + 1) it) : sm_E (xdl, xtn, xpp, xvc, xcc, xfc, xoc, 0, xan, xex, xen, xfl, xac, -1, xsp, xmd, xrt, xcu, xtk, xtv, xaf, xro, xsc, xho, xvk, xvf, xvs, xcv, xco, xff, xfp, xfe, xfb, xop) v0 t it q e := by
  obtain ⟨r, u', v', F, NX, NY⟩ := N
  refine ⟨r, u', v', F, fun post fx hx hp => ?_, fun post fy Q hy hQ hp => stepY Q (hQ 0 v1 (NY post fy hy hp))⟩
  obtain ⟨f, rfl⟩ : ∃ f, fx = f + 1 := ⟨fx - 1, by omega⟩
  exact xr_E (by omega) (fun Q hQ => stepX Q (hQ u1 (NX post f (by omega) hp)))
theorem sm_EE {u1 : SX} {v0 v2 : SY} {q e q' e' : Int32} {y : Nat} (ht : t < 990) (hit : it < 1900) (hy : y < 512) (stepX : ∀ Q : SX → Prop, Q u1 → wpX_startExpr Q (xdl, xtn, xpp, xvc, xcc, xfc, xoc, 0, xan, xex, xen, xfl, xac, -1, xsp, xmd, xrt, xcu, xtk, xtv, xaf, xro, xsc, xho, xvk, xvf, xvs, xcv, xco, xff, xfp, xfe, xfb, xop)) (stepY : ∀ Q : Int32 → SY → Prop, Q 0 (yli, yn, ypr, ygs, ypo, yhp, nI (y + 1), yvp, yfu, ysp, ymd, yac, yst, yrt, ycu, yhv, ytk, ytv, yus, ygk, yga, ygb, yck, yca, ycb, ycc, yfp, yfe, yfS, yfn, yfb, yvs, yds, ynk, yna, ynb, ync) → wpY_req Q v0 q e) (stepY2 : ∀ Q : Int32 → SY → Prop, wpY_req Q v2 q' e' → wpY_stepFrame Q (yli, yn, ypr, ygs, ypo, yhp, nI (y + 1), yvp, yfu, ysp, ymd, yac, yst, yrt, ycu, yhv, ytk, ytv, yus, ygk, yga, ygb, yck, yca, ycb, ycc, yfp, yfe, yfS, yfn, yfb, yvs, yds, ynk, yna, ynb, ync)) (N : sm_E u1 v2 (t + 1) (it + 1) q' e') : sm_E (xdl, xtn, xpp, xvc, xcc, xfc, xoc, 0, xan, xex, xen, xfl, xac, -1, xsp, xmd, xrt, xcu, xtk, xtv, xaf, xro, xsc, xho, xvk, xvf, xvs, xcv, xco, xff, xfp, xfe, xfb, xop) v0 t it q e := by
  obtain ⟨r, u', v', F, NX, NY⟩ := N
  refine ⟨r, u', v', F, fun post fx hx hp => ?_, fun post fy Q hfy hQ hp => stepY Q (hQ 0 _ ?_)⟩
  · obtain ⟨f, rfl⟩ : ∃ f, fx = f + 1 := ⟨fx - 1, by omega⟩
    exact xr_E (by omega) (fun Q hQ => stepX Q (hQ u1 (NX post f (by omega) hp)))
  · obtain ⟨f, rfl⟩ : ∃ f, fy = f + 1 := ⟨fy - 1, by omega⟩
    exact yr_turn (by omega) hy (fun Q hQ => stepY2 Q (NY post f Q (by omega) hQ hp))
theorem sm_RE {u1 : SX} {v2 : SY} {q' e' : Int32} {y : Nat} (ht : t < 990) (hit : it < 1900) (hy : y < 512) (stepX : ∀ Q : SX → Prop, Q u1 → wpX_handOverAnswer Q (xdl, xtn, xpp, xvc, xcc, xfc, xoc, 1, xan, xex, xen, xfl, xac, -1, xsp, xmd, xrt, xcu, xtk, xtv, xaf, xro, xsc, xho, xvk, xvf, xvs, xcv, xco, xff, xfp, xfe, xfb, xop)) (stepY2 : ∀ Q : Int32 → SY → Prop, wpY_req Q v2 q' e' → wpY_stepFrame Q (yli, yn, ypr, ygs, ypo, yhp, nI (y + 1), yvp, yfu, ysp, ymd, yac, yst, yrt, ycu, yhv, ytk, ytv, yus, ygk, yga, ygb, yck, yca, ycb, ycc, yfp, yfe, yfS, yfn, yfb, yvs, yds, ynk, yna, ynb, ync)) (N : sm_E u1 v2 (t + 1) (it + 1) q' e') : sm_R (xdl, xtn, xpp, xvc, xcc, xfc, xoc, 1, xan, xex, xen, xfl, xac, -1, xsp, xmd, xrt, xcu, xtk, xtv, xaf, xro, xsc, xho, xvk, xvf, xvs, xcv, xco, xff, xfp, xfe, xfb, xop) (yli, yn, ypr, ygs, ypo, yhp, nI (y + 1), yvp, yfu, ysp, ymd, yac, yst, yrt, ycu, yhv, ytk, ytv, yus, ygk, yga, ygb, yck, yca, ycb, ycc, yfp, yfe, yfS, yfn, yfb, yvs, yds, ynk, yna, ynb, ync) t it := by
  obtain ⟨r, u', v', F, NX, NY⟩ := N
  refine ⟨r, u', v', F, fun post fx hx hp => ?_, fun post fy hfy hp => ?_⟩
  · obtain ⟨f, rfl⟩ : ∃ f, fx = f + 1 := ⟨fx - 1, by omega⟩
    exact xr_R (by omega) (fun Q hQ => stepX Q (hQ u1 (NX post f (by omega) hp)))
  · obtain ⟨f, rfl⟩ : ∃ f, fy = f + 1 := ⟨fy - 1, by omega⟩
    exact yr_turn (by omega) hy (fun Q hQ => stepY2 Q (NY post f Q (by omega) hQ hp))
theorem sm_RR {u1 : SX} {v2 : SY} {y : Nat} (ht : t < 990) (hit : it < 1900) (hy : y < 512) (stepX : ∀ Q : SX → Prop, Q u1 → wpX_handOverAnswer Q (xdl, xtn, xpp, xvc, xcc, xfc, xoc, 1, xan, xex, xen, xfl, xac, -1, xsp, xmd, xrt, xcu, xtk, xtv, xaf, xro, xsc, xho, xvk, xvf, xvs, xcv, xco, xff, xfp, xfe, xfb, xop)) (stepY2 : ∀ Q : Int32 → SY → Prop, Q 0 v2 → wpY_stepFrame Q (yli, yn, ypr, ygs, ypo, yhp, nI (y + 1), yvp, yfu, ysp, ymd, yac, yst, yrt, ycu, yhv, ytk, ytv, yus, ygk, yga, ygb, yck, yca, ycb, ycc, yfp, yfe, yfS, yfn, yfb, yvs, yds, ynk, yna, ynb, ync)) (N : sm_R u1 v2 (t + 1) (it + 1)) : sm_R (xdl, xtn, xpp, xvc, xcc, xfc, xoc, 1, xan, xex, xen, xfl, xac, -1, xsp, xmd, xrt, xcu, xtk, xtv, xaf, xro, xsc, xho, xvk, xvf, xvs, xcv, xco, xff, xfp, xfe, xfb, xop) (yli, yn, ypr, ygs, ypo, yhp, nI (y + 1), yvp, yfu, ysp, ymd, yac, yst, yrt, ycu, yhv, ytk, ytv, yus, ygk, yga, ygb, yck, yca, ycb, ycc, yfp, yfe, yfS, yfn, yfb, yvs, yds, ynk, yna, ynb, ync) t it := by
  obtain ⟨r, u', v', F, NX, NY⟩ := N
  refine ⟨r, u', v', F, fun post fx hx hp => ?_, fun post fy hfy hp => ?_⟩
  · obtain ⟨f, rfl⟩ : ∃ f, fx = f + 1 := ⟨fx - 1, by omega⟩
    exact xr_R (by omega) (fun Q hQ => stepX Q (hQ u1 (NX post f (by omega) hp)))
  · obtain ⟨f, rfl⟩ : ∃ f, fy = f + 1 := ⟨fy - 1, by omega⟩
    exact yr_turn (by omega) hy (fun Q hQ => stepY2 Q (hQ 0 v2 (NY post f (by omega) hp)))
theorem sm_Rp {u0 : SX} {v2 : SY} {y : Nat} (hit : it < 1900) (hy : y < 512) (stepY2 : ∀ Q : Int32 → SY → Prop, Q 0 v2 → wpY_stepFrame Q (yli, yn, ypr, ygs, ypo, yhp, nI (y + 1), yvp, yfu, ysp, ymd, yac, yst, yrt, ycu, yhv, ytk, ytv, yus, ygk, yga, ygb, yck, yca, ycb, ycc, yfp, yfe, yfS, yfn, yfb, yvs, yds, ynk, yna, ynb, ync)) (N : sm_R u0 v2 t (it + 1)) : sm_R u0 (yli, yn, ypr, ygs, ypo, yhp, nI (y + 1), yvp, yfu, ysp, ymd, yac, yst, yrt, ycu, yhv, ytk, ytv, yus, ygk, yga, ygb, yck, yca, ycb, ycc, yfp, yfe, yfS, yfn, yfb, yvs, yds, ynk, yna, ynb, ync) t it := by
  obtain ⟨r, u', v', F, NX, NY⟩ := N
  refine ⟨r, u', v', F, NX, fun post fy hfy hp => ?_⟩
  obtain ⟨f, rfl⟩ : ∃ f, fy = f + 1 := ⟨fy - 1, by omega⟩
  exact yr_turn (by omega) hy (fun Q hQ => stepY2 Q (hQ 0 v2 (NY post f (by omega) hp)))
theorem sm_Rerr {u1 : SX} {v2 : SY} {r : Int32} {y : Nat} (ht : t < 990) (hit : it < 1900) (hy : y < 512) (hr : ¬ r = -1) (hr0 : ¬ r = 0) (hu : sx_st u1 = r) (stepX : ∀ Q : SX → Prop, Q u1 → wpX_handOverAnswer Q (xdl, xtn, xpp, xvc, xcc, xfc, xoc, 1, xan, xex, xen, xfl, xac, -1, xsp, xmd, xrt, xcu, xtk, xtv, xaf, xro, xsc, xho, xvk, xvf, xvs, xcv, xco, xff, xfp, xfe, xfb, xop)) (stepY2 : ∀ Q : Int32 → SY → Prop, Q r v2 → wpY_stepFrame Q (yli, yn, ypr, ygs, ypo, yhp, nI (y + 1), yvp, yfu, ysp, ymd, yac, yst, yrt, ycu, yhv, ytk, ytv, yus, ygk, yga, ygb, yck, yca, ycb, ycc, yfp, yfe, yfS, yfn, yfb, yvs, yds, ynk, yna, ynb, ync)) (F : i_Rel 0 u1 (sy_st r v2)) : sm_R (xdl, xtn, xpp, xvc, xcc, xfc, xoc, 1, xan, xex, xen, xfl, xac, -1, xsp, xmd, xrt, xcu, xtk, xtv, xaf, xro, xsc, xho, xvk, xvf, xvs, xcv, xco, xff, xfp, xfe, xfb, xop) (yli, yn, ypr, ygs, ypo, yhp, nI (y + 1), yvp, yfu, ysp, ymd, yac, yst, yrt, ycu, yhv, ytk, ytv, yus, ygk, yga, ygb, yck, yca, ycb, ycc, yfp, yfe, yfS, yfn, yfb, yvs, yds, ynk, yna, ynb, ync) t it := by
  refine ⟨r, u1, sy_st r v2, F, fun post fx hx hp => ?_, fun post fy hfy hp => ?_⟩
  · obtain ⟨f, rfl⟩ : ∃ f, fx = f + 1 + 1 := ⟨fx - 2, by omega⟩
    exact xr_R (by omega) (fun Q hQ => stepX Q (hQ u1 (sm_xend (by omega) hr hu hp)))
  · obtain ⟨f, rfl⟩ : ∃ f, fy = f + 1 + 1 := ⟨fy - 2, by omega⟩
    exact yr_turn (by omega) hy (fun Q hQ => stepY2 Q (hQ r v2 (sm_yerr (by omega) hr0 hp)))
theorem sm_Efuel {v0 : SY} {q e : Int32} (ht : t < 990) (hit : it < 1900) (hs : xsp = xfl) (stepY : ∀ Q : Int32 → SY → Prop, Q 4 v0 → wpY_req Q v0 q e) (F : i_Rel 0 (xdl, xtn, xpp, xvc, xcc, xfc, xoc, 0, xan, xex, xen, xfl, xac, 4, xsp, xmd, xrt, xcu, xtk, xtv, xaf, xro, xsc, xho, xvk, xvf, xvs, xcv, xco, xff, xfp, xfe, xfb, xop) (sy_st 4 v0)) : sm_E (xdl, xtn, xpp, xvc, xcc, xfc, xoc, 0, xan, xex, xen, xfl, xac, -1, xsp, xmd, xrt, xcu, xtk, xtv, xaf, xro, xsc, xho, xvk, xvf, xvs, xcv, xco, xff, xfp, xfe, xfb, xop) v0 t it q e := by
  refine ⟨4, (xdl, xtn, xpp, xvc, xcc, xfc, xoc, 0, xan, xex, xen, xfl, xac, 4, xsp, xmd, xrt, xcu, xtk, xtv, xaf, xro, xsc, xho, xvk, xvf, xvs, xcv, xco, xff, xfp, xfe, xfb, xop), sy_st 4 v0, F, fun post fx hx hp => ?_, fun post fy Q hfy hQ hp => ?_⟩
  · obtain ⟨f, rfl⟩ : ∃ f, fx = f + 1 + 1 := ⟨fx - 2, by omega⟩
    exact xr_E (by omega) (fun Q hQ => xr_fuel hs (hQ _ (sm_xend (r := 4) (by omega) (by decide) rfl hp)))
  · obtain ⟨f, rfl⟩ : ∃ f, fy = f + 1 := ⟨fy - 1, by omega⟩
    exact stepY Q (hQ 4 v0 (sm_yerr (by omega) (by decide) hp))
theorem sm_Rfin (ht : t < 990) (hit : it < 1900) (F : i_Rel 0 (xdl, xtn, xpp, xvc, xcc, nI 0, xoc, 1, xan, xex, xen, xfl, xac, 0, xsp, xmd, xan, xan, xtk, xtv, xaf, xro, xsc, xho, xvk, xvf, xvs, xcv, xco, xff, xfp, xfe, xfb, xop) (yli, yn, ypr, ygs, ypo, yhp, 0, yvp, yfu, ysp, ymd, yac, 0, yvs 0, yvs 0, 1, ytk, ytv, yus, ygk, yga, ygb, yck, yca, ycb, ycc, yfp, yfe, yfS, yfn, yfb, yvs, yds, ynk, yna, ynb, ync)) : sm_R (xdl, xtn, xpp, xvc, xcc, nI 0, xoc, 1, xan, xex, xen, xfl, xac, -1, xsp, xmd, xrt, xcu, xtk, xtv, xaf, xro, xsc, xho, xvk, xvf, xvs, xcv, xco, xff, xfp, xfe, xfb, xop) (yli, yn, ypr, ygs, ypo, yhp, 0, yvp, yfu, ysp, ymd, yac, yst, yrt, ycu, yhv, ytk, ytv, yus, ygk, yga, ygb, yck, yca, ycb, ycc, yfp, yfe, yfS, yfn, yfb, yvs, yds, ynk, yna, ynb, ync) t it := by
  refine ⟨0, _, _, F, fun post fx hx hp => ?_, fun post fy hfy hp => ?_⟩
  · obtain ⟨f, rfl⟩ : ∃ f, fx = f + 1 + 1 := ⟨fx - 2, by omega⟩
    exact xr_R (by omega) (fun Q hQ => xr_fin (hQ _ (sm_xend (r := 0) (by omega) (by decide) rfl hp)))
  · obtain ⟨f, rfl⟩ : ∃ f, fy = f + 1 := ⟨fy - 1, by omega⟩
    exact yr_ok (by omega) hp
end
