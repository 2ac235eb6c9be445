theorem pg_of {xtk xtv xaf xro xsc xho xvk xvf xvs : Nat → Int32} {n : Nat} (H : tk_ok xtk n) (C : cp_P xtk xtv n xaf xro xsc xho xvk xvf xvs) : (∃ par, pg_F xtk xtv xaf xro xsc xho n par) ∧ 0 < n ∧ xr_c n xro 0 = 1 ∧ xsc 0 = -1 ∧ lt_L (tk_K xtk n) xtv (sk_f (tk_K xtk n) n) (xr_c n xro) xvk xvf xvs n := by
  obtain ⟨par, n0, I0, A, W, hC, s0, sL, hO, L⟩ := C
  exact ⟨⟨par, H, A, W, sL, fun i a b c => (hO i a b c).1, fun vk vf vs L' => ⟨par, n0, I0, A, W, hC, s0, sL, hO, L'⟩⟩, n0, W.2.2.2.2, s0, L⟩
section
variable {xdl xtn xpp xvc xcc xfc xoc xag xan xex xen xfl xac xst xsp xmd xrt xcu : Int32} {xtk xtv xaf xro xsc xho xvk xvf xvs xcv xco xff xfp xfe xfb xop : Nat → Int32} {yli yn ypr ygs ypo yhp yfs yvp yfu ysp ymd yac yst yrt ycu yhv : Int32} {ytk ytv yus ygk yga ygb yck yca ycb ycc yfp yfe yfS yfn yfb yvs yds : Nat → Int32} {ynk yna ynb ync : Nat} {n : Nat}
/-- a run, from the start -/
theorem iv_run (H : tk_ok xtk n) (C : cp_P xtk xtv n xaf xro xsc xho xvk xvf xvs) (h0 : yck 0 = 2) {F : Nat} (hF : F ≤ 400) : sm_E (xdl, nI n, 1, nI 128, nI 0, nI 0, nI 0, 0, xan, nI 0, -1, nI F, 0, -1, nI 0, 0, -1, -1, xtk, xtv, xaf, xro, xsc, xho, xvk, xvf, xvs, xcv, xco, xff, xfp, xfe, xfb, xop) (xdl, nI n, 1, ygs, ypo, nI 1, nI 0, nI 0, nI F, nI 0, 0, 0, yst, yrt, ycu, 0, xtk, xtv, yus, ygk, yga, ygb, yck, yca, ycb, ycc, yfp, yfe, yfS, yfn, yfb, yvs, yds, 50000, 50000, 50000, 50000) 0 0 (nI 0) (-1) := by
  obtain ⟨⟨par, PG⟩, n0, r0, s0, L⟩ := pg_of H C
  have M := (sm_main (xdl := xdl) (F := F) PG 901 900 (by omega)).1
  refine M (fun _ _ => False) (fun _ => 0) (fun _ => 0) 128 0 1 0 0 0 0 0 0 0 0 _ _ _ _ _ _ _ _ _ _  _ _ _ _ _ _ _ _ _ _ _ _ _ _ _ _ _ _ _ _ _ _ _ _ _  rfl ⟨⟨fun i j z => False.elim z, fun c hc => by omega, fun c c' _ hc => by omega, Nat.le_refl _, h0⟩, fun i hi => by omega, ⟨rfl, rfl, rfl⟩, by unfold sr_N; omega, L⟩ n0 r0 (Or.inl ⟨rfl, rfl, s0⟩)
end
theorem i_vc_run {k : Nat} {u : SX} {v : SY} (I : i_Rel k u v) (hk : k + 3 ≤ 1537) (v1 : Int32) : wpX_run (fun r u' => wpY_run (fun r' v' => r' = r ∧ i_Rel (k + 3) u' v') v v1) u v1 := by
  refine iv_el I (P := fun u v => wpX_run (fun r u' => wpY_run (fun r' v' => r' = r ∧ i_Rel (k + 3) u' v') v v1) u v1) ?_
  intro xdl xpp xvc xcc xfc xoc xag xan xex xen xfl xac xst xsp xmd xrt xcu xtk xtv xaf xro xsc xho xvk xvf xvs xcv xco xff xfp xfe xfb xop ygs ypo yhp yfs yvp yfu yac yrt ycu yhv yus ygk yga ygb yck yca ycb ycc yfp yfe yfS yfn yfb yvs yds n I' H h0 hp hv
  rcases hp with hp | ⟨hp, C⟩
  · exact br_t hp (br_t hp ⟨rfl, I'⟩)
  · subst hp
    have key : ∀ F : Nat, F ≤ 400 → ((1 ≤ v1 ∧ v1 ≤ 400 ∧ v1 = nI F) ∨ (1 ≤ v1 ∧ ¬ v1 ≤ 400 ∧ nI F = 400) ∨ (¬ 1 ≤ v1 ∧ nI F = 1)) → wpX_run (fun r u' => wpY_run (fun r' v' => r' = r ∧ i_Rel (k + 3) u' v') (xdl, nI n, 1, ygs, ypo, yhp, yfs, yvp, yfu, xsp, xmd, yac, xst, yrt, ycu, yhv, xtk, xtv, yus, ygk, yga, ygb, yck, yca, ycb, ycc, yfp, yfe, yfS, yfn, yfb, yvs, yds, 50000, 50000, 50000, 50000) v1) (xdl, nI n, 1, xvc, xcc, xfc, xoc, xag, xan, xex, xen, xfl, xac, xst, xsp, xmd, xrt, xcu, xtk, xtv, xaf, xro, xsc, xho, xvk, xvf, xvs, xcv, xco, xff, xfp, xfe, xfb, xop) v1 := by
      intro F hF hc
      obtain ⟨r, u', v', Fin, NX, NY⟩ := iv_run (xdl := xdl) (xan := xan) (xcv := xcv) (xco := xco) (xff := xff) (xfp := xfp) (xfe := xfe) (xfb := xfb) (xop := xop) (ygs := ygs) (ypo := ypo) (yst := xst) (yrt := yrt) (ycu := ycu) (yus := yus) (ygk := ygk) (yga := yga) (ygb := ygb) (yca := yca) (ycb := ycb) (ycc := ycc) (yfp := yfp) (yfe := yfe) (yfS := yfS) (yfn := yfn) (yfb := yfb) (yvs := yvs) (yds := yds) H C h0 hF
      have Yw : wpY_run (fun r' v' => r' = r ∧ i_Rel (k + 3) u' v') (xdl, nI n, 1, ygs, ypo, yhp, yfs, yvp, yfu, xsp, xmd, yac, xst, yrt, ycu, yhv, xtk, xtv, yus, ygk, yga, ygb, yck, yca, ycb, ycc, yfp, yfe, yfS, yfn, yfb, yvs, yds, 50000, 50000, 50000, 50000) v1 := by
        have go : wY_run_33 (fun r' v' => r' = r ∧ i_Rel (k + 3) u' v') (nI F) xdl (nI n) 1 ygs ypo yhp yfs yvp yfu xsp xmd yac xst yrt ycu yhv xtk xtv yus ygk yga ygb yck yca ycb ycc yfp yfe yfS yfn yfb yvs yds 50000 50000 50000 50000 :=
          NY (fun r' v' => r' = r ∧ i_Rel (k + 3) u' v') 2000 _ rfl (fun r2 w hw => by
            obtain ⟨yli, yn, ypr, ygs, ypo, yhp, yfs, yvp, yfu, ysp, ymd, yac, yst, yrt, ycu, yhv, ytk, ytv, yus, ygk, yga, ygb, yck, yca, ycb, ycc, yfp, yfe, yfS, yfn, yfb, yvs, yds, ynk, yna, ynb, ync⟩ := w
            exact ⟨2000, hw⟩) ⟨rfl, Fin⟩
        rcases hc with ⟨a, b, e⟩ | ⟨a, b, e⟩ | ⟨a, e⟩
        · rw [← e] at go; exact br_f (by decide) (br_t a (br_t b go))
        · rw [e] at go; exact br_f (by decide) (br_t a (br_f b go))
        · rw [e] at go; exact br_f (by decide) (br_f a go)
      have Xw : wX_run_16 (fun r u' => wpY_run (fun r' v' => r' = r ∧ i_Rel (k + 3) u' v') (xdl, nI n, 1, ygs, ypo, yhp, yfs, yvp, yfu, xsp, xmd, yac, xst, yrt, ycu, yhv, xtk, xtv, yus, ygk, yga, ygb, yck, yca, ycb, ycc, yfp, yfe, yfS, yfn, yfb, yvs, yds, 50000, 50000, 50000, 50000) v1) 1000 (nI 0) xdl (nI n) 1 (nI 128) (nI 0) (nI 0) (nI 0) 0 xan (nI 0) (-1) (nI F) 0 (-1) (nI 0) 0 (-1) (-1) xtk xtv xaf xro xsc xho xvk xvf xvs xcv xco xff xfp xfe xfb xop := NX (fun r u' => wpY_run (fun r' v' => r' = r ∧ i_Rel (k + 3) u' v') (xdl, nI n, 1, ygs, ypo, yhp, yfs, yvp, yfu, xsp, xmd, yac, xst, yrt, ycu, yhv, xtk, xtv, yus, ygk, yga, ygb, yck, yca, ycb, ycc, yfp, yfe, yfS, yfn, yfb, yvs, yds, 50000, 50000, 50000, 50000) v1) 1000 rfl Yw
      refine br_f (by decide) ?_
      unfold wpX_startRun wpX_forgetResult wpX_clamp wpX_evaluate
      dsimp only
      rcases hc with ⟨a, b, e⟩ | ⟨a, b, e⟩ | ⟨a, e⟩
      · rw [← e] at Xw; exact br_t a (br_t b ⟨1000, Xw⟩)
      · rw [e] at Xw; exact br_t a (br_f b ⟨1000, Xw⟩)
      · rw [e] at Xw; exact br_f a ⟨1000, Xw⟩
    by_cases a : 1 ≤ v1
    · by_cases b : v1 ≤ 400
      · obtain ⟨j, hj, e⟩ := nI_of2 (x := v1) (M := 400) (n := 400) (by decide) (fun z => by
          rw [Int32.lt_iff_toInt_lt] at z
          rw [Int32.le_iff_toInt_le] at a
          have e1 : (1 : Int32).toInt = 1 := by decide
          have e0 : (0 : Int32).toInt = 0 := by decide
          omega) b
        exact key j hj (Or.inl ⟨a, b, e⟩)
      · exact key 400 (Nat.le_refl _) (Or.inr (Or.inl ⟨a, b, rfl⟩))
    · exact key 1 (by omega) (Or.inr (Or.inr ⟨a, rfl⟩))
