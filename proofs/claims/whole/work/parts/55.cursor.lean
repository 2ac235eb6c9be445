section
variable {xdl xtn xpp xvc xcc xfc xoc xag xan xex xen xfl xac xst xsp xmd xrt xcu : Int32} {xtk xtv xaf xro xsc xho xvk xvf xvs xcv xco xff xfp xfe xfb xop : Nat → Int32} {yli yn ypr ygs ypo yhp yfs yvp yfu ysp ymd yac yst yrt ycu yhv : Int32} {ytk ytv yus ygk yga ygb yck yca ycb ycc yfp yfe yfS yfn yfb yvs yds : Nat → Int32} {ynk yna ynb ync : Nat} {n : Nat}
theorem ik_X0 {post : Int32 → Prop} (h : post 0) : wpX_kind post (xdl, xtn, xpp, xvc, xcc, xfc, xoc, xag, xan, xex, xen, xfl, xac, xst, xsp, xmd, xrt, -1, xtk, xtv, xaf, xro, xsc, xho, xvk, xvf, xvs, xcv, xco, xff, xfp, xfe, xfb, xop) := br_t rfl h
theorem ik_X {a : Nat} (ha : a < 528) {post : Int32 → Prop} (h : post (xvk a)) : wpX_kind post (xdl, xtn, xpp, xvc, xcc, xfc, xoc, xag, xan, xex, xen, xfl, xac, xst, xsp, xmd, xrt, nI a, xtk, xtv, xaf, xro, xsc, xho, xvk, xvf, xvs, xcv, xco, xff, xfp, xfe, xfb, xop) := by
  refine br_f (ni_nm1 (by omega)) ⟨vp_in_nI ha (by omega), ?_⟩
  rw [nI_clamp (by omega)]; exact h
theorem ik_Y0 {post : Int32 → Prop} (h : post 0) : wpY_kind post (yli, yn, ypr, ygs, ypo, yhp, yfs, yvp, yfu, ysp, ymd, yac, yst, yrt, ycu, 0, ytk, ytv, yus, ygk, yga, ygb, yck, yca, ycb, ycc, yfp, yfe, yfS, yfn, yfb, yvs, yds, ynk, yna, ynb, ync) := br_t rfl h
theorem ik_Y {b : Nat} (hb : b < 50000) {post : Int32 → Prop} (h : post (yck b)) : wpY_kind post (yli, yn, ypr, ygs, ypo, yhp, yfs, yvp, yfu, ysp, ymd, yac, yst, yrt, nI b, 1, ytk, ytv, yus, ygk, yga, ygb, yck, yca, ycb, ycc, yfp, yfe, yfS, yfn, yfb, yvs, yds, 50000, yna, ynb, ync) := by
  refine br_f (by decide) ⟨vp_in_nI hb (by omega), ?_⟩
  rw [nI_clamp (by omega)]; exact h
end
theorem i_vc_kind {k : Nat} {u : SX} {v : SY} (I : i_Rel k u v) (hk : k + 3 ≤ 1537) : wpX_kind (fun r => wpY_kind (fun r' => r' = r ∧ i_Rel (k + 3) u v) v) u := by
  refine iv_el I (P := fun u v => wpX_kind (fun r => wpY_kind (fun r' => r' = r ∧ i_Rel (k + 3) u v) v) u) ?_
  intro xdl xpp xvc xcc xfc xoc xag xan xex xen xfl xac xst xsp xmd xrt xcu xtk xtv xaf xro xsc xho xvk xvf xvs xcv xco xff xfp xfe xfb xop ygs ypo yhp yfs yvp yfu yac yrt ycu yhv yus ygk yga ygb yck yca ycb ycc yfp yfe yfS yfn yfb yvs yds n I' H h0 hp hv
  rcases hv with ⟨e1, e2, e3⟩ | ⟨e1, e2, VR, g, nm, vc, cc, hp', B, b1, b2, a, b, a', b', r1, r2, r3, c1, c2, c3⟩
  · subst e1 e2 e3
    exact ik_X0 (ik_Y0 ⟨rfl, I'⟩)
  · subst e1 c1 c2
    have kd := hb_kind B c3
    exact ik_X (by omega) (ik_Y (by omega) ⟨kd.2.2.1.symm, I'⟩)
theorem i_vc_intValue {k : Nat} {u : SX} {v : SY} (I : i_Rel k u v) (hk : k + 3 ≤ 1537) : wpX_intValue (fun r => wpY_intValue (fun r' => r' = r ∧ i_Rel (k + 3) u v) v) u := by
  refine iv_el I (P := fun u v => wpX_intValue (fun r => wpY_intValue (fun r' => r' = r ∧ i_Rel (k + 3) u v) v) u) ?_
  intro xdl xpp xvc xcc xfc xoc xag xan xex xen xfl xac xst xsp xmd xrt xcu xtk xtv xaf xro xsc xho xvk xvf xvs xcv xco xff xfp xfe xfb xop ygs ypo yhp yfs yvp yfu yac yrt ycu yhv yus ygk yga ygb yck yca ycb ycc yfp yfe yfS yfn yfb yvs yds n I' H h0 hp hv
  unfold wpX_intValue wpY_intValue
  dsimp only
  rcases hv with ⟨e1, e2, e3⟩ | ⟨e1, e2, VR, g, nm, vc, cc, hp', B, b1, b2, a, b, a', b', r1, r2, r3, c1, c2, c3⟩
  · subst e1 e2 e3
    exact ik_X0 (br_f (by decide) (ik_Y0 (br_f (by decide) ⟨rfl, I'⟩)))
  · subst e1 c1 c2
    have kd := hb_kind B c3
    refine ik_X (by omega) ?_
    by_cases k1 : xvk a' = 1
    · have k2 : yck b' = 1 := by rw [← kd.2.2.1]; exact k1
      refine br_t k1 ⟨vp_in_nI (by omega) (by omega), ik_Y (by omega) (br_t k2 ⟨vp_in_nI (by omega) (by omega), ?_, I'⟩)⟩
      rw [nI_clamp (n := a') (by omega), nI_clamp (n := b') (by omega)]
      exact (kd.2.2.2 k1).symm
    · have k2 : ¬ yck b' = 1 := by rw [← kd.2.2.1]; exact k1
      exact br_f k1 (ik_Y (by omega) (br_f k2 ⟨rfl, I'⟩))
theorem i_vc_closureSource {k : Nat} {u : SX} {v : SY} (I : i_Rel k u v) (hk : k + 3 ≤ 1537) : wpX_closureSource (fun r => wpY_closureSource (fun r' => r' = r ∧ i_Rel (k + 3) u v) v) u := by
  refine iv_el I (P := fun u v => wpX_closureSource (fun r => wpY_closureSource (fun r' => r' = r ∧ i_Rel (k + 3) u v) v) u) ?_
  intro xdl xpp xvc xcc xfc xoc xag xan xex xen xfl xac xst xsp xmd xrt xcu xtk xtv xaf xro xsc xho xvk xvf xvs xcv xco xff xfp xfe xfb xop ygs ypo yhp yfs yvp yfu yac yrt ycu yhv yus ygk yga ygb yck yca ycb ycc yfp yfe yfS yfn yfb yvs yds n I' H h0 hp hv
  unfold wpX_closureSource wpY_closureSource
  dsimp only
  rcases hv with ⟨e1, e2, e3⟩ | ⟨e1, e2, VR, g, nm, vc, cc, hp', B, b1, b2, a, b, a', b', r1, r2, r3, c1, c2, c3⟩
  · subst e1 e2 e3
    exact ik_X0 (br_f (by decide) (ik_Y0 (br_f (by decide) ⟨rfl, I'⟩)))
  · subst e1 c1 c2
    have kd := hb_kind B c3
    refine ik_X (by omega) ?_
    by_cases k1 : xvk a' = 4
    · have k2 : yck b' = 4 := by rw [← kd.2.2.1]; exact k1
      refine br_t k1 ⟨vp_in_nI (by omega) (by omega), ik_Y (by omega) (br_t k2 ⟨vp_in_nI (by omega) (by omega), ?_, I'⟩)⟩
      rw [nI_clamp (n := a') (by omega), nI_clamp (n := b') (by omega)]
      rcases (B.1 a' b' c3).2.2 with w | w | w | ⟨_, _, q, _, _, _, _, w1, w2, _⟩
      · rw [k1] at w; exact absurd w.1 (by decide)
      · rw [k1] at w; exact absurd w.1 (by decide)
      · rw [k1] at w; exact absurd w.1 (by decide)
      · rw [w1, w2]
    · have k2 : ¬ yck b' = 4 := by rw [← kd.2.2.1]; exact k1
      exact br_f k1 (ik_Y (by omega) (br_f k2 ⟨rfl, I'⟩))
theorem i_vc_closureArity {k : Nat} {u : SX} {v : SY} (I : i_Rel k u v) (hk : k + 3 ≤ 1537) : wpX_closureArity (fun r => wpY_closureArity (fun r' => r' = r ∧ i_Rel (k + 3) u v) v) u := by
  refine iv_el I (P := fun u v => wpX_closureArity (fun r => wpY_closureArity (fun r' => r' = r ∧ i_Rel (k + 3) u v) v) u) ?_
  intro xdl xpp xvc xcc xfc xoc xag xan xex xen xfl xac xst xsp xmd xrt xcu xtk xtv xaf xro xsc xho xvk xvf xvs xcv xco xff xfp xfe xfb xop ygs ypo yhp yfs yvp yfu yac yrt ycu yhv yus ygk yga ygb yck yca ycb ycc yfp yfe yfS yfn yfb yvs yds n I' H h0 hp hv
  unfold wpX_closureArity wpY_closureArity
  dsimp only
  rcases hv with ⟨e1, e2, e3⟩ | ⟨e1, e2, VR, g, nm, vc, cc, hp', B, b1, b2, a, b, a', b', r1, r2, r3, c1, c2, c3⟩
  · subst e1 e2 e3
    exact ik_X0 (br_f (by decide) (ik_Y0 (br_f (by decide) ⟨rfl, I'⟩)))
  · subst e1 c1 c2
    have kd := hb_kind B c3
    refine ik_X (by omega) ?_
    by_cases k1 : xvk a' = 4
    · have k2 : yck b' = 4 := by rw [← kd.2.2.1]; exact k1
      rcases (B.1 a' b' c3).2.2 with w | w | w | ⟨_, _, q, q1, q2, q3, q4, w1, w2, _⟩
      · rw [k1] at w; exact absurd w.1 (by decide)
      · rw [k1] at w; exact absurd w.1 (by decide)
      · rw [k1] at w; exact absurd w.1 (by decide)
      · have C : cp_P xtk xtv n xaf xro xsc xho xvk xvf xvs := by
          rcases hp with hp | hp
          · rw [e2] at hp; exact absurd hp (by decide)
          · exact hp.2
        obtain ⟨⟨par, PG⟩, _⟩ := pg_of H C
        obtain ⟨m, m4, P, lcm, _⟩ := st_lam (V := xtv) (sc := xsc) (fun i => tk_0) (fun i hi hk => (PG.2.1 i hi hk).1) PG.2.2.1 PG.2.2.2.1 q1 q2 q3 q4
        refine br_t k1 ⟨vp_in_nI (by omega) (by omega), ?_⟩
        rw [nI_clamp (n := a') (by omega), w1]
        unfold wpX_arity
        dsimp only
        rw [ni_2]
        refine xi_items (i := q + 2) H PG.2.1 lcm (ik_Y (by omega) (br_t k2 ⟨vp_in_nI (by omega) (by omega), ?_⟩))
        rw [nI_clamp (n := b') (by omega), w2]
        exact yA_ar H q1 P ⟨rfl, I'⟩
    · have k2 : ¬ yck b' = 4 := by rw [← kd.2.2.1]; exact k1
      exact br_f k1 (ik_Y (by omega) (br_f k2 ⟨rfl, I'⟩))
theorem i_vc_goRoot {k : Nat} {u : SX} {v : SY} (I : i_Rel k u v) (hk : k + 3 ≤ 1537) : wpX_goRoot (fun r u' => wpY_goRoot (fun r' v' => r' = r ∧ i_Rel (k + 3) u' v') v) u := by
  refine iv_el I (P := fun u v => wpX_goRoot (fun r u' => wpY_goRoot (fun r' v' => r' = r ∧ i_Rel (k + 3) u' v') v) u) ?_
  intro xdl xpp xvc xcc xfc xoc xag xan xex xen xfl xac xst xsp xmd xrt xcu xtk xtv xaf xro xsc xho xvk xvf xvs xcv xco xff xfp xfe xfb xop ygs ypo yhp yfs yvp yfu yac yrt ycu yhv yus ygk yga ygb yck yca ycb ycc yfp yfe yfS yfn yfb yvs yds n I' H h0 hp hv
  rcases hv with ⟨e1, e2, e3⟩ | ⟨e1, e2, VR, g, nm, vc, cc, hp', B, b1, b2, a, b, a', b', r1, r2, r3, c1, c2, c3⟩
  · subst e1 e2 e3
    exact br_t rfl (br_t rfl ⟨rfl, I'⟩)
  · subst e1 r1 r2
    have kd := hb_kind B r3
    exact br_f (ni_nm1 (by omega)) (br_f (by decide) ⟨rfl, iv_mk (k + 3) H h0 hp (Or.inr ⟨rfl, e2, VR, g, nm, vc, cc, hp', B, b1, b2, a, b, a, b, rfl, rfl, r3, rfl, rfl, r3⟩)⟩)
theorem i_vc_goCar {k : Nat} {u : SX} {v : SY} (I : i_Rel k u v) (hk : k + 3 ≤ 1537) : wpX_goCar (fun r u' => wpY_goCar (fun r' v' => r' = r ∧ i_Rel (k + 3) u' v') v) u := by
  refine iv_el I (P := fun u v => wpX_goCar (fun r u' => wpY_goCar (fun r' v' => r' = r ∧ i_Rel (k + 3) u' v') v) u) ?_
  intro xdl xpp xvc xcc xfc xoc xag xan xex xen xfl xac xst xsp xmd xrt xcu xtk xtv xaf xro xsc xho xvk xvf xvs xcv xco xff xfp xfe xfb xop ygs ypo yhp yfs yvp yfu yac yrt ycu yhv yus ygk yga ygb yck yca ycb ycc yfp yfe yfS yfn yfb yvs yds n I' H h0 hp hv
  unfold wpX_goCar wpY_goCar
  dsimp only
  rcases hv with ⟨e1, e2, e3⟩ | ⟨e1, e2, VR, g, nm, vc, cc, hp', B, b1, b2, a, b, a', b', r1, r2, r3, c1, c2, c3⟩
  · subst e1 e2 e3
    exact ik_X0 (br_f (by decide) (ik_Y0 (br_f (by decide) ⟨rfl, I'⟩)))
  · subst e1 c1 c2
    have kd := hb_kind B c3
    refine ik_X (by omega) ?_
    by_cases k1 : xvk a' = 3
    · have k2 : yck b' = 3 := by rw [← kd.2.2.1]; exact k1
      rcases (B.1 a' b' c3).2.2 with w | w | ⟨_, _, p1, p2, p3, p4, w1, w2, w3, w4, w5, w6⟩ | w
      · rw [k1] at w; exact absurd w.1 (by decide)
      · rw [k1] at w; exact absurd w.1 (by decide)
      · refine br_t k1 ⟨vp_in_nI (by omega) (by omega), nm_r (show xvf (nI a').toNatClampNeg = nI p1 from by rw [nI_clamp (by omega)]; exact w1) (ik_Y (by omega) (br_t k2 ⟨vp_in_nI (by omega) (by omega), nm_r (show yca (nI b').toNatClampNeg = nI p3 from by rw [nI_clamp (by omega)]; exact w3) ⟨rfl, ?_⟩⟩))⟩
        exact iv_mk (k + 3) H h0 hp (Or.inr ⟨rfl, e2, VR, g, nm, vc, cc, hp', B, b1, b2, a, b, p1, p3, r1, r2, r3, rfl, rfl, w5⟩)
      · rw [k1] at w; exact absurd w.1 (by decide)
    · have k2 : ¬ yck b' = 3 := by rw [← kd.2.2.1]; exact k1
      exact br_f k1 (ik_Y (by omega) (br_f k2 ⟨rfl, I'⟩))
theorem i_vc_goCdr {k : Nat} {u : SX} {v : SY} (I : i_Rel k u v) (hk : k + 3 ≤ 1537) : wpX_goCdr (fun r u' => wpY_goCdr (fun r' v' => r' = r ∧ i_Rel (k + 3) u' v') v) u := by
  refine iv_el I (P := fun u v => wpX_goCdr (fun r u' => wpY_goCdr (fun r' v' => r' = r ∧ i_Rel (k + 3) u' v') v) u) ?_
  intro xdl xpp xvc xcc xfc xoc xag xan xex xen xfl xac xst xsp xmd xrt xcu xtk xtv xaf xro xsc xho xvk xvf xvs xcv xco xff xfp xfe xfb xop ygs ypo yhp yfs yvp yfu yac yrt ycu yhv yus ygk yga ygb yck yca ycb ycc yfp yfe yfS yfn yfb yvs yds n I' H h0 hp hv
  unfold wpX_goCdr wpY_goCdr
  dsimp only
  rcases hv with ⟨e1, e2, e3⟩ | ⟨e1, e2, VR, g, nm, vc, cc, hp', B, b1, b2, a, b, a', b', r1, r2, r3, c1, c2, c3⟩
  · subst e1 e2 e3
    exact ik_X0 (br_f (by decide) (ik_Y0 (br_f (by decide) ⟨rfl, I'⟩)))
  · subst e1 c1 c2
    have kd := hb_kind B c3
    refine ik_X (by omega) ?_
    by_cases k1 : xvk a' = 3
    · have k2 : yck b' = 3 := by rw [← kd.2.2.1]; exact k1
      rcases (B.1 a' b' c3).2.2 with w | w | ⟨_, _, p1, p2, p3, p4, w1, w2, w3, w4, w5, w6⟩ | w
      · rw [k1] at w; exact absurd w.1 (by decide)
      · rw [k1] at w; exact absurd w.1 (by decide)
      · refine br_t k1 ⟨vp_in_nI (by omega) (by omega), nm_r (show xvs (nI a').toNatClampNeg = nI p2 from by rw [nI_clamp (by omega)]; exact w2) (ik_Y (by omega) (br_t k2 ⟨vp_in_nI (by omega) (by omega), nm_r (show ycb (nI b').toNatClampNeg = nI p4 from by rw [nI_clamp (by omega)]; exact w4) ⟨rfl, ?_⟩⟩))⟩
        exact iv_mk (k + 3) H h0 hp (Or.inr ⟨rfl, e2, VR, g, nm, vc, cc, hp', B, b1, b2, a, b, p2, p4, r1, r2, r3, rfl, rfl, w6⟩)
      · rw [k1] at w; exact absurd w.1 (by decide)
    · have k2 : ¬ yck b' = 3 := by rw [← kd.2.2.1]; exact k1
      exact br_f k1 (ik_Y (by omega) (br_f k2 ⟨rfl, I'⟩))
