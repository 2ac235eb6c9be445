/-! the owed statements -/
section
variable {xdl xtn xpp xvc xcc xfc xoc xag xan xex xen xfl xac xst xsp xmd xrt xcu : Int32} {xtk xtv xaf xro xsc xho xvk xvf xvs xcv xco xff xfp xfe xfb xop : Nat → Int32} {yli yn ypr ygs ypo yhp yfs yvp yfu ysp ymd yac yst yrt ycu yhv : Int32} {ytk ytv yus ygk yga ygb yck yca ycb ycc yfp yfe yfS yfn yfb yvs yds : Nat → Int32} {ynk yna ynb ync : Nat} {n : Nat}
theorem iv_mk (k : Nat) (H : tk_ok xtk n) (h0 : yck 0 = 2) (hp : xpp = 0 ∨ (xpp = 1 ∧ cp_P xtk xtv n xaf xro xsc xho xvk xvf xvs)) (hv : vl_R xtk xtv xro xsc n xpp yhv xrt xcu yrt ycu xvk xvf xvs xcv xco yck yca ycb ycc) : i_Rel k (xdl, nI n, xpp, xvc, xcc, xfc, xoc, xag, xan, xex, xen, xfl, xac, xst, xsp, xmd, xrt, xcu, xtk, xtv, xaf, xro, xsc, xho, xvk, xvf, xvs, xcv, xco, xff, xfp, xfe, xfb, xop) (xdl, nI n, xpp, ygs, ypo, yhp, yfs, yvp, yfu, xsp, xmd, yac, xst, yrt, ycu, yhv, xtk, xtv, yus, ygk, yga, ygb, yck, yca, ycb, ycc, yfp, yfe, yfS, yfn, yfb, yvs, yds, 50000, 50000, 50000, 50000) :=
  ⟨_, _, _, _, _, _, _, _, _, _, _, _, _, _, _, _, _,  _, _, _, _, _, _, _, _, _, _, _, _, _, _, _, _,  _, _, _, _, _, _, _, _, _, _,  _, _, _, _, _, _, _, _, _, _, _, _, _, _, _,  n, rfl, rfl, H, h0, hp, hv⟩
theorem iv_init (z : Int32) : wY_init_171 (fun v => i_Rel 1 (z, 0, 0, 128, 0, 0, 0, 0, (-1), 0, (-1), 1, 0, (-1), 0, 0, (-1), (-1), (fun _ => 0), (fun _ => 0), (fun _ => 0), (fun _ => 0), (fun _ => 0), (fun _ => 0), (fun _ => 0), (fun _ => 0), (fun _ => 0), (fun _ => 0), (fun _ => 0), (fun _ => 0), (fun _ => 0), (fun _ => 0), (fun _ => 0), (fun _ => 0)) v) z 0 0 0 0 0 0 0 0 0 0 0 0 0 0 0 0 (fun _ => 0) (fun _ => 0) (fun _ => 0) (fun _ => 0) (fun _ => 0) (fun _ => 0) (fun _ => 0) (fun _ => 0) (fun _ => 0) (fun _ => 0) (fun _ => 0) (fun _ => 0) (fun _ => 0) (fun _ => 0) (fun _ => 0) (fun _ => 0) (fun _ => 0) 50000 50000 50000 50000 := by
  refine ⟨vp_in_nI (n := 0) (by omega) (by omega), fun ck e => ?_⟩
  refine iv_mk (n := 0) 1 ⟨by omega, fun i hi => by omega⟩ (by rw [e]; exact pk_us) (Or.inl rfl) (Or.inl ⟨rfl, rfl, rfl⟩)
end
theorem iv_50 : (50000 : Int32).toNatClampNeg = 50000 := nI_clamp (n := 50000) (by omega)
theorem iv_Y {post : SY → Prop} {k0 z : Int32} (hz : (1 ≤ k0 ∧ k0 ≤ 32 ∧ z = k0) ∨ (1 ≤ k0 ∧ ¬ k0 ≤ 32 ∧ z = 32) ∨ (¬ 1 ≤ k0 ∧ z = 1)) (h : wY_init_171 post z 0 0 0 0 0 0 0 0 0 0 0 0 0 0 0 0 (fun _ => 0) (fun _ => 0) (fun _ => 0) (fun _ => 0) (fun _ => 0) (fun _ => 0) (fun _ => 0) (fun _ => 0) (fun _ => 0) (fun _ => 0) (fun _ => 0) (fun _ => 0) (fun _ => 0) (fun _ => 0) (fun _ => 0) (fun _ => 0) (fun _ => 0) 50000 50000 50000 50000) : wpY_init post k0 := by
  refine ⟨by decide, nm_r iv_50 ⟨Nat.le_refl _, by decide, nm_r iv_50 ⟨Nat.le_refl _, by decide, nm_r iv_50 ⟨Nat.le_refl _, by decide, nm_r iv_50 ⟨Nat.le_refl _, ?_⟩⟩⟩⟩⟩
  rcases hz with ⟨a, b, e⟩ | ⟨a, b, e⟩ | ⟨a, e⟩
  · subst e; exact br_t a (br_t b h)
  · subst e; exact br_t a (br_f b h)
  · subst e; exact br_f a h
theorem i_vc0 (k0 : Int32) : wpX_init (fun u => wpY_init (fun v => i_Rel 1 u v) k0) k0 := by
  unfold wpX_init wpX_clamp
  by_cases a : 1 ≤ k0
  · refine br_t a ?_
    by_cases b : k0 ≤ 32
    · exact br_t b (iv_Y (Or.inl ⟨a, b, rfl⟩) (iv_init k0))
    · exact br_f b (iv_Y (Or.inr (Or.inl ⟨a, b, rfl⟩)) (iv_init 32))
  · exact br_f a (iv_Y (Or.inr (Or.inr ⟨a, rfl⟩)) (iv_init 1))
theorem iv_el {k : Nat} {u : SX} {v : SY} (I : i_Rel k u v) {P : SX → SY → Prop} (h : ∀ (xdl xpp xvc xcc xfc xoc xag xan xex xen xfl xac xst xsp xmd xrt xcu : Int32) (xtk xtv xaf xro xsc xho xvk xvf xvs xcv xco xff xfp xfe xfb xop : Nat → Int32) (ygs ypo yhp yfs yvp yfu yac yrt ycu yhv : Int32) (yus ygk yga ygb yck yca ycb ycc yfp yfe yfS yfn yfb yvs yds : Nat → Int32) (n : Nat), i_Rel (k + 3) (xdl, nI n, xpp, xvc, xcc, xfc, xoc, xag, xan, xex, xen, xfl, xac, xst, xsp, xmd, xrt, xcu, xtk, xtv, xaf, xro, xsc, xho, xvk, xvf, xvs, xcv, xco, xff, xfp, xfe, xfb, xop) (xdl, nI n, xpp, ygs, ypo, yhp, yfs, yvp, yfu, xsp, xmd, yac, xst, yrt, ycu, yhv, xtk, xtv, yus, ygk, yga, ygb, yck, yca, ycb, ycc, yfp, yfe, yfS, yfn, yfb, yvs, yds, 50000, 50000, 50000, 50000) → tk_ok xtk n → yck 0 = 2 → (xpp = 0 ∨ (xpp = 1 ∧ cp_P xtk xtv n xaf xro xsc xho xvk xvf xvs)) → vl_R xtk xtv xro xsc n xpp yhv xrt xcu yrt ycu xvk xvf xvs xcv xco yck yca ycb ycc →
    P (xdl, nI n, xpp, xvc, xcc, xfc, xoc, xag, xan, xex, xen, xfl, xac, xst, xsp, xmd, xrt, xcu, xtk, xtv, xaf, xro, xsc, xho, xvk, xvf, xvs, xcv, xco, xff, xfp, xfe, xfb, xop) (xdl, nI n, xpp, ygs, ypo, yhp, yfs, yvp, yfu, xsp, xmd, yac, xst, yrt, ycu, yhv, xtk, xtv, yus, ygk, yga, ygb, yck, yca, ycb, ycc, yfp, yfe, yfS, yfn, yfb, yvs, yds, 50000, 50000, 50000, 50000)) : P u v := by
  obtain ⟨xdl, xpp, xvc, xcc, xfc, xoc, xag, xan, xex, xen, xfl, xac, xst, xsp, xmd, xrt, xcu, xtk, xtv, xaf, xro, xsc, xho, xvk, xvf, xvs, xcv, xco, xff, xfp, xfe, xfb, xop, ygs, ypo, yhp, yfs, yvp, yfu, yac, yrt, ycu, yhv, yus, ygk, yga, ygb, yck, yca, ycb, ycc, yfp, yfe, yfS, yfn, yfb, yvs, yds, n, rfl, rfl, H, h0, hp, hv⟩ := I
  exact h xdl xpp xvc xcc xfc xoc xag xan xex xen xfl xac xst xsp xmd xrt xcu xtk xtv xaf xro xsc xho xvk xvf xvs xcv xco xff xfp xfe xfb xop ygs ypo yhp yfs yvp yfu yac yrt ycu yhv yus ygk yga ygb yck yca ycb ycc yfp yfe yfS yfn yfb yvs yds n (iv_mk (k + 3) H h0 hp hv) H h0 hp hv
