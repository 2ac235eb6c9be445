/-! the owed statements -/
section
variable {xdl xtn xpp xvc xcc xfc xoc xag xan xex xen xfl xac xst xsp xmd xrt xcu : Int32} {xtk xtv xaf xro xsc xho xvk xvf xvs xcv xco xff xfp xfe xfb xop : Nat → Int32} {yli yn ypr ygs ypo yhp yfs yvp yfu ysp ymd yac yst yrt ycu yhv : Int32} {ytk ytv yus ygk yga ygb yck yca ycb ycc yfp yfe yfS yfn yfb yvs yds : Nat → Int32} {ynk yna ynb ync : Nat} {n : Nat}
theorem iv_mk (k : Nat) (H : tk_ok xtk n) (h0 : yck 0 = 2) (hp : xpp = 0 ∨ (xpp = 1 ∧ cp_P xtk xtv n xaf xro xsc xho xvk xvf xvs)) (hv : vl_R xtk xtv xro xsc n xpp yhv xrt xcu yrt ycu xvk xvf xvs xcv xco yck yca ycb ycc) : i_Rel k (xdl, nI n, xpp, xvc, xcc, xfc, xoc, xag, xan, xex, xen, xfl, xac, xst, xsp, xmd, xrt, xcu, xtk, xtv, xaf, xro, xsc, xho, xvk, xvf, xvs, xcv, xco, xff, xfp, xfe, xfb, xop) (xdl, nI n, xpp, ygs, ypo, yhp, yfs, yvp, yfu, xsp, xmd, yac, xst, yrt, ycu, yhv, xtk, xtv, yus, ygk, yga, ygb, yck, yca, ycb, ycc, yfp, yfe, yfS, yfn, yfb, yvs, yds, 50000, 50000, 50000, 50000) :=
  ⟨_, _, _, _, _, _, _, _, _, _, _, _, _, _, _, _, _,  _, _, _, _, _, _, _, _, _, _, _, _, _, _, _, _,  _, _, _, _, _, _, _, _, _, _,  _, _, _, _, _, _, _, _, _, _, _, _, _, _, _,  n, rfl, rfl, H, h0, hp, hv⟩
theorem iv_init (z : Int32) : wY_init_171 (fun v => i_Rel 1 (z, 0, 0, 128, 0, 0, 0, 0, (-1), 0, (-1), 1, 0, (-1), 0, 0, (-1), (-1), (fun _ => 0), (fun _ => 0), (fun _ => 0), (fun _ => 0), (fun _ => 0), (fun _ => 0), (fun _ => 0), (fun _ => 0), (fun _ => 0), (fun _ => 0), (fun _ => 0), (fun _ => 0), (fun _ => 0), (fun _ => 0), (fun _ => 0), (fun _ => 0)) v) z 0 0 0 0 0 0 0 0 0 0 0 0 0 0 0 0 (fun _ => 0) (fun _ => 0) (fun _ => 0) (fun _ => 0) (fun _ => 0) (fun _ => 0) (fun _ => 0) (fun _ => 0) (fun _ => 0) (fun _ => 0) (fun _ => 0) (fun _ => 0) (fun _ => 0) (fun _ => 0) (fun _ => 0) (fun _ => 0) (fun _ => 0) 50000 50000 50000 50000 := by
  refine ⟨vp_in_nI (n := 0) (by omega) (by omega), fun ck e => ?_⟩
  refine iv_mk (n := 0) 1 ⟨by omega, fun i hi => by omega⟩ (by rw [e]; exact pk_us) (Or.inl rfl) (Or.inl ⟨rfl, rfl, rfl⟩)
end
theorem iv_50 : (50000 : Int32).toNatClampNeg = 50000 := nI_clamp (n := 50000) (by omega)
theorem iv_Y {post : SY → Prop} {k0 z : Int32} (hz : (1 ≤ k0 ∧ k0 ≤ 32 ∧ z = k0) ∨ (1 ≤ k0 ∧ ¬ k0 ≤ 32 ∧ z = 32) ∨ (¬ 1 ≤ k0 ∧ z = 1)) (h : wY_init_171 post z 0 0 0 0 0 0 0 0 0 0 0 0 0 0 0 0 (fun _ => 0) (fun _ => 0) (fun _ => 0) (fun _ => 0) (fun _ => 0) (fun _ => 0) (fun _ => 0) (fun _ => 0) (fun _ => 0) (fun _ => 0) (fun _ => 0) (fun _ => 0) (fun _ => 0) (fun _ => 0) (fun _ => 0) (fun _ => 0) (fun _ => 0) 50000 50000 50000 50000) : wpY_init post k0 := by
  refine ⟨by decide, nm_r iv_50 ⟨Nat.le_refl _, by decide, nm_r iv_50 ⟨Nat.le_refl _, by decide, nm_r iv_50 ⟨Nat.le_refl _, by decide, nm_r iv_50 ⟨Nat.le_refl _, ?_⟩⟩⟩⟩⟩
  rcases hz with ⟨a, b, e⟩ | ⟨a, b, e⟩ | ⟨a, e⟩
  · subst e; exact br_t a (br_t b h)
  · subst e; exact br_t a (br_f b h)
  · subst e; exact br_f a h
theorem i_vc0 (k0 : Int32) : wpX_init (fun u => wpY_init (fun v => i_Rel 1 u v) k0) k0 := by
  unfold wpX_init wpX_clamp
  by_cases a : 1 ≤ k0
  · refine br_t a ?_
    by_cases b : k0 ≤ 32
    · exact br_t b (iv_Y (Or.inl ⟨a, b, rfl⟩) (iv_init k0))
    · exact br_f b (iv_Y (Or.inr (Or.inl ⟨a, b, rfl⟩)) (iv_init 32))
  · exact br_f a (iv_Y (Or.inr (Or.inr ⟨a, rfl⟩)) (iv_init 1))
theorem i_vc_depthLimit {k : Nat} {u : SX} {v : SY} (I : i_Rel k u v) (hk : k + 3 ≤ 1537) : wpX_depthLimit (fun r => wpY_depthLimit (fun r' => r' = r ∧ i_Rel (k + 3) u v) v) u := by
  have I' := I
  obtain ⟨xdl, xpp, xvc, xcc, xfc, xoc, xag, xan, xex, xen, xfl, xac, xst, xsp, xmd, xrt, xcu, xtk, xtv, xaf, xro, xsc, xho, xvk, xvf, xvs, xcv, xco, xff, xfp, xfe, xfb, xop, ygs, ypo, yhp, yfs, yvp, yfu, yac, yrt, ycu, yhv, yus, ygk, yga, ygb, yck, yca, ycb, ycc, yfp, yfe, yfS, yfn, yfb, yvs, yds, n, rfl, rfl, H, h0, hp, hv⟩ := I
  exact ⟨rfl, I'⟩
theorem i_vc_clear {k : Nat} {u : SX} {v : SY} (I : i_Rel k u v) (hk : k + 3 ≤ 1537) : wpX_clear (fun u' => wpY_clear (fun v' => i_Rel (k + 3) u' v') v) u := by
  obtain ⟨xdl, xpp, xvc, xcc, xfc, xoc, xag, xan, xex, xen, xfl, xac, xst, xsp, xmd, xrt, xcu, xtk, xtv, xaf, xro, xsc, xho, xvk, xvf, xvs, xcv, xco, xff, xfp, xfe, xfb, xop, ygs, ypo, yhp, yfs, yvp, yfu, yac, yrt, ycu, yhv, yus, ygk, yga, ygb, yck, yca, ycb, ycc, yfp, yfe, yfS, yfn, yfb, yvs, yds, n, rfl, rfl, H, h0, hp, hv⟩ := I
  exact iv_mk (n := 0) (k + 3) ⟨by omega, fun i hi => by omega⟩ h0 (Or.inl rfl) (Or.inl ⟨rfl, rfl, rfl⟩)
theorem i_vc_tokenCount {k : Nat} {u : SX} {v : SY} (I : i_Rel k u v) (hk : k + 3 ≤ 1537) : wpX_tokenCount (fun r => wpY_tokenCount (fun r' => r' = r ∧ i_Rel (k + 3) u v) v) u := by
  have I' := I
  obtain ⟨xdl, xpp, xvc, xcc, xfc, xoc, xag, xan, xex, xen, xfl, xac, xst, xsp, xmd, xrt, xcu, xtk, xtv, xaf, xro, xsc, xho, xvk, xvf, xvs, xcv, xco, xff, xfp, xfe, xfb, xop, ygs, ypo, yhp, yfs, yvp, yfu, yac, yrt, ycu, yhv, yus, ygk, yga, ygb, yck, yca, ycb, ycc, yfp, yfe, yfS, yfn, yfb, yvs, yds, n, rfl, rfl, H, h0, hp, hv⟩ := I
  exact ⟨rfl, I'⟩
theorem i_vc_status {k : Nat} {u : SX} {v : SY} (I : i_Rel k u v) (hk : k + 3 ≤ 1537) : wpX_status (fun r => wpY_status (fun r' => r' = r ∧ i_Rel (k + 3) u v) v) u := by
  have I' := I
  obtain ⟨xdl, xpp, xvc, xcc, xfc, xoc, xag, xan, xex, xen, xfl, xac, xst, xsp, xmd, xrt, xcu, xtk, xtv, xaf, xro, xsc, xho, xvk, xvf, xvs, xcv, xco, xff, xfp, xfe, xfb, xop, ygs, ypo, yhp, yfs, yvp, yfu, yac, yrt, ycu, yhv, yus, ygk, yga, ygb, yck, yca, ycb, ycc, yfp, yfe, yfS, yfn, yfb, yvs, yds, n, rfl, rfl, H, h0, hp, hv⟩ := I
  exact ⟨rfl, I'⟩
theorem i_vc_steps {k : Nat} {u : SX} {v : SY} (I : i_Rel k u v) (hk : k + 3 ≤ 1537) : wpX_steps (fun r => wpY_steps (fun r' => r' = r ∧ i_Rel (k + 3) u v) v) u := by
  have I' := I
  obtain ⟨xdl, xpp, xvc, xcc, xfc, xoc, xag, xan, xex, xen, xfl, xac, xst, xsp, xmd, xrt, xcu, xtk, xtv, xaf, xro, xsc, xho, xvk, xvf, xvs, xcv, xco, xff, xfp, xfe, xfb, xop, ygs, ypo, yhp, yfs, yvp, yfu, yac, yrt, ycu, yhv, yus, ygk, yga, ygb, yck, yca, ycb, ycc, yfp, yfe, yfS, yfn, yfb, yvs, yds, n, rfl, rfl, H, h0, hp, hv⟩ := I
  exact ⟨rfl, I'⟩
theorem i_vc_maxDepth {k : Nat} {u : SX} {v : SY} (I : i_Rel k u v) (hk : k + 3 ≤ 1537) : wpX_maxDepth (fun r => wpY_maxDepth (fun r' => r' = r ∧ i_Rel (k + 3) u v) v) u := by
  have I' := I
  obtain ⟨xdl, xpp, xvc, xcc, xfc, xoc, xag, xan, xex, xen, xfl, xac, xst, xsp, xmd, xrt, xcu, xtk, xtv, xaf, xro, xsc, xho, xvk, xvf, xvs, xcv, xco, xff, xfp, xfe, xfb, xop, ygs, ypo, yhp, yfs, yvp, yfu, yac, yrt, ycu, yhv, yus, ygk, yga, ygb, yck, yca, ycb, ycc, yfp, yfe, yfS, yfn, yfb, yvs, yds, n, rfl, rfl, H, h0, hp, hv⟩ := I
  exact ⟨rfl, I'⟩
section
variable {xdl xtn xpp xvc xcc xfc xoc xag xan xex xen xfl xac xst xsp xmd xrt xcu : Int32} {xtk xtv xaf xro xsc xho xvk xvf xvs xcv xco xff xfp xfe xfb xop : Nat → Int32} {yli yn ypr ygs ypo yhp yfs yvp yfu ysp ymd yac yst yrt ycu yhv : Int32} {ytk ytv yus ygk yga ygb yck yca ycb ycc yfp yfe yfS yfn yfb yvs yds : Nat → Int32} {ynk yna ynb ync : Nat} {n : Nat}
theorem iv_55 (H : tk_ok xtk n) {v1 z0 : Int32} {k : Nat} (hn : n < 64) (h0 : yck 0 = 2) (hk : ∃ k : Nat, 1 ≤ k ∧ k ≤ 20 ∧ v1 = nI k) {J : Int32 → SX → Prop} (hJ : ∀ xr, wY_token_55 (fun r' v' => r' = 1 ∧ i_Rel (k + 3) xr v') z0 (nI n) xdl (nI n) xpp ygs ypo yhp yfs yvp yfu xsp xmd yac xst yrt ycu yhv (upd xtk n v1) xtv yus ygk yga ygb yck yca ycb ycc yfp yfe yfS yfn yfb yvs yds 50000 50000 50000 50000 → J 1 xr) :
    wX_token_55 J z0 (nI n) xdl (nI n) xpp xvc xcc xfc xoc xag xan xex xen xfl xac xst xsp xmd xrt xcu (upd xtk n v1) xtv xaf xro xsc xho xvk xvf xvs xcv xco xff xfp xfe xfb xop := by
  have hi : vp_in (nI n) 64 := vp_in_nI hn (by omega)
  have hc : (nI n).toNatClampNeg = n := nI_clamp (by omega)
  refine ⟨hi, fun tv e => nm_r (nI_1 n) (hJ _ ⟨hi, fun tv' e' => nm_r (nI_1 n) ⟨rfl, ?_⟩⟩)⟩
  have et : tv' = tv := by rw [e, e']
  subst et
  refine iv_mk (n := n + 1) (k + 3) ⟨by omega, fun i hi => ?_⟩ h0 (Or.inl rfl) (Or.inl ⟨rfl, rfl, rfl⟩)
  by_cases z : i = n
  · obtain ⟨kk, a, b, c⟩ := hk
    exact ⟨kk, a, b, by rw [z, pk_us]; exact c⟩
  · obtain ⟨kk, a, b, c⟩ := H.2 i (by omega)
    exact ⟨kk, a, b, by rw [pk_un z]; exact c⟩
end
theorem i_vc_token {k : Nat} {u : SX} {v : SY} (I : i_Rel k u v) (hk : k + 3 ≤ 1537) (v1 : Int32) (v2 : Int32) : wpX_token (fun r u' => wpY_token (fun r' v' => r' = r ∧ i_Rel (k + 3) u' v') v v1 v2) u v1 v2 := by
  have I' := I
  obtain ⟨xdl, xpp, xvc, xcc, xfc, xoc, xag, xan, xex, xen, xfl, xac, xst, xsp, xmd, xrt, xcu, xtk, xtv, xaf, xro, xsc, xho, xvk, xvf, xvs, xcv, xco, xff, xfp, xfe, xfb, xop, ygs, ypo, yhp, yfs, yvp, yfu, yac, yrt, ycu, yhv, yus, ygk, yga, ygb, yck, yca, ycb, ycc, yfp, yfe, yfS, yfn, yfb, yvs, yds, n, rfl, rfl, H, h0, hp, hv⟩ := I
  by_cases a : v1 < 1
  · exact br_t a (br_t a ⟨rfl, I'⟩)
  · by_cases b : 20 < v1
    · exact br_f a (br_t b (br_f a (br_t b ⟨rfl, I'⟩)))
    · have hn := H.1
      have hkk : ∃ k : Nat, 1 ≤ k ∧ k ≤ 20 ∧ v1 = nI k := by
        obtain ⟨j, hj, e⟩ := nI_of (x := v1) (fun z => a (by
          rw [Int32.lt_iff_toInt_lt] at z ⊢
          have e1 : (1 : Int32).toInt = 1 := by decide
          have e0 : (0 : Int32).toInt = 0 := by decide
          omega))
        subst e
        refine ⟨j, ?_, ?_, rfl⟩
        · rcases Nat.lt_or_ge j 1 with z | z
          · exact absurd ((nI_ltI (b := 1) (by omega) (by omega)).mpr z) a
          · exact z
        · rcases Nat.lt_or_ge 20 j with z | z
          · exact absurd ((nI_ltI (a := 20) (by omega) (by omega)).mpr z) b
          · exact z
      by_cases c : n < 64
      · have hlt : nI n < 64 := (nI_ltI (b := 64) (by omega) (by omega)).mpr c
        have hi : vp_in (nI n) 64 := vp_in_nI c (by omega)
        have hc : (nI n).toNatClampNeg = n := nI_clamp (by omega)
        refine br_f a (br_f b (br_t hlt ⟨hi, nm_r (by rw [hc]) ?_⟩))
        by_cases k3 : v1 = 3
        · exact br_t k3 (iv_55 H c h0 hkk (fun xr w => br_f a (br_f b (br_t hlt ⟨hi, nm_r (by rw [hc]) (br_t k3 w)⟩))))
        · by_cases k4 : v1 = 4
          · exact br_f k3 (br_t k4 (iv_55 H c h0 hkk (fun xr w => br_f a (br_f b (br_t hlt ⟨hi, nm_r (by rw [hc]) (br_f k3 (br_t k4 w))⟩)))))
          · exact br_f k3 (br_f k4 (iv_55 H c h0 hkk (fun xr w => br_f a (br_f b (br_t hlt ⟨hi, nm_r (by rw [hc]) (br_f k3 (br_f k4 w))⟩)))))
      · have hlt : ¬ nI n < 64 := fun z => c ((nI_ltI (b := 64) (by omega) (by omega)).mp z)
        exact br_f a (br_f b (br_f hlt (br_f a (br_f b (br_f hlt ⟨rfl, I'⟩)))))
theorem i_vc_compile {k : Nat} {u : SX} {v : SY} (I : i_Rel k u v) (hk : k + 3 ≤ 1537) : wpX_compile (fun r u' => wpY_compile (fun r' v' => r' = r ∧ i_Rel (k + 3) u' v') v) u := by
  obtain ⟨xdl, xpp, xvc, xcc, xfc, xoc, xag, xan, xex, xen, xfl, xac, xst, xsp, xmd, xrt, xcu, xtk, xtv, xaf, xro, xsc, xho, xvk, xvf, xvs, xcv, xco, xff, xfp, xfe, xfb, xop, ygs, ypo, yhp, yfs, yvp, yfu, yac, yrt, ycu, yhv, yus, ygk, yga, ygb, yck, yca, ycb, ycc, yfp, yfe, yfS, yfn, yfb, yvs, yds, n, rfl, rfl, H, h0, hp, hv⟩ := I
  refine xc_comp H (fun af ro no => ?_) (fun af ro sc ho par n0 I0 A W hC ex => ?_) (fun af ro sc ho vk vf vs C => ?_)
  · exact yc_neg H no (fun us' gs' po' gk' ga' gb' => ⟨rfl, iv_mk (k + 3) H h0 (Or.inl rfl) (Or.inl ⟨rfl, rfl, rfl⟩)⟩)
  · have hrn : ∀ c, xr_c n ro c ≠ 0 → c < n := fun c hc => by
      rcases Nat.lt_or_ge c n with z | z
      · exact z
      · exact absurd (xr_out z) hc
    refine yc_pos H n0 I0 (fun i hi hk => (A i hi hk).1) hrn W hC (fun _ us' gs' po' gk' ga' gb' => ⟨rfl, iv_mk (k + 3) H h0 (Or.inl rfl) (Or.inl ⟨rfl, rfl, rfl⟩)⟩) (fun w => ?_)
    obtain ⟨i, a, b, c, d⟩ := ex
    exact absurd (w i a b c) d
  · have C' := C
    obtain ⟨par, n0, I0, A, W, hC, s0, sL, hO, L⟩ := C
    have hrn : ∀ c, xr_c n ro c ≠ 0 → c < n := fun c hc => by
      rcases Nat.lt_or_ge c n with z | z
      · exact z
      · exact absurd (xr_out z) hc
    refine yc_pos H n0 I0 (fun i hi hk => (A i hi hk).1) hrn W hC (fun ex => ?_) (fun _ us' gs' po' gk' ga' gb' => ⟨rfl, iv_mk (k + 3) H h0 (Or.inr ⟨rfl, C'⟩) (Or.inl ⟨rfl, rfl, rfl⟩)⟩)
    obtain ⟨i, a, b, c, d⟩ := ex
    exact absurd (hO i a b c).2 d
