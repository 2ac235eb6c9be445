section
variable {xdl xtn xpp xvc xcc xfc xoc xag xan xex xen xfl xac xst xsp xmd xrt xcu : Int32} {xtk xtv xaf xro xsc xho xvk xvf xvs xcv xco xff xfp xfe xfb xop : Nat → Int32} {yli yn ypr ygs ypo yhp yfs yvp yfu ysp ymd yac yst yrt ycu yhv : Int32} {ytk ytv yus ygk yga ygb yck yca ycb ycc yfp yfe yfS yfn yfb yvs yds : Nat → Int32} {ynk yna ynb ync : Nat} {n : Nat}
theorem iv_55 (H : tk_ok xtk n) {v1 z0 : Int32} {k : Nat} (hn : n < 64) (h0 : yck 0 = 2) (hk : ∃ k : Nat, 1 ≤ k ∧ k ≤ 20 ∧ v1 = nI k) {J : Int32 → SX → Prop} (hJ : ∀ xr, wY_token_55 (fun r' v' => r' = 1 ∧ i_Rel (k + 3) xr v') z0 (nI n) xdl (nI n) xpp ygs ypo yhp yfs yvp yfu xsp xmd yac xst yrt ycu yhv (upd xtk n v1) xtv yus ygk yga ygb yck yca ycb ycc yfp yfe yfS yfn yfb yvs yds 50000 50000 50000 50000 → J 1 xr) :
    wX_token_55 J z0 (nI n) xdl (nI n) xpp xvc xcc xfc xoc xag xan xex xen xfl xac xst xsp xmd xrt xcu (upd xtk n v1) xtv xaf xro xsc xho xvk xvf xvs xcv xco xff xfp xfe xfb xop := by
  have hi : vp_in (nI n) 64 := vp_in_nI hn (by omega)
  have hc : (nI n).toNatClampNeg = n := nI_clamp (by omega)
  refine ⟨hi, fun tv e => nm_r (nI_1 n) (hJ _ ⟨hi, fun tv' e' => nm_r (nI_1 n) ⟨rfl, ?_⟩⟩)⟩
  have et : tv' = tv := by rw [e, e']
  subst et
  refine iv_mk (n := n + 1) (k + 3) ⟨by omega, fun i hi => ?_⟩ h0 (Or.inl rfl) (Or.inl ⟨rfl, rfl, rfl⟩)
  by_cases z : i = n
  · obtain ⟨kk, a, b, c⟩ := hk
    exact ⟨kk, a, b, by rw [z, pk_us]; exact c⟩
  · obtain ⟨kk, a, b, c⟩ := H.2 i (by omega)
    exact ⟨kk, a, b, by rw [pk_un z]; exact c⟩
end
theorem i_vc_token {k : Nat} {u : SX} {v : SY} (I : i_Rel k u v) (hk : k + 3 ≤ 1537) (v1 : Int32) (v2 : Int32) : wpX_token (fun r u' => wpY_token (fun r' v' => r' = r ∧ i_Rel (k + 3) u' v') v v1 v2) u v1 v2 := by
  refine iv_el I (P := fun u v => wpX_token (fun r u' => wpY_token (fun r' v' => r' = r ∧ i_Rel (k + 3) u' v') v v1 v2) u v1 v2) ?_
  intro xdl xpp xvc xcc xfc xoc xag xan xex xen xfl xac xst xsp xmd xrt xcu xtk xtv xaf xro xsc xho xvk xvf xvs xcv xco xff xfp xfe xfb xop ygs ypo yhp yfs yvp yfu yac yrt ycu yhv yus ygk yga ygb yck yca ycb ycc yfp yfe yfS yfn yfb yvs yds n I' H h0 hp hv
  by_cases a : v1 < 1
  · exact br_t a (br_t a ⟨rfl, I'⟩)
  · by_cases b : 20 < v1
    · exact br_f a (br_t b (br_f a (br_t b ⟨rfl, I'⟩)))
    · have hn := H.1
      have hkk : ∃ k : Nat, 1 ≤ k ∧ k ≤ 20 ∧ v1 = nI k := by
        obtain ⟨j, hj, e⟩ := nI_of (x := v1) (fun z => a (by
          rw [Int32.lt_iff_toInt_lt] at z ⊢
          have e1 : (1 : Int32).toInt = 1 := by decide
          have e0 : (0 : Int32).toInt = 0 := by decide
          omega))
        subst e
        refine ⟨j, ?_, ?_, rfl⟩
        · rcases Nat.lt_or_ge j 1 with z | z
          · exact absurd ((nI_ltI (b := 1) (by omega) (by omega)).mpr z) a
          · exact z
        · rcases Nat.lt_or_ge 20 j with z | z
          · exact absurd ((nI_ltI (a := 20) (by omega) (by omega)).mpr z) b
          · exact z
      by_cases c : n < 64
      · have hlt : nI n < 64 := (nI_ltI (b := 64) (by omega) (by omega)).mpr c
        have hi : vp_in (nI n) 64 := vp_in_nI c (by omega)
        have hc : (nI n).toNatClampNeg = n := nI_clamp (by omega)
        refine br_f a (br_f b (br_t hlt ⟨hi, nm_r (by rw [hc]) ?_⟩))
        by_cases k3 : v1 = 3
        · exact br_t k3 (iv_55 H c h0 hkk (fun xr w => br_f a (br_f b (br_t hlt ⟨hi, nm_r (by rw [hc]) (br_t k3 w)⟩))))
        · by_cases k4 : v1 = 4
          · exact br_f k3 (br_t k4 (iv_55 H c h0 hkk (fun xr w => br_f a (br_f b (br_t hlt ⟨hi, nm_r (by rw [hc]) (br_f k3 (br_t k4 w))⟩)))))
          · exact br_f k3 (br_f k4 (iv_55 H c h0 hkk (fun xr w => br_f a (br_f b (br_t hlt ⟨hi, nm_r (by rw [hc]) (br_f k3 (br_f k4 w))⟩)))))
      · have hlt : ¬ nI n < 64 := fun z => c ((nI_ltI (b := 64) (by omega) (by omega)).mp z)
        exact br_f a (br_f b (br_f hlt (br_f a (br_f b (br_f hlt ⟨rfl, I'⟩)))))
