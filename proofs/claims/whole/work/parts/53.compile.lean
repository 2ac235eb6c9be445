theorem i_vc_compile {k : Nat} {u : SX} {v : SY} (I : i_Rel k u v) (hk : k + 3 ≤ 1537) : wpX_compile (fun r u' => wpY_compile (fun r' v' => r' = r ∧ i_Rel (k + 3) u' v') v) u := by
  refine iv_el I (P := fun u v => wpX_compile (fun r u' => wpY_compile (fun r' v' => r' = r ∧ i_Rel (k + 3) u' v') v) u) ?_
  intro xdl xpp xvc xcc xfc xoc xag xan xex xen xfl xac xst xsp xmd xrt xcu xtk xtv xaf xro xsc xho xvk xvf xvs xcv xco xff xfp xfe xfb xop ygs ypo yhp yfs yvp yfu yac yrt ycu yhv yus ygk yga ygb yck yca ycb ycc yfp yfe yfS yfn yfb yvs yds n I' H h0 hp hv
  refine xc_comp H (fun af ro no => ?_) (fun af ro sc ho par n0 I0 A W hC ex => ?_) (fun af ro sc ho vk vf vs C => ?_)
  · exact yc_neg H no (fun us' gs' po' gk' ga' gb' => ⟨rfl, iv_mk (k + 3) H h0 (Or.inl rfl) (Or.inl ⟨rfl, rfl, rfl⟩)⟩)
  · have hrn : ∀ c, xr_c n ro c ≠ 0 → c < n := fun c hc => by
      rcases Nat.lt_or_ge c n with z | z
      · exact z
      · exact absurd (xr_out z) hc
    refine yc_pos H n0 I0 (fun i hi hk => (A i hi hk).1) hrn W hC (fun _ us' gs' po' gk' ga' gb' => ⟨rfl, iv_mk (k + 3) H h0 (Or.inl rfl) (Or.inl ⟨rfl, rfl, rfl⟩)⟩) (fun w => ?_)
    obtain ⟨i, a, b, c, d⟩ := ex
    exact absurd (w i a b c) d
  · have C' := C
    obtain ⟨par, n0, I0, A, W, hC, s0, sL, hO, L⟩ := C
    have hrn : ∀ c, xr_c n ro c ≠ 0 → c < n := fun c hc => by
      rcases Nat.lt_or_ge c n with z | z
      · exact z
      · exact absurd (xr_out z) hc
    refine yc_pos H n0 I0 (fun i hi hk => (A i hi hk).1) hrn W hC (fun ex => ?_) (fun _ us' gs' po' gk' ga' gb' => ⟨rfl, iv_mk (k + 3) H h0 (Or.inr ⟨rfl, C'⟩) (Or.inl ⟨rfl, rfl, rfl⟩)⟩)
    obtain ⟨i, a, b, c, d⟩ := ex
    exact absurd (hO i a b c).2 d
