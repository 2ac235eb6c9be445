/-! a run from its start: one outcome for every object that holds the program -/
theorem rn_P {xtk xtv xaf xro xsc xho xvk xvf xvs : Nat → Int32} {n : Nat} (H : tk_ok xtk n) (C : cp_P xtk xtv n xaf xro xsc xho xvk xvf xvs) :
    ∃ par, pq_F xtk xtv n (xr_c n xro) xsc (fun i => (xho i).toNatClampNeg) par ∧ 0 < n ∧ xr_c n xro 0 = 1 ∧ xsc 0 = -1 ∧ lt_L (tk_K xtk n) xtv (sk_f (tk_K xtk n) n) (xr_c n xro) xvk xvf xvs n := by
  obtain ⟨par, n0, I0, A, W, hC, s0, sL, hO, L⟩ := C
  refine ⟨par, ⟨H, fun i hi hk => (A i hi hk).1, W, sL, fun i a b c => ?_⟩, n0, W.2.2.2.2, s0, L⟩
  obtain ⟨⟨l, hh, p1, p2, p3, p4, p5⟩, _⟩ := hO i a b c
  have hl := sc_Fl p4
  have H1 := H.1
  refine ⟨l, p1, ?_, p5⟩
  show (xho i).toNatClampNeg < l.length
  rw [p3, nI_clamp (by omega)]; exact hl
theorem rn_O {xtk xtv xaf xro xsc xho xvk xvf xvs yaf yro ysc yho yvk yvf yvs : Nat → Int32} {n : Nat} (H : tk_ok xtk n) (C : cp_P xtk xtv n xaf xro xsc xho xvk xvf xvs) (C' : cp_P xtk xtv n yaf yro ysc yho yvk yvf yvs) :
    sg_P xtk xtv n (xr_c n xro) (fun i => (xho i).toNatClampNeg) yaf yro ysc yho ∧ lt_L (tk_K xtk n) xtv (sk_f (tk_K xtk n) n) (xr_c n xro) yvk yvf yvs n := by
  obtain ⟨par, n0, I0, A, W, hC, s0, sL, hO, L⟩ := C
  obtain ⟨par', n0', I0', A', W', hC', s0', sL', hO', L'⟩ := C'
  have H1 := H.1
  have er : xr_c n yro = xr_c n xro := by
    funext c
    rcases Nat.lt_or_ge c n with z | z
    · exact (uq_r W W' c z).symm
    · rw [xr_out z, xr_out z]
  rw [er] at W' hC' sL' hO' L'
  have hs := uq_s W (s0.trans s0'.symm) sL sL'
  refine ⟨⟨A', fun i a b c => ?_, fun vk vf vs L2 => ⟨par', n0', I0', A', by rw [er]; exact W', by rw [er]; exact hC', s0', by rw [er]; exact sL', by rw [er]; exact hO', by rw [er]; exact L2⟩⟩, L'⟩
  obtain ⟨⟨l, hh, p1, p2, p3, p4, p5⟩, _⟩ := hO i a b c
  obtain ⟨⟨l', hh', p1', p2', p3', p4', p5'⟩, _⟩ := hO' i a b c
  rw [← hs i a (Or.inl b)] at p1'
  have el := uq_H H1 (fun m hm => hs m (by
    rcases Nat.lt_or_ge m n with z | z
    · exact z
    · have q := (p2 m hm).1
      rw [xr_out z] at q
      exact absurd q (by decide)) (Or.inr (p2 m hm).1)) p1 p1'
  subst el
  have eh := uq_F p4 p4'
  subst eh
  have hl := sc_Fl p4
  show yho i = nI (xho i).toNatClampNeg
  rw [p3, nI_clamp (by omega)]; exact p3'
section
variable {xdl xtn xpp xvc xcc xfc xoc xag xan xex xen xfl xac xst xsp xmd xrt xcu : Int32} {xtk xtv xaf xro xsc xho xvk xvf xvs xcv xco xff xfp xfe xfb xop : Nat → Int32} {n : Nat}
theorem rn_T {dl : Int32} (H : tk_ok xtk n) (C : cp_P xtk xtv n xaf xro xsc xho xvk xvf xvs) : sp_T dl xtk xtv n 0 0 (sg_E dl xtk xtv n (xr_c n xro) (fun i => (xho i).toNatClampNeg) (hp_L (tk_K xtk n) (xr_c n xro) n) 128 0 0 0 0 0 (-1) 0 0 xvk xvf xvs xcv xco xff xfp xfe xfb xop) := by
  obtain ⟨par, PG, n0, r0, s0, L⟩ := rn_P H C
  have hrn : ∀ c, xr_c n xro c ≠ 0 → c < n := fun c hc => by
    rcases Nat.lt_or_ge c n with z | z
    · exact z
    · exact absurd (xr_out z) hc
  exact (sp_main PG 901 900 (by omega)).1 (hp_L (tk_K xtk n) (xr_c n xro) n) (fun _ => 0) 128 0 0 0 0 0 0 0 (-1) 0 0 xvk xvf xvs xcv xco xff xfp xfe xfb xop (by omega) ⟨⟨fun i hi => lt_V H.1 PG.2.2.1 hrn L i hi, fun c hc => by omega, fun i hi => hi⟩, fun k hk => by omega, ⟨rfl, rfl⟩, by unfold sn_N; omega⟩ n0 r0 (Or.inl ⟨rfl, s0⟩)
/-- the call of run -/
theorem rn_run {v1 : Int32} {F : Nat} {post : Int32 → SX → Prop} (hc : (1 ≤ v1 ∧ v1 ≤ 400 ∧ v1 = nI F) ∨ (1 ≤ v1 ∧ ¬ v1 ≤ 400 ∧ nI F = 400) ∨ (¬ 1 ≤ v1 ∧ nI F = 1))
    (h : rx_L post 1000 (nI 0) (xdl, xtn, 1, nI 128, nI 0, nI 0, nI 0, 0, xan, nI 0, -1, nI F, 0, -1, nI 0, 0, -1, -1, xtk, xtv, xaf, xro, xsc, xho, xvk, xvf, xvs, xcv, xco, xff, xfp, xfe, xfb, xop)) : wpX_run post (xdl, xtn, 1, xvc, xcc, xfc, xoc, xag, xan, xex, xen, xfl, xac, xst, xsp, xmd, xrt, xcu, xtk, xtv, xaf, xro, xsc, xho, xvk, xvf, xvs, xcv, xco, xff, xfp, xfe, xfb, xop) v1 := by
  refine br_f (by decide) ?_
  unfold wpX_startRun wpX_forgetResult wpX_clamp wpX_evaluate
  dsimp only
  have h' : wX_run_16 post 1000 (nI 0) xdl xtn 1 (nI 128) (nI 0) (nI 0) (nI 0) 0 xan (nI 0) (-1) (nI F) 0 (-1) (nI 0) 0 (-1) (-1) xtk xtv xaf xro xsc xho xvk xvf xvs xcv xco xff xfp xfe xfb xop := h
  rcases hc with ⟨a, b, e⟩ | ⟨a, b, e⟩ | ⟨a, e⟩
  · rw [← e] at h'; exact br_t a (br_t b ⟨1000, h'⟩)
  · rw [e] at h'; exact br_t a (br_f b ⟨1000, h'⟩)
  · rw [e] at h'; exact br_f a ⟨1000, h'⟩
end
/-- every run of the program: its outcome by the fuel alone -/
theorem rn_all {dl : Int32} {tk tv : Nat → Int32} {n : Nat} {u0 : SX} (H : tk_ok tk n) (h0 : dq_OK dl tk tv n u0) :
    ∃ (se : Nat) (r md w : Int32) (VP : Nat → Prop) (vk vf vs : Nat → Int32), 1 ≤ se ∧ r ≠ 4 ∧ fq_G (tk_K tk n) (sk_f (tk_K tk n) n) n VP vk vf vs ∧ (w = -1 ∨ ∃ a, w = nI a ∧ VP a) ∧
      ∀ (u : SX) (v1 : Int32) (F : Nat) (post : Int32 → SX → Prop), dq_OK dl tk tv n u → F ≤ 400 → ((1 ≤ v1 ∧ v1 ≤ 400 ∧ v1 = nI F) ∨ (1 ≤ v1 ∧ ¬ v1 ≤ 400 ∧ nI F = 400) ∨ (¬ 1 ≤ v1 ∧ nI F = 1)) →
        (F < se → (∀ u', dq_OK dl tk tv n u' → sx_sp u' = nI F → post 4 u') → wpX_run post u v1) ∧ (se ≤ F → (∀ u', fq_S dl tk tv n r se md VP vk vf vs w w u' → post r u') → wpX_run post u v1) := by
  obtain ⟨xvc, xcc, xfc, xoc, xag, xan, xex, xen, xfl, xac, xst, xsp, xmd, xrt, xcu, xaf, xro, xsc, xho, xvk, xvf, xvs, xcv, xco, xff, xfp, xfe, xfb, xop, _, C⟩ := h0
  obtain ⟨se, r, md, w, VP, vk, vf, vs, a1, a2, a3, a4, a5, T⟩ := rn_T (dl := dl) (xcv := xcv) (xco := xco) (xff := xff) (xfp := xfp) (xfe := xfe) (xfb := xfb) (xop := xop) H C
  refine ⟨se, r, md, w, VP, vk, vf, vs, a2, a3, a4, a5, fun u v1 F post hu hF hc => ?_⟩
  obtain ⟨zvc, zcc, zfc, zoc, zag, zan, zex, zen, zfl, zac, zst, zsp, zmd, zrt, zcu, zaf, zro, zsc, zho, zvk, zvf, zvs, zcv, zco, zff, zfp, zfe, zfb, zop, rfl, C'⟩ := hu
  obtain ⟨P', L'⟩ := rn_O H C C'
  have L := (rn_P H C).choose_spec.2.2.2.2
  have key := fun post => T F _ post 1000 (by omega) hF ⟨zan, zaf, zro, zsc, zho, zvk, zvf, zvs, zcv, zco, zff, zfp, zfe, zfb, zop, rfl, P', L', fun i hi => lt_ag L L' i hi, fun c hc => by omega, fun i hi => by omega, fun i hi => by omega⟩ (by omega)
  exact ⟨fun hl hp => rn_run hc ((key post).1 hl hp), fun hl hp => rn_run hc ((key post).2 hl hp)⟩
