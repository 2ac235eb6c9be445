/-! the twelve questions, the three runs -/
def lw_78 (post : Int32 → Prop) (L : Nat) (xs : Nat → Int32) (x8 x9 : Int32) (kc ks m : Nat) (x10 : Int32) (g0 g1 : SX) : Prop := match g0, g1 with
  | (xdl, xtn, xpp, xvc, xcc, xfc, xoc, xag, xan, xex, xen, xfl, xac, xst, xsp, xmd, xrt, xcu, xtk, xtv, xaf, xro, xsc, xho, xvk, xvf, xvs, xcv, xco, xff, xfp, xfe, xfb, xop), (zdl, ztn, zpp, zvc, zcc, zfc, zoc, zag, zan, zex, zen, zfl, zac, zst, zsp, zmd, zrt, zcu, ztk, ztv, zaf, zro, zsc, zho, zvk, zvf, zvs, zcv, zco, zff, zfp, zfe, zfb, zop) => wL_law_1378 post L xs x8 x9 kc ks m x10 xdl xtn xpp xvc xcc xfc xoc xag xan xex xen xfl xac xst xsp xmd xrt xcu xtk xtv xaf xro xsc xho xvk xvf xvs xcv xco xff xfp xfe xfb xop zdl ztn zpp zvc zcc zfc zoc zag zan zex zen zfl zac zst zsp zmd zrt zcu ztk ztv zaf zro zsc zho zvk zvf zvs zcv zco zff zfp zfe zfb zop
def lw_36 (post : Int32 → Prop) (L : Nat) (xs : Nat → Int32) (x8 x9 : Int32) (kc ks m : Nat) (x10 : Int32) (d : Nat) (x16 : Int32) (g0 g1 : SX) : Prop := match g0, g1 with
  | (xdl, xtn, xpp, xvc, xcc, xfc, xoc, xag, xan, xex, xen, xfl, xac, xst, xsp, xmd, xrt, xcu, xtk, xtv, xaf, xro, xsc, xho, xvk, xvf, xvs, xcv, xco, xff, xfp, xfe, xfb, xop), (zdl, ztn, zpp, zvc, zcc, zfc, zoc, zag, zan, zex, zen, zfl, zac, zst, zsp, zmd, zrt, zcu, ztk, ztv, zaf, zro, zsc, zho, zvk, zvf, zvs, zcv, zco, zff, zfp, zfe, zfb, zop) => wL_law_1536 post L xs (wL_law_1378 post L xs x8 x9 kc ks m) x8 x9 x10 kc ks d x16 xdl xtn xpp xvc xcc xfc xoc xag xan xex xen xfl xac xst xsp xmd xrt xcu xtk xtv xaf xro xsc xho xvk xvf xvs xcv xco xff xfp xfe xfb xop zdl ztn zpp zvc zcc zfc zoc zag zan zex zen zfl zac zst zsp zmd zrt zcu ztk ztv zaf zro zsc zho zvk zvf zvs zcv zco zff zfp zfe zfb zop
theorem fq_dq {dl : Int32} {tk tv : Nat → Int32} {n : Nat} {r : Int32} {se : Nat} {md : Int32} {VP : Nat → Prop} {pvk pvf pvs : Nat → Int32} {wr wc : Int32} {u : SX} (h : fq_S dl tk tv n r se md VP pvk pvf pvs wr wc u) : dq_OK dl tk tv n u := by
  obtain ⟨xvc, xcc, xfc, xoc, xag, xan, xex, xen, xfl, xac, xaf, xro, xsc, xho, xvk, xvf, xvs, xcv, xco, xff, xfp, xfe, xfb, xop, e, C, _⟩ := h
  exact ⟨_, _, _, _, _, _, _, _, _, _, _, _, _, _, _,  _, _, _, _, _, _, _, _, _, _, _, _, _, _,  e, C⟩
section
variable {post : Int32 → Prop} {L : Nat} {xs : Nat → Int32} {x8 x9 x10 : Int32} {kc ks m : Nat} {dl : Int32} {tk tv : Nat → Int32} {n : Nat} {r : Int32} {se : Nat} {md : Int32} {VP : Nat → Prop} {pvk pvf pvs : Nat → Int32} {wr : Int32}
theorem lq_loop (hL : L ≤ 260) (H : tk_ok tk n) (G : fq_G (tk_K tk n) (sk_f (tk_K tk n) n) n VP pvk pvf pvs) (hr : cu_W VP wr) (h : ∀ u v, dq_OK dl tk tv n u → dq_OK dl tk tv n v → lw_78 post L xs x8 x9 kc ks m (x10 + 1) u v) :
    ∀ (d k : Nat) (wc : Int32) (u v : SX), k + d = 12 → cu_W VP wc → fq_S dl tk tv n r se md VP pvk pvf pvs wr wc u → fq_S dl tk tv n r se md VP pvk pvf pvs wr wc v → lw_36 post L xs x8 x9 kc ks m x10 (d + 1) (nI k) u v := by
  intro d
  induction d with
  | zero =>
    intro k wc u v e hc hu hv
    have h' := h u v (fq_dq hu) (fq_dq hv)
    obtain ⟨xdl, xtn, xpp, xvc, xcc, xfc, xoc, xag, xan, xex, xen, xfl, xac, xst, xsp, xmd, xrt, xcu, xtk, xtv, xaf, xro, xsc, xho, xvk, xvf, xvs, xcv, xco, xff, xfp, xfe, xfb, xop⟩ := u
    obtain ⟨zdl, ztn, zpp, zvc, zcc, zfc, zoc, zag, zan, zex, zen, zfl, zac, zst, zsp, zmd, zrt, zcu, ztk, ztv, zaf, zro, zsc, zho, zvk, zvf, zvs, zcv, zco, zff, zfp, zfe, zfb, zop⟩ := v
    exact pk_le 12 k (fun _ => nm_e h') (fun z => by omega)
  | succ d ih =>
    intro k wc u v e hc hu hv
    obtain ⟨a1, Q1⟩ := cu_Q1 (dl := dl) (tv := tv) (r := r) (se := se) (md := md) (wr := wr) G hc
    obtain ⟨a2, Q2⟩ := cu_Q2 (dl := dl) (tv := tv) (r := r) (se := se) (md := md) (wr := wr) H G hc
    obtain ⟨a3, Q3⟩ := cu_Q3 (dl := dl) (tv := tv) (r := r) (se := se) (md := md) (wr := wr) G hc
    obtain ⟨a4, w4, c4, Q4⟩ := cu_Q4 (dl := dl) (tk := tk) (tv := tv) (n := n) (r := r) (se := se) (md := md) (pvk := pvk) (pvf := pvf) (pvs := pvs) hr hc
    obtain ⟨a5, w5, c5, Q5⟩ := cu_Q5 (dl := dl) (tv := tv) (r := r) (se := se) (md := md) (wr := wr) G hc
    obtain ⟨a6, w6, c6, Q6⟩ := cu_Q6 (dl := dl) (tv := tv) (r := r) (se := se) (md := md) (wr := wr) G hc
    have go' := ih (k + 1) wc u v (by omega) hc hu hv
    obtain ⟨xdl, xtn, xpp, xvc, xcc, xfc, xoc, xag, xan, xex, xen, xfl, xac, xst, xsp, xmd, xrt, xcu, xtk, xtv, xaf, xro, xsc, xho, xvk, xvf, xvs, xcv, xco, xff, xfp, xfe, xfb, xop⟩ := u
    obtain ⟨zdl, ztn, zpp, zvc, zcc, zfc, zoc, zag, zan, zex, zen, zfl, zac, zst, zsp, zmd, zrt, zcu, ztk, ztv, zaf, zro, zsc, zho, zvk, zvf, zvs, zcv, zco, zff, zfp, zfe, zfb, zop⟩ := v
    have go : wL_law_1536 post L xs (wL_law_1378 post L xs x8 x9 kc ks m) x8 x9 x10 kc ks (d + 1) (nI (k + 1)) xdl xtn xpp xvc xcc xfc xoc xag xan xex xen xfl xac xst xsp xmd xrt xcu xtk xtv xaf xro xsc xho xvk xvf xvs xcv xco xff xfp xfe xfb xop zdl ztn zpp zvc zcc zfc zoc zag zan zex zen zfl zac zst zsp zmd zrt zcu ztk ztv zaf zro zsc zho zvk zvf zvs zcv zco zff zfp zfe zfb zop := go'
    refine pk_le 12 k (fun z => by omega) (fun _ => ce_d (j := 7 + k) (nI_add 7 k) (by omega) hL (md_w (by decide) ?_))
    refine br_c (fun _ => cu_kind G hc hu (cu_kind G hc hv (br_t rfl (nm_r (nI_1 k) go)))) (fun _ => br_c (fun _ => Q1 _ _ hu (Q1 _ _ hv (br_t rfl (nm_r (nI_1 k) go)))) (fun _ => br_c (fun _ => Q2 _ _ hu (Q2 _ _ hv (br_t rfl (nm_r (nI_1 k) go)))) (fun _ => br_c (fun _ => Q3 _ _ hu (Q3 _ _ hv (br_t rfl (nm_r (nI_1 k) go)))) (fun _ => br_c (fun _ => Q4 _ _ hu (fun u' hu' => ?_)) (fun _ => br_c (fun _ => Q5 _ _ hu (fun u' hu' => ?_)) (fun _ => Q6 _ _ hu (fun u' hu' => ?_)))))))
    · obtain ⟨wdl, wtn, wpp, wvc, wcc, wfc, woc, wag, wan, wex, wen, wfl, wac, wst, wsp, wmd, wrt, wcu, wtk, wtv, waf, wro, wsc, who, wvk, wvf, wvs, wcv, wco, wff, wfp, wfe, wfb, wop⟩ := u'
      refine Q4 _ _ hv (fun v' hv' => ?_)
      have g2 := ih (k + 1) w4 _ v' (by omega) c4 hu' hv'
      obtain ⟨vdl, vtn, vpp, vvc, vcc, vfc, voc, vag, van, vex, ven, vfl, vac, vst, vsp, vmd, vrt, vcu, vtk, vtv, vaf, vro, vsc, vho, vvk, vvf, vvs, vcv, vco, vff, vfp, vfe, vfb, vop⟩ := v'
      have go2 : wL_law_1536 post L xs (wL_law_1378 post L xs x8 x9 kc ks m) x8 x9 x10 kc ks (d + 1) (nI (k + 1)) wdl wtn wpp wvc wcc wfc woc wag wan wex wen wfl wac wst wsp wmd wrt wcu wtk wtv waf wro wsc who wvk wvf wvs wcv wco wff wfp wfe wfb wop vdl vtn vpp vvc vcc vfc voc vag van vex ven vfl vac vst vsp vmd vrt vcu vtk vtv vaf vro vsc vho vvk vvf vvs vcv vco vff vfp vfe vfb vop := g2
      exact br_t rfl (nm_r (nI_1 k) go2)
    · obtain ⟨wdl, wtn, wpp, wvc, wcc, wfc, woc, wag, wan, wex, wen, wfl, wac, wst, wsp, wmd, wrt, wcu, wtk, wtv, waf, wro, wsc, who, wvk, wvf, wvs, wcv, wco, wff, wfp, wfe, wfb, wop⟩ := u'
      refine Q5 _ _ hv (fun v' hv' => ?_)
      have g2 := ih (k + 1) w5 _ v' (by omega) c5 hu' hv'
      obtain ⟨vdl, vtn, vpp, vvc, vcc, vfc, voc, vag, van, vex, ven, vfl, vac, vst, vsp, vmd, vrt, vcu, vtk, vtv, vaf, vro, vsc, vho, vvk, vvf, vvs, vcv, vco, vff, vfp, vfe, vfb, vop⟩ := v'
      have go2 : wL_law_1536 post L xs (wL_law_1378 post L xs x8 x9 kc ks m) x8 x9 x10 kc ks (d + 1) (nI (k + 1)) wdl wtn wpp wvc wcc wfc woc wag wan wex wen wfl wac wst wsp wmd wrt wcu wtk wtv waf wro wsc who wvk wvf wvs wcv wco wff wfp wfe wfb wop vdl vtn vpp vvc vcc vfc voc vag van vex ven vfl vac vst vsp vmd vrt vcu vtk vtv vaf vro vsc vho vvk vvf vvs vcv vco vff vfp vfe vfb vop := g2
      exact br_t rfl (nm_r (nI_1 k) go2)
    · obtain ⟨wdl, wtn, wpp, wvc, wcc, wfc, woc, wag, wan, wex, wen, wfl, wac, wst, wsp, wmd, wrt, wcu, wtk, wtv, waf, wro, wsc, who, wvk, wvf, wvs, wcv, wco, wff, wfp, wfe, wfb, wop⟩ := u'
      refine Q6 _ _ hv (fun v' hv' => ?_)
      have g2 := ih (k + 1) w6 _ v' (by omega) c6 hu' hv'
      obtain ⟨vdl, vtn, vpp, vvc, vcc, vfc, voc, vag, van, vex, ven, vfl, vac, vst, vsp, vmd, vrt, vcu, vtk, vtv, vaf, vro, vsc, vho, vvk, vvf, vvs, vcv, vco, vff, vfp, vfe, vfb, vop⟩ := v'
      have go2 : wL_law_1536 post L xs (wL_law_1378 post L xs x8 x9 kc ks m) x8 x9 x10 kc ks (d + 1) (nI (k + 1)) wdl wtn wpp wvc wcc wfc woc wag wan wex wen wfl wac wst wsp wmd wrt wcu wtk wtv waf wro wsc who wvk wvf wvs wcv wco wff wfp wfe wfb wop vdl vtn vpp vvc vcc vfc voc vag van vex ven vfl vac vst vsp vmd vrt vcu vtk vtv vaf vro vsc vho vvk vvf vvs vcv vco vff vfp vfe vfb vop := g2
      exact br_t rfl (nm_r (nI_1 k) go2)
end
section
variable {L : Nat} {xs : Nat → Int32} {x8 : Int32} {kc ks : Nat} {dl : Int32} {tk tv : Nat → Int32} {n : Nat}
theorem lr_loop (hL : L ≤ 260) (H : tk_ok tk n) {u0 : SX} (h0 : dq_OK dl tk tv n u0) {F : Nat} (F1 : 1 ≤ F) (F4 : F ≤ 400) (hf : fl_C x8 F) :
    ∀ (d k : Nat) (u v : SX), k + d = 3 → dq_OK dl tk tv n u → dq_OK dl tk tv n v → lw_78 (fun r => r = 1) L xs x8 (nI F) kc ks (d + 1) (nI k) u v := by
  obtain ⟨se, r, md, w, VP, vk, vf, vs, a1, a2, a3, a4, T⟩ := rn_all H h0
  intro d
  induction d with
  | zero =>
    intro k u v e hu hv
    obtain ⟨xdl, xtn, xpp, xvc, xcc, xfc, xoc, xag, xan, xex, xen, xfl, xac, xst, xsp, xmd, xrt, xcu, xtk, xtv, xaf, xro, xsc, xho, xvk, xvf, xvs, xcv, xco, xff, xfp, xfe, xfb, xop⟩ := u
    obtain ⟨zdl, ztn, zpp, zvc, zcc, zfc, zoc, zag, zan, zex, zen, zfl, zac, zst, zsp, zmd, zrt, zcu, ztk, ztv, zaf, zro, zsc, zho, zvk, zvf, zvs, zcv, zco, zff, zfp, zfe, zfb, zop⟩ := v
    exact pk_le 3 k (fun _ => rfl) (fun z => by omega)
  | succ d ih =>
    intro k u v e hu hv
    obtain ⟨xdl, xtn, xpp, xvc, xcc, xfc, xoc, xag, xan, xex, xen, xfl, xac, xst, xsp, xmd, xrt, xcu, xtk, xtv, xaf, xro, xsc, xho, xvk, xvf, xvs, xcv, xco, xff, xfp, xfe, xfb, xop⟩ := u
    obtain ⟨zdl, ztn, zpp, zvc, zcc, zfc, zoc, zag, zan, zex, zen, zfl, zac, zst, zsp, zmd, zrt, zcu, ztk, ztv, zaf, zro, zsc, zho, zvk, zvf, zvs, zcv, zco, zff, zfp, zfe, zfb, zop⟩ := v
    refine pk_le 3 k (fun z => by omega) (fun _ => ?_)
    by_cases hs : F < se
    · refine (T _ x8 F _ hu F4 hf).1 hs (fun u' hu' sp' => ?_)
      obtain ⟨wdl, wtn, wpp, wvc, wcc, wfc, woc, wag, wan, wex, wen, wfl, wac, wst, wsp, wmd, wrt, wcu, wtk, wtv, waf, wro, wsc, who, wvk, wvf, wvs, wcv, wco, wff, wfp, wfe, wfb, wop⟩ := u'
      have e1 : wsp = nI F := sp'
      refine br_t rfl (br_t e1 ?_)
      obtain ⟨j, hj, ej⟩ := md_j (ce_f L xs (19 + nI k)) (d := F) (by omega) (by omega)
      refine ce_d (j := 19 + k) (nI_add 19 k) (by omega) hL (br_t rfl (md_w (nI_ne0 (by omega) (by omega)) ?_))
      rw [ej]
      refine nm_r (show (1 : Int32) + nI j = nI (1 + j) from nI_add 1 j) ?_
      refine (T _ (nI (1 + j)) (1 + j) _ hv (by omega) (fl_n (by omega) (by omega))).1 (by omega) (fun v' hv' sv' => ?_)
      have g2 := ih (k + 1) _ v' (by omega) hu' hv'
      obtain ⟨vdl, vtn, vpp, vvc, vcc, vfc, voc, vag, van, vex, ven, vfl, vac, vst, vsp, vmd, vrt, vcu, vtk, vtv, vaf, vro, vsc, vho, vvk, vvf, vvs, vcv, vco, vff, vfp, vfe, vfb, vop⟩ := v'
      have e2 : vsp = nI (1 + j) := sv'
      have go2 : wL_law_1378 (fun r => r = 1) L xs x8 (nI F) kc ks (d + 1) (nI (k + 1)) wdl wtn wpp wvc wcc wfc woc wag wan wex wen wfl wac wst wsp wmd wrt wcu wtk wtv waf wro wsc who wvk wvf wvs wcv wco wff wfp wfe wfb wop vdl vtn vpp vvc vcc vfc voc vag van vex ven vfl vac vst vsp vmd vrt vcu vtk vtv vaf vro vsc vho vvk vvf vvs vcv vco vff vfp vfe vfb vop := g2
      exact br_t rfl (br_t e2 (nm_r (nI_1 k) go2))
    · refine (T _ x8 F _ hu F4 hf).2 (by omega) (fun u' hu' => ?_)
      have hu2 := hu'
      obtain ⟨wvc, wcc, wfc, woc, wag, wan, wex, wen, wfl, wac, waf, wro, wsc, who, wvk, wvf, wvs, wcv, wco, wff, wfp, wfe, wfb, wop, rfl, _, _⟩ := hu'
      refine br_f a2 (br_f (nI_nlt (b := 1) a1 (by omega)) (br_t (nI_le (by omega) (by omega)) ?_))
      have e401 : (401 : Int32) - nI se = nI (401 - se) := pk_sub (a := 401) (by omega)
      obtain ⟨j, hj, ej⟩ := md_j (ce_f L xs (19 + nI k)) (d := 401 - se) (by omega) (by omega)
      rw [← e401] at ej
      refine ce_d (j := 19 + k) (nI_add 19 k) (by omega) hL (br_f a2 (md_w (by rw [e401]; exact nI_ne0 (by omega) (by omega)) ?_))
      rw [ej]
      refine nm_r (nI_add se j) ?_
      refine (T _ (nI (se + j)) (se + j) _ hv (by omega) (fl_n (by omega) (by omega))).2 (by omega) (fun v' hv' => ?_)
      have hv2 := hv'
      obtain ⟨vvc, vcc, vfc, voc, vag, van, vex, ven, vfl, vac, vaf, vro, vsc, vho, vvk, vvf, vvs, vcv, vco, vff, vfp, vfe, vfb, vop, rfl, _, _⟩ := hv'
      refine br_t rfl (br_t rfl (br_t rfl ⟨12 + 1, ?_⟩))
      exact lq_loop hL H a3 a4 (fun u v hu hv => by rw [nI_1 k]; exact ih (k + 1) u v (by omega) hu hv) 12 0 w _ _ (by omega) a4 hu2 hv2
end
