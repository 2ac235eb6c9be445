section
variable {xdl xtn xpp xvc xcc xfc xoc xag xan xex xen xfl xac xst xsp xmd xrt xcu : Int32} {xtk xtv xaf xro xsc xho xvk xvf xvs xcv xco xff xfp xfe xfb xop : Nat → Int32} {n : Nat}
theorem xF_part (H : tk_ok xtk n) {x b q a h' : Nat} (hx : x < 400) (hb : b < 400) (ha : a < 528) (hff : xff x = nI q) (hfb : xfb x = nI b) (hk : tk_K xtk n (q + 1) = h') (hh : h' = 12 ∨ h' = 13) (h2 : q + 1 < n) (hop : xop b = nI a) {Q : SX → Prop}
    (h6 : xvk a ≠ 3 → Q (xdl, xtn, xpp, xvc, xcc, nI x, nI b, xag, xan, xex, xfe x, xfl, xac, 6, xsp, xmd, xrt, xcu, xtk, xtv, xaf, xro, xsc, xho, xvk, xvf, xvs, xcv, xco, xff, xfp, xfe, xfb, xop)) (h1 : xvk a = 3 → Q (xdl, xtn, xpp, xvc, xcc, nI x, nI b, xag, if h' = 12 then xvf a else xvs a, xex, xfe x, xfl, xac, xst, xsp, xmd, xrt, xcu, xtk, xtv, xaf, xro, xsc, xho, xvk, xvf, xvs, xcv, xco, xff, xfp, xfe, xfb, xop)) : wpX_finishForm Q (xdl, xtn, xpp, xvc, xcc, nI (x + 1), nI (b + 1), xag, xan, xex, xen, xfl, xac, xst, xsp, xmd, xrt, xcu, xtk, xtv, xaf, xro, xsc, xho, xvk, xvf, xvs, xcv, xco, xff, xfp, xfe, xfb, xop) (nI x) := by
  have H1 := H.1
  have hc : (nI x).toNatClampNeg = x := nI_clamp (by omega)
  have hcb : (nI b).toNatClampNeg = b := nI_clamp (by omega)
  have hca : (nI a).toNatClampNeg = a := nI_clamp (by omega)
  have hi : vp_in (nI x) 400 := vp_in_nI hx (by omega)
  have hia : vp_in (nI a) 528 := vp_in_nI ha (by omega)
  have f164 : wX_finishForm_164 Q (nI b) (nI h') xdl xtn xpp xvc xcc (nI x) (nI b) xag xan xex (xfe x) xfl xac xst xsp xmd xrt xcu xtk xtv xaf xro xsc xho xvk xvf xvs xcv xco xff xfp xfe xfb xop := by
    refine ⟨vp_in_nI hb (by omega), ?_⟩
    rw [hcb, hop]
    refine ⟨hia, ?_⟩
    rw [hca]
    by_cases v3 : xvk a = 3
    · refine br_t v3 (pk_eq h' 12 (fun z => ⟨hia, nm_e ?_⟩) (fun z => ⟨hia, nm_e ?_⟩))
      · have := h1 v3; rw [if_pos z] at this; exact this
      · have := h1 v3; rw [if_neg z] at this; exact this
    · exact br_f v3 (h6 v3)
  refine ⟨hi, nm_r (show xff (nI x).toNatClampNeg = nI q from by rw [hc]; exact hff) ⟨hi, nm_r (show xfb (nI x).toNatClampNeg = nI b from by rw [hc]; exact hfb) (nm_e ⟨by rw [nI_1]; exact tk_in H (by omega), nm_r (show xtk (nI q + 1).toNatClampNeg = nI h' from by rw [nI_1, tk_c H (by omega), hk]) ?_⟩)⟩⟩
  refine pk_le 6 h' (fun _ => nm_r (nI_pred x) ⟨hi, nm_r (show xfe (nI x).toNatClampNeg = xfe x from by rw [hc]) ?_⟩) (fun z => by omega)
  exact pk_lt h' 8 (fun z => by omega) (fun _ => pk_lt 14 h' (fun z => by omega) (fun _ => pk_eq h' 8 (fun z => by omega) (fun _ => pk_eq h' 9 (fun z => by omega) (fun _ => pk_eq h' 10 (fun z => by omega) (fun _ => pk_eq h' 11 (fun z => by omega) (fun _ => pk_eq h' 12 (fun _ => f164) (fun _ => pk_eq h' 13 (fun _ => f164) (fun _ => by omega))))))))
theorem xF_null (H : tk_ok xtk n) {x b q a vc : Nat} (hx : x < 400) (hb : b < 400) (ha : a < 528) (hv : vc < 528) (hff : xff x = nI q) (hfb : xfb x = nI b) (hk : tk_K xtk n (q + 1) = 14) (h2 : q + 1 < n) (hop : xop b = nI a) {Q : SX → Prop}
    (h : Q (xdl, xtn, xpp, nI (vc + 1), xcc, nI x, nI b, xag, nI vc, xex, xfe x, xfl, xac, xst, xsp, xmd, xrt, xcu, xtk, xtv, xaf, xro, xsc, xho, upd xvk vc 1, upd xvf vc (if xvk a = 2 then 1 else 0), upd xvs vc 0, xcv, xco, xff, xfp, xfe, xfb, xop)) : wpX_finishForm Q (xdl, xtn, xpp, nI vc, xcc, nI (x + 1), nI (b + 1), xag, xan, xex, xen, xfl, xac, xst, xsp, xmd, xrt, xcu, xtk, xtv, xaf, xro, xsc, xho, xvk, xvf, xvs, xcv, xco, xff, xfp, xfe, xfb, xop) (nI x) := by
  have H1 := H.1
  have hc : (nI x).toNatClampNeg = x := nI_clamp (by omega)
  have hcb : (nI b).toNatClampNeg = b := nI_clamp (by omega)
  have hca : (nI a).toNatClampNeg = a := nI_clamp (by omega)
  have hi : vp_in (nI x) 400 := vp_in_nI hx (by omega)
  have hia : vp_in (nI a) 528 := vp_in_nI ha (by omega)
  refine ⟨hi, nm_r (show xff (nI x).toNatClampNeg = nI q from by rw [hc]; exact hff) ⟨hi, nm_r (show xfb (nI x).toNatClampNeg = nI b from by rw [hc]; exact hfb) (nm_e ⟨by rw [nI_1]; exact tk_in H (by omega), nm_r (show xtk (nI q + 1).toNatClampNeg = nI 14 from by rw [nI_1, tk_c H (by omega), hk]) ?_⟩)⟩⟩
  refine pk_le 6 14 (fun _ => nm_r (nI_pred x) ⟨hi, nm_r (show xfe (nI x).toNatClampNeg = xfe x from by rw [hc]) ?_⟩) (fun z => by omega)
  refine pk_lt 14 8 (fun z => by omega) (fun _ => pk_lt 14 14 (fun z => by omega) (fun _ => pk_eq 14 8 (fun z => by omega) (fun _ => pk_eq 14 9 (fun z => by omega) (fun _ => pk_eq 14 10 (fun z => by omega) (fun _ => pk_eq 14 11 (fun z => by omega) (fun _ => pk_eq 14 12 (fun z => by omega) (fun _ => pk_eq 14 13 (fun z => by omega) (fun _ => pk_eq 14 14 (fun _ => ⟨vp_in_nI hb (by omega), ?_⟩) (fun z => absurd rfl z)))))))))
  rw [hcb, hop, hca]
  refine ⟨hia, ?_⟩
  by_cases v2 : xvk a = 2
  · rw [if_pos v2] at h
    exact br_t v2 (xr_new hv h)
  · rw [if_neg v2] at h
    exact br_f v2 (xr_new hv h)
theorem xF_cons (H : tk_ok xtk n) {x b q vc : Nat} (hx : x < 400) (hb : b + 1 < 400) (hv : vc < 528) (hff : xff x = nI q) (hfb : xfb x = nI b) (hk : tk_K xtk n (q + 1) = 11) (h2 : q + 1 < n) {Q : SX → Prop}
    (h : Q (xdl, xtn, xpp, nI (vc + 1), xcc, nI x, nI b, xag, nI vc, xex, xfe x, xfl, xac, xst, xsp, xmd, xrt, xcu, xtk, xtv, xaf, xro, xsc, xho, upd xvk vc 3, upd xvf vc (xop b), upd xvs vc (xop (b + 1)), xcv, xco, xff, xfp, xfe, xfb, xop)) : wpX_finishForm Q (xdl, xtn, xpp, nI vc, xcc, nI (x + 1), nI (b + 2), xag, xan, xex, xen, xfl, xac, xst, xsp, xmd, xrt, xcu, xtk, xtv, xaf, xro, xsc, xho, xvk, xvf, xvs, xcv, xco, xff, xfp, xfe, xfb, xop) (nI x) := by
  have H1 := H.1
  have hc : (nI x).toNatClampNeg = x := nI_clamp (by omega)
  have hcb : (nI b).toNatClampNeg = b := nI_clamp (by omega)
  have hi : vp_in (nI x) 400 := vp_in_nI hx (by omega)
  refine ⟨hi, nm_r (show xff (nI x).toNatClampNeg = nI q from by rw [hc]; exact hff) ⟨hi, nm_r (show xfb (nI x).toNatClampNeg = nI b from by rw [hc]; exact hfb) (nm_e ⟨by rw [nI_1]; exact tk_in H (by omega), nm_r (show xtk (nI q + 1).toNatClampNeg = nI 11 from by rw [nI_1, tk_c H (by omega), hk]) ?_⟩)⟩⟩
  refine pk_le 6 11 (fun _ => nm_r (nI_pred x) ⟨hi, nm_r (show xfe (nI x).toNatClampNeg = xfe x from by rw [hc]) ?_⟩) (fun z => by omega)
  refine pk_lt 11 8 (fun z => by omega) (fun _ => pk_lt 14 11 (fun z => by omega) (fun _ => pk_eq 11 8 (fun z => by omega) (fun _ => pk_eq 11 9 (fun z => by omega) (fun _ => pk_eq 11 10 (fun z => by omega) (fun _ => pk_eq 11 11 (fun _ => ⟨vp_in_nI (by omega) (by omega), ?_⟩) (fun z => absurd rfl z))))))
  rw [nI_1 b, hcb, nI_clamp (n := b + 1) (by omega)]
  exact ⟨vp_in_nI (by omega) (by omega), xr_new hv h⟩
theorem xF_op {a c h' vc : Nat} (ha : a < 528) (hc : c < 528) (hv : vc < 528) (hh : 15 ≤ h' ∧ h' ≤ 20) {Q : SX → Prop}
    (h6 : ¬ (xvk a = 1 ∧ xvk c = 1) → Q (xdl, xtn, xpp, nI vc, xcc, xfc, xoc, xag, xan, xex, xen, xfl, xac, 6, xsp, xmd, xrt, xcu, xtk, xtv, xaf, xro, xsc, xho, xvk, xvf, xvs, xcv, xco, xff, xfp, xfe, xfb, xop)) (h7 : xvk a = 1 → xvk c = 1 → h' = 18 → xvf c = 0 → Q (xdl, xtn, xpp, nI vc, xcc, xfc, xoc, xag, xan, xex, xen, xfl, xac, 7, xsp, xmd, xrt, xcu, xtk, xtv, xaf, xro, xsc, xho, xvk, xvf, xvs, xcv, xco, xff, xfp, xfe, xfb, xop))
    (h1 : xvk a = 1 → xvk c = 1 → ¬ (h' = 18 ∧ xvf c = 0) → Q (xdl, xtn, xpp, nI (vc + 1), xcc, xfc, xoc, xag, nI vc, xex, xen, xfl, xac, xst, xsp, xmd, xrt, xcu, xtk, xtv, xaf, xro, xsc, xho, upd xvk vc 1, upd xvf vc (al_op h' (xvf a) (xvf c)), upd xvs vc 0, xcv, xco, xff, xfp, xfe, xfb, xop)) : wpX_calculate Q (xdl, xtn, xpp, nI vc, xcc, xfc, xoc, xag, xan, xex, xen, xfl, xac, xst, xsp, xmd, xrt, xcu, xtk, xtv, xaf, xro, xsc, xho, xvk, xvf, xvs, xcv, xco, xff, xfp, xfe, xfb, xop) (nI h') (nI a) (nI c) := by
  have hia : vp_in (nI a) 528 := vp_in_nI ha (by omega)
  have hic : vp_in (nI c) 528 := vp_in_nI hc (by omega)
  have hca : (nI a).toNatClampNeg = a := nI_clamp (by omega)
  have hcc : (nI c).toNatClampNeg = c := nI_clamp (by omega)
  refine ⟨hia, ?_⟩
  rw [hca, hcc]
  by_cases v1 : xvk a = 1
  · refine br_t v1 ⟨hic, ?_⟩
    by_cases v2 : xvk c = 1
    · refine br_t v2 ⟨hia, nm_e ⟨hic, nm_e ?_⟩⟩
      have fin : ¬ (h' = 18 ∧ xvf c = 0) → ∀ z, z = al_op h' (xvf a) (xvf c) → wX_calculate_163 Q z xdl xtn xpp (nI vc) xcc xfc xoc xag xan xex xen xfl xac xst xsp xmd xrt xcu xtk xtv xaf xro xsc xho xvk xvf xvs xcv xco xff xfp xfe xfb xop := fun w z e => by
        rw [e]; exact xr_new hv (h1 v1 v2 w)
      have lt : 20 ≤ h' → ((xvf c ≤ xvf a → wX_calculate_161 Q 0 xdl xtn xpp (nI vc) xcc xfc xoc xag xan xex xen xfl xac xst xsp xmd xrt xcu xtk xtv xaf xro xsc xho xvk xvf xvs xcv xco xff xfp xfe xfb xop) ∧ (¬ xvf c ≤ xvf a → wX_calculate_161 Q 1 xdl xtn xpp (nI vc) xcc xfc xoc xag xan xex xen xfl xac xst xsp xmd xrt xcu xtk xtv xaf xro xsc xho xvk xvf xvs xcv xco xff xfp xfe xfb xop)) := fun z => by
        refine ⟨fun y => fin (by omega) 0 ?_, fun y => fin (by omega) 1 ?_⟩
        · unfold al_op; rw [if_neg (by omega), if_neg (by omega), if_neg (by omega), if_neg (by omega), if_neg (by omega), if_pos y]
        · unfold al_op; rw [if_neg (by omega), if_neg (by omega), if_neg (by omega), if_neg (by omega), if_neg (by omega), if_neg y]
      refine pk_lt h' 15 (fun z => by omega) (fun _ => pk_lt 19 h' (fun z => lt (by omega)) (fun _ => pk_eq h' 15 (fun z => nm_e (fin (by omega) _ ?_)) (fun z15 => pk_eq h' 16 (fun z => nm_e (fin (by omega) _ ?_)) (fun z16 => pk_eq h' 17 (fun z => nm_e (fin (by omega) _ ?_)) (fun z17 => pk_eq h' 18 (fun z => ?_) (fun z18 => pk_eq h' 19 (fun z => ?_) (fun z => by omega)))))))
      · rw [z]; rfl
      · rw [z]; rfl
      · rw [z]; rfl
      · by_cases c0 : xvf c = 0
        · exact br_t c0 (h7 v1 v2 z c0)
        · exact br_f c0 ⟨c0, nm_e (fin (fun w => c0 w.2) _ (by rw [z]; rfl))⟩
      · by_cases e : xvf a = xvf c
        · exact br_t e (fin (by omega) 1 (by rw [z]; unfold al_op; simp [e]))
        · exact br_f e (fin (by omega) 0 (by rw [z]; unfold al_op; simp [e]))
    · exact br_f v2 (h6 (fun w => v2 w.2))
  · exact br_f v1 (h6 (fun w => v1 w.1))
theorem xF_calc (H : tk_ok xtk n) {x b q a c h' vc : Nat} (hx : x < 400) (hb : b + 1 < 400) (ha : a < 528) (hc : c < 528) (hv : vc < 528) (hff : xff x = nI q) (hfb : xfb x = nI b) (hk : tk_K xtk n (q + 1) = h') (hh : 15 ≤ h' ∧ h' ≤ 20) (h2 : q + 1 < n) (hop : xop b = nI a) (hop2 : xop (b + 1) = nI c) {Q : SX → Prop}
    (h6 : ¬ (xvk a = 1 ∧ xvk c = 1) → Q (xdl, xtn, xpp, nI vc, xcc, nI x, nI b, xag, xan, xex, xfe x, xfl, xac, 6, xsp, xmd, xrt, xcu, xtk, xtv, xaf, xro, xsc, xho, xvk, xvf, xvs, xcv, xco, xff, xfp, xfe, xfb, xop)) (h7 : xvk a = 1 → xvk c = 1 → h' = 18 → xvf c = 0 → Q (xdl, xtn, xpp, nI vc, xcc, nI x, nI b, xag, xan, xex, xfe x, xfl, xac, 7, xsp, xmd, xrt, xcu, xtk, xtv, xaf, xro, xsc, xho, xvk, xvf, xvs, xcv, xco, xff, xfp, xfe, xfb, xop))
    (h1 : xvk a = 1 → xvk c = 1 → ¬ (h' = 18 ∧ xvf c = 0) → Q (xdl, xtn, xpp, nI (vc + 1), xcc, nI x, nI b, xag, nI vc, xex, xfe x, xfl, xac, xst, xsp, xmd, xrt, xcu, xtk, xtv, xaf, xro, xsc, xho, upd xvk vc 1, upd xvf vc (al_op h' (xvf a) (xvf c)), upd xvs vc 0, xcv, xco, xff, xfp, xfe, xfb, xop)) : wpX_finishForm Q (xdl, xtn, xpp, nI vc, xcc, nI (x + 1), nI (b + 2), xag, xan, xex, xen, xfl, xac, xst, xsp, xmd, xrt, xcu, xtk, xtv, xaf, xro, xsc, xho, xvk, xvf, xvs, xcv, xco, xff, xfp, xfe, xfb, xop) (nI x) := by
  have H1 := H.1
  have hcx : (nI x).toNatClampNeg = x := nI_clamp (by omega)
  have hcb : (nI b).toNatClampNeg = b := nI_clamp (by omega)
  have hi : vp_in (nI x) 400 := vp_in_nI hx (by omega)
  refine ⟨hi, nm_r (show xff (nI x).toNatClampNeg = nI q from by rw [hcx]; exact hff) ⟨hi, nm_r (show xfb (nI x).toNatClampNeg = nI b from by rw [hcx]; exact hfb) (nm_e ⟨by rw [nI_1]; exact tk_in H (by omega), nm_r (show xtk (nI q + 1).toNatClampNeg = nI h' from by rw [nI_1, tk_c H (by omega), hk]) ?_⟩)⟩⟩
  refine pk_le 6 h' (fun _ => nm_r (nI_pred x) ⟨hi, nm_r (show xfe (nI x).toNatClampNeg = xfe x from by rw [hcx]) ?_⟩) (fun z => by omega)
  refine pk_lt h' 8 (fun z => by omega) (fun _ => pk_lt 14 h' (fun _ => ⟨vp_in_nI (by omega) (by omega), ?_⟩) (fun z => by omega))
  rw [nI_1 b, hcb, nI_clamp (n := b + 1) (by omega), hop, hop2]
  exact ⟨vp_in_nI (by omega) (by omega), xF_op ha hc hv hh h6 h7 h1⟩
theorem xF_call (H : tk_ok xtk n) (A : xb_A (tk_K xtk n) n xaf) {x b q k f cc : Nat} (hx : x < 400) (hb : b + k < 400) (hcc : cc + k ≤ 404) (hf : f < 528) (hff : xff x = nI q) (hfb : xfb x = nI b) (hk : tk_K xtk n (q + 1) < 6) (h2 : q + 1 < n) (hop : xop (b + k) = nI f) {Q : SX → Prop}
    (h8 : xvk f ≠ 4 → Q (xdl, xtn, xpp, xvc, nI cc, nI (x + 1), nI b, xag, xan, xex, xen, xfl, xac, 8, xsp, xmd, xrt, xcu, xtk, xtv, xaf, xro, xsc, xho, xvk, xvf, xvs, xcv, xco, xff, xfp, xfe, xfb, xop))
    (hcl : xvk f = 4 → ∃ p c, xvf f = nI p ∧ p + 2 < n ∧ tk_K xtk n (p + 2) ≠ 2 ∧ ls_C (tk_K xtk n) (sk_f (tk_K xtk n) n) (p + 3) c ∧ c < 2 ^ 20 ∧ (c ≠ k → Q (xdl, xtn, xpp, xvc, nI cc, nI (x + 1), nI b, xag, xan, xex, xen, xfl, xac, 9, xsp, xmd, xrt, xcu, xtk, xtv, xaf, xro, xsc, xho, xvk, xvf, xvs, xcv, xco, xff, xfp, xfe, xfb, xop)) ∧ (c = k → xac = xdl → Q (xdl, xtn, xpp, xvc, nI cc, nI (x + 1), nI b, xag, xan, xex, xen, xfl, xac, 5, xsp, xmd, xrt, xcu, xtk, xtv, xaf, xro, xsc, xho, xvk, xvf, xvs, xcv, xco, xff, xfp, xfe, xfb, xop)) ∧
      (c = k → xac ≠ xdl → ∀ cv' co' md', md' = (if xac + 1 ≤ xmd then xmd else xac + 1) → xc_S xcv xco (fun i => xop (b + i)) (xvs f) cc k cv' co' → Q (xdl, xtn, xpp, xvc, nI (cc + k), nI (x + 1), nI b, 0, xan, nI (sk_f (tk_K xtk n) n (p + 2)), hb_e (xvs f) cc k, xfl, xac + 1, xst, xsp, md', xrt, xcu, xtk, xtv, xaf, xro, xsc, xho, xvk, xvf, xvs, cv', co', xff, xfp, xfe, xfb, xop))) : wpX_finishForm Q (xdl, xtn, xpp, xvc, nI cc, nI (x + 1), nI (b + (k + 1)), xag, xan, xex, xen, xfl, xac, xst, xsp, xmd, xrt, xcu, xtk, xtv, xaf, xro, xsc, xho, xvk, xvf, xvs, xcv, xco, xff, xfp, xfe, xfb, xop) (nI x) := by
  have H1 := H.1
  have hcx : (nI x).toNatClampNeg = x := nI_clamp (by omega)
  have hcf : (nI f).toNatClampNeg = f := nI_clamp (by omega)
  have hi : vp_in (nI x) 400 := vp_in_nI hx (by omega)
  have hif : vp_in (nI f) 528 := vp_in_nI hf (by omega)
  have k20 := tk_20 H (q + 1)
  refine ⟨hi, nm_r (show xff (nI x).toNatClampNeg = nI q from by rw [hcx]; exact hff) ⟨hi, nm_r (show xfb (nI x).toNatClampNeg = nI b from by rw [hcx]; exact hfb) (nm_r (show nI (b + (k + 1)) - nI b = nI (k + 1) from by rw [pk_sub (by omega), show b + (k + 1) - b = k + 1 from by omega]) ⟨by rw [nI_1]; exact tk_in H (by omega), nm_r (show xtk (nI q + 1).toNatClampNeg = nI (tk_K xtk n (q + 1)) from by rw [nI_1]; exact tk_c H (by omega)) ?_⟩)⟩⟩
  refine pk_le 6 (tk_K xtk n (q + 1)) (fun z => by omega) (fun _ => ?_)
  rw [nI_pred k]
  unfold wpX_call
  dsimp only
  rw [nI_add, nI_clamp (n := b + k) (by omega), hop]
  refine ⟨vp_in_nI (by omega) (by omega), nm_e ⟨hif, nm_e ⟨hif, ?_⟩⟩⟩
  rw [hcf]
  by_cases v4 : xvk f = 4
  · obtain ⟨p, c, e1, l2, k2, lc, hc20, g1, g2, g3⟩ := hcl v4
    rw [e1]
    refine br_t v4 ?_
    unfold wpX_arity
    dsimp only
    rw [ni_2]
    have f107 : ∀ md', md' = (if xac + 1 ≤ xmd then xmd else xac + 1) → c = k → xac ≠ xdl → wX_call_107 Q (nI b) (nI k) (nI f) (nI p) md' xdl xtn xpp xvc (nI cc) (nI (x + 1)) (nI b) xag xan xex xen xfl (xac + 1) xst xsp xmd xrt xcu xtk xtv xaf xro xsc xho xvk xvf xvs xcv xco xff xfp xfe xfb xop := by
      intro md' em ek ea
      refine ⟨hif, nm_r (show xvs (nI f).toNatClampNeg = xvs f from by rw [hcf]) ?_⟩
      exact xc_cells (xen := xvs f) hcc (by omega) (fun cv' co' S => xh_body (xcv := cv') (xco := co') H A l2 k2 (g3 ek ea cv' co' md' em S))
    refine xi_items (i := p + 2) H A lc (pk_eq c k (fun ek => ?_) (fun ek => g1 ek))
    by_cases ea : xac = xdl
    · exact br_t ea (g2 ek ea)
    · refine br_f ea (nm_e ?_)
      by_cases em : xac + 1 ≤ xmd
      · exact br_t em (f107 xmd (if_pos em).symm ek ea)
      · exact br_f em (f107 (xac + 1) (if_neg em).symm ek ea)
  · exact br_f v4 (h8 v4)
end
