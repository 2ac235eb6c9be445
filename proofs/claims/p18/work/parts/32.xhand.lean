/-- the part behind a part -/
def xp_A (K a : Nat → Nat) (n q p : Nat) (r : Int32) : Prop := p < n ∧ K p ≠ 2 ∧
  ((K (q + 1) = 10 ∧ r = -1) ∨ (K (q + 1) < 6 ∧ p = q + 1 ∧ r = -1) ∨
   ((K (q + 1) = 8 ∨ K (q + 1) = 9) ∧ p ≠ q + 1 ∧ a p + 1 < n ∧ ((K (a p + 1) = 2 ∧ r = -1) ∨ (K (a p + 1) ≠ 2 ∧ r = nI (a p + 3)))) ∨
   ((K (q + 1) < 6 ∨ 10 < K (q + 1)) ∧ p ≠ q + 1 ∧ a p < n ∧ ((K (a p) ≠ 2 ∧ r = nI (a p)) ∨ (K (a p) = 2 ∧ K (q + 1) < 6 ∧ r = nI (q + 1)) ∨ (K (a p) = 2 ∧ 6 ≤ K (q + 1) ∧ r = -1))))
section
variable {xdl xtn xpp xvc xcc xfc xoc xag xan xex xen xfl xac xst xsp xmd xrt xcu : Int32} {xtk xtv xaf xro xsc xho xvk xvf xvs xcv xco xff xfp xfe xfb xop : Nat → Int32} {n : Nat}
theorem xr_pa (H : tk_ok xtk n) (A : xb_A (tk_K xtk n) n xaf) {q p : Nat} {r : Int32} (hq : q + 1 < n) (hA : xp_A (tk_K xtk n) (sk_f (tk_K xtk n) n) n q p r) {post : Int32 → Prop} (h : post r) : wpX_partAfter post (xdl, xtn, xpp, xvc, xcc, xfc, xoc, xag, xan, xex, xen, xfl, xac, xst, xsp, xmd, xrt, xcu, xtk, xtv, xaf, xro, xsc, xho, xvk, xvf, xvs, xcv, xco, xff, xfp, xfe, xfb, xop) (nI q) (nI p) := by
  have H1 := H.1
  have k20 := tk_20 H (q + 1)
  obtain ⟨hp, kp, hA⟩ := hA
  refine ⟨by rw [nI_1]; exact tk_in H hq, nm_r (show xtk (nI q + 1).toNatClampNeg = nI (tk_K xtk n (q + 1)) from by rw [nI_1]; exact tk_c H hq) ⟨tk_in H hp, nm_r (show xaf (nI p).toNatClampNeg = nI (sk_f (tk_K xtk n) n p) from by rw [nI_clamp (by omega)]; exact (A p hp kp).2) ?_⟩⟩
  rw [nI_1 q]
  have f44 : ∀ (l : sk_f (tk_K xtk n) n p + 1 < n), ((tk_K xtk n (sk_f (tk_K xtk n) n p + 1) = 2 ∧ r = -1) ∨ (tk_K xtk n (sk_f (tk_K xtk n) n p + 1) ≠ 2 ∧ r = nI (sk_f (tk_K xtk n) n p + 3))) → wX_partAfter_44 post (nI (sk_f (tk_K xtk n) n p)) xdl xtn xpp xvc xcc xfc xoc xag xan xex xen xfl xac xst xsp xmd xrt xcu xtk xtv xaf xro xsc xho xvk xvf xvs xcv xco xff xfp xfe xfb xop := by
    intro l e
    unfold wX_partAfter_44
    rw [nI_1, ni_3]
    refine ⟨tk_in H l, tk_b H l 2 (fun z => ?_) (fun z => ?_)⟩
    · rcases e with e | e
      · rw [e.2] at h; exact h
      · exact absurd z e.1
    · rcases e with e | e
      · exact absurd e.1 z
      · rw [e.2] at h; exact h
  refine pk_eq (tk_K xtk n (q + 1)) 10 (fun k10 => ?_) (fun k10 => pk_eq p (q + 1) (fun ep => ?_) (fun ep => pk_eq (tk_K xtk n (q + 1)) 8 (fun k8 => ?_) (fun k8 => pk_eq (tk_K xtk n (q + 1)) 9 (fun k9 => ?_) (fun k9 => ?_))))
  · rcases hA with ⟨_, e⟩ | ⟨z, _⟩ | ⟨z, _⟩ | ⟨z, _⟩
    · rw [e] at h; exact h
    · omega
    · omega
    · omega
  · rcases hA with ⟨z, e⟩ | ⟨_, _, e⟩ | ⟨_, z, _⟩ | ⟨_, z, _⟩
    · omega
    · rw [e] at h; exact h
    · exact absurd ep z
    · exact absurd ep z
  · rcases hA with ⟨z, e⟩ | ⟨_, z, e⟩ | ⟨_, _, l, e⟩ | ⟨z, _⟩
    · omega
    · exact absurd z ep
    · exact f44 l e
    · omega
  · rcases hA with ⟨z, e⟩ | ⟨_, z, e⟩ | ⟨_, _, l, e⟩ | ⟨z, _⟩
    · omega
    · exact absurd z ep
    · exact f44 l e
    · omega
  · rcases hA with ⟨z, e⟩ | ⟨_, z, e⟩ | ⟨z, _⟩ | ⟨_, _, l, e⟩
    · omega
    · exact absurd z ep
    · omega
    · refine ⟨tk_in H l, tk_b H l 2 (fun z => pk_lt (tk_K xtk n (q + 1)) 6 (fun k6 => ?_) (fun k6 => ?_)) (fun z => ?_)⟩
      · rcases e with ⟨y, _⟩ | ⟨_, _, e⟩ | ⟨_, y, _⟩
        · exact absurd z y
        · rw [e] at h; exact h
        · omega
      · rcases e with ⟨y, _⟩ | ⟨_, y, _⟩ | ⟨_, _, e⟩
        · exact absurd z y
        · omega
        · rw [e] at h; exact h
      · rcases e with ⟨_, e⟩ | ⟨y, _⟩ | ⟨y, _⟩
        · rw [e] at h; exact h
        · exact absurd y z
        · exact absurd y z
theorem xr_fin {Q : SX → Prop} (h : Q (xdl, xtn, xpp, xvc, xcc, nI 0, xoc, xag, xan, xex, xen, xfl, xac, 0, xsp, xmd, xan, xan, xtk, xtv, xaf, xro, xsc, xho, xvk, xvf, xvs, xcv, xco, xff, xfp, xfe, xfb, xop)) : wpX_handOverAnswer Q (xdl, xtn, xpp, xvc, xcc, nI 0, xoc, xag, xan, xex, xen, xfl, xac, xst, xsp, xmd, xrt, xcu, xtk, xtv, xaf, xro, xsc, xho, xvk, xvf, xvs, xcv, xco, xff, xfp, xfe, xfb, xop) := br_t rfl h
theorem xr_ret {x : Nat} (hx : x < 400) (hp : xfp x = -1) {Q : SX → Prop} (h : Q (xdl, xtn, xpp, xvc, xcc, nI x, xoc, xag, xan, xex, xen, xfl, xac - 1, xst, xsp, xmd, xrt, xcu, xtk, xtv, xaf, xro, xsc, xho, xvk, xvf, xvs, xcv, xco, xff, xfp, xfe, xfb, xop)) : wpX_handOverAnswer Q (xdl, xtn, xpp, xvc, xcc, nI (x + 1), xoc, xag, xan, xex, xen, xfl, xac, xst, xsp, xmd, xrt, xcu, xtk, xtv, xaf, xro, xsc, xho, xvk, xvf, xvs, xcv, xco, xff, xfp, xfe, xfb, xop) := by
  have hc : (nI x).toNatClampNeg = x := nI_clamp (by omega)
  refine pk_eq (x + 1) 0 (fun z => by omega) (fun _ => nm_r (nI_pred x) ⟨vp_in_nI hx (by omega), br_t (by rw [hc]; exact hp) (nm_e (nm_r (nI_pred x) h))⟩)
theorem xr_more (H : tk_ok xtk n) (A : xb_A (tk_K xtk n) n xaf) {x oc q p p' : Nat} (hx : x < 400) (ho : oc < 400) (hq : q + 1 < n) (hff : xff x = nI q) (hfp : xfp x = nI p) (hp' : p' < 2 ^ 20) (hA : xp_A (tk_K xtk n) (sk_f (tk_K xtk n) n) n q p (nI p')) {Q : SX → Prop} (h : Q (xdl, xtn, xpp, xvc, xcc, nI (x + 1), nI (oc + 1), 0, xan, nI p', xfe x, xfl, xac, xst, xsp, xmd, xrt, xcu, xtk, xtv, xaf, xro, xsc, xho, xvk, xvf, xvs, xcv, xco, xff, upd xfp x (nI p'), xfe, xfb, upd xop oc xan)) : wpX_handOverAnswer Q (xdl, xtn, xpp, xvc, xcc, nI (x + 1), nI oc, xag, xan, xex, xen, xfl, xac, xst, xsp, xmd, xrt, xcu, xtk, xtv, xaf, xro, xsc, xho, xvk, xvf, xvs, xcv, xco, xff, xfp, xfe, xfb, xop) := by
  have H1 := H.1
  have hpn := hA.1
  have hc : (nI x).toNatClampNeg = x := nI_clamp (by omega)
  have hco : (nI oc).toNatClampNeg = oc := nI_clamp (by omega)
  have hi : vp_in (nI x) 400 := vp_in_nI hx (by omega)
  refine pk_eq (x + 1) 0 (fun z => by omega) (fun _ => nm_r (nI_pred x) ⟨hi, br_f (by rw [hc, hfp]; exact ni_nm1 (by omega)) ⟨vp_in_nI ho (by omega), nm_e (nm_r (nI_1 oc) ⟨hi, hi, ?_⟩)⟩⟩)
  rw [hc, hff, hfp, hco]
  exact xr_pa H A hq hA ⟨hi, nm_e (br_f (ni_nm1 (by omega)) ⟨hi, h⟩)⟩
theorem xr_last (H : tk_ok xtk n) (A : xb_A (tk_K xtk n) n xaf) {x oc q p : Nat} (hx : x < 400) (ho : oc < 400) (hq : q + 1 < n) (hff : xff x = nI q) (hfp : xfp x = nI p) (hA : xp_A (tk_K xtk n) (sk_f (tk_K xtk n) n) n q p (-1)) {Q : SX → Prop} (h : wpX_finishForm Q (xdl, xtn, xpp, xvc, xcc, nI (x + 1), nI (oc + 1), xag, xan, xex, xen, xfl, xac, xst, xsp, xmd, xrt, xcu, xtk, xtv, xaf, xro, xsc, xho, xvk, xvf, xvs, xcv, xco, xff, upd xfp x (-1), xfe, xfb, upd xop oc xan) (nI x)) : wpX_handOverAnswer Q (xdl, xtn, xpp, xvc, xcc, nI (x + 1), nI oc, xag, xan, xex, xen, xfl, xac, xst, xsp, xmd, xrt, xcu, xtk, xtv, xaf, xro, xsc, xho, xvk, xvf, xvs, xcv, xco, xff, xfp, xfe, xfb, xop) := by
  have H1 := H.1
  have hpn := hA.1
  have hc : (nI x).toNatClampNeg = x := nI_clamp (by omega)
  have hco : (nI oc).toNatClampNeg = oc := nI_clamp (by omega)
  have hi : vp_in (nI x) 400 := vp_in_nI hx (by omega)
  refine pk_eq (x + 1) 0 (fun z => by omega) (fun _ => nm_r (nI_pred x) ⟨hi, br_f (by rw [hc, hfp]; exact ni_nm1 (by omega)) ⟨vp_in_nI ho (by omega), nm_e (nm_r (nI_1 oc) ⟨hi, hi, ?_⟩)⟩⟩)
  rw [hc, hff, hfp, hco]
  exact xr_pa H A hq hA ⟨hi, nm_e (br_t rfl h)⟩
theorem xh_body (H : tk_ok xtk n) (A : xb_A (tk_K xtk n) n xaf) {q : Nat} (h2 : q + 2 < n) (k2 : tk_K xtk n (q + 2) ≠ 2) {Q : SX → Prop} (h : Q (xdl, xtn, xpp, xvc, xcc, xfc, xoc, 0, xan, nI (sk_f (tk_K xtk n) n (q + 2)), xen, xfl, xac, xst, xsp, xmd, xrt, xcu, xtk, xtv, xaf, xro, xsc, xho, xvk, xvf, xvs, xcv, xco, xff, xfp, xfe, xfb, xop)) : wpX_evaluateBody Q (xdl, xtn, xpp, xvc, xcc, xfc, xoc, xag, xan, xex, xen, xfl, xac, xst, xsp, xmd, xrt, xcu, xtk, xtv, xaf, xro, xsc, xho, xvk, xvf, xvs, xcv, xco, xff, xfp, xfe, xfb, xop) (nI q) := by
  unfold wpX_evaluateBody
  dsimp only
  exact xs_body H A h2 k2 h
theorem xF_if (H : tk_ok xtk n) (A : xb_A (tk_K xtk n) n xaf) {x b q a : Nat} (hx : x < 400) (hb : b < 400) (ha : a < 528) (hff : xff x = nI q) (hfb : xfb x = nI b) (h10 : tk_K xtk n (q + 1) = 10) (h2 : q + 2 < n) (k2 : tk_K xtk n (q + 2) ≠ 2) (h3 : sk_f (tk_K xtk n) n (q + 2) < n) (k3 : tk_K xtk n (sk_f (tk_K xtk n) n (q + 2)) ≠ 2) (hop : xop b = nI a) {Q : SX → Prop}
    (h6 : xvk a ≠ 1 → Q (xdl, xtn, xpp, xvc, xcc, nI x, nI b, xag, xan, xex, xfe x, xfl, xac, 6, xsp, xmd, xrt, xcu, xtk, xtv, xaf, xro, xsc, xho, xvk, xvf, xvs, xcv, xco, xff, xfp, xfe, xfb, xop)) (h1 : xvk a = 1 → ∀ t, (xvf a = 0 → t = sk_f (tk_K xtk n) n (sk_f (tk_K xtk n) n (q + 2))) → (xvf a ≠ 0 → t = sk_f (tk_K xtk n) n (q + 2)) → Q (xdl, xtn, xpp, xvc, xcc, nI x, nI b, 0, xan, nI t, xfe x, xfl, xac, xst, xsp, xmd, xrt, xcu, xtk, xtv, xaf, xro, xsc, xho, xvk, xvf, xvs, xcv, xco, xff, xfp, xfe, xfb, xop)) : wpX_finishForm Q (xdl, xtn, xpp, xvc, xcc, nI (x + 1), nI (b + 1), xag, xan, xex, xen, xfl, xac, xst, xsp, xmd, xrt, xcu, xtk, xtv, xaf, xro, xsc, xho, xvk, xvf, xvs, xcv, xco, xff, xfp, xfe, xfb, xop) (nI x) := by
  have H1 := H.1
  have hc : (nI x).toNatClampNeg = x := nI_clamp (by omega)
  have hcb : (nI b).toNatClampNeg = b := nI_clamp (by omega)
  have hca : (nI a).toNatClampNeg = a := nI_clamp (by omega)
  have hi : vp_in (nI x) 400 := vp_in_nI hx (by omega)
  have hia : vp_in (nI a) 528 := vp_in_nI ha (by omega)
  refine ⟨hi, nm_r (show xff (nI x).toNatClampNeg = nI q from by rw [hc]; exact hff) ⟨hi, nm_r (show xfb (nI x).toNatClampNeg = nI b from by rw [hc]; exact hfb) (nm_e ⟨by rw [nI_1]; exact tk_in H (by omega), nm_r (show xtk (nI q + 1).toNatClampNeg = nI 10 from by rw [nI_1, tk_c H (by omega), h10]) ?_⟩)⟩⟩
  refine pk_le 6 10 (fun _ => nm_r (nI_pred x) ⟨hi, nm_r (show xfe (nI x).toNatClampNeg = xfe x from by rw [hc]) ?_⟩) (fun z => by omega)
  refine pk_lt 10 8 (fun z => by omega) (fun _ => pk_lt 14 10 (fun z => by omega) (fun _ => pk_eq 10 8 (fun z => by omega) (fun _ => pk_eq 10 9 (fun z => by omega) (fun _ => pk_eq 10 10 (fun _ => ⟨vp_in_nI hb (by omega), ?_⟩) (fun z => absurd rfl z)))))
  rw [hcb, hop]
  unfold wpX_chooseBranch
  dsimp only
  rw [ni_2]
  refine ⟨tk_in H h2, nm_r (show xaf (nI (q + 2)).toNatClampNeg = nI (sk_f (tk_K xtk n) n (q + 2)) from by rw [nI_clamp (by omega)]; exact (A _ h2 k2).2) ⟨hia, ?_⟩⟩
  rw [hca]
  by_cases v1 : xvk a = 1
  · refine br_t v1 ⟨hia, ?_⟩
    by_cases v0 : xvf a = 0
    · refine br_t v0 ⟨tk_in H h3, ?_⟩
      rw [nI_clamp (by omega), (A _ h3 k3).2]
      exact h1 v1 _ (fun _ => rfl) (fun z => absurd v0 z)
    · exact br_f v0 (h1 v1 _ (fun z => absurd z v0) (fun _ => rfl))
  · exact br_f v1 (h6 v1)
theorem xF_let (H : tk_ok xtk n) (A : xb_A (tk_K xtk n) n xaf) {x b q k cc : Nat} (hx : x < 400) (hb : b + k ≤ 400) (hcc : cc + k ≤ 404) (hff : xff x = nI q) (hfb : xfb x = nI b) (h8 : tk_K xtk n (q + 1) = 8) (h2 : q + 2 < n) (k2 : tk_K xtk n (q + 2) ≠ 2) {Q : SX → Prop}
    (h : ∀ cv' co', xc_S xcv xco (fun i => xop (b + i)) (xfe x) cc k cv' co' → Q (xdl, xtn, xpp, xvc, nI (cc + k), nI x, nI b, 0, xan, nI (sk_f (tk_K xtk n) n (q + 2)), hb_e (xfe x) cc k, xfl, xac, xst, xsp, xmd, xrt, xcu, xtk, xtv, xaf, xro, xsc, xho, xvk, xvf, xvs, cv', co', xff, xfp, xfe, xfb, xop)) : wpX_finishForm Q (xdl, xtn, xpp, xvc, nI cc, nI (x + 1), nI (b + k), xag, xan, xex, xen, xfl, xac, xst, xsp, xmd, xrt, xcu, xtk, xtv, xaf, xro, xsc, xho, xvk, xvf, xvs, xcv, xco, xff, xfp, xfe, xfb, xop) (nI x) := by
  have H1 := H.1
  have hc : (nI x).toNatClampNeg = x := nI_clamp (by omega)
  have hi : vp_in (nI x) 400 := vp_in_nI hx (by omega)
  refine ⟨hi, nm_r (show xff (nI x).toNatClampNeg = nI q from by rw [hc]; exact hff) ⟨hi, nm_r (show xfb (nI x).toNatClampNeg = nI b from by rw [hc]; exact hfb) (nm_r (show nI (b + k) - nI b = nI k from by rw [pk_sub (by omega), show b + k - b = k from by omega]) ⟨by rw [nI_1]; exact tk_in H (by omega), nm_r (show xtk (nI q + 1).toNatClampNeg = nI 8 from by rw [nI_1, tk_c H (by omega), h8]) ?_⟩)⟩⟩
  refine pk_le 6 8 (fun _ => nm_r (nI_pred x) ⟨hi, nm_r (show xfe (nI x).toNatClampNeg = xfe x from by rw [hc]) ?_⟩) (fun z => by omega)
  refine pk_lt 8 8 (fun z => by omega) (fun _ => pk_lt 14 8 (fun z => by omega) (fun _ => pk_eq 8 8 (fun _ => ?_) (fun z => absurd rfl z)))
  exact xc_cells (xen := xfe x) hcc hb (fun cv' co' S => xh_body (xcv := cv') (xco := co') H A h2 k2 (h cv' co' S))
theorem xF_fillL {b c0 k : Nat} {e0 : Int32} (hb : b + k ≤ 400) (hc : c0 + k ≤ 404) (hco : ∀ i, i < k → xco (c0 + i) = hb_e e0 c0 i) {Q : SX → Prop} (h : ∀ cv', (∀ i, i < k → cv' (c0 + i) = xop (b + i)) → (∀ c, (∀ i, i < k → c ≠ c0 + i) → cv' c = xcv c) → Q (xdl, xtn, xpp, xvc, xcc, xfc, xoc, xag, xan, xex, xen, xfl, xac, xst, xsp, xmd, xrt, xcu, xtk, xtv, xaf, xro, xsc, xho, xvk, xvf, xvs, cv', xco, xff, xfp, xfe, xfb, xop)) :
    ∀ j (cv' : Nat → Int32), j ≤ k → (∀ i, j ≤ i → i < k → cv' (c0 + i) = xop (b + i)) → (∀ c, (∀ i, j ≤ i → i < k → c ≠ c0 + i) → cv' c = xcv c) → wX_fillCells_10 Q (nI b) xdl xtn xpp xvc xcc xfc xoc xag xan xex xen xfl xac xst xsp xmd xrt xcu (j + 1) (hb_e e0 c0 j) (nI j - 1) xtk xtv xaf xro xsc xho xvk xvf xvs cv' xco xff xfp xfe xfb xop := by
  intro j
  induction j with
  | zero =>
    intro cv' hj h1 h2
    exact br_t (show (nI 0 - 1 : Int32) < 0 from by decide) (h cv' (fun i hi => h1 i (by omega) hi) (fun c hc' => h2 c (fun i _ hi => hc' i hi)))
  | succ j ih =>
    intro cv' hj h1 h2
    rw [nI_pred j]
    refine br_f (nI_pos (by omega)) ?_
    rw [nI_add, nI_clamp (n := b + j) (by omega)]
    have hi : vp_in (nI (c0 + j)) 404 := vp_in_nI (by omega) (by omega)
    have hcl : (nI (c0 + j)).toNatClampNeg = c0 + j := nI_clamp (by omega)
    refine ⟨vp_in_nI (by omega) (by omega), hi, fun cv5 e5 => ⟨hi, nm_r (show xco (nI (c0 + j)).toNatClampNeg = hb_e e0 c0 j from by rw [hcl]; exact hco j (by omega)) (nm_r (show nI j + -1 = nI j - 1 from (Int32.sub_eq_add_neg (nI j) 1).symm) ?_)⟩⟩
    have e5' : cv5 = upd cv' (c0 + j) (xop (b + j)) := by rw [e5]; exact congrArg (fun z => upd cv' z (xop (b + j))) hcl
    refine ih cv5 (by omega) (fun i i1 i2 => ?_) (fun c hc' => ?_)
    · rw [e5']
      by_cases z : i = j
      · subst z; exact pk_us
      · rw [pk_un (by omega)]; exact h1 i (by omega) i2
    · rw [e5', pk_un (hc' j (Nat.le_refl _) (by omega))]
      exact h2 c (fun i i1 i2 => hc' i (by omega) i2)
theorem xF_letrec (H : tk_ok xtk n) (A : xb_A (tk_K xtk n) n xaf) {x b q k c0 : Nat} {e0 : Int32} (hx : x < 400) (hb : b + k ≤ 400) (hcc : c0 + k ≤ 404) (hff : xff x = nI q) (hfb : xfb x = nI b) (hfe : xfe x = hb_e e0 c0 k) (hco : ∀ i, i < k → xco (c0 + i) = hb_e e0 c0 i) (h9 : tk_K xtk n (q + 1) = 9) (h2 : q + 2 < n) (k2 : tk_K xtk n (q + 2) ≠ 2) {Q : SX → Prop}
    (h : ∀ cv', (∀ i, i < k → cv' (c0 + i) = xop (b + i)) → (∀ c, (∀ i, i < k → c ≠ c0 + i) → cv' c = xcv c) → Q (xdl, xtn, xpp, xvc, xcc, nI x, nI b, 0, xan, nI (sk_f (tk_K xtk n) n (q + 2)), hb_e e0 c0 k, xfl, xac, xst, xsp, xmd, xrt, xcu, xtk, xtv, xaf, xro, xsc, xho, xvk, xvf, xvs, cv', xco, xff, xfp, xfe, xfb, xop)) : wpX_finishForm Q (xdl, xtn, xpp, xvc, xcc, nI (x + 1), nI (b + k), xag, xan, xex, xen, xfl, xac, xst, xsp, xmd, xrt, xcu, xtk, xtv, xaf, xro, xsc, xho, xvk, xvf, xvs, xcv, xco, xff, xfp, xfe, xfb, xop) (nI x) := by
  have H1 := H.1
  have hc : (nI x).toNatClampNeg = x := nI_clamp (by omega)
  have hi : vp_in (nI x) 400 := vp_in_nI hx (by omega)
  refine ⟨hi, nm_r (show xff (nI x).toNatClampNeg = nI q from by rw [hc]; exact hff) ⟨hi, nm_r (show xfb (nI x).toNatClampNeg = nI b from by rw [hc]; exact hfb) (nm_r (show nI (b + k) - nI b = nI k from by rw [pk_sub (by omega), show b + k - b = k from by omega]) ⟨by rw [nI_1]; exact tk_in H (by omega), nm_r (show xtk (nI q + 1).toNatClampNeg = nI 9 from by rw [nI_1, tk_c H (by omega), h9]) ?_⟩)⟩⟩
  refine pk_le 6 9 (fun _ => nm_r (nI_pred x) ⟨hi, nm_r (show xfe (nI x).toNatClampNeg = hb_e e0 c0 k from by rw [hc]; exact hfe) ?_⟩) (fun z => by omega)
  refine pk_lt 9 8 (fun z => by omega) (fun _ => pk_lt 14 9 (fun z => by omega) (fun _ => pk_eq 9 8 (fun z => by omega) (fun _ => pk_eq 9 9 (fun _ => nm_e ⟨k + 1, ?_⟩) (fun z => absurd rfl z))))
  exact xF_fillL hb hcc hco (fun cv' s1 s2 => xh_body (xcv := cv') H A h2 k2 (h cv' s1 s2)) k xcv (Nat.le_refl _) (fun i i1 i2 => by omega) (fun c _ => rfl)
end
