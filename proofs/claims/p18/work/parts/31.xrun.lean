/-! the component's turns -/
def rx_L (post : Int32 → SX → Prop) (f : Nat) (t : Int32) (u : SX) : Prop := match u with | (xdl, xtn, xpp, xvc, xcc, xfc, xoc, xag, xan, xex, xen, xfl, xac, xst, xsp, xmd, xrt, xcu, xtk, xtv, xaf, xro, xsc, xho, xvk, xvf, xvs, xcv, xco, xff, xfp, xfe, xfb, xop) => wX_run_16 post f t xdl xtn xpp xvc xcc xfc xoc xag xan xex xen xfl xac xst xsp xmd xrt xcu xtk xtv xaf xro xsc xho xvk xvf xvs xcv xco xff xfp xfe xfb xop
/-- a walk of h hops -/
def xh_W (co : Nat → Int32) : Nat → Int32 → Nat → Prop
  | 0, e, c => e = nI c
  | h + 1, e, c => ∃ c0, e = nI c0 ∧ c0 < 404 ∧ xh_W co h (co c0) c
def al_op (h : Nat) (x y : Int32) : Int32 := if h = 15 then x + y else if h = 16 then x - y else if h = 17 then x * y else if h = 18 then x / y else if h = 19 then (if x = y then 1 else 0) else (if y ≤ x then 0 else 1)
section
variable {xdl xtn xpp xvc xcc xfc xoc xag xan xex xen xfl xac xst xsp xmd xrt xcu : Int32} {xtk xtv xaf xro xsc xho xvk xvf xvs xcv xco xff xfp xfe xfb xop : Nat → Int32} {n : Nat}
theorem xr_E {post : Int32 → SX → Prop} {f t : Nat} (ht : t < 1600) (h : ∀ Q : SX → Prop, (∀ u', rx_L post f (nI (t + 1)) u' → Q u') → wpX_startExpr Q (xdl, xtn, xpp, xvc, xcc, xfc, xoc, 0, xan, xex, xen, xfl, xac, -1, xsp, xmd, xrt, xcu, xtk, xtv, xaf, xro, xsc, xho, xvk, xvf, xvs, xcv, xco, xff, xfp, xfe, xfb, xop)) : wX_run_16 post (f + 1) (nI t) xdl xtn xpp xvc xcc xfc xoc 0 xan xex xen xfl xac (-1) xsp xmd xrt xcu xtk xtv xaf xro xsc xho xvk xvf xvs xcv xco xff xfp xfe xfb xop := by
  refine pk_le 1600 t (fun z => by omega) (fun _ => br_t rfl (br_t rfl (h _ (fun u' hu => ?_))))
  obtain ⟨xdl, xtn, xpp, xvc, xcc, xfc, xoc, xag, xan, xex, xen, xfl, xac, xst, xsp, xmd, xrt, xcu, xtk, xtv, xaf, xro, xsc, xho, xvk, xvf, xvs, xcv, xco, xff, xfp, xfe, xfb, xop⟩ := u'
  exact nm_r (nI_1 t) hu
theorem xr_R {post : Int32 → SX → Prop} {f t : Nat} (ht : t < 1600) (h : ∀ Q : SX → Prop, (∀ u', rx_L post f (nI (t + 1)) u' → Q u') → wpX_handOverAnswer Q (xdl, xtn, xpp, xvc, xcc, xfc, xoc, 1, xan, xex, xen, xfl, xac, -1, xsp, xmd, xrt, xcu, xtk, xtv, xaf, xro, xsc, xho, xvk, xvf, xvs, xcv, xco, xff, xfp, xfe, xfb, xop)) : wX_run_16 post (f + 1) (nI t) xdl xtn xpp xvc xcc xfc xoc 1 xan xex xen xfl xac (-1) xsp xmd xrt xcu xtk xtv xaf xro xsc xho xvk xvf xvs xcv xco xff xfp xfe xfb xop := by
  refine pk_le 1600 t (fun z => by omega) (fun _ => br_t rfl (br_f (by decide) (h _ (fun u' hu => ?_))))
  obtain ⟨xdl, xtn, xpp, xvc, xcc, xfc, xoc, xag, xan, xex, xen, xfl, xac, xst, xsp, xmd, xrt, xcu, xtk, xtv, xaf, xro, xsc, xho, xvk, xvf, xvs, xcv, xco, xff, xfp, xfe, xfb, xop⟩ := u'
  exact nm_r (nI_1 t) hu
theorem xr_end {post : Int32 → SX → Prop} {f t : Nat} (ht : t < 1600) (hs : ¬ xst = -1) (h : post xst (xdl, xtn, xpp, xvc, xcc, xfc, xoc, xag, xan, xex, xen, xfl, xac, xst, xsp, xmd, xrt, xcu, xtk, xtv, xaf, xro, xsc, xho, xvk, xvf, xvs, xcv, xco, xff, xfp, xfe, xfb, xop)) : wX_run_16 post (f + 1) (nI t) xdl xtn xpp xvc xcc xfc xoc xag xan xex xen xfl xac xst xsp xmd xrt xcu xtk xtv xaf xro xsc xho xvk xvf xvs xcv xco xff xfp xfe xfb xop :=
  pk_le 1600 t (fun z => by omega) (fun _ => br_f hs h)
theorem xr_fuel {Q : SX → Prop} (hs : xsp = xfl) (h : Q (xdl, xtn, xpp, xvc, xcc, xfc, xoc, xag, xan, xex, xen, xfl, xac, 4, xsp, xmd, xrt, xcu, xtk, xtv, xaf, xro, xsc, xho, xvk, xvf, xvs, xcv, xco, xff, xfp, xfe, xfb, xop)) : wpX_startExpr Q (xdl, xtn, xpp, xvc, xcc, xfc, xoc, xag, xan, xex, xen, xfl, xac, xst, xsp, xmd, xrt, xcu, xtk, xtv, xaf, xro, xsc, xho, xvk, xvf, xvs, xcv, xco, xff, xfp, xfe, xfb, xop) := br_t hs h
theorem xr_lit (H : tk_ok xtk n) {q s F : Nat} (hq : q < n) (hk : tk_K xtk n q = 3 ∨ tk_K xtk n q = 5) (hs : s < F) (hF : F ≤ 400) {Q : SX → Prop} (h : Q (xdl, xtn, xpp, xvc, xcc, xfc, xoc, 1, nI q, nI q, xen, nI F, xac, xst, nI (s + 1), xmd, xrt, xcu, xtk, xtv, xaf, xro, xsc, xho, xvk, xvf, xvs, xcv, xco, xff, xfp, xfe, xfb, xop)) : wpX_startExpr Q (xdl, xtn, xpp, xvc, xcc, xfc, xoc, xag, xan, nI q, xen, nI F, xac, xst, nI s, xmd, xrt, xcu, xtk, xtv, xaf, xro, xsc, xho, xvk, xvf, xvs, xcv, xco, xff, xfp, xfe, xfb, xop) := by
  have k20 := tk_20 H q
  refine pk_eq s F (fun z => by omega) (fun _ => nm_r (nI_1 s) ⟨tk_in H hq, nm_r (tk_c H hq) (pk_eq (tk_K xtk n q) 1 (fun z => by omega) (fun _ => pk_eq (tk_K xtk n q) 4 (fun z => by omega) (fun _ => h)))⟩)
theorem xr_bvL {c h : Nat} (hc : c < 404) (hh : h < 2 ^ 20) {post : Int32 → Prop} (hp : post (xcv c)) : ∀ d x e, x + d = h → xh_W xco d e c → wX_boundValue_7 post (nI h) xdl xtn xpp xvc xcc xfc xoc xag xan xex xen xfl xac xst xsp xmd xrt xcu xtk xtv xaf xro xsc xho xvk xvf xvs xcv xco xff xfp xfe xfb xop (d + 1) e (nI x) := by
  intro d
  induction d with
  | zero =>
    intro x e ex w
    have w : e = nI c := w
    subst w
    refine pk_le h x (fun _ => ⟨vp_in_nI hc (by omega), ?_⟩) (fun z => by omega)
    rw [nI_clamp (by omega)]; exact hp
  | succ d ih =>
    intro x e ex w
    obtain ⟨c0, e0, l0, w⟩ := w
    subst e0
    refine pk_le h x (fun z => by omega) (fun _ => ⟨vp_in_nI l0 (by omega), nm_r (show xco (nI c0).toNatClampNeg = xco c0 from by rw [nI_clamp (by omega)]) (nm_r (nI_1 x) (ih (x + 1) (xco c0) (by omega) w))⟩)
theorem xr_bv {c h : Nat} (hc : c < 404) (hh : h < 2 ^ 20) {post : Int32 → Prop} (hp : post (xcv c)) (w : xh_W xco h xen c) : wpX_boundValue post (xdl, xtn, xpp, xvc, xcc, xfc, xoc, xag, xan, xex, xen, xfl, xac, xst, xsp, xmd, xrt, xcu, xtk, xtv, xaf, xro, xsc, xho, xvk, xvf, xvs, xcv, xco, xff, xfp, xfe, xfb, xop) (nI h) :=
  ⟨h + 1, xr_bvL hc hh hp h 0 xen (by omega) w⟩
theorem xr_sym (H : tk_ok xtk n) {q s F c h' : Nat} (hq : q < n) (hk : tk_K xtk n q = 4) (hs : s < F) (hF : F ≤ 400) (hc : c < 404) (hh : h' < 2 ^ 20) (ho : xho q = nI h') (w : xh_W xco h' xen c) {Q : SX → Prop} (h : Q (xdl, xtn, xpp, xvc, xcc, xfc, xoc, 1, xcv c, nI q, xen, nI F, xac, xst, nI (s + 1), xmd, xrt, xcu, xtk, xtv, xaf, xro, xsc, xho, xvk, xvf, xvs, xcv, xco, xff, xfp, xfe, xfb, xop)) : wpX_startExpr Q (xdl, xtn, xpp, xvc, xcc, xfc, xoc, xag, xan, nI q, xen, nI F, xac, xst, nI s, xmd, xrt, xcu, xtk, xtv, xaf, xro, xsc, xho, xvk, xvf, xvs, xcv, xco, xff, xfp, xfe, xfb, xop) := by
  have H1 := H.1
  have k20 := tk_20 H q
  refine pk_eq s F (fun z => by omega) (fun _ => nm_r (nI_1 s) ⟨tk_in H hq, nm_r (tk_c H hq) (pk_eq (tk_K xtk n q) 1 (fun z => by omega) (fun _ => pk_eq (tk_K xtk n q) 4 (fun _ => ⟨tk_in H hq, ?_⟩) (fun z => absurd hk z)))⟩)
  rw [nI_clamp (by omega), ho]
  exact xr_bv hc hh h w
/-- the steps before a form's own -/
theorem xr_form (H : tk_ok xtk n) {q s F : Nat} (hq : q < n) (hk : tk_K xtk n q = 1) (hs : s < F) (hF : F ≤ 400) {Q : SX → Prop} (h : wpX_startForm Q (xdl, xtn, xpp, xvc, xcc, xfc, xoc, xag, xan, nI q, xen, nI F, xac, xst, nI (s + 1), xmd, xrt, xcu, xtk, xtv, xaf, xro, xsc, xho, xvk, xvf, xvs, xcv, xco, xff, xfp, xfe, xfb, xop)) : wpX_startExpr Q (xdl, xtn, xpp, xvc, xcc, xfc, xoc, xag, xan, nI q, xen, nI F, xac, xst, nI s, xmd, xrt, xcu, xtk, xtv, xaf, xro, xsc, xho, xvk, xvf, xvs, xcv, xco, xff, xfp, xfe, xfb, xop) := by
  have k20 := tk_20 H q
  exact pk_eq s F (fun z => by omega) (fun _ => nm_r (nI_1 s) ⟨tk_in H hq, nm_r (tk_c H hq) (pk_eq (tk_K xtk n q) 1 (fun _ => h) (fun z => absurd hk z))⟩)
theorem xr_new {k f s : Int32} {vc : Nat} (hv : vc < 528) {Q : Int32 → SX → Prop} (h : Q (nI vc) (xdl, xtn, xpp, nI (vc + 1), xcc, xfc, xoc, xag, xan, xex, xen, xfl, xac, xst, xsp, xmd, xrt, xcu, xtk, xtv, xaf, xro, xsc, xho, upd xvk vc k, upd xvf vc f, upd xvs vc s, xcv, xco, xff, xfp, xfe, xfb, xop)) : wpX_newValue Q (xdl, xtn, xpp, nI vc, xcc, xfc, xoc, xag, xan, xex, xen, xfl, xac, xst, xsp, xmd, xrt, xcu, xtk, xtv, xaf, xro, xsc, xho, xvk, xvf, xvs, xcv, xco, xff, xfp, xfe, xfb, xop) k f s := by
  unfold wpX_newValue
  dsimp only
  exact xv_set hv (nm_r (nI_1 vc) h)
theorem xr_quote (H : tk_ok xtk n) {q : Nat} (hq : q + 1 < n) (hk : tk_K xtk n (q + 1) = 6) {Q : SX → Prop} (h : Q (xdl, xtn, xpp, xvc, xcc, xfc, xoc, 1, nI (q + 2), nI q, xen, xfl, xac, xst, xsp, xmd, xrt, xcu, xtk, xtv, xaf, xro, xsc, xho, xvk, xvf, xvs, xcv, xco, xff, xfp, xfe, xfb, xop)) : wpX_startForm Q (xdl, xtn, xpp, xvc, xcc, xfc, xoc, xag, xan, nI q, xen, xfl, xac, xst, xsp, xmd, xrt, xcu, xtk, xtv, xaf, xro, xsc, xho, xvk, xvf, xvs, xcv, xco, xff, xfp, xfe, xfb, xop) := by
  refine ⟨by rw [nI_1]; exact tk_in H hq, nm_r (show xtk (nI q + 1).toNatClampNeg = nI (tk_K xtk n (q + 1)) from by rw [nI_1]; exact tk_c H hq) ?_⟩
  rw [hk]
  exact pk_lt 6 6 (fun z => by omega) (fun _ => pk_lt 9 6 (fun z => by omega) (fun _ => pk_eq 6 6 (fun _ => nm_r (ni_2 q) h) (fun z => absurd rfl z)))
theorem xr_lam (H : tk_ok xtk n) {q vc : Nat} (hq : q + 1 < n) (hk : tk_K xtk n (q + 1) = 7) (hv : vc < 528) {Q : SX → Prop} (h : Q (xdl, xtn, xpp, nI (vc + 1), xcc, xfc, xoc, 1, nI vc, nI q, xen, xfl, xac, xst, xsp, xmd, xrt, xcu, xtk, xtv, xaf, xro, xsc, xho, upd xvk vc 4, upd xvf vc (nI q), upd xvs vc xen, xcv, xco, xff, xfp, xfe, xfb, xop)) : wpX_startForm Q (xdl, xtn, xpp, nI vc, xcc, xfc, xoc, xag, xan, nI q, xen, xfl, xac, xst, xsp, xmd, xrt, xcu, xtk, xtv, xaf, xro, xsc, xho, xvk, xvf, xvs, xcv, xco, xff, xfp, xfe, xfb, xop) := by
  refine ⟨by rw [nI_1]; exact tk_in H hq, nm_r (show xtk (nI q + 1).toNatClampNeg = nI (tk_K xtk n (q + 1)) from by rw [nI_1]; exact tk_c H hq) ?_⟩
  rw [hk]
  exact pk_lt 7 6 (fun z => by omega) (fun _ => pk_lt 9 7 (fun z => by omega) (fun _ => pk_eq 7 6 (fun z => by omega) (fun _ => pk_eq 7 7 (fun _ => xr_new hv h) (fun z => absurd rfl z))))
/-- a form's first part -/
def xp_1 (K a : Nat → Nat) (n q p : Nat) : Prop := ((K (q + 1) = 8 ∨ K (q + 1) = 9) ∧ p = q + 5) ∨ (10 ≤ K (q + 1) ∧ p = q + 2) ∨ (K (q + 1) < 6 ∧ K (q + 1) ≠ 2 ∧ a (q + 1) < n ∧ ((K (a (q + 1)) = 2 ∧ p = q + 1) ∨ (K (a (q + 1)) ≠ 2 ∧ p = a (q + 1))))
theorem xr_first (H : tk_ok xtk n) (A : xb_A (tk_K xtk n) n xaf) {q p : Nat} (hq : q + 1 < n) (hp : xp_1 (tk_K xtk n) (sk_f (tk_K xtk n) n) n q p) {post : Int32 → Prop} (h : post (nI p)) : wpX_firstPart post (xdl, xtn, xpp, xvc, xcc, xfc, xoc, xag, xan, xex, xen, xfl, xac, xst, xsp, xmd, xrt, xcu, xtk, xtv, xaf, xro, xsc, xho, xvk, xvf, xvs, xcv, xco, xff, xfp, xfe, xfb, xop) (nI q) := by
  have H1 := H.1
  have k20 := tk_20 H (q + 1)
  refine ⟨by rw [nI_1]; exact tk_in H hq, nm_r (show xtk (nI q + 1).toNatClampNeg = nI (tk_K xtk n (q + 1)) from by rw [nI_1]; exact tk_c H hq) ?_⟩
  rcases hp with ⟨k, e⟩ | ⟨k, e⟩ | ⟨k, k2, l, e⟩
  · subst e
    rw [ni_5]
    exact pk_eq (tk_K xtk n (q + 1)) 8 (fun _ => h) (fun z => pk_eq (tk_K xtk n (q + 1)) 9 (fun _ => h) (fun z2 => by omega))
  · subst e
    rw [ni_2]
    exact pk_eq (tk_K xtk n (q + 1)) 8 (fun z => by omega) (fun z => pk_eq (tk_K xtk n (q + 1)) 9 (fun z => by omega) (fun z2 => pk_lt (tk_K xtk n (q + 1)) 6 (fun z => by omega) (fun _ => h)))
  · refine pk_eq (tk_K xtk n (q + 1)) 8 (fun z => by omega) (fun z => pk_eq (tk_K xtk n (q + 1)) 9 (fun z => by omega) (fun z2 => pk_lt (tk_K xtk n (q + 1)) 6 (fun _ => ?_) (fun z => by omega)))
    rw [nI_1]
    refine ⟨tk_in H hq, nm_r (show xaf (nI (q + 1)).toNatClampNeg = nI (sk_f (tk_K xtk n) n (q + 1)) from by rw [nI_clamp (by omega)]; exact (A _ hq k2).2) ⟨tk_in H l, tk_b H l 2 (fun z => ?_) (fun z => ?_)⟩⟩
    · rcases e with e | e
      · rw [e.2] at h; exact h
      · exact absurd z e.1
    · rcases e with e | e
      · exact absurd e.1 z
      · rw [e.2] at h; exact h
theorem xr_opn (H : tk_ok xtk n) (A : xb_A (tk_K xtk n) n xaf) {q p fc : Nat} (hq : q + 1 < n) (hp : xp_1 (tk_K xtk n) (sk_f (tk_K xtk n) n) n q p) (hf : fc < 400) {Q : SX → Prop} (h : Q (xdl, xtn, xpp, xvc, xcc, nI (fc + 1), xoc, xag, xan, nI p, xen, xfl, xac, xst, xsp, xmd, xrt, xcu, xtk, xtv, xaf, xro, xsc, xho, xvk, xvf, xvs, xcv, xco, upd xff fc (nI q), upd xfp fc (nI p), upd xfe fc xen, upd xfb fc xoc, xop)) : wpX_openFrame Q (xdl, xtn, xpp, xvc, xcc, nI fc, xoc, xag, xan, nI q, xen, xfl, xac, xst, xsp, xmd, xrt, xcu, xtk, xtv, xaf, xro, xsc, xho, xvk, xvf, xvs, xcv, xco, xff, xfp, xfe, xfb, xop) := by
  have hi : vp_in (nI fc) 400 := vp_in_nI hf (by omega)
  have hc : (nI fc).toNatClampNeg = fc := nI_clamp (by omega)
  unfold wpX_openFrame
  dsimp only
  refine xr_first H A hq hp ⟨hi, nm_r (by rw [hc]) ⟨hi, nm_r (by rw [hc]) ⟨hi, nm_r (by rw [hc]) ⟨hi, nm_r (by rw [hc]) (nm_r (nI_1 fc) h)⟩⟩⟩⟩
theorem xr_open (H : tk_ok xtk n) (A : xb_A (tk_K xtk n) n xaf) {q p fc : Nat} (hq : q + 1 < n) (hp : xp_1 (tk_K xtk n) (sk_f (tk_K xtk n) n) n q p) (h9 : tk_K xtk n (q + 1) ≠ 9) (hf : fc < 400) {Q : SX → Prop} (h : Q (xdl, xtn, xpp, xvc, xcc, nI (fc + 1), xoc, xag, xan, nI p, xen, xfl, xac, xst, xsp, xmd, xrt, xcu, xtk, xtv, xaf, xro, xsc, xho, xvk, xvf, xvs, xcv, xco, upd xff fc (nI q), upd xfp fc (nI p), upd xfe fc xen, upd xfb fc xoc, xop)) : wpX_startForm Q (xdl, xtn, xpp, xvc, xcc, nI fc, xoc, xag, xan, nI q, xen, xfl, xac, xst, xsp, xmd, xrt, xcu, xtk, xtv, xaf, xro, xsc, xho, xvk, xvf, xvs, xcv, xco, xff, xfp, xfe, xfb, xop) := by
  have k20 := tk_20 H (q + 1)
  have O : wpX_openFrame Q (xdl, xtn, xpp, xvc, xcc, nI fc, xoc, xag, xan, nI q, xen, xfl, xac, xst, xsp, xmd, xrt, xcu, xtk, xtv, xaf, xro, xsc, xho, xvk, xvf, xvs, xcv, xco, xff, xfp, xfe, xfb, xop) := xr_opn H A hq hp hf h
  have k67 : tk_K xtk n (q + 1) ≠ 6 ∧ tk_K xtk n (q + 1) ≠ 7 := by
    rcases hp with ⟨k, _⟩ | ⟨k, _⟩ | ⟨k, _⟩ <;> omega
  refine ⟨by rw [nI_1]; exact tk_in H hq, nm_r (show xtk (nI q + 1).toNatClampNeg = nI (tk_K xtk n (q + 1)) from by rw [nI_1]; exact tk_c H hq) ?_⟩
  exact pk_lt (tk_K xtk n (q + 1)) 6 (fun _ => O) (fun z => pk_lt 9 (tk_K xtk n (q + 1)) (fun _ => O) (fun z2 => pk_eq (tk_K xtk n (q + 1)) 6 (fun z => absurd z k67.1) (fun _ => pk_eq (tk_K xtk n (q + 1)) 7 (fun z => absurd z k67.2) (fun _ => pk_eq (tk_K xtk n (q + 1)) 8 (fun _ => O) (fun z8 => pk_eq (tk_K xtk n (q + 1)) 9 (fun z => absurd z h9) (fun _ => trivial))))))
/-- cells: k of them from cc on -/
def xc_v (cv val : Nat → Int32) (cc : Nat) : Nat → Nat → Int32
  | 0 => cv
  | j + 1 => upd (xc_v cv val cc j) (cc + j) (val j)
theorem xc_vs {cv val : Nat → Int32} {cc : Nat} : ∀ {j i : Nat}, i < j → xc_v cv val cc j (cc + i) = val i
  | 0, _, h => by omega
  | j + 1, i, h => by
    by_cases z : i = j
    · subst z; exact pk_us
    · exact (pk_un (by omega)).trans (xc_vs (by omega))
theorem xc_vn {cv val : Nat → Int32} {cc i : Nat} (h : i < cc) : ∀ {j : Nat}, xc_v cv val cc j i = cv i
  | 0 => rfl
  | j + 1 => (pk_un (by omega)).trans (xc_vn h)
def xc_S (cv co : Nat → Int32) (val : Nat → Int32) (e0 : Int32) (cc j : Nat) (cv' co' : Nat → Int32) : Prop := cv' = xc_v cv val cc j ∧ co' = xc_v co (hb_e e0 cc) cc j
theorem xc_up {cv co val : Nat → Int32} {e0 x : Int32} {cc j : Nat} {cv' co' : Nat → Int32} (h : xc_S cv co val e0 cc j cv' co') (hx : x = val j) : xc_S cv co val e0 cc (j + 1) (upd cv' (cc + j) x) (upd co' (cc + j) (hb_e e0 cc j)) := by
  rw [h.1, h.2, hx]
  exact ⟨rfl, rfl⟩
theorem xc_add {cc : Nat} {v : Int32} (hc : cc < 404) {Q : SX → Prop} (h : Q (xdl, xtn, xpp, xvc, nI (cc + 1), xfc, xoc, xag, xan, xex, nI cc, xfl, xac, xst, xsp, xmd, xrt, xcu, xtk, xtv, xaf, xro, xsc, xho, xvk, xvf, xvs, upd xcv cc v, upd xco cc xen, xff, xfp, xfe, xfb, xop)) : wpX_addCell Q (xdl, xtn, xpp, xvc, nI cc, xfc, xoc, xag, xan, xex, xen, xfl, xac, xst, xsp, xmd, xrt, xcu, xtk, xtv, xaf, xro, xsc, xho, xvk, xvf, xvs, xcv, xco, xff, xfp, xfe, xfb, xop) v := by
  have hi : vp_in (nI cc) 404 := vp_in_nI hc (by omega)
  have hcl : (nI cc).toNatClampNeg = cc := nI_clamp (by omega)
  exact ⟨hi, nm_r (by rw [hcl]) ⟨hi, nm_r (by rw [hcl]) (nm_r (nI_1 cc) h)⟩⟩
theorem xc_cellsL {cc b k : Nat} (hc : cc + k ≤ 404) (hb : b + k ≤ 400) {Q : SX → Prop} (h : ∀ cv' co', xc_S xcv xco (fun i => xop (b + i)) xen cc k cv' co' → Q (xdl, xtn, xpp, xvc, nI (cc + k), xfc, xoc, xag, xan, xex, hb_e xen cc k, xfl, xac, xst, xsp, xmd, xrt, xcu, xtk, xtv, xaf, xro, xsc, xho, xvk, xvf, xvs, cv', co', xff, xfp, xfe, xfb, xop)) :
    ∀ d j (cv' co' : Nat → Int32), j + d = k → xc_S xcv xco (fun i => xop (b + i)) xen cc j cv' co' → wX_addCells_2 Q (nI b) (nI k) (d + 1) (nI j) xdl xtn xpp xvc (nI (cc + j)) xfc xoc xag xan xex (hb_e xen cc j) xfl xac xst xsp xmd xrt xcu xtk xtv xaf xro xsc xho xvk xvf xvs cv' co' xff xfp xfe xfb xop := by
  intro d
  induction d with
  | zero =>
    intro j cv' co' e S
    have ej : j = k := by omega
    subst ej
    exact pk_le j j (fun _ => h cv' co' S) (fun z => by omega)
  | succ d ih =>
    intro j cv' co' e S
    refine pk_le k j (fun z => by omega) (fun _ => ?_)
    rw [nI_add, nI_clamp (by omega)]
    refine ⟨vp_in_nI (by omega) (by omega), xc_add (xcv := cv') (xco := co') (by omega) (nm_r (nI_1 j) ?_)⟩
    exact ih (j + 1) _ _ (by omega) (xc_up S rfl)
theorem xc_cells {cc b k : Nat} (hc : cc + k ≤ 404) (hb : b + k ≤ 400) {Q : SX → Prop} (h : ∀ cv' co', xc_S xcv xco (fun i => xop (b + i)) xen cc k cv' co' → Q (xdl, xtn, xpp, xvc, nI (cc + k), xfc, xoc, xag, xan, xex, hb_e xen cc k, xfl, xac, xst, xsp, xmd, xrt, xcu, xtk, xtv, xaf, xro, xsc, xho, xvk, xvf, xvs, cv', co', xff, xfp, xfe, xfb, xop)) : wpX_addCells Q (xdl, xtn, xpp, xvc, nI cc, xfc, xoc, xag, xan, xex, xen, xfl, xac, xst, xsp, xmd, xrt, xcu, xtk, xtv, xaf, xro, xsc, xho, xvk, xvf, xvs, xcv, xco, xff, xfp, xfe, xfb, xop) (nI b) (nI k) :=
  ⟨k + 1, xc_cellsL hc hb h k 0 xcv xco (by omega) ⟨rfl, rfl⟩⟩
theorem xc_emptyL {cc k : Nat} (hc : cc + k ≤ 404) {Q : SX → Prop} (h : ∀ cv' co', xc_S xcv xco (fun _ => -1) xen cc k cv' co' → Q (xdl, xtn, xpp, xvc, nI (cc + k), xfc, xoc, xag, xan, xex, hb_e xen cc k, xfl, xac, xst, xsp, xmd, xrt, xcu, xtk, xtv, xaf, xro, xsc, xho, xvk, xvf, xvs, cv', co', xff, xfp, xfe, xfb, xop)) :
    ∀ d j (cv' co' : Nat → Int32), j + d = k → xc_S xcv xco (fun _ => -1) xen cc j cv' co' → wX_addEmptyCells_10 Q (nI k) (d + 1) (nI j) xdl xtn xpp xvc (nI (cc + j)) xfc xoc xag xan xex (hb_e xen cc j) xfl xac xst xsp xmd xrt xcu xtk xtv xaf xro xsc xho xvk xvf xvs cv' co' xff xfp xfe xfb xop := by
  intro d
  induction d with
  | zero =>
    intro j cv' co' e S
    have ej : j = k := by omega
    subst ej
    exact pk_le j j (fun _ => h cv' co' S) (fun z => by omega)
  | succ d ih =>
    intro j cv' co' e S
    refine pk_le k j (fun z => by omega) (fun _ => xc_add (xcv := cv') (xco := co') (by omega) (nm_r (nI_1 j) ?_))
    exact ih (j + 1) _ _ (by omega) (xc_up S rfl)
theorem xc_empty (H : tk_ok xtk n) (A : xb_A (tk_K xtk n) n xaf) {cc k q : Nat} (hc : cc + k ≤ 404) (lc : ls_C (tk_K xtk n) (sk_f (tk_K xtk n) n) (q + 3) k) {Q : SX → Prop} (h : ∀ cv' co', xc_S xcv xco (fun _ => -1) xen cc k cv' co' → Q (xdl, xtn, xpp, xvc, nI (cc + k), xfc, xoc, xag, xan, xex, hb_e xen cc k, xfl, xac, xst, xsp, xmd, xrt, xcu, xtk, xtv, xaf, xro, xsc, xho, xvk, xvf, xvs, cv', co', xff, xfp, xfe, xfb, xop)) : wpX_addEmptyCells Q (xdl, xtn, xpp, xvc, nI cc, xfc, xoc, xag, xan, xex, xen, xfl, xac, xst, xsp, xmd, xrt, xcu, xtk, xtv, xaf, xro, xsc, xho, xvk, xvf, xvs, xcv, xco, xff, xfp, xfe, xfb, xop) (nI q) := by
  unfold wpX_addEmptyCells
  dsimp only
  rw [ni_2]
  exact xi_items (i := q + 2) H A lc ⟨k + 1, xc_emptyL hc h k 0 xcv xco (by omega) ⟨rfl, rfl⟩⟩
theorem xr_letrec (H : tk_ok xtk n) (A : xb_A (tk_K xtk n) n xaf) {q fc cc k : Nat} (hq : q + 1 < n) (h9 : tk_K xtk n (q + 1) = 9) (hf : fc < 400) (hc : cc + k ≤ 404) (lc : ls_C (tk_K xtk n) (sk_f (tk_K xtk n) n) (q + 3) k) {Q : SX → Prop} (h : ∀ cv' co', xc_S xcv xco (fun _ => -1) xen cc k cv' co' → Q (xdl, xtn, xpp, xvc, nI (cc + k), nI (fc + 1), xoc, xag, xan, nI (q + 5), hb_e xen cc k, xfl, xac, xst, xsp, xmd, xrt, xcu, xtk, xtv, xaf, xro, xsc, xho, xvk, xvf, xvs, cv', co', upd xff fc (nI q), upd xfp fc (nI (q + 5)), upd xfe fc (hb_e xen cc k), upd xfb fc xoc, xop)) : wpX_startForm Q (xdl, xtn, xpp, xvc, nI cc, nI fc, xoc, xag, xan, nI q, xen, xfl, xac, xst, xsp, xmd, xrt, xcu, xtk, xtv, xaf, xro, xsc, xho, xvk, xvf, xvs, xcv, xco, xff, xfp, xfe, xfb, xop) := by
  refine ⟨by rw [nI_1]; exact tk_in H hq, nm_r (show xtk (nI q + 1).toNatClampNeg = nI (tk_K xtk n (q + 1)) from by rw [nI_1]; exact tk_c H hq) ?_⟩
  rw [h9]
  refine pk_lt 9 6 (fun z => by omega) (fun z => pk_lt 9 9 (fun z => by omega) (fun z2 => pk_eq 9 6 (fun z => by omega) (fun _ => pk_eq 9 7 (fun z => by omega) (fun _ => pk_eq 9 8 (fun z => by omega) (fun z8 => pk_eq 9 9 (fun _ => ?_) (fun z => absurd rfl z))))))
  refine xc_empty H A hc lc (fun cv' co' S => ?_)
  exact xr_opn (xcv := cv') (xco := co') (xen := hb_e xen cc k) H A hq (Or.inl ⟨Or.inr h9, rfl⟩) hf (h cv' co' S)
end
