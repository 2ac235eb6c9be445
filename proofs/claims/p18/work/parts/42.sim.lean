/-- the program, as the picture has it: roles, scopes, hops -/
def pq_F (xtk xtv : Nat → Int32) (n : Nat) (R sc : Nat → Int32) (h : Nat → Nat) (par : Nat → Nat) : Prop :=
  tk_ok xtk n ∧ (∀ i, i < n → tk_K xtk n i ≠ 2 → dp_I (tk_K xtk n) i (sk_f (tk_K xtk n) n i)) ∧ rw_W (tk_K xtk n) xtv (sk_f (tk_K xtk n) n) n n R par ∧ (∀ i, i < n → R i = 1 → tk_K xtk n i = 1 → sc_L (tk_K xtk n) (sk_f (tk_K xtk n) n) sc i) ∧
  (∀ i, i < n → R i = 1 → tk_K xtk n i = 4 → ∃ l, sc_H n sc l (sc i) ∧ h i < l.length ∧ l.length ≤ i)
/-- an object's own program -/
def sg_P (xtk xtv : Nat → Int32) (n : Nat) (R : Nat → Int32) (h : Nat → Nat) (xaf xro xsc xho : Nat → Int32) : Prop :=
  xb_A (tk_K xtk n) n xaf ∧ (∀ i, i < n → R i = 1 → tk_K xtk n i = 4 → xho i = nI (h i)) ∧ (∀ vk vf vs, lt_L (tk_K xtk n) xtv (sk_f (tk_K xtk n) n) R vk vf vs n → cp_P xtk xtv n xaf xro xsc xho vk vf vs)
/-- the object agrees with the picture where the picture lives -/
def sg_A (xtk xtv : Nat → Int32) (n : Nat) (R : Nat → Int32) (h : Nat → Nat) (VP : Nat → Prop) (cc fc oc : Nat) (pvk pvf pvs pcv pco pff pfp pfe pfb pop xaf xro xsc xho xvk xvf xvs xcv xco xff xfp xfe xfb xop : Nat → Int32) : Prop :=
  sg_P xtk xtv n R h xaf xro xsc xho ∧ lt_L (tk_K xtk n) xtv (sk_f (tk_K xtk n) n) R xvk xvf xvs n ∧ (∀ i, VP i → ag_V pvk pvf pvs xvk xvf xvs i) ∧ (∀ c, c < cc → xcv c = pcv c ∧ xco c = pco c) ∧
  (∀ i, i < fc → xff i = pff i ∧ xfp i = pfp i ∧ xfe i = pfe i ∧ xfb i = pfb i) ∧ (∀ i, i < oc → xop i = pop i)
def sg_E (dl : Int32) (xtk xtv : Nat → Int32) (n : Nat) (R : Nat → Int32) (h : Nat → Nat) (VP : Nat → Prop) (vc cc fc oc s q : Nat) (pen pac pmd : Int32) (pvk pvf pvs pcv pco pff pfp pfe pfb pop : Nat → Int32) (F : Nat) (u : SX) : Prop :=
  ∃ (xan : Int32) (xaf xro xsc xho xvk xvf xvs xcv xco xff xfp xfe xfb xop : Nat → Int32), u = (dl, nI n, 1, nI vc, nI cc, nI fc, nI oc, 0, xan, nI q, pen, nI F, pac, -1, nI s, pmd, -1, -1, xtk, xtv, xaf, xro, xsc, xho, xvk, xvf, xvs, xcv, xco, xff, xfp, xfe, xfb, xop) ∧
    sg_A xtk xtv n R h VP cc fc oc pvk pvf pvs pcv pco pff pfp pfe pfb pop xaf xro xsc xho xvk xvf xvs xcv xco xff xfp xfe xfb xop
def sg_R (dl : Int32) (xtk xtv : Nat → Int32) (n : Nat) (R : Nat → Int32) (h : Nat → Nat) (VP : Nat → Prop) (vc cc fc oc s va : Nat) (pac pmd : Int32) (pvk pvf pvs pcv pco pff pfp pfe pfb pop : Nat → Int32) (F : Nat) (u : SX) : Prop :=
  ∃ (xex xen : Int32) (xaf xro xsc xho xvk xvf xvs xcv xco xff xfp xfe xfb xop : Nat → Int32), u = (dl, nI n, 1, nI vc, nI cc, nI fc, nI oc, 1, nI va, xex, xen, nI F, pac, -1, nI s, pmd, -1, -1, xtk, xtv, xaf, xro, xsc, xho, xvk, xvf, xvs, xcv, xco, xff, xfp, xfe, xfb, xop) ∧
    sg_A xtk xtv n R h VP cc fc oc pvk pvf pvs pcv pco pff pfp pfe pfb pop xaf xro xsc xho xvk xvf xvs xcv xco xff xfp xfe xfb xop
/-- the invariant of the picture -/
def pi_I (K a : Nat → Nat) (R sc : Nat → Int32) (n ans : Nat) (VP : Nat → Prop) (nm : Nat → Nat) (vc cc fc oc u s t : Nat) (pvk pvf pvs pcv pco pff pfp pfe pfb pop : Nat → Int32) : Prop :=
  hp_B K R sc n VP nm vc cc cc pvk pvf pvs pcv pco ∧ vo_R VP pop oc ∧ fp_R K a R sc n nm cc pff pfp pfe pfb fc oc u ∧ sn_N vc cc fc oc u s t ans
def sp_ET (dl : Int32) (xtk xtv : Nat → Int32) (n : Nat) (R sc : Nat → Int32) (h : Nat → Nat) (d : Nat) : Prop :=
  ∀ (VP : Nat → Prop) (nm : Nat → Nat) (vc cc fc oc u s t q : Nat) (pen pac pmd : Int32) (pvk pvf pvs pcv pco pff pfp pfe pfb pop : Nat → Int32), t + d = 900 → (pi_I (tk_K xtk n) (sk_f (tk_K xtk n) n) R sc n 0 VP nm vc cc fc oc u s t pvk pvf pvs pcv pco pff pfp pfe pfb pop) → q < n → R q = 1 → hp_E nm cc pen (sc q) → sp_T dl xtk xtv n t s (sg_E dl xtk xtv n R h VP vc cc fc oc s q pen pac pmd pvk pvf pvs pcv pco pff pfp pfe pfb pop)
def sp_RT (dl : Int32) (xtk xtv : Nat → Int32) (n : Nat) (R sc : Nat → Int32) (h : Nat → Nat) (d : Nat) : Prop :=
  ∀ (VP : Nat → Prop) (nm : Nat → Nat) (vc cc fc oc u s t va : Nat) (pac pmd : Int32) (pvk pvf pvs pcv pco pff pfp pfe pfb pop : Nat → Int32), t + d = 900 → (pi_I (tk_K xtk n) (sk_f (tk_K xtk n) n) R sc n 1 VP nm vc cc fc oc u s t pvk pvf pvs pcv pco pff pfp pfe pfb pop) → VP va → sp_T dl xtk xtv n t s (sg_R dl xtk xtv n R h VP vc cc fc oc s va pac pmd pvk pvf pvs pcv pco pff pfp pfe pfb pop)
section
variable {dl : Int32} {xtk xtv : Nat → Int32} {n : Nat} {R sc : Nat → Int32} {h : Nat → Nat} {par : Nat → Nat} {VP : Nat → Prop} {nm : Nat → Nat} {vc cc fc oc u s t q va d : Nat} {pen pac pmd : Int32} {pvk pvf pvs pcv pco pff pfp pfe pfb pop : Nat → Int32}
theorem sg_Eh (F : Nat) (u : SX) (hu : (sg_E dl xtk xtv n R h VP vc cc fc oc s q pen pac pmd pvk pvf pvs pcv pco pff pfp pfe pfb pop) F u) : sx_ag u = 0 ∧ sx_st u = -1 := by
  obtain ⟨xan, xaf, xro, xsc, xho, xvk, xvf, xvs, xcv, xco, xff, xfp, xfe, xfb, xop, e, _⟩ := hu
  rw [e]; exact ⟨rfl, rfl⟩
theorem sg_Rh (F : Nat) (u : SX) (hu : (sg_R dl xtk xtv n R h VP vc cc fc oc s va pac pmd pvk pvf pvs pcv pco pff pfp pfe pfb pop) F u) : sx_ag u = 1 ∧ sx_st u = -1 := by
  obtain ⟨xex, xen, xaf, xro, xsc, xho, xvk, xvf, xvs, xcv, xco, xff, xfp, xfe, xfb, xop, e, _⟩ := hu
  rw [e]; exact ⟨rfl, rfl⟩
theorem sg_out (u : SX) (Q : SX → Prop) (hu : (sg_E dl xtk xtv n R h VP vc cc fc oc s q pen pac pmd pvk pvf pvs pcv pco pff pfp pfe pfb pop) s u) (hQ : ∀ u', dq_OK dl xtk xtv n u' → sx_st u' = 4 → sx_sp u' = nI s → Q u') : wpX_startExpr Q u := by
  obtain ⟨xan, xaf, xro, xsc, xho, xvk, xvf, xvs, xcv, xco, xff, xfp, xfe, xfb, xop, rfl, A⟩ := hu
  exact xr_fuel rfl (hQ _ ⟨_, _, _, _, _, _, _, _, _, _, _, _, _, _, _,  _, _, _, _, _, _, _, _, _, _, _, _, _, _,  rfl, A.1.2.2 _ _ _ A.2.1⟩ rfl rfl)
theorem te_lit (PG : pq_F xtk xtv n R sc h par) (I : (pi_I (tk_K xtk n) (sk_f (tk_K xtk n) n) R sc n 0 VP nm vc cc fc oc u s t pvk pvf pvs pcv pco pff pfp pfe pfb pop)) (hq : q < n) (k3 : tk_K xtk n q = 3 ∨ tk_K xtk n q = 5) (ht : t + (d + 1) = 900) (hs4 : s < 400) (IH : sp_RT dl xtk xtv n R sc h d) : sp_T dl xtk xtv n t s (sg_E dl xtk xtv n R h VP vc cc fc oc s q pen pac pmd pvk pvf pvs pcv pco pff pfp pfe pfb pop) := by
  obtain ⟨B, O, Rf, N⟩ := I
  have H := PG.1
  unfold sn_N at N
  refine sp_Es (by omega) sg_Eh sg_out (fun F u Q hs hF hu hQ => ?_) (IH VP nm vc cc fc oc u (s + 1) (t + 1) q pac pmd pvk pvf pvs pcv pco pff pfp pfe pfb pop (by omega) ⟨B, O, Rf, by unfold sn_N; omega⟩ (B.2.2 q (Or.inl ⟨hq, by omega⟩)))
  obtain ⟨xan, xaf, xro, xsc, xho, xvk, xvf, xvs, xcv, xco, xff, xfp, xfe, xfb, xop, rfl, A⟩ := hu
  exact xr_lit H hq k3 hs hF (hQ _ ⟨_, _, _, _, _, _, _, _, _, _, _, _, _, _, _, _,  rfl, A⟩)
theorem te_sym (PG : pq_F xtk xtv n R sc h par) (I : (pi_I (tk_K xtk n) (sk_f (tk_K xtk n) n) R sc n 0 VP nm vc cc fc oc u s t pvk pvf pvs pcv pco pff pfp pfe pfb pop)) (hq : q < n) (rq : R q = 1) (k4 : tk_K xtk n q = 4) (hE : hp_E nm cc pen (sc q)) (ht : t + (d + 1) = 900) (hs4 : s < 400) (IH : sp_RT dl xtk xtv n R sc h d) : sp_T dl xtk xtv n t s (sg_E dl xtk xtv n R h VP vc cc fc oc s q pen pac pmd pvk pvf pvs pcv pco pff pfp pfe pfb pop) := by
  obtain ⟨B, O, Rf, N⟩ := I
  have H := PG.1
  have H1 := H.1
  unfold sn_N at N
  obtain ⟨l, p1, p2, p3⟩ := PG.2.2.2.2 q hq rq k4
  obtain ⟨i, hi, w⟩ := hp_walk H1 (by omega) B l (h q) pen (sc q) p1 p2 hE
  obtain ⟨a, v1, v2⟩ := (B.2.1 i hi).2.2 hi
  refine sp_Es (by omega) sg_Eh sg_out (fun F u Q hs hF hu hQ => ?_) (IH VP nm vc cc fc oc u (s + 1) (t + 1) a pac pmd pvk pvf pvs pcv pco pff pfp pfe pfb pop (by omega) ⟨B, O, Rf, by unfold sn_N; omega⟩ v2)
  obtain ⟨xan, xaf, xro, xsc, xho, xvk, xvf, xvs, xcv, xco, xff, xfp, xfe, xfb, xop, rfl, A⟩ := hu
  have e : xcv i = nI a := ((A.2.2.2.1 i hi).1).trans v1
  refine xr_sym H hq k4 hs hF (by omega) (by omega) (A.1.2.1 q hq rq k4) (w xco (fun c hc => (A.2.2.2.1 c hc).2)) ?_
  rw [e]
  exact hQ _ ⟨_, _, _, _, _, _, _, _, _, _, _, _, _, _, _, _,  rfl, A⟩
theorem te_quote (PG : pq_F xtk xtv n R sc h par) (I : (pi_I (tk_K xtk n) (sk_f (tk_K xtk n) n) R sc n 0 VP nm vc cc fc oc u s t pvk pvf pvs pcv pco pff pfp pfe pfb pop)) (hq : q < n) (rq : R q = 1) (k1 : tk_K xtk n q = 1) (k6 : tk_K xtk n (q + 1) = 6) (ht : t + (d + 1) = 900) (hs4 : s < 400) (IH : sp_RT dl xtk xtv n R sc h d) : sp_T dl xtk xtv n t s (sg_E dl xtk xtv n R h VP vc cc fc oc s q pen pac pmd pvk pvf pvs pcv pco pff pfp pfe pfb pop) := by
  obtain ⟨B, O, Rf, N⟩ := I
  have H := PG.1
  have H1 := H.1
  have W := PG.2.2.1
  unfold sn_N at N
  have hq1 : q + 1 < n := tk_lt (tk := xtk) (by omega)
  have hS := (W.2.1 q hq rq).1
  have lc : ls_C (tk_K xtk n) (sk_f (tk_K xtk n) n) (q + 2) 1 := by
    rcases gr_FSof hS k1 with ⟨k, l⟩ | ⟨k, l, k2, c', q'⟩ | ⟨k, l, k2, c', c1, c4, lc, bb⟩ | ⟨k, l⟩ | ⟨k, c', c4, l⟩
    · exact l
    · omega
    · omega
    · omega
    · omega
  have bd := ls_bd (K := (tk_K xtk n)) (n := n) (fun i => tk_0) lc
  have k2 := lc.1 0 (by omega)
  change tk_K xtk n (q + 2) ≠ 2 at k2
  have h2 : q + 2 < n := (bd.1 0 (by omega)).1
  have r2 : R (q + 2) = 2 := ((W.2.1 q hq rq).2.2.1 (q + 2) ⟨k1, k6, ls_M_0 k2⟩).1
  have hL : hp_L (tk_K xtk n) R n (q + 2) := by
    refine Or.inl ⟨h2, ?_⟩
    rcases (W.2.2.1 (q + 2) h2 r2).1 with z | z | z
    · exact Or.inl z
    · exact Or.inr (Or.inl z)
    · exact Or.inr (Or.inr ⟨r2, z.1⟩)
  refine sp_Es (by omega) sg_Eh sg_out (fun F u Q hs hF hu hQ => ?_) (IH VP nm vc cc fc oc u (s + 1) (t + 1) (q + 2) pac pmd pvk pvf pvs pcv pco pff pfp pfe pfb pop (by omega) ⟨B, O, Rf, by unfold sn_N; omega⟩ (B.2.2 _ hL))
  obtain ⟨xan, xaf, xro, xsc, xho, xvk, xvf, xvs, xcv, xco, xff, xfp, xfe, xfb, xop, rfl, A⟩ := hu
  exact xr_form H hq k1 hs hF (xr_quote H hq1 k6 (hQ _ ⟨_, _, _, _, _, _, _, _, _, _, _, _, _, _, _, _,  rfl, A⟩))
/-- a value is made -/
theorem ag_new {xvk xvf xvs : Nat → Int32} {k f s2 : Int32} (hlt : ∀ i, VP i → i < vc) (A : ∀ i, VP i → ag_V pvk pvf pvs xvk xvf xvs i) : ∀ i, (VP i ∨ i = vc) → ag_V (upd pvk vc k) (upd pvf vc f) (upd pvs vc s2) (upd xvk vc k) (upd xvf vc f) (upd xvs vc s2) i := fun i hi => by
  unfold ag_V
  rcases hi with hi | hi
  · have := hlt i hi
    have ne : i ≠ vc := by omega
    rw [pk_un ne, pk_un ne, pk_un ne, pk_un ne, pk_un ne, pk_un ne]
    exact A i hi
  · subst hi
    rw [pk_us, pk_us, pk_us, pk_us, pk_us, pk_us]
    exact ⟨rfl, fun _ => rfl, fun _ => rfl⟩
theorem lt_new {K a : Nat → Nat} {V r xvk xvf xvs : Nat → Int32} {k f s2 : Int32} (hv : 128 ≤ vc) (hn : n ≤ 64) (L : lt_L K V a r xvk xvf xvs n) : lt_L K V a r (upd xvk vc k) (upd xvf vc f) (upd xvs vc s2) n :=
  lt_Lk L (fun i hi => ⟨⟨pk_un (by omega), pk_un (by omega), pk_un (by omega)⟩, ⟨pk_un (by omega), pk_un (by omega), pk_un (by omega)⟩⟩)
theorem hp_new {K : Nat → Nat} {lo : Nat} {k f s2 : Int32} (hV : hp_V K R sc n (fun i => VP i ∨ i = vc) nm cc (upd pvk vc k) (upd pvf vc f) (upd pvs vc s2) vc) (B : hp_B K R sc n VP nm vc cc lo pvk pvf pvs pcv pco) : hp_B K R sc n (fun i => VP i ∨ i = vc) nm (vc + 1) cc lo (upd pvk vc k) (upd pvf vc f) (upd pvs vc s2) pcv pco := by
  refine hp_add (by omega) (fun a z => Or.inl z) (fun i hi => ⟨pk_un (by omega), pk_un (by omega), pk_un (by omega)⟩) (fun _ _ => ⟨rfl, rfl⟩) (fun i z => ?_) B
  rcases z with z | z
  · exact Or.inl z
  · subst z; exact Or.inr ⟨by omega, hV⟩
theorem te_lam (PG : pq_F xtk xtv n R sc h par) (I : (pi_I (tk_K xtk n) (sk_f (tk_K xtk n) n) R sc n 0 VP nm vc cc fc oc u s t pvk pvf pvs pcv pco pff pfp pfe pfb pop)) (hq : q < n) (rq : R q = 1) (k1 : tk_K xtk n q = 1) (k7 : tk_K xtk n (q + 1) = 7) (hE : hp_E nm cc pen (sc q)) (ht : t + (d + 1) = 900) (hs4 : s < 400) (IH : sp_RT dl xtk xtv n R sc h d) : sp_T dl xtk xtv n t s (sg_E dl xtk xtv n R h VP vc cc fc oc s q pen pac pmd pvk pvf pvs pcv pco pff pfp pfe pfb pop) := by
  obtain ⟨B, O, Rf, N⟩ := I
  have H := PG.1
  have H1 := H.1
  unfold sn_N at N
  have hq1 : q + 1 < n := tk_lt (tk := xtk) (by omega)
  refine sp_Es (by omega) sg_Eh sg_out (fun F u Q hs hF hu hQ => ?_) (IH (fun i => VP i ∨ i = vc) nm (vc + 1) cc fc oc u (s + 1) (t + 1) vc pac pmd (upd pvk vc 4) (upd pvf vc (nI q)) (upd pvs vc pen) pcv pco pff pfp pfe pfb pop (by omega) ⟨hp_new ?_ B, vo_m (fun a z => Or.inl z) (fun _ _ => rfl) O, Rf, by unfold sn_N; omega⟩ (Or.inr rfl))
  · obtain ⟨xan, xaf, xro, xsc, xho, xvk, xvf, xvs, xcv, xco, xff, xfp, xfe, xfb, xop, rfl, A⟩ := hu
    exact xr_form H hq k1 hs hF (xr_lam H hq1 k7 (by omega) (hQ _ ⟨_, _, _, _, _, _, _, _, _, _, _, _, _, _, _, _,  rfl, A.1, lt_new (by omega) H1 A.2.1, ag_new (fun i hi => (B.1 i hi).1) A.2.2.1, A.2.2.2⟩))
  · exact Or.inr (Or.inr (Or.inr ⟨pk_us, q, hq, rq, k1, k7, pk_us, by rw [pk_us]; exact hE⟩))
end
