section
variable {dl : Int32} {xtk xtv : Nat → Int32} {n : Nat} {R sc : Nat → Int32} {h : Nat → Nat} {par : Nat → Nat} {VP : Nat → Prop} {nm : Nat → Nat} {vc cc fc oc u s t q va d x b k u1 : Nat} {pen pac pmd : Int32} {pvk pvf pvs pcv pco pff pfp pfe pfb pop : Nat → Int32}
theorem te_letrec (PG : pq_F xtk xtv n R sc h par) (I : (pi_I (tk_K xtk n) (sk_f (tk_K xtk n) n) R sc n 0 VP nm vc cc fc oc u s t pvk pvf pvs pcv pco pff pfp pfe pfb pop)) (hq : q < n) (rq : R q = 1) (k1 : tk_K xtk n q = 1) (k9 : tk_K xtk n (q + 1) = 9) (hE : hp_E nm cc pen (sc q)) (ht : t + d = 900) (hs4 : s < 400) (IH : ∀ d', d' < d → sp_ET dl xtk xtv n R sc h d') : sp_T dl xtk xtv n t s (sg_E dl xtk xtv n R h VP vc cc fc oc s q pen pac pmd pvk pvf pvs pcv pco pff pfp pfe pfb pop) := by
  obtain ⟨B, O, Rf, N⟩ := I
  have H := PG.1
  have H1 := H.1
  unfold sn_N at N
  have hq1 : q + 1 < n := tk_lt (tk := xtk) (by omega)
  obtain ⟨c, c1, c4, lc, st, dist, h2, k2, e2, h3, r3, sc3⟩ := st_let (K := (tk_K xtk n)) (n := n) (fun i => tk_0) PG.2.1 PG.2.2.1 PG.2.2.2.1 hq rq k1 (Or.inr k9)
  have B' : hp_B (tk_K xtk n) R sc n VP nm vc cc cc pvk pvf pvs (xc_v pcv (fun _ => -1) cc c) (xc_v pco (hb_e pen cc) cc c) :=
    hp_add (Nat.le_refl _) (fun _ z => z) (fun _ _ => ⟨rfl, rfl, rfl⟩) (fun i hi => ⟨xc_vn hi, xc_vn hi⟩) (fun a z => Or.inl z) B
  obtain ⟨nm', a1, a3, a4, _⟩ := hp_cells (fil := False) (k := c) (t := fun i => it_f (sk_f (tk_K xtk n) n) i (q + 3) + 1) hE (fun j hj => by
    obtain ⟨z1, z2, _, _, _, _, _, _, _, z10⟩ := st j hj
    exact ⟨by omega, z10⟩) (fun j hj => xc_vs hj) (fun z => False.elim z) B'
  refine sp_Es (by omega) sg_Eh sg_out (fun F u Q hs hF hu hQ => ?_) (tq_lam (nm := nm') (c0 := cc) (fc := fc) (oc := oc) (u := u) (e00 := pen) PG hq rq k1 k9 lc IH (c - 1) 0 VP vc (s + 1) (t + 1) pac pmd pvk pvf pvs (xc_v pcv (fun _ => -1) cc c) (xc_v pco (hb_e pen cc) cc c) (upd pff fc (nI q)) (upd pfp fc (nI (q + 5))) (upd pfe fc (hb_e pen cc c)) (upd pfb fc (nI oc)) pop (by omega) (by omega) ⟨a4, O, fp_k (by omega) a1 (fun i hi => ⟨pk_un (by omega), pk_un (by omega), pk_un (by omega), pk_un (by omega)⟩) Rf, ⟨pk_us, pk_us, pk_us, pk_us⟩, a3, fun i hi => xc_vs hi, by omega⟩)
  obtain ⟨xan, xaf, xro, xsc, xho, xvk, xvf, xvs, xcv, xco, xff, xfp, xfe, xfb, xop, rfl, A⟩ := hu
  have Af := A.2.2.2.2.1
  have Ac := A.2.2.2.1
  refine xr_form H hq k1 hs hF (xr_letrec H A.1.1 hq1 k9 (by omega) (by omega) lc (fun cv' co' S => ?_))
  obtain ⟨rfl, rfl⟩ := S
  exact hQ _ ⟨_, _, _, _, _, _, _, _, _, _, _, _, _, _, _,  rfl, A.1, A.2.1, A.2.2.1, fun c hc => ⟨up_v (fun i hi => (Ac i hi).1) (fun i hi => rfl) c hc, up_v (fun i hi => (Ac i hi).2) (fun i hi => rfl) c hc⟩, fun i hi => ⟨up_s (fun j hj => (Af j hj).1) i hi, up_s (fun j hj => (Af j hj).2.1) i hi, up_s (fun j hj => (Af j hj).2.2.1) i hi, up_s (fun j hj => (Af j hj).2.2.2) i hi⟩, A.2.2.2.2.2⟩
/-- a form's part has been answered -/
theorem tr_W (PG : pq_F xtk xtv n R sc h par) (J : (tj_J (tk_K xtk n) (sk_f (tk_K xtk n) n) R sc n VP nm vc cc x b k q u1 s t va pvk pvf pvs pcv pco pff pfp pfe pfb pop)) (ht : t + (d + 1) = 900) (IHE : sp_ET dl xtk xtv n R sc h d) (IHR : sp_RT dl xtk xtv n R sc h d) : sp_T dl xtk xtv n t s (sg_R dl xtk xtv n R h VP vc cc (x + 1) (b + k) s va pac pmd pvk pvf pvs pcv pco pff pfp pfe pfb pop) := by
  have k20 := tk_20 PG.1 (q + 1)
  have Wf := J.2.2.1
  obtain ⟨hq, rq, k1, w4, w5, w6, w7⟩ := Wf
  rcases w7 with w | w | w | ⟨k6, c, lc, w⟩
  · exact tr_if PG J w.1 ht IHE
  · by_cases hk : k + 1 < gr_n (tk_K xtk n (q + 1))
    · exact to_more PG J w.1 hk ht IHE
    · have hk' : k + 1 = gr_n (tk_K xtk n (q + 1)) := by have := w.2.1; omega
      by_cases z11 : tk_K xtk n (q + 1) = 11
      · exact to_cons PG J z11 hk' ht IHR
      · by_cases z12 : tk_K xtk n (q + 1) = 12 ∨ tk_K xtk n (q + 1) = 13
        · exact to_part PG J z12 hk' ht IHR
        · by_cases z14 : tk_K xtk n (q + 1) = 14
          · exact to_null PG J z14 hk' ht IHR
          · exact to_calc PG J (by have := w.1; omega) hk' ht IHR
  · exact tl_let PG J w.1 ht IHE
  · rcases w with ⟨z, f1⟩ | ⟨z, f1⟩
    · exact ta_arg PG J k6 lc z f1 ht IHE
    · subst z
      exact ta_call PG J k6 lc f1 ht IHE
end
theorem sp_main {dl : Int32} {xtk xtv : Nat → Int32} {n : Nat} {R sc : Nat → Int32} {h par : Nat → Nat} (PG : pq_F xtk xtv n R sc h par) : ∀ D d, d < D → sp_ET dl xtk xtv n R sc h d ∧ sp_RT dl xtk xtv n R sc h d := by
  intro D
  induction D with
  | zero => intro d hd; omega
  | succ D ih =>
    intro d hd
    have IHE : ∀ d', d' < d → sp_ET dl xtk xtv n R sc h d' := fun d' h => (ih d' (by omega)).1
    constructor
    · intro VP nm vc cc fc oc u s t q pen pac pmd pvk pvf pvs pcv pco pff pfp pfe pfb pop ht I hq rq hE
      have N := I.2.2.2
      unfold sn_N at N
      obtain ⟨d', rfl⟩ : ∃ d', d = d' + 1 := ⟨d - 1, by omega⟩
      obtain ⟨hET, hRT⟩ := ih d' (by omega)
      by_cases hs : s = 400
      · exact sp_E400 (by omega) sg_Eh sg_out hs
      · have hs : s < 400 := by omega
        have hS := (PG.2.2.1.2.1 q hq rq).1
        rcases hS with k3 | k4 | k5 | ⟨k1, hF⟩
        · exact te_lit PG I hq (Or.inl k3) ht hs hRT
        · exact te_sym PG I hq rq k4 hE ht hs hRT
        · exact te_lit PG I hq (Or.inr k5) ht hs hRT
        · by_cases z6 : tk_K xtk n (q + 1) < 6
          · exact te_app PG I hq rq k1 z6 hE ht hs hET
          · by_cases z : tk_K xtk n (q + 1) = 6
            · exact te_quote PG I hq rq k1 z ht hs hRT
            · by_cases z7 : tk_K xtk n (q + 1) = 7
              · exact te_lam PG I hq rq k1 z7 hE ht hs hRT
              · by_cases z8 : tk_K xtk n (q + 1) = 8
                · exact te_let PG I hq rq k1 z8 hE ht hs hET
                · by_cases z9 : tk_K xtk n (q + 1) = 9
                  · exact te_letrec PG I hq rq k1 z9 hE ht hs IHE
                  · by_cases z10 : tk_K xtk n (q + 1) = 10
                    · exact te_if PG I hq rq k1 z10 hE ht hs hET
                    · exact te_op PG I hq rq k1 (by omega) hE ht hs hET
    · intro VP nm vc cc fc oc u s t va pac pmd pvk pvf pvs pcv pco pff pfp pfe pfb pop ht I v
      have N := I.2.2.2
      unfold sn_N at N
      obtain ⟨d', rfl⟩ : ∃ d', d = d' + 1 := ⟨d - 1, by omega⟩
      obtain ⟨hET, hRT⟩ := ih d' (by omega)
      cases fc with
      | zero => exact tr_fin PG I v
      | succ x =>
        have Rf := I.2.2.1
        rcases Rf with ⟨hp, Rf⟩ | ⟨b, k, u', q, e1, e2, Wf, Rf⟩
        · exact tr_ret I v Rf hp ht hRT
        · subst e1 e2
          exact tr_W PG ⟨I.1, I.2.1, Wf, Rf, I.2.2.2, v⟩ ht hET hRT
