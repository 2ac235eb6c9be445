/-! LETREC -/
def tq_J (K a : Nat → Nat) (R sc : Nat → Int32) (n : Nat) (nm : Nat → Nat) (c0 c q fc oc u : Nat) (e00 : Int32) (VP : Nat → Prop) (vc s t j : Nat) (pvk pvf pvs pcv pco pff pfp pfe pfb pop : Nat → Int32) : Prop :=
  hp_B K R sc n VP nm vc (c0 + c) c0 pvk pvf pvs pcv pco ∧ vo_R VP pop (oc + j) ∧ fp_R K a R sc n nm (c0 + c) pff pfp pfe pfb fc oc u ∧
  (pff fc = nI q ∧ pfp fc = nI (it_f a j (q + 3) + 2) ∧ pfe fc = hb_e e00 c0 c ∧ pfb fc = nI oc) ∧
  hp_E nm (c0 + c) (hb_e e00 c0 c) (hb_s (sc q) (fun i => it_f a i (q + 3) + 1) c) ∧ (∀ i, i < c → pco (c0 + i) = hb_e e00 c0 i) ∧
  (vc + u ≤ 128 + s ∧ 128 ≤ vc ∧ c0 + oc + fc + 1 + j ≤ s ∧ c0 + c ≤ 404 ∧ t + (fc + 1) ≤ 2 * s ∧ s ≤ 400)
theorem tq_lam {dl : Int32} {xtk xtv : Nat → Int32} {n d : Nat} {R sc : Nat → Int32} {h par : Nat → Nat} (PG : pq_F xtk xtv n R sc h par) {nm : Nat → Nat} {c0 c q fc oc u : Nat} {e00 : Int32} (hq : q < n) (rq : R q = 1) (k1 : tk_K xtk n q = 1) (k9 : tk_K xtk n (q + 1) = 9) (lc0 : ls_C (tk_K xtk n) (sk_f (tk_K xtk n) n) (q + 3) c) (IHE : ∀ d', d' < d → sp_ET dl xtk xtv n R sc h d') :
    ∀ (m j : Nat) (VP : Nat → Prop) (vc s t : Nat) (pac pmd : Int32) (pvk pvf pvs pcv pco pff pfp pfe pfb pop : Nat → Int32), j + (m + 1) = c → 900 ≤ t + d →
      tq_J (tk_K xtk n) (sk_f (tk_K xtk n) n) R sc n nm c0 c q fc oc u e00 VP vc s t j pvk pvf pvs pcv pco pff pfp pfe pfb pop →
      sp_T dl xtk xtv n t s (sg_E dl xtk xtv n R h VP vc (c0 + c) (fc + 1) (oc + j) s (it_f (sk_f (tk_K xtk n) n) j (q + 3) + 2) (hb_e e00 c0 c) pac pmd pvk pvf pvs pcv pco pff pfp pfe pfb pop) := by
  have H := PG.1
  have H1 := H.1
  obtain ⟨c', c1, c4, lc, st, dist, h2, k2, e2, h3, r3, sc3⟩ := st_let (K := (tk_K xtk n)) (n := n) (fun i => tk_0) PG.2.1 PG.2.2.1 PG.2.2.2.1 hq rq k1 (Or.inr k9)
  have ec := ls_C_u lc lc0
  subst ec
  have hq1 : q + 1 < n := by omega
  intro m
  induction m with
  | zero =>
    intro j VP vc s t pac pmd pvk pvf pvs pcv pco pff pfp pfe pfb pop ej hd J
    obtain ⟨B, O, Rf, ⟨x1, x2, x3, x4⟩, hE, hC, N⟩ := J
    obtain ⟨b1, b2, b3, b4, b5, b6, b7, b8, b9, b10⟩ := st j (by omega)
    obtain ⟨b11, b12⟩ := b9 k9
    have b13 : it_f (sk_f (tk_K xtk n) n) j (q + 3) + 3 < n := tk_lt (tk := xtk) (by omega)
    rw [if_pos k9] at b8
    by_cases hs4 : s = 400
    · exact sp_E400 (by omega) sg_Eh sg_out hs4
    · have ec : c' = j + 1 := by omega
      subst ec
      have hA : xp_A (tk_K xtk n) (sk_f (tk_K xtk n) n) n q (it_f (sk_f (tk_K xtk n) n) j (q + 3) + 2) (-1) := by
        refine ⟨b2, b4, Or.inr (Or.inr (Or.inl ⟨Or.inr k9, by omega, by omega, Or.inl ⟨?_, rfl⟩⟩))⟩
        rw [← b6]; exact lc.2
      have B1 : hp_B (tk_K xtk n) R sc n (fun i => VP i ∨ i = vc) nm (vc + 1) (c0 + (j + 1)) c0 (upd pvk vc 4) (upd pvf vc (nI (it_f (sk_f (tk_K xtk n) n) j (q + 3) + 2))) (upd pvs vc (hb_e e00 c0 (j + 1))) pcv pco :=
        hp_new (Or.inr (Or.inr (Or.inr ⟨pk_us, _, b2, b3, b11, b12, pk_us, by rw [pk_us, b8]; exact hE⟩))) B
      have hO1 : vo_R (fun i => VP i ∨ i = vc) (upd pop (oc + j) (nI vc)) (oc + j + 1) := vo_s (fun a z => Or.inl z) (Or.inr rfl) O
      let cvF : Nat → Int32 := fun z => if c0 ≤ z ∧ z < c0 + (j + 1) then upd pop (oc + j) (nI vc) (oc + (z - c0)) else pcv z
      have cvI : ∀ i, i < j + 1 → cvF (c0 + i) = upd pop (oc + j) (nI vc) (oc + i) := fun i hi => (if_pos (show c0 ≤ c0 + i ∧ c0 + i < c0 + (j + 1) by omega)).trans (by rw [show c0 + i - c0 = i from by omega])
      have cvL : ∀ z, z < c0 → cvF z = pcv z := fun z hz => if_neg (by omega)
      have B2 : hp_B (tk_K xtk n) R sc n (fun i => VP i ∨ i = vc) nm (vc + 1) (c0 + (j + 1)) (c0 + (j + 1)) (upd pvk vc 4) (upd pvf vc (nI (it_f (sk_f (tk_K xtk n) n) j (q + 3) + 2))) (upd pvs vc (hb_e e00 c0 (j + 1))) cvF pco := by
        refine hp_fills B1 cvL (fun z z1 z2 => ?_)
        obtain ⟨a, o1, o3⟩ := hO1 (oc + (z - c0)) (by omega)
        have := cvI (z - c0) (by omega)
        rw [show c0 + (z - c0) = z from by omega] at this
        exact ⟨a, this.trans o1, o3⟩
      have IH := IHE (900 - (t + 1 + 1)) (by omega)
      have N2 : sp_T dl xtk xtv n (t + 1 + 1) (s + 1) (sg_E dl xtk xtv n R h (fun i => VP i ∨ i = vc) (vc + 1) (c0 + (j + 1)) fc oc (s + 1) (sk_f (tk_K xtk n) n (q + 2)) (hb_e e00 c0 (j + 1)) pac pmd (upd pvk vc 4) (upd pvf vc (nI (it_f (sk_f (tk_K xtk n) n) j (q + 3) + 2))) (upd pvs vc (hb_e e00 c0 (j + 1))) cvF pco pff (upd pfp fc (-1)) pfe pfb (upd pop (oc + j) (nI vc))) :=
        IH (fun i => VP i ∨ i = vc) nm (vc + 1) (c0 + (j + 1)) fc oc u (s + 1) (t + 1 + 1) (sk_f (tk_K xtk n) n (q + 2)) (hb_e e00 c0 (j + 1)) pac pmd _ _ _ cvF pco pff (upd pfp fc (-1)) pfe pfb (upd pop (oc + j) (nI vc)) (by omega) ⟨B2, vo_l (by omega) hO1, fp_k (Nat.le_refl _) (fun _ _ => rfl) (fun i hi => ⟨rfl, pk_un (by omega), rfl, rfl⟩) Rf, by unfold sn_N; omega⟩ h3 r3 (by rw [sc3]; exact hE)
      have N1 : sp_T dl xtk xtv n (t + 1) (s + 1) (sg_R dl xtk xtv n R h (fun i => VP i ∨ i = vc) (vc + 1) (c0 + (j + 1)) (fc + 1) (oc + j) (s + 1) vc pac pmd (upd pvk vc 4) (upd pvf vc (nI (it_f (sk_f (tk_K xtk n) n) j (q + 3) + 2))) (upd pvs vc (hb_e e00 c0 (j + 1))) pcv pco pff pfp pfe pfb pop) := by
        refine sp_Rs (by omega) sg_Rh (fun F u Q hF hu hQ => ?_) N2
        obtain ⟨xex, xen, xaf, xro, xsc, xho, xvk, xvf, xvs, xcv, xco, xff, xfp, xfe, xfb, xop, rfl, A⟩ := hu
        have Af := A.2.2.2.2.1
        have fx := Af fc (by omega)
        have Ac := A.2.2.2.1
        have Ao : ∀ i, i < oc + j + 1 → upd xop (oc + j) (nI vc) i = upd pop (oc + j) (nI vc) i := up_s A.2.2.2.2.2
        refine xr_last H A.1.1 (p := it_f (sk_f (tk_K xtk n) n) j (q + 3) + 2) (by omega) (by omega) hq1 (fx.1.trans x1) (fx.2.1.trans x2) hA ?_
        refine xF_letrec (xop := upd xop (oc + j) (nI vc)) (xfp := upd xfp fc (-1)) (e0 := e00) (c0 := c0) (k := j + 1) H A.1.1 (by omega) (by omega) (by omega) (fx.1.trans x1) (fx.2.2.2.trans x4) (fx.2.2.1.trans x3) (fun i hi => ((Ac (c0 + i) (by omega)).2).trans (hC i hi)) k9 h2 (by omega) (fun cv' s1 s2 => ?_)
        refine hQ _ ⟨_, _, _, _, _, _, _, _, _, _, _, _, _, _, _,  rfl, A.1, A.2.1, A.2.2.1, fun z hz => ⟨?_, (Ac z hz).2⟩, fun i hi => ⟨(Af i (by omega)).1, (pk_un (by omega)).trans ((Af i (by omega)).2.1.trans (pk_un (by omega)).symm), (Af i (by omega)).2.2.1, (Af i (by omega)).2.2.2⟩, fun i hi => Ao i (by omega)⟩
        rcases Nat.lt_or_ge z c0 with w | w
        · rw [s2 z (fun i hi e => by omega), cvL z w]; exact (Ac z hz).1
        · have e1 := s1 (z - c0) (by omega)
          have e2 := cvI (z - c0) (by omega)
          rw [show c0 + (z - c0) = z from by omega] at e1 e2
          rw [e1, e2]; exact Ao _ (by omega)
      refine sp_Es (by omega) sg_Eh sg_out (fun F u Q hs hF hu hQ => ?_) N1
      obtain ⟨xan, xaf, xro, xsc, xho, xvk, xvf, xvs, xcv, xco, xff, xfp, xfe, xfb, xop, rfl, A⟩ := hu
      exact xr_form H b2 b11 hs hF (xr_lam H b13 b12 (by omega) (hQ _ ⟨_, _, _, _, _, _, _, _, _, _, _, _, _, _, _, _,  rfl, A.1, lt_new (by omega) H1 A.2.1, ag_new (fun i hi => (B.1 i hi).1) A.2.2.1, A.2.2.2⟩))
  | succ m ih =>
    intro j VP vc s t pac pmd pvk pvf pvs pcv pco pff pfp pfe pfb pop ej hd J
    obtain ⟨B, O, Rf, ⟨x1, x2, x3, x4⟩, hE, hC, N⟩ := J
    obtain ⟨b1, b2, b3, b4, b5, b6, b7, b8, b9, b10⟩ := st j (by omega)
    obtain ⟨b11, b12⟩ := b9 k9
    have b13 : it_f (sk_f (tk_K xtk n) n) j (q + 3) + 3 < n := tk_lt (tk := xtk) (by omega)
    rw [if_pos k9] at b8
    by_cases hs4 : s = 400
    · exact sp_E400 (by omega) sg_Eh sg_out hs4
    · obtain ⟨d1, d2, d3, d4, d5, d6, d7, d8, d9, d10⟩ := st (j + 1) (by omega)
      have hA : xp_A (tk_K xtk n) (sk_f (tk_K xtk n) n) n q (it_f (sk_f (tk_K xtk n) n) j (q + 3) + 2) (nI (it_f (sk_f (tk_K xtk n) n) (j + 1) (q + 3) + 2)) := by
        refine ⟨b2, b4, Or.inr (Or.inr (Or.inl ⟨Or.inr k9, by omega, by omega, Or.inr ⟨?_, ?_⟩⟩))⟩
        · rw [← b6]; omega
        · rw [b6]
      have B1 : hp_B (tk_K xtk n) R sc n (fun i => VP i ∨ i = vc) nm (vc + 1) (c0 + c') c0 (upd pvk vc 4) (upd pvf vc (nI (it_f (sk_f (tk_K xtk n) n) j (q + 3) + 2))) (upd pvs vc (hb_e e00 c0 c')) pcv pco :=
        hp_new (Or.inr (Or.inr (Or.inr ⟨pk_us, _, b2, b3, b11, b12, pk_us, by rw [pk_us, b8]; exact hE⟩))) B
      have hO1 : vo_R (fun i => VP i ∨ i = vc) (upd pop (oc + j) (nI vc)) (oc + j + 1) := vo_s (fun a z => Or.inl z) (Or.inr rfl) O
      have N2 : sp_T dl xtk xtv n (t + 1 + 1) (s + 1) (sg_E dl xtk xtv n R h (fun i => VP i ∨ i = vc) (vc + 1) (c0 + c') (fc + 1) (oc + (j + 1)) (s + 1) (it_f (sk_f (tk_K xtk n) n) (j + 1) (q + 3) + 2) (hb_e e00 c0 c') pac pmd (upd pvk vc 4) (upd pvf vc (nI (it_f (sk_f (tk_K xtk n) n) j (q + 3) + 2))) (upd pvs vc (hb_e e00 c0 c')) pcv pco pff (upd pfp fc (nI (it_f (sk_f (tk_K xtk n) n) (j + 1) (q + 3) + 2))) pfe pfb (upd pop (oc + j) (nI vc))) :=
        ih (j + 1) (fun i => VP i ∨ i = vc) (vc + 1) (s + 1) (t + 1 + 1) pac pmd _ _ _ pcv pco pff _ pfe pfb _ (by omega) (by omega) ⟨B1, hO1, fp_k (Nat.le_refl _) (fun _ _ => rfl) (fun i hi => ⟨rfl, pk_un (by omega), rfl, rfl⟩) Rf, ⟨x1, pk_us, x3, x4⟩, hE, hC, by omega⟩
      have N1 : sp_T dl xtk xtv n (t + 1) (s + 1) (sg_R dl xtk xtv n R h (fun i => VP i ∨ i = vc) (vc + 1) (c0 + c') (fc + 1) (oc + j) (s + 1) vc pac pmd (upd pvk vc 4) (upd pvf vc (nI (it_f (sk_f (tk_K xtk n) n) j (q + 3) + 2))) (upd pvs vc (hb_e e00 c0 c')) pcv pco pff pfp pfe pfb pop) := by
        refine sp_Rs (by omega) sg_Rh (fun F u Q hF hu hQ => ?_) N2
        obtain ⟨xex, xen, xaf, xro, xsc, xho, xvk, xvf, xvs, xcv, xco, xff, xfp, xfe, xfb, xop, rfl, A⟩ := hu
        have Af := A.2.2.2.2.1
        have fx := Af fc (by omega)
        refine xr_more H A.1.1 (p := it_f (sk_f (tk_K xtk n) n) j (q + 3) + 2) (by omega) (by omega) hq1 (fx.1.trans x1) (fx.2.1.trans x2) (by omega) hA ?_
        rw [fx.2.2.1, x3]
        exact hQ _ ⟨_, _, _, _, _, _, _, _, _, _, _, _, _, _, _,  rfl, A.1, A.2.1, A.2.2.1, A.2.2.2.1, fun i hi => ⟨(Af i hi).1, up_c (fun j hj => (Af j hj).2.1) i hi, (Af i hi).2.2.1, (Af i hi).2.2.2⟩, up_s A.2.2.2.2.2⟩
      refine sp_Es (by omega) sg_Eh sg_out (fun F u Q hs hF hu hQ => ?_) N1
      obtain ⟨xan, xaf, xro, xsc, xho, xvk, xvf, xvs, xcv, xco, xff, xfp, xfe, xfb, xop, rfl, A⟩ := hu
      exact xr_form H b2 b11 hs hF (xr_lam H b13 b12 (by omega) (hQ _ ⟨_, _, _, _, _, _, _, _, _, _, _, _, _, _, _, _,  rfl, A.1, lt_new (by omega) H1 A.2.1, ag_new (fun i hi => (B.1 i hi).1) A.2.2.1, A.2.2.2⟩))
