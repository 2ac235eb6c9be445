section
variable {dl : Int32} {xtk xtv : Nat → Int32} {n : Nat} {R sc : Nat → Int32} {h : Nat → Nat} {par : Nat → Nat} {VP : Nat → Prop} {nm : Nat → Nat} {vc cc s t va d x b k q u1 : Nat} {pac pmd : Int32} {pvk pvf pvs pcv pco pff pfp pfe pfb pop : Nat → Int32}
/-- the operator's frame -/
theorem to_f (PG : pq_F xtk xtv n R sc h par) (J : (tj_J (tk_K xtk n) (sk_f (tk_K xtk n) n) R sc n VP nm vc cc x b k q u1 s t va pvk pvf pvs pcv pco pff pfp pfe pfb pop)) (k11 : 11 ≤ tk_K xtk n (q + 1)) : q + 1 < n ∧ k < gr_n (tk_K xtk n (q + 1)) ∧ pfp x = nI (it_f (sk_f (tk_K xtk n) n) k (q + 2)) ∧
    (k + 1 < gr_n (tk_K xtk n (q + 1)) → xp_A (tk_K xtk n) (sk_f (tk_K xtk n) n) n q (it_f (sk_f (tk_K xtk n) n) k (q + 2)) (nI (it_f (sk_f (tk_K xtk n) n) (k + 1) (q + 2))) ∧ it_f (sk_f (tk_K xtk n) n) (k + 1) (q + 2) < n ∧ R (it_f (sk_f (tk_K xtk n) n) (k + 1) (q + 2)) = 1 ∧ sc (it_f (sk_f (tk_K xtk n) n) (k + 1) (q + 2)) = sc q) ∧ (k + 1 = gr_n (tk_K xtk n (q + 1)) → xp_A (tk_K xtk n) (sk_f (tk_K xtk n) n) n q (it_f (sk_f (tk_K xtk n) n) k (q + 2)) (-1)) := by
  obtain ⟨B, O, Wf, Rf, N, v⟩ := J
  obtain ⟨hq, rq, k1, w4, w5, w6, w7⟩ := Wf
  have hq1 : q + 1 < n := tk_lt (tk := xtk) (by omega)
  obtain ⟨lc, st, hend⟩ := st_op (K := (tk_K xtk n)) (n := n) (fun i => tk_0) PG.2.1 PG.2.2.1 PG.2.2.2.1 hq rq k1 (by omega)
  have w6' : k < gr_n (tk_K xtk n (q + 1)) ∧ pfp x = nI (it_f (sk_f (tk_K xtk n) n) k (q + 2)) := by
    rcases w7 with w | w | w | w
    · omega
    · exact w.2
    · omega
    · omega
  obtain ⟨w7, w8⟩ := w6'
  have s0 := st k w7
  refine ⟨hq1, w7, w8, fun z => ?_, fun z => ?_⟩
  · have s1 := st (k + 1) z
    refine ⟨⟨s0.1, s0.2.2.1, Or.inr (Or.inr (Or.inr ⟨Or.inr (by omega), by omega, ?_, Or.inl ⟨?_, ?_⟩⟩))⟩, s1.1, s1.2.1, s1.2.2.2.2⟩
    · rw [← it_s (sk_f (tk_K xtk n) n) k (q + 2)]; exact s1.1
    · rw [← it_s (sk_f (tk_K xtk n) n) k (q + 2)]; exact s1.2.2.1
    · rw [← it_s (sk_f (tk_K xtk n) n) k (q + 2)]
  · refine ⟨s0.1, s0.2.2.1, Or.inr (Or.inr (Or.inr ⟨Or.inr (by omega), by omega, ?_, Or.inr (Or.inr ⟨?_, by omega, rfl⟩)⟩))⟩
    · rw [← it_s (sk_f (tk_K xtk n) n) k (q + 2), z]; exact hend
    · rw [← it_s (sk_f (tk_K xtk n) n) k (q + 2), z]; exact lc.2
theorem to_more (PG : pq_F xtk xtv n R sc h par) (J : (tj_J (tk_K xtk n) (sk_f (tk_K xtk n) n) R sc n VP nm vc cc x b k q u1 s t va pvk pvf pvs pcv pco pff pfp pfe pfb pop)) (k11 : 11 ≤ tk_K xtk n (q + 1)) (hk : k + 1 < gr_n (tk_K xtk n (q + 1))) (ht : t + (d + 1) = 900) (IHE : sp_ET dl xtk xtv n R sc h d) : sp_T dl xtk xtv n t s (sg_R dl xtk xtv n R h VP vc cc (x + 1) (b + k) s va pac pmd pvk pvf pvs pcv pco pff pfp pfe pfb pop) := by
  obtain ⟨hq1, f1, f2, f5, _⟩ := to_f PG J k11
  obtain ⟨hA, p1, p2, p3⟩ := f5 hk
  have Wf := J.2.2.1
  obtain ⟨hq, rq, k1, w4, w5, w6, _⟩ := Wf
  exact tr_more PG J hA hq1 f2 p1 p2 p3 ⟨hq, rq, k1, w4, w5, w6, Or.inr (Or.inl ⟨k11, hk, pk_us⟩)⟩ ht IHE
/-- an operator has made a value -/
theorem to_new {kd f s2 : Int32} (PG : pq_F xtk xtv n R sc h par) (J : (tj_J (tk_K xtk n) (sk_f (tk_K xtk n) n) R sc n VP nm vc cc x b k q u1 s t va pvk pvf pvs pcv pco pff pfp pfe pfb pop)) (hV : hp_V (tk_K xtk n) R sc n (fun i => VP i ∨ i = vc) nm cc (upd pvk vc kd) (upd pvf vc f) (upd pvs vc s2) vc) (ht : t + (d + 1) = 900) (IHR : sp_RT dl xtk xtv n R sc h d) :
    sp_T dl xtk xtv n (t + 1) s (sg_R dl xtk xtv n R h (fun i => VP i ∨ i = vc) (vc + 1) cc x b s vc pac pmd (upd pvk vc kd) (upd pvf vc f) (upd pvs vc s2) pcv pco pff (upd pfp x (-1)) pfe pfb (upd pop (b + k) (nI va))) := by
  obtain ⟨B, O, Wf, Rf, N, v⟩ := J
  unfold sn_N at N
  exact IHR (fun i => VP i ∨ i = vc) nm (vc + 1) cc x b u1 s (t + 1) vc pac pmd _ _ _ pcv pco pff (upd pfp x (-1)) pfe pfb (upd pop (b + k) (nI va)) (by omega) ⟨hp_new hV B, vo_m (fun a z => Or.inl z) (fun i hi => pk_un (by omega)) (vo_l (by omega) O), fp_k (Nat.le_refl _) (fun _ _ => rfl) (fun i hi => ⟨rfl, pk_un (by omega), rfl, rfl⟩) Rf, by unfold sn_N; omega⟩ (Or.inr rfl)
/-- the object after it -/
theorem to_A {kd f s2 : Int32} {fp' op' : Nat → Int32} {xaf xro xsc xho xvk xvf xvs xcv xco xff xfp xfe xfb xop : Nat → Int32} (H1 : n ≤ 64) (hv : 128 ≤ vc) (hlt : ∀ i, VP i → i < vc) (A : sg_A xtk xtv n R h VP cc (x + 1) (b + k + 1) pvk pvf pvs pcv pco pff fp' pfe pfb op' xaf xro xsc xho xvk xvf xvs xcv xco xff xfp xfe xfb xop) :
    sg_A xtk xtv n R h (fun i => VP i ∨ i = vc) cc x b (upd pvk vc kd) (upd pvf vc f) (upd pvs vc s2) pcv pco pff fp' pfe pfb op' xaf xro xsc xho (upd xvk vc kd) (upd xvf vc f) (upd xvs vc s2) xcv xco xff xfp xfe xfb xop :=
  ⟨A.1, lt_new hv H1 A.2.1, ag_new hlt A.2.2.1, A.2.2.2.1, fun i hi => A.2.2.2.2.1 i (by omega), fun i hi => A.2.2.2.2.2 i (by omega)⟩
theorem to_cons (PG : pq_F xtk xtv n R sc h par) (J : (tj_J (tk_K xtk n) (sk_f (tk_K xtk n) n) R sc n VP nm vc cc x b k q u1 s t va pvk pvf pvs pcv pco pff pfp pfe pfb pop)) (k11 : tk_K xtk n (q + 1) = 11) (hk : k + 1 = gr_n (tk_K xtk n (q + 1))) (ht : t + (d + 1) = 900) (IHR : sp_RT dl xtk xtv n R sc h d) : sp_T dl xtk xtv n t s (sg_R dl xtk xtv n R h VP vc cc (x + 1) (b + k) s va pac pmd pvk pvf pvs pcv pco pff pfp pfe pfb pop) := by
  have H := PG.1
  have H1 := H.1
  obtain ⟨hq1, f1, f2, _, f6⟩ := to_f PG J (by omega)
  have hA := f6 hk
  rw [k11] at hk
  have k1e : k = 1 := by have : gr_n 11 = 2 := rfl; omega
  subst k1e
  have J' := J
  obtain ⟨B, O, Wf, Rf, N, v⟩ := J
  obtain ⟨hq, rq, k1, w4, w5, w6, _⟩ := Wf
  unfold sn_N at N
  obtain ⟨a0, o1, o3⟩ := O b (by omega)
  refine sp_Rs (by omega) sg_Rh (fun F u Q hF hu hQ => ?_) (to_new (pac := pac) (pmd := pmd) (kd := 3) (f := nI a0) (s2 := nI va) PG J' ?_ ht IHR)
  · refine tr_last PG J' hA hq1 f2 hu (fun xex xen xaf xro xsc xho xvk xvf xvs xcv xco xff xfp xfe xfb xop A => ?_)
    have fx := A.2.2.2.2.1 x (by omega)
    have e1 : xop b = nI a0 := (A.2.2.2.2.2 b (by omega)).trans ((pk_un (by omega)).trans o1)
    have e2 : xop (b + 1) = nI va := (A.2.2.2.2.2 (b + 1) (by omega)).trans pk_us
    refine xF_cons H (by omega) (by omega) (by omega) (fx.1.trans w4) (fx.2.2.2.trans w5) k11 hq1 ?_
    rw [e1, e2]
    exact hQ _ ⟨_, _, _, _, _, _, _, _, _, _, _, _, _, _, _, _,  rfl, to_A H1 (by omega) (fun i hi => (B.1 i hi).1) A⟩
  · exact Or.inr (Or.inr (Or.inl ⟨pk_us, a0, va, pk_us, pk_us, Or.inl o3, Or.inl v⟩))
theorem to_null (PG : pq_F xtk xtv n R sc h par) (J : (tj_J (tk_K xtk n) (sk_f (tk_K xtk n) n) R sc n VP nm vc cc x b k q u1 s t va pvk pvf pvs pcv pco pff pfp pfe pfb pop)) (k14 : tk_K xtk n (q + 1) = 14) (hk : k + 1 = gr_n (tk_K xtk n (q + 1))) (ht : t + (d + 1) = 900) (IHR : sp_RT dl xtk xtv n R sc h d) : sp_T dl xtk xtv n t s (sg_R dl xtk xtv n R h VP vc cc (x + 1) (b + k) s va pac pmd pvk pvf pvs pcv pco pff pfp pfe pfb pop) := by
  have H := PG.1
  have H1 := H.1
  obtain ⟨hq1, f1, f2, _, f6⟩ := to_f PG J (by omega)
  have hA := f6 hk
  rw [k14] at hk
  have k0e : k = 0 := by have : gr_n 14 = 1 := rfl; omega
  subst k0e
  have J' := J
  obtain ⟨B, O, Wf, Rf, N, v⟩ := J
  obtain ⟨hq, rq, k1, w4, w5, w6, _⟩ := Wf
  unfold sn_N at N
  have hva := (B.1 va v).1
  refine sp_Rs (by omega) sg_Rh (fun F u Q hF hu hQ => ?_) (to_new (pac := pac) (pmd := pmd) (kd := 1) (f := if pvk va = 2 then 1 else 0) (s2 := 0) PG J' (Or.inl pk_us) ht IHR)
  refine tr_last PG J' hA hq1 f2 hu (fun xex xen xaf xro xsc xho xvk xvf xvs xcv xco xff xfp xfe xfb xop A => ?_)
  have fx := A.2.2.2.2.1 x (by omega)
  have ak := ag_k (A.2.2.1 va v)
  have e2 : xop b = nI va := (A.2.2.2.2.2 b (by omega)).trans pk_us
  refine xF_null H (by omega) (by omega) (by omega) (by omega) (fx.1.trans w4) (fx.2.2.2.trans w5) k14 hq1 e2 ?_
  rw [ak.1]
  exact hQ _ ⟨_, _, _, _, _, _, _, _, _, _, _, _, _, _, _, _,  rfl, to_A (k := 0) H1 (by omega) (fun i hi => (B.1 i hi).1) A⟩
theorem to_part (PG : pq_F xtk xtv n R sc h par) (J : (tj_J (tk_K xtk n) (sk_f (tk_K xtk n) n) R sc n VP nm vc cc x b k q u1 s t va pvk pvf pvs pcv pco pff pfp pfe pfb pop)) (k12 : tk_K xtk n (q + 1) = 12 ∨ tk_K xtk n (q + 1) = 13) (hk : k + 1 = gr_n (tk_K xtk n (q + 1))) (ht : t + (d + 1) = 900) (IHR : sp_RT dl xtk xtv n R sc h d) : sp_T dl xtk xtv n t s (sg_R dl xtk xtv n R h VP vc cc (x + 1) (b + k) s va pac pmd pvk pvf pvs pcv pco pff pfp pfe pfb pop) := by
  have H := PG.1
  have H1 := H.1
  obtain ⟨hq1, f1, f2, _, f6⟩ := to_f PG J (by omega)
  have hA := f6 hk
  have g1 : gr_n (tk_K xtk n (q + 1)) = 1 := by unfold gr_n; rw [if_neg (by omega), if_pos (by omega)]
  have k0e : k = 0 := by omega
  subst k0e
  have J' := J
  obtain ⟨B, O, Wf, Rf, N, v⟩ := J
  obtain ⟨hq, rq, k1, w4, w5, w6, _⟩ := Wf
  unfold sn_N at N
  obtain ⟨hva, hV⟩ := B.1 va v
  by_cases v3 : pvk va = 3
  · have pr : ∃ a1 b1, pvf va = nI a1 ∧ pvs va = nI b1 ∧ VP a1 ∧ VP b1 := by
      rcases hV with w | w | w | w
      · rw [v3] at w; exact absurd w (by decide)
      · rw [v3] at w; exact absurd w (by decide)
      · exact w.2
      · rw [v3] at w; exact absurd w.1 (by decide)
    obtain ⟨a1, b1, p1, p2, p5, p6⟩ := pr
    have key : ∀ (A1 : Nat), nI A1 = (if tk_K xtk n (q + 1) = 12 then pvf va else pvs va) → VP A1 → sp_T dl xtk xtv n t s (sg_R dl xtk xtv n R h VP vc cc (x + 1) (b + 0) s va pac pmd pvk pvf pvs pcv pco pff pfp pfe pfb pop) := by
      intro A1 h1 h3
      refine sp_Rs (by omega) sg_Rh (fun F u Q hF hu hQ => ?_) (IHR VP nm vc cc x b u1 s (t + 1) A1 pac pmd pvk pvf pvs pcv pco pff (upd pfp x (-1)) pfe pfb (upd pop (b + 0) (nI va)) (by omega) ⟨B, vo_m (fun _ z => z) (fun i hi => pk_un (by omega)) (vo_l (by omega) O), fp_k (Nat.le_refl _) (fun _ _ => rfl) (fun i hi => ⟨rfl, pk_un (by omega), rfl, rfl⟩) Rf, by unfold sn_N; omega⟩ h3)
      refine tr_last PG J' hA hq1 f2 hu (fun xex xen xaf xro xsc xho xvk xvf xvs xcv xco xff xfp xfe xfb xop A => ?_)
      have Af := A.2.2.2.2.1
      have fx := Af x (by omega)
      have ak := ag_k (A.2.2.1 va v)
      have e2 : xop b = nI va := (A.2.2.2.2.2 b (by omega)).trans pk_us
      refine xF_part H (by omega) (by omega) (by omega) (fx.1.trans w4) (fx.2.2.2.trans w5) rfl k12 hq1 e2 (fun z => absurd (ak.1.trans v3) z) (fun _ => ?_)
      have e3 : (if tk_K xtk n (q + 1) = 12 then xvf va else xvs va) = nI A1 := by
        rw [h1, (ak.2.2.1 v3).1, (ak.2.2.1 v3).2]
      rw [e3]
      exact hQ _ ⟨_, _, _, _, _, _, _, _, _, _, _, _, _, _, _, _,  rfl, A.1, A.2.1, A.2.2.1, A.2.2.2.1, fun i hi => Af i (by omega), fun i hi => A.2.2.2.2.2 i (by omega)⟩
    by_cases z : tk_K xtk n (q + 1) = 12
    · exact key a1 (by rw [if_pos z]; exact p1.symm) p5
    · exact key b1 (by rw [if_neg z]; exact p2.symm) p6
  · refine sp_Rf (r := 6) (md := pmd) (w := -1) (VP := fun _ => False) (vk := pvk) (vf := pvf) (vs := pvs) (by omega) (by omega) (by decide) (by decide) (fun i z => False.elim z) (Or.inl rfl) sg_Rh (fun F u Q hF hu hQ => ?_)
    refine tr_last PG J' hA hq1 f2 hu (fun xex xen xaf xro xsc xho xvk xvf xvs xcv xco xff xfp xfe xfb xop A => ?_)
    have fx := A.2.2.2.2.1 x (by omega)
    have ak := ag_k (A.2.2.1 va v)
    have e2 : xop b = nI va := (A.2.2.2.2.2 b (by omega)).trans pk_us
    exact xF_part H (by omega) (by omega) (by omega) (fx.1.trans w4) (fx.2.2.2.trans w5) rfl k12 hq1 e2 (fun _ => hQ _ ⟨_, _, _, _, _, _, _, _, _, _,  _, _, _, _, _, _, _, _, _, _, _, _, _, _,  rfl, A.1.2.2 _ _ _ A.2.1, fun i z => False.elim z⟩) (fun z => absurd (ak.1.symm.trans z) v3)
theorem to_calc (PG : pq_F xtk xtv n R sc h par) (J : (tj_J (tk_K xtk n) (sk_f (tk_K xtk n) n) R sc n VP nm vc cc x b k q u1 s t va pvk pvf pvs pcv pco pff pfp pfe pfb pop)) (k15 : 15 ≤ tk_K xtk n (q + 1)) (hk : k + 1 = gr_n (tk_K xtk n (q + 1))) (ht : t + (d + 1) = 900) (IHR : sp_RT dl xtk xtv n R sc h d) : sp_T dl xtk xtv n t s (sg_R dl xtk xtv n R h VP vc cc (x + 1) (b + k) s va pac pmd pvk pvf pvs pcv pco pff pfp pfe pfb pop) := by
  have H := PG.1
  have H1 := H.1
  have k20 := tk_20 H (q + 1)
  obtain ⟨hq1, f1, f2, _, f6⟩ := to_f PG J (by omega)
  have hA := f6 hk
  have g2 : gr_n (tk_K xtk n (q + 1)) = 2 := by unfold gr_n; rw [if_neg (by omega), if_neg (by omega)]
  have k1e : k = 1 := by omega
  subst k1e
  have J' := J
  obtain ⟨B, O, Wf, Rf, N, v⟩ := J
  obtain ⟨hq, rq, k1, w4, w5, w6, _⟩ := Wf
  unfold sn_N at N
  obtain ⟨a0, o1, o3⟩ := O b (by omega)
  have hva := (B.1 va v).1
  have hva0 := (B.1 a0 o3).1
  by_cases v1 : pvk a0 = 1 ∧ pvk va = 1
  · by_cases dz : tk_K xtk n (q + 1) = 18 ∧ pvf va = 0
    · refine sp_Rf (r := 7) (md := pmd) (w := -1) (VP := fun _ => False) (vk := pvk) (vf := pvf) (vs := pvs) (by omega) (by omega) (by decide) (by decide) (fun i z => False.elim z) (Or.inl rfl) sg_Rh (fun F u Q hF hu hQ => ?_)
      refine tr_last PG J' hA hq1 f2 hu (fun xex xen xaf xro xsc xho xvk xvf xvs xcv xco xff xfp xfe xfb xop A => ?_)
      have fx := A.2.2.2.2.1 x (by omega)
      have ak := ag_k (A.2.2.1 va v)
      have ak0 := ag_k (A.2.2.1 a0 o3)
      have e1 : xop b = nI a0 := (A.2.2.2.2.2 b (by omega)).trans ((pk_un (by omega)).trans o1)
      have e2 : xop (b + 1) = nI va := (A.2.2.2.2.2 (b + 1) (by omega)).trans pk_us
      exact xF_calc H (by omega) (by omega) (by omega) (by omega) (by omega) (fx.1.trans w4) (fx.2.2.2.trans w5) rfl ⟨k15, k20⟩ hq1 e1 e2 (fun z => absurd ⟨ak0.1.trans v1.1, ak.1.trans v1.2⟩ z) (fun _ _ _ _ => hQ _ ⟨_, _, _, _, _, _, _, _, _, _,  _, _, _, _, _, _, _, _, _, _, _, _, _, _,  rfl, A.1.2.2 _ _ _ A.2.1, fun i z => False.elim z⟩) (fun _ _ z => absurd ⟨dz.1, (ak.2.1 v1.2).trans dz.2⟩ z)
    · refine sp_Rs (by omega) sg_Rh (fun F u Q hF hu hQ => ?_) (to_new (pac := pac) (pmd := pmd) (kd := 1) (f := al_op (tk_K xtk n (q + 1)) (pvf a0) (pvf va)) (s2 := 0) PG J' (Or.inl pk_us) ht IHR)
      refine tr_last PG J' hA hq1 f2 hu (fun xex xen xaf xro xsc xho xvk xvf xvs xcv xco xff xfp xfe xfb xop A => ?_)
      have fx := A.2.2.2.2.1 x (by omega)
      have ak := ag_k (A.2.2.1 va v)
      have ak0 := ag_k (A.2.2.1 a0 o3)
      have e1 : xop b = nI a0 := (A.2.2.2.2.2 b (by omega)).trans ((pk_un (by omega)).trans o1)
      have e2 : xop (b + 1) = nI va := (A.2.2.2.2.2 (b + 1) (by omega)).trans pk_us
      have ea := ak0.2.1 v1.1
      have ec := ak.2.1 v1.2
      refine xF_calc H (by omega) (by omega) (by omega) (by omega) (by omega) (fx.1.trans w4) (fx.2.2.2.trans w5) rfl ⟨k15, k20⟩ hq1 e1 e2 (fun z => absurd ⟨ak0.1.trans v1.1, ak.1.trans v1.2⟩ z) (fun _ _ z1 z2 => absurd ⟨z1, ec.symm.trans z2⟩ dz) (fun _ _ _ => ?_)
      rw [ea, ec]
      exact hQ _ ⟨_, _, _, _, _, _, _, _, _, _, _, _, _, _, _, _,  rfl, to_A H1 (by omega) (fun i hi => (B.1 i hi).1) A⟩
  · refine sp_Rf (r := 6) (md := pmd) (w := -1) (VP := fun _ => False) (vk := pvk) (vf := pvf) (vs := pvs) (by omega) (by omega) (by decide) (by decide) (fun i z => False.elim z) (Or.inl rfl) sg_Rh (fun F u Q hF hu hQ => ?_)
    refine tr_last PG J' hA hq1 f2 hu (fun xex xen xaf xro xsc xho xvk xvf xvs xcv xco xff xfp xfe xfb xop A => ?_)
    have fx := A.2.2.2.2.1 x (by omega)
    have ak := ag_k (A.2.2.1 va v)
    have ak0 := ag_k (A.2.2.1 a0 o3)
    have e1 : xop b = nI a0 := (A.2.2.2.2.2 b (by omega)).trans ((pk_un (by omega)).trans o1)
    have e2 : xop (b + 1) = nI va := (A.2.2.2.2.2 (b + 1) (by omega)).trans pk_us
    exact xF_calc H (by omega) (by omega) (by omega) (by omega) (by omega) (fx.1.trans w4) (fx.2.2.2.trans w5) rfl ⟨k15, k20⟩ hq1 e1 e2 (fun _ => hQ _ ⟨_, _, _, _, _, _, _, _, _, _,  _, _, _, _, _, _, _, _, _, _, _, _, _, _,  rfl, A.1.2.2 _ _ _ A.2.1, fun i z => False.elim z⟩) (fun z1 z2 => absurd ⟨ak0.1.symm.trans z1, ak.1.symm.trans z2⟩ v1) (fun z1 z2 => absurd ⟨ak0.1.symm.trans z1, ak.1.symm.trans z2⟩ v1)
end
