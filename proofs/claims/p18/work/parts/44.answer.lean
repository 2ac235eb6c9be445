/-! an answer is there -/
def tj_J (K a : Nat → Nat) (R sc : Nat → Int32) (n : Nat) (VP : Nat → Prop) (nm : Nat → Nat) (vc cc x b k q u1 s t va : Nat) (pvk pvf pvs pcv pco pff pfp pfe pfb pop : Nat → Int32) : Prop :=
  hp_B K R sc n VP nm vc cc cc pvk pvf pvs pcv pco ∧ vo_R VP pop (b + k) ∧ fp_W K a R sc n nm cc pff pfp pfe pfb x b k q ∧ fp_R K a R sc n nm cc pff pfp pfe pfb x b u1 ∧ sn_N vc cc (x + 1) (b + k) (u1 + 1) s t 1 ∧ VP va
section
variable {dl : Int32} {xtk xtv : Nat → Int32} {n : Nat} {R sc : Nat → Int32} {h : Nat → Nat} {par : Nat → Nat} {VP : Nat → Prop} {nm : Nat → Nat} {vc cc fc oc u s t va d x b k q u1 : Nat} {pac pmd : Int32} {pvk pvf pvs pcv pco pff pfp pfe pfb pop : Nat → Int32}
theorem tr_G (PG : pq_F xtk xtv n R sc h par) (hv : vc ≤ 528) (B : hp_B (tk_K xtk n) R sc n VP nm vc cc cc pvk pvf pvs pcv pco) : fq_G (tk_K xtk n) (sk_f (tk_K xtk n) n) n VP pvk pvf pvs := fun i hi => by
  obtain ⟨b1, b2⟩ := B.1 i hi
  refine ⟨by omega, ?_⟩
  rcases b2 with w | w | w | ⟨w, q, hq, rq, k1, k7, e, _⟩
  · exact Or.inl w
  · exact Or.inr (Or.inl w)
  · exact Or.inr (Or.inr (Or.inl w))
  · obtain ⟨c, c4, P, lc, _, l3, _⟩ := st_lam (K := (tk_K xtk n)) (n := n) (fun i => tk_0) PG.2.1 PG.2.2.1 PG.2.2.2.1 hq rq k1 k7
    exact Or.inr (Or.inr (Or.inr ⟨w, q, c, by omega, e, lc, c4⟩))
theorem tr_fin (PG : pq_F xtk xtv n R sc h par) (I : (pi_I (tk_K xtk n) (sk_f (tk_K xtk n) n) R sc n 1 VP nm vc cc 0 oc u s t pvk pvf pvs pcv pco pff pfp pfe pfb pop)) (v : VP va) : sp_T dl xtk xtv n t s (sg_R dl xtk xtv n R h VP vc cc 0 oc s va pac pmd pvk pvf pvs pcv pco pff pfp pfe pfb pop) := by
  obtain ⟨B, O, Rf, N⟩ := I
  unfold sn_N at N
  refine sp_Rf (r := 0) (md := pmd) (w := nI va) (VP := VP) (vk := pvk) (vf := pvf) (vs := pvs) (by omega) (by omega) (by decide) (by decide) (tr_G PG (by omega) B) (Or.inr ⟨va, rfl, v⟩) sg_Rh (fun F u Q hF hu hQ => ?_)
  obtain ⟨xex, xen, xaf, xro, xsc, xho, xvk, xvf, xvs, xcv, xco, xff, xfp, xfe, xfb, xop, rfl, A⟩ := hu
  exact xr_fin (hQ _ ⟨_, _, _, _, _, _, _, _, _, _,  _, _, _, _, _, _, _, _, _, _, _, _, _, _,  rfl, A.1.2.2 _ _ _ A.2.1, A.2.2.1⟩)
theorem tr_ret (I : (pi_I (tk_K xtk n) (sk_f (tk_K xtk n) n) R sc n 1 VP nm vc cc (x + 1) oc u s t pvk pvf pvs pcv pco pff pfp pfe pfb pop)) (v : VP va) (Rf : fp_R (tk_K xtk n) (sk_f (tk_K xtk n) n) R sc n nm cc pff pfp pfe pfb x oc u) (hp : pfp x = -1) (ht : t + (d + 1) = 900) (IHR : sp_RT dl xtk xtv n R sc h d) : sp_T dl xtk xtv n t s (sg_R dl xtk xtv n R h VP vc cc (x + 1) oc s va pac pmd pvk pvf pvs pcv pco pff pfp pfe pfb pop) := by
  obtain ⟨B, O, _, N⟩ := I
  unfold sn_N at N
  refine sp_Rs (by omega) sg_Rh (fun F u Q hF hu hQ => ?_) (IHR VP nm vc cc x oc u s (t + 1) va (pac - 1) pmd pvk pvf pvs pcv pco pff pfp pfe pfb pop (by omega) ⟨B, O, Rf, by unfold sn_N; omega⟩ v)
  obtain ⟨xex, xen, xaf, xro, xsc, xho, xvk, xvf, xvs, xcv, xco, xff, xfp, xfe, xfb, xop, rfl, A⟩ := hu
  have Af := A.2.2.2.2.1
  exact xr_ret (by omega) ((Af x (by omega)).2.1.trans hp) (hQ _ ⟨_, _, _, _, _, _, _, _, _, _, _, _, _, _, _, _,  rfl, A.1, A.2.1, A.2.2.1, A.2.2.2.1, fun i hi => Af i (by omega), A.2.2.2.2.2⟩)
theorem tr_more {p p' : Nat} (PG : pq_F xtk xtv n R sc h par) (J : (tj_J (tk_K xtk n) (sk_f (tk_K xtk n) n) R sc n VP nm vc cc x b k q u1 s t va pvk pvf pvs pcv pco pff pfp pfe pfb pop)) (hA : xp_A (tk_K xtk n) (sk_f (tk_K xtk n) n) n q p (nI p')) (hq1 : q + 1 < n) (hfp : pfp x = nI p) (hp' : p' < n) (rp : R p' = 1) (sp' : sc p' = sc q) (hW : fp_W (tk_K xtk n) (sk_f (tk_K xtk n) n) R sc n nm cc pff (upd pfp x (nI p')) pfe pfb x b (k + 1) q) (ht : t + (d + 1) = 900) (IHE : sp_ET dl xtk xtv n R sc h d) : sp_T dl xtk xtv n t s (sg_R dl xtk xtv n R h VP vc cc (x + 1) (b + k) s va pac pmd pvk pvf pvs pcv pco pff pfp pfe pfb pop) := by
  obtain ⟨B, O, Wf, Rf, N, v⟩ := J
  obtain ⟨hq, rq, k1, w4, w5, w6, _⟩ := Wf
  have H := PG.1
  have H1 := H.1
  unfold sn_N at N
  refine sp_Rs (by omega) sg_Rh (fun F u Q hF hu hQ => ?_) (IHE VP nm vc cc (x + 1) (b + k + 1) (u1 + 1) s (t + 1) p' (pfe x) pac pmd pvk pvf pvs pcv pco pff (upd pfp x (nI p')) pfe pfb (upd pop (b + k) (nI va)) (by omega) ⟨B, vo_s (fun _ z => z) v O, Or.inr ⟨b, k + 1, u1, q, rfl, by omega, hW, fp_k (Nat.le_refl _) (fun _ _ => rfl) (fun i hi => ⟨rfl, pk_un (by omega), rfl, rfl⟩) Rf⟩, by unfold sn_N; omega⟩ hp' rp (by rw [sp']; exact w6))
  obtain ⟨xex, xen, xaf, xro, xsc, xho, xvk, xvf, xvs, xcv, xco, xff, xfp, xfe, xfb, xop, rfl, A⟩ := hu
  have Af := A.2.2.2.2.1
  have fx := Af x (by omega)
  refine xr_more H A.1.1 (p := p) (by omega) (by omega) hq1 (fx.1.trans w4) (fx.2.1.trans hfp) (by omega) hA ?_
  rw [fx.2.2.1]
  exact hQ _ ⟨_, _, _, _, _, _, _, _, _, _, _, _, _, _, _,  rfl, A.1, A.2.1, A.2.2.1, A.2.2.2.1, fun i hi => ⟨(Af i hi).1, up_c (fun j hj => (Af j hj).2.1) i hi, (Af i hi).2.2.1, (Af i hi).2.2.2⟩, up_s A.2.2.2.2.2⟩
/-- the last part has been answered: how the form is finished -/
theorem tr_last {F : Nat} {u0 : SX} {p : Nat} (PG : pq_F xtk xtv n R sc h par) (J : (tj_J (tk_K xtk n) (sk_f (tk_K xtk n) n) R sc n VP nm vc cc x b k q u1 s t va pvk pvf pvs pcv pco pff pfp pfe pfb pop)) (hA : xp_A (tk_K xtk n) (sk_f (tk_K xtk n) n) n q p (-1)) (hq1 : q + 1 < n) (hfp : pfp x = nI p) (hu : (sg_R dl xtk xtv n R h VP vc cc (x + 1) (b + k) s va pac pmd pvk pvf pvs pcv pco pff pfp pfe pfb pop) F u0) {Q : SX → Prop}
    (fin : ∀ (xex xen : Int32) (xaf xro xsc xho xvk xvf xvs xcv xco xff xfp xfe xfb xop : Nat → Int32), sg_A xtk xtv n R h VP cc (x + 1) (b + k + 1) pvk pvf pvs pcv pco pff (upd pfp x (-1)) pfe pfb (upd pop (b + k) (nI va)) xaf xro xsc xho xvk xvf xvs xcv xco xff xfp xfe xfb xop →
      wpX_finishForm Q (dl, nI n, 1, nI vc, nI cc, nI (x + 1), nI (b + k + 1), 1, nI va, xex, xen, nI F, pac, -1, nI s, pmd, -1, -1, xtk, xtv, xaf, xro, xsc, xho, xvk, xvf, xvs, xcv, xco, xff, xfp, xfe, xfb, xop) (nI x)) : wpX_handOverAnswer Q u0 := by
  obtain ⟨B, O, Wf, Rf, N, v⟩ := J
  obtain ⟨hq, rq, k1, w4, w5, w6, _⟩ := Wf
  have H := PG.1
  unfold sn_N at N
  obtain ⟨xex, xen, xaf, xro, xsc, xho, xvk, xvf, xvs, xcv, xco, xff, xfp, xfe, xfb, xop, rfl, A⟩ := hu
  have Af := A.2.2.2.2.1
  have fx := Af x (by omega)
  exact xr_last H A.1.1 (p := p) (by omega) (by omega) hq1 (fx.1.trans w4) (fx.2.1.trans hfp) hA (fin _ _ _ _ _ _ _ _ _ _ _ _ _ _ _ _  ⟨A.1, A.2.1, A.2.2.1, A.2.2.2.1, fun i hi => ⟨(Af i hi).1, up_c (fun j hj => (Af j hj).2.1) i hi, (Af i hi).2.2.1, (Af i hi).2.2.2⟩, up_s A.2.2.2.2.2⟩)
/-- a value's kind is the object's too -/
theorem ag_k {xvk xvf xvs : Nat → Int32} {a : Nat} (A : ag_V pvk pvf pvs xvk xvf xvs a) : xvk a = pvk a ∧ (pvk a = 1 → xvf a = pvf a) ∧ (pvk a = 3 → xvf a = pvf a ∧ xvs a = pvs a) ∧ (pvk a = 4 → xvf a = pvf a ∧ xvs a = pvs a) :=
  ⟨A.1, fun z => A.2.1 (by rw [z]; decide), fun z => ⟨A.2.1 (by rw [z]; decide), A.2.2 (Or.inl z)⟩, fun z => ⟨A.2.1 (by rw [z]; decide), A.2.2 (Or.inr z)⟩⟩
theorem tr_if (PG : pq_F xtk xtv n R sc h par) (J : (tj_J (tk_K xtk n) (sk_f (tk_K xtk n) n) R sc n VP nm vc cc x b k q u1 s t va pvk pvf pvs pcv pco pff pfp pfe pfb pop)) (k10 : tk_K xtk n (q + 1) = 10) (ht : t + (d + 1) = 900) (IHE : sp_ET dl xtk xtv n R sc h d) : sp_T dl xtk xtv n t s (sg_R dl xtk xtv n R h VP vc cc (x + 1) (b + k) s va pac pmd pvk pvf pvs pcv pco pff pfp pfe pfb pop) := by
  have J' := J
  obtain ⟨B, O, Wf, Rf, N, v⟩ := J
  obtain ⟨hq, rq, k1, w4, w5, w6, w7⟩ := Wf
  have H := PG.1
  have H1 := H.1
  unfold sn_N at N
  have hq1 : q + 1 < n := tk_lt (tk := xtk) (by omega)
  have w7' : k = 0 ∧ pfp x = nI (q + 2) := by
    rcases w7 with w | w | w | w
    · exact w.2
    · omega
    · omega
    · omega
  obtain ⟨k0, w7e⟩ := w7'
  subst k0
  obtain ⟨lc, st, _⟩ := st_op (K := (tk_K xtk n)) (n := n) (fun i => tk_0) PG.2.1 PG.2.2.1 PG.2.2.2.1 hq rq k1 (by omega)
  rw [k10] at lc st
  have s0 := st 0 (by decide)
  have s1 := st 1 (by decide)
  have s2 := st 2 (by decide)
  change q + 2 < n ∧ R (q + 2) = 1 ∧ tk_K xtk n (q + 2) ≠ 2 ∧ _ ∧ sc (q + 2) = sc q at s0
  change sk_f (tk_K xtk n) n (q + 2) < n ∧ R (sk_f (tk_K xtk n) n (q + 2)) = 1 ∧ tk_K xtk n (sk_f (tk_K xtk n) n (q + 2)) ≠ 2 ∧ _ ∧ sc (sk_f (tk_K xtk n) n (q + 2)) = sc q at s1
  change sk_f (tk_K xtk n) n (sk_f (tk_K xtk n) n (q + 2)) < n ∧ R (sk_f (tk_K xtk n) n (sk_f (tk_K xtk n) n (q + 2))) = 1 ∧ _ ∧ _ ∧ sc (sk_f (tk_K xtk n) n (sk_f (tk_K xtk n) n (q + 2))) = sc q at s2
  have hA : xp_A (tk_K xtk n) (sk_f (tk_K xtk n) n) n q (q + 2) (-1) := ⟨s0.1, s0.2.2.1, Or.inl ⟨k10, rfl⟩⟩
  have hva := (B.1 va v).1
  by_cases v1 : pvk va = 1
  · have key : ∀ T, (pvf va = 0 → T = sk_f (tk_K xtk n) n (sk_f (tk_K xtk n) n (q + 2))) → (pvf va ≠ 0 → T = sk_f (tk_K xtk n) n (q + 2)) → T < n → R T = 1 → sc T = sc q → sp_T dl xtk xtv n t s (sg_R dl xtk xtv n R h VP vc cc (x + 1) (b + 0) s va pac pmd pvk pvf pvs pcv pco pff pfp pfe pfb pop) := by
      intro T t1 t2 hT rT sT
      refine sp_Rs (by omega) sg_Rh (fun F u Q hF hu hQ => ?_) (IHE VP nm vc cc x b u1 s (t + 1) T (pfe x) pac pmd pvk pvf pvs pcv pco pff (upd pfp x (-1)) pfe pfb (upd pop (b + 0) (nI va)) (by omega) ⟨B, vo_m (fun _ z => z) (fun i hi => pk_un (by omega)) (vo_l (by omega) O), fp_k (Nat.le_refl _) (fun _ _ => rfl) (fun i hi => ⟨rfl, pk_un (by omega), rfl, rfl⟩) Rf, by unfold sn_N; omega⟩ hT rT (by rw [sT]; exact w6))
      refine tr_last PG J' hA hq1 w7e hu (fun xex xen xaf xro xsc xho xvk xvf xvs xcv xco xff xfp xfe xfb xop A => ?_)
      have Af := A.2.2.2.2.1
      have fx := Af x (by omega)
      have ak := ag_k (A.2.2.1 va v)
      have opb : xop b = nI va := (A.2.2.2.2.2 b (by omega)).trans pk_us
      refine xF_if H A.1.1 (by omega) (by omega) (by omega) (fx.1.trans w4) (fx.2.2.2.trans w5) k10 s0.1 s0.2.2.1 s1.1 s1.2.2.1 opb (fun z => absurd (ak.1.trans v1) z) (fun _ T' a1 a2 => ?_)
      have eT : T' = T := by
        have ef := ak.2.1 v1
        by_cases z : pvf va = 0
        · rw [a1 (ef.trans z), t1 z]
        · rw [a2 (by rw [ef]; exact z), t2 z]
      rw [eT, fx.2.2.1]
      exact hQ _ ⟨_, _, _, _, _, _, _, _, _, _, _, _, _, _, _,  rfl, A.1, A.2.1, A.2.2.1, A.2.2.2.1, fun i hi => Af i (by omega), fun i hi => A.2.2.2.2.2 i (by omega)⟩
    by_cases z : pvf va = 0
    · exact key _ (fun _ => rfl) (fun w => absurd z w) s2.1 s2.2.1 s2.2.2.2.2
    · exact key _ (fun w => absurd w z) (fun _ => rfl) s1.1 s1.2.1 s1.2.2.2.2
  · refine sp_Rf (r := 6) (md := pmd) (w := -1) (VP := fun _ => False) (vk := pvk) (vf := pvf) (vs := pvs) (by omega) (by omega) (by decide) (by decide) (fun i z => False.elim z) (Or.inl rfl) sg_Rh (fun F u Q hF hu hQ => ?_)
    refine tr_last PG J' hA hq1 w7e hu (fun xex xen xaf xro xsc xho xvk xvf xvs xcv xco xff xfp xfe xfb xop A => ?_)
    have Af := A.2.2.2.2.1
    have fx := Af x (by omega)
    have ak := ag_k (A.2.2.1 va v)
    have opb : xop b = nI va := (A.2.2.2.2.2 b (by omega)).trans pk_us
    exact xF_if H A.1.1 (by omega) (by omega) (by omega) (fx.1.trans w4) (fx.2.2.2.trans w5) k10 s0.1 s0.2.2.1 s1.1 s1.2.2.1 opb (fun _ => hQ _ ⟨_, _, _, _, _, _, _, _, _, _,  _, _, _, _, _, _, _, _, _, _, _, _, _, _,  rfl, A.1.2.2 _ _ _ A.2.1, fun i z => False.elim z⟩) (fun z => absurd (ak.1.symm.trans z) v1)
end
