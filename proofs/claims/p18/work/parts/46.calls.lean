section
variable {dl : Int32} {xtk xtv : Nat → Int32} {n : Nat} {R sc : Nat → Int32} {h : Nat → Nat} {par : Nat → Nat} {VP : Nat → Prop} {nm : Nat → Nat} {vc cc s t va d x b k q u1 : Nat} {pac pmd : Int32} {pvk pvf pvs pcv pco pff pfp pfe pfb pop : Nat → Int32}
/-- m cells filled from the operands -/
theorem tl_cells {K : Nat → Nat} {c0 s0 : Int32} {tn : Nat → Nat} {m : Nat} {op' : Nat → Int32} (B : hp_B K R sc n VP nm vc cc cc pvk pvf pvs pcv pco) (hE : hp_E nm cc c0 s0) (ht : ∀ j, j < m → tn j < n ∧ sc (tn j) = hb_s s0 tn j) (hO : ∀ j, j < m → ∃ a, op' (b + j) = nI a ∧ VP a) :
    ∃ nm', (∀ i, i < cc → nm' i = nm i) ∧ hp_E nm' (cc + m) (hb_e c0 cc m) (hb_s s0 tn m) ∧
      hp_B K R sc n VP nm' vc (cc + m) (cc + m) pvk pvf pvs (xc_v pcv (fun i => op' (b + i)) cc m) (xc_v pco (hb_e c0 cc) cc m) := by
  have B' : hp_B K R sc n VP nm vc cc cc pvk pvf pvs (xc_v pcv (fun i => op' (b + i)) cc m) (xc_v pco (hb_e c0 cc) cc m) :=
    hp_add (Nat.le_refl _) (fun _ z => z) (fun _ _ => ⟨rfl, rfl, rfl⟩) (fun i hi => ⟨xc_vn hi, xc_vn hi⟩) (fun a z => Or.inl z) B
  obtain ⟨nm', h1, h3, _, h5⟩ := hp_cells (fil := True) (k := m) hE ht (fun j hj => xc_vs hj) (fun _ j hj => by
    obtain ⟨a, e1, v⟩ := hO j hj
    exact ⟨a, (xc_vs hj).trans e1, v⟩) B'
  exact ⟨nm', h1, h3, h5 trivial⟩
theorem tl_let (PG : pq_F xtk xtv n R sc h par) (J : (tj_J (tk_K xtk n) (sk_f (tk_K xtk n) n) R sc n VP nm vc cc x b k q u1 s t va pvk pvf pvs pcv pco pff pfp pfe pfb pop)) (k8 : tk_K xtk n (q + 1) = 8) (ht : t + (d + 1) = 900) (IHE : sp_ET dl xtk xtv n R sc h d) : sp_T dl xtk xtv n t s (sg_R dl xtk xtv n R h VP vc cc (x + 1) (b + k) s va pac pmd pvk pvf pvs pcv pco pff pfp pfe pfb pop) := by
  have H := PG.1
  have H1 := H.1
  have J' := J
  obtain ⟨B, O, Wf, Rf, N, v⟩ := J
  obtain ⟨hq, rq, k1, w4, w5, w6, w7⟩ := Wf
  unfold sn_N at N
  have hq1 : q + 1 < n := tk_lt (tk := xtk) (by omega)
  have w7' : (∃ c, ls_C (tk_K xtk n) (sk_f (tk_K xtk n) n) (q + 3) c ∧ k < c) ∧ pfp x = nI (it_f (sk_f (tk_K xtk n) n) k (q + 3) + 2) := by
    rcases w7 with w | w | w | w
    · omega
    · omega
    · exact w.2
    · omega
  obtain ⟨⟨c0, lc0, hk0⟩, f1⟩ := w7'
  obtain ⟨c, c1, c4, lc, st, _, h2, k2, e2, h3, r3, sc3⟩ := st_let (K := (tk_K xtk n)) (n := n) (fun i => tk_0) PG.2.1 PG.2.2.1 PG.2.2.2.1 hq rq k1 (Or.inl k8)
  have ec := ls_C_u lc0 lc
  subst ec
  obtain ⟨b1, b2, b3, b4, b5, b6, b7, b8, b9, b10⟩ := st k hk0
  have hO : vo_R VP (upd pop (b + k) (nI va)) (b + k + 1) := vo_s (fun _ z => z) v O
  by_cases hk : k + 1 < c0
  · obtain ⟨d1, d2, d3, d4, d5, d6, d7, d8, d9, d10⟩ := st (k + 1) hk
    have hA : xp_A (tk_K xtk n) (sk_f (tk_K xtk n) n) n q (it_f (sk_f (tk_K xtk n) n) k (q + 3) + 2) (nI (it_f (sk_f (tk_K xtk n) n) (k + 1) (q + 3) + 2)) := by
      refine ⟨b2, b4, Or.inr (Or.inr (Or.inl ⟨Or.inl k8, by omega, by omega, Or.inr ⟨?_, ?_⟩⟩))⟩
      · rw [← b6]; omega
      · rw [b6]
    rw [if_neg (by omega)] at d8
    exact tr_more PG J' hA hq1 f1 d2 d3 d8 ⟨hq, rq, k1, w4, w5, w6, Or.inr (Or.inr (Or.inl ⟨k8, ⟨c0, lc, hk⟩, pk_us⟩))⟩ ht IHE
  · have ek : c0 = k + 1 := by omega
    subst ek
    have hA : xp_A (tk_K xtk n) (sk_f (tk_K xtk n) n) n q (it_f (sk_f (tk_K xtk n) n) k (q + 3) + 2) (-1) := by
      refine ⟨b2, b4, Or.inr (Or.inr (Or.inl ⟨Or.inl k8, by omega, by omega, Or.inl ⟨?_, rfl⟩⟩))⟩
      rw [← b6]; exact lc.2
    obtain ⟨nm', h1', hE', B'⟩ := tl_cells (b := b) (op' := upd pop (b + k) (nI va)) (m := k + 1) (tn := fun i => it_f (sk_f (tk_K xtk n) n) i (q + 3) + 1) B w6 (fun j hj => by
      obtain ⟨a1, a2, _, _, _, _, _, _, _, a10⟩ := st j hj
      exact ⟨by omega, a10⟩) (fun j hj => hO (b + j) (by omega))
    refine sp_Rs (by omega) sg_Rh (fun F u Q hF hu hQ => ?_) (IHE VP nm' vc (cc + (k + 1)) x b u1 s (t + 1) (sk_f (tk_K xtk n) n (q + 2)) (hb_e (pfe x) cc (k + 1)) pac pmd pvk pvf pvs (xc_v pcv (fun i => upd pop (b + k) (nI va) (b + i)) cc (k + 1)) (xc_v pco (hb_e (pfe x) cc) cc (k + 1)) pff (upd pfp x (-1)) pfe pfb (upd pop (b + k) (nI va)) (by omega) ⟨B', vo_l (by omega) hO, fp_k (by omega) h1' (fun i hi => ⟨rfl, pk_un (by omega), rfl, rfl⟩) Rf, by unfold sn_N; omega⟩ h3 r3 (by rw [sc3]; exact hE'))
    refine tr_last PG J' hA hq1 f1 hu (fun xex xen xaf xro xsc xho xvk xvf xvs xcv xco xff xfp xfe xfb xop A => ?_)
    have Af := A.2.2.2.2.1
    have fx := Af x (by omega)
    have Ac := A.2.2.2.1
    refine xF_let (k := k + 1) H A.1.1 (by omega) (by omega) (by omega) (fx.1.trans w4) (fx.2.2.2.trans w5) k8 h2 (by omega) (fun cv' co' S => ?_)
    obtain ⟨rfl, rfl⟩ := S
    rw [fx.2.2.1]
    exact hQ _ ⟨_, _, _, _, _, _, _, _, _, _, _, _, _, _, _,  rfl, A.1, A.2.1, A.2.2.1, fun c hc => ⟨up_v (fun i hi => (Ac i hi).1) (fun i hi => A.2.2.2.2.2 (b + i) (by omega)) c hc, up_v (fun i hi => (Ac i hi).2) (fun i hi => rfl) c hc⟩, fun i hi => Af i (by omega), fun i hi => A.2.2.2.2.2 i (by omega)⟩
theorem ta_arg (PG : pq_F xtk xtv n R sc h par) (J : (tj_J (tk_K xtk n) (sk_f (tk_K xtk n) n) R sc n VP nm vc cc x b k q u1 s t va pvk pvf pvs pcv pco pff pfp pfe pfb pop)) (k6 : tk_K xtk n (q + 1) < 6) {c : Nat} (lc0 : ls_C (tk_K xtk n) (sk_f (tk_K xtk n) n) (q + 1) (c + 1)) (hk : k < c) (f1 : pfp x = nI (it_f (sk_f (tk_K xtk n) n) (k + 1) (q + 1))) (ht : t + (d + 1) = 900) (IHE : sp_ET dl xtk xtv n R sc h d) : sp_T dl xtk xtv n t s (sg_R dl xtk xtv n R h VP vc cc (x + 1) (b + k) s va pac pmd pvk pvf pvs pcv pco pff pfp pfe pfb pop) := by
  have Wf := J.2.2.1
  obtain ⟨hq, rq, k1, w4, w5, w6, _⟩ := Wf
  obtain ⟨c', c4, lc, st, hend⟩ := st_app (K := (tk_K xtk n)) (n := n) (fun i => tk_0) PG.2.1 PG.2.2.1 PG.2.2.2.1 hq rq k1 k6
  have ec : c' = c := by have := ls_C_u lc0 lc; omega
  subst ec
  have s0 := st 0 (by omega)
  change q + 1 < n ∧ R (q + 1) = 1 ∧ tk_K xtk n (q + 1) ≠ 2 ∧ _ ∧ sc (q + 1) = sc q at s0
  have s1 := st (k + 1) (by omega)
  have ei : sk_f (tk_K xtk n) n (it_f (sk_f (tk_K xtk n) n) (k + 1) (q + 1)) = it_f (sk_f (tk_K xtk n) n) (k + 2) (q + 1) := (it_s (sk_f (tk_K xtk n) n) (k + 1) (q + 1)).symm
  by_cases hk2 : k + 1 < c'
  · have s2 := st (k + 2) (by omega)
    have hA : xp_A (tk_K xtk n) (sk_f (tk_K xtk n) n) n q (it_f (sk_f (tk_K xtk n) n) (k + 1) (q + 1)) (nI (it_f (sk_f (tk_K xtk n) n) (k + 2) (q + 1))) := by
      refine ⟨s1.1, s1.2.2.1, Or.inr (Or.inr (Or.inr ⟨Or.inl k6, by omega, ?_, Or.inl ⟨?_, ?_⟩⟩))⟩
      · rw [ei]; exact s2.1
      · rw [ei]; exact s2.2.2.1
      · rw [ei]
    exact tr_more PG J hA s0.1 f1 s2.1 s2.2.1 s2.2.2.2.2 ⟨hq, rq, k1, w4, w5, w6, Or.inr (Or.inr (Or.inr ⟨k6, c', lc, Or.inl ⟨hk2, pk_us⟩⟩))⟩ ht IHE
  · have ek : c' = k + 1 := by omega
    subst ek
    have hA : xp_A (tk_K xtk n) (sk_f (tk_K xtk n) n) n q (it_f (sk_f (tk_K xtk n) n) (k + 1) (q + 1)) (nI (q + 1)) := by
      refine ⟨s1.1, s1.2.2.1, Or.inr (Or.inr (Or.inr ⟨Or.inl k6, by omega, ?_, Or.inr (Or.inl ⟨?_, k6, rfl⟩)⟩))⟩
      · rw [ei]; exact hend
      · rw [ei]; exact lc.2
    exact tr_more PG J hA s0.1 f1 s0.1 s0.2.1 s0.2.2.2.2 ⟨hq, rq, k1, w4, w5, w6, Or.inr (Or.inr (Or.inr ⟨k6, k + 1, lc, Or.inr ⟨rfl, pk_us⟩⟩))⟩ ht IHE
theorem ta_call (PG : pq_F xtk xtv n R sc h par) (J : (tj_J (tk_K xtk n) (sk_f (tk_K xtk n) n) R sc n VP nm vc cc x b k q u1 s t va pvk pvf pvs pcv pco pff pfp pfe pfb pop)) (k6 : tk_K xtk n (q + 1) < 6) (lc0 : ls_C (tk_K xtk n) (sk_f (tk_K xtk n) n) (q + 1) (k + 1)) (f1 : pfp x = nI (q + 1)) (ht : t + (d + 1) = 900) (IHE : sp_ET dl xtk xtv n R sc h d) : sp_T dl xtk xtv n t s (sg_R dl xtk xtv n R h VP vc cc (x + 1) (b + k) s va pac pmd pvk pvf pvs pcv pco pff pfp pfe pfb pop) := by
  have H := PG.1
  have H1 := H.1
  have J' := J
  obtain ⟨B, O, Wf, Rf, N, v⟩ := J
  obtain ⟨hq, rq, k1, w4, w5, w6, _⟩ := Wf
  unfold sn_N at N
  obtain ⟨c', c4, lc, st, hend⟩ := st_app (K := (tk_K xtk n)) (n := n) (fun i => tk_0) PG.2.1 PG.2.2.1 PG.2.2.2.1 hq rq k1 k6
  have ec : c' = k := by have := ls_C_u lc0 lc; omega
  subst ec
  have s0 := st 0 (by omega)
  change q + 1 < n ∧ R (q + 1) = 1 ∧ tk_K xtk n (q + 1) ≠ 2 ∧ _ ∧ sc (q + 1) = sc q at s0
  have hO : vo_R VP (upd pop (b + c') (nI va)) (b + c' + 1) := vo_s (fun _ z => z) v O
  have hA : xp_A (tk_K xtk n) (sk_f (tk_K xtk n) n) n q (q + 1) (-1) := ⟨s0.1, s0.2.2.1, Or.inr (Or.inl ⟨k6, rfl, rfl⟩)⟩
  obtain ⟨hva, hV⟩ := B.1 va v
  by_cases v4 : pvk va = 4
  · have pr : ∃ p, p < n ∧ R p = 1 ∧ tk_K xtk n p = 1 ∧ tk_K xtk n (p + 1) = 7 ∧ pvf va = nI p ∧ hp_E nm cc (pvs va) (sc p) := by
      rcases hV with w | w | w | w
      · rw [v4] at w; exact absurd w (by decide)
      · rw [v4] at w; exact absurd w (by decide)
      · rw [v4] at w; exact absurd w.1 (by decide)
      · exact w.2
    obtain ⟨p, p1, p2, p3, p4, p5, p7⟩ := pr
    obtain ⟨m, m4, P, lcm, sn, hm3, h2, k2, e2, h3, r3, sc3⟩ := st_lam (K := (tk_K xtk n)) (n := n) (fun i => tk_0) PG.2.1 PG.2.2.1 PG.2.2.2.1 p1 p2 p3 p4
    by_cases em : m = c'
    · subst em
      by_cases ea : pac = dl
      · refine sp_Rf (r := 5) (md := pmd) (w := -1) (VP := fun _ => False) (vk := pvk) (vf := pvf) (vs := pvs) (by omega) (by omega) (by decide) (by decide) (fun i z => False.elim z) (Or.inl rfl) sg_Rh (fun F u Q hF hu hQ => ?_)
        refine tr_last PG J' hA s0.1 f1 hu (fun xex xen xaf xro xsc xho xvk xvf xvs xcv xco xff xfp xfe xfb xop A => ?_)
        have fx := A.2.2.2.2.1 x (by omega)
        have ak := ag_k (A.2.2.1 va v)
        have opk : xop (b + m) = nI va := (A.2.2.2.2.2 (b + m) (by omega)).trans pk_us
        exact xF_call (k := m) H A.1.1 (by omega) (by omega) (by omega) (by omega) (fx.1.trans w4) (fx.2.2.2.trans w5) k6 s0.1 opk (fun z => absurd (ak.1.trans v4) z) (fun _ => ⟨p, m, (ak.2.2.2 v4).1.trans p5, h2, by omega, lcm, by omega, fun z => absurd rfl z, fun _ _ => hQ _ ⟨_, _, _, _, _, _, _, _, _, _,  _, _, _, _, _, _, _, _, _, _, _, _, _, _,  rfl, A.1.2.2 _ _ _ A.2.1, fun i z => False.elim z⟩, fun _ z => absurd ea z⟩)
      · obtain ⟨nm', h1', hE', B'⟩ := tl_cells (b := b) (op' := upd pop (b + m) (nI va)) (m := m) (tn := fun i => p + 3 + i) B p7 sn (fun j hj => hO (b + j) (by omega))
        refine sp_Rs (by omega) sg_Rh (fun F u Q hF hu hQ => ?_) (IHE VP nm' vc (cc + m) (x + 1) b u1 s (t + 1) (sk_f (tk_K xtk n) n (p + 2)) (hb_e (pvs va) cc m) (pac + 1) (if pac + 1 ≤ pmd then pmd else pac + 1) pvk pvf pvs (xc_v pcv (fun i => upd pop (b + m) (nI va) (b + i)) cc m) (xc_v pco (hb_e (pvs va) cc) cc m) pff (upd pfp x (-1)) pfe pfb (upd pop (b + m) (nI va)) (by omega) ⟨B', vo_l (by omega) hO, Or.inl ⟨pk_us, fp_k (by omega) h1' (fun i hi => ⟨rfl, pk_un (by omega), rfl, rfl⟩) Rf⟩, by unfold sn_N; omega⟩ h3 r3 (by rw [sc3]; exact hE'))
        refine tr_last PG J' hA s0.1 f1 hu (fun xex xen xaf xro xsc xho xvk xvf xvs xcv xco xff xfp xfe xfb xop A => ?_)
        have Af := A.2.2.2.2.1
        have fx := Af x (by omega)
        have Ac := A.2.2.2.1
        have ak := ag_k (A.2.2.1 va v)
        have opk : xop (b + m) = nI va := (A.2.2.2.2.2 (b + m) (by omega)).trans pk_us
        refine xF_call (k := m) H A.1.1 (by omega) (by omega) (by omega) (by omega) (fx.1.trans w4) (fx.2.2.2.trans w5) k6 s0.1 opk (fun z => absurd (ak.1.trans v4) z) (fun _ => ⟨p, m, (ak.2.2.2 v4).1.trans p5, h2, by omega, lcm, by omega, fun z => absurd rfl z, fun _ z => absurd z ea, fun _ _ cv' co' md' emd S => ?_⟩)
        obtain ⟨rfl, rfl⟩ := S
        subst emd
        rw [(ak.2.2.2 v4).2]
        exact hQ _ ⟨_, _, _, _, _, _, _, _, _, _, _, _, _, _, _,  rfl, A.1, A.2.1, A.2.2.1, fun c hc => ⟨up_v (fun i hi => (Ac i hi).1) (fun i hi => A.2.2.2.2.2 (b + i) (by omega)) c hc, up_v (fun i hi => (Ac i hi).2) (fun i hi => rfl) c hc⟩, Af, fun i hi => A.2.2.2.2.2 i (by omega)⟩
    · refine sp_Rf (r := 9) (md := pmd) (w := -1) (VP := fun _ => False) (vk := pvk) (vf := pvf) (vs := pvs) (by omega) (by omega) (by decide) (by decide) (fun i z => False.elim z) (Or.inl rfl) sg_Rh (fun F u Q hF hu hQ => ?_)
      refine tr_last PG J' hA s0.1 f1 hu (fun xex xen xaf xro xsc xho xvk xvf xvs xcv xco xff xfp xfe xfb xop A => ?_)
      have fx := A.2.2.2.2.1 x (by omega)
      have ak := ag_k (A.2.2.1 va v)
      have opk : xop (b + c') = nI va := (A.2.2.2.2.2 (b + c') (by omega)).trans pk_us
      exact xF_call (k := c') H A.1.1 (by omega) (by omega) (by omega) (by omega) (fx.1.trans w4) (fx.2.2.2.trans w5) k6 s0.1 opk (fun z => absurd (ak.1.trans v4) z) (fun _ => ⟨p, m, (ak.2.2.2 v4).1.trans p5, h2, by omega, lcm, by omega, fun _ => hQ _ ⟨_, _, _, _, _, _, _, _, _, _,  _, _, _, _, _, _, _, _, _, _, _, _, _, _,  rfl, A.1.2.2 _ _ _ A.2.1, fun i z => False.elim z⟩, fun z => absurd z em, fun z => absurd z em⟩)
  · refine sp_Rf (r := 8) (md := pmd) (w := -1) (VP := fun _ => False) (vk := pvk) (vf := pvf) (vs := pvs) (by omega) (by omega) (by decide) (by decide) (fun i z => False.elim z) (Or.inl rfl) sg_Rh (fun F u Q hF hu hQ => ?_)
    refine tr_last PG J' hA s0.1 f1 hu (fun xex xen xaf xro xsc xho xvk xvf xvs xcv xco xff xfp xfe xfb xop A => ?_)
    have fx := A.2.2.2.2.1 x (by omega)
    have ak := ag_k (A.2.2.1 va v)
    have opk : xop (b + c') = nI va := (A.2.2.2.2.2 (b + c') (by omega)).trans pk_us
    exact xF_call (k := c') H A.1.1 (by omega) (by omega) (by omega) (by omega) (fx.1.trans w4) (fx.2.2.2.trans w5) k6 s0.1 opk (fun _ => hQ _ ⟨_, _, _, _, _, _, _, _, _, _,  _, _, _, _, _, _, _, _, _, _, _, _, _, _,  rfl, A.1.2.2 _ _ _ A.2.1, fun i z => False.elim z⟩) (fun z => absurd (ak.1.symm.trans z) v4)
end
