section
variable {xdl xtn xpp xvc xcc xfc xoc xag xan xex xen xfl xac xst xsp xmd xrt xcu : Int32} {xtk xtv xaf xro xsc xho xvk xvf xvs xcv xco xff xfp xfe xfb xop : Nat → Int32} {n : Nat}
theorem xs_70 (H : tk_ok xtk n) (A : xb_A (tk_K xtk n) n xaf) {m c : Nat} (hm : m < n) (k1 : tk_K xtk n m = 1) (k8 : tk_K xtk n (m + 1) = 8 ∨ tk_K xtk n (m + 1) = 9) (hS : gr_SH (tk_K xtk n) xtv (sk_f (tk_K xtk n) n) m) (hc4 : c ≤ 4) (lc : ls_C (tk_K xtk n) (sk_f (tk_K xtk n) n) (m + 3) c) {post : SX → Prop}
    (hp : ∀ sF, (∀ j, j < c → sF (it_f (sk_f (tk_K xtk n) n) j (m + 3) + 1) = sc_ls (tk_K xtk n) (sk_f (tk_K xtk n) n) xsc m j) → sF (sk_f (tk_K xtk n) n (m + 2)) = sc_ls (tk_K xtk n) (sk_f (tk_K xtk n) n) xsc m c → (∀ j, j < c → sF (it_f (sk_f (tk_K xtk n) n) j (m + 3) + 2) = if tk_K xtk n (m + 1) = 9 then sc_ls (tk_K xtk n) (sk_f (tk_K xtk n) n) xsc m c else xsc m) → (∀ q, (∀ j, j < c → q ≠ it_f (sk_f (tk_K xtk n) n) j (m + 3) + 1 ∧ q ≠ it_f (sk_f (tk_K xtk n) n) j (m + 3) + 2) → q ≠ sk_f (tk_K xtk n) n (m + 2) → sF q = xsc q) → post (xdl, xtn, xpp, xvc, xcc, xfc, xoc, xag, xan, xex, xen, xfl, xac, xst, xsp, xmd, xrt, xcu, xtk, xtv, xaf, xro, sF, xho, xvk, xvf, xvs, xcv, xco, xff, xfp, xfe, xfb, xop)) :
    ∀ (sc' : Nat → Int32), (∀ j, j < c → sc' (it_f (sk_f (tk_K xtk n) n) j (m + 3) + 1) = sc_ls (tk_K xtk n) (sk_f (tk_K xtk n) n) xsc m j ∧ sc' (it_f (sk_f (tk_K xtk n) n) j (m + 3) + 2) = xsc m) → (∀ q, (∀ j, j < c → q ≠ it_f (sk_f (tk_K xtk n) n) j (m + 3) + 1 ∧ q ≠ it_f (sk_f (tk_K xtk n) n) j (m + 3) + 2) → sc' q = xsc q) → wX_scopeLet_70 post (nI m) (sc_ls (tk_K xtk n) (sk_f (tk_K xtk n) n) xsc m c) xdl xtn xpp xvc xcc xfc xoc xag xan xex xen xfl xac xst xsp xmd xrt xcu xtk xtv xaf xro sc' xho xvk xvf xvs xcv xco xff xfp xfe xfb xop := by
  have H1 := H.1
  have hB : ∀ i, i < n → tk_K xtk n i ≠ 2 → dp_I (tk_K xtk n) i (sk_f (tk_K xtk n) n i) := fun i hi hk => (A i hi hk).1
  obtain ⟨bp1, bp2, bp3, bp4, bp5⟩ := xs_bp (V := xtv) (K := (tk_K xtk n)) (n := n) (fun i => tk_0) hB hm k1 k8 hS lc
  have g := gr_bind (hB m hm (by omega)) k1 (by omega) (by omega) hS
  have m2 : m + 2 < n := tk_lt (tk := xtk) (by omega)
  have far : ∀ j, j < c → it_f (sk_f (tk_K xtk n) n) j (m + 3) + 4 ≤ it_f (sk_f (tk_K xtk n) n) c (m + 3) := fun j hj => by
    have a := (bp1 j hj).1
    have g := it_gt (K := (tk_K xtk n)) (n := n) (fun i => tk_0) (m + 3) (j + 1) (c - (j + 1))
    rw [show j + 1 + (c - (j + 1)) = c from by omega] at g
    omega
  have far2 : ∀ j j', j < c → j' < c → j ≠ j' → it_f (sk_f (tk_K xtk n) n) j (m + 3) + 4 ≤ it_f (sk_f (tk_K xtk n) n) j' (m + 3) ∨ it_f (sk_f (tk_K xtk n) n) j' (m + 3) + 4 ≤ it_f (sk_f (tk_K xtk n) n) j (m + 3) := fun j j' hj hj' ne => by
    rcases Nat.lt_or_ge j j' with z | z
    · have a := (bp1 j hj).1
      have g := it_gt (K := (tk_K xtk n)) (n := n) (fun i => tk_0) (m + 3) (j + 1) (j' - (j + 1))
      rw [show j + 1 + (j' - (j + 1)) = j' from by omega] at g
      exact Or.inl (by omega)
    · have a := (bp1 j' hj').1
      have g := it_gt (K := (tk_K xtk n)) (n := n) (fun i => tk_0) (m + 3) (j' + 1) (j - (j' + 1))
      rw [show j' + 1 + (j - (j' + 1)) = j from by omega] at g
      exact Or.inr (by omega)
  intro sc' r1 r2
  refine xs_body (xsc := sc') H A m2 (by omega) ⟨tk_in H bp5, fun s4 e4 => ?_⟩
  rw [nI_clamp (by omega)] at e4
  rw [nI_1 m]
  refine ⟨tk_in H (by omega), tk_b H (by omega) 9 (fun k9 => ?_) (fun k9 => ?_)⟩
  · refine nm_r (ni_3 m) ⟨c + 1, ?_⟩
    refine xs_lamsL (xsc := s4) H A hc4 lc (fun j hj => (bp1 j hj).1) (fun sF f1 f2 => ?_) c 0 s4 (by omega) (fun j hj => by omega) (fun q _ => rfl)
    refine hp sF (fun j hj => ?_) ?_ (fun j hj => ?_) (fun q hq hq2 => ?_)
    · have fj := far j hj
      rw [f2 _ (fun j' hj' => by
        by_cases z : j = j'
        · subst z; omega
        · have := far2 j j' hj hj' z; omega), e4, pk_un (by omega)]
      exact (r1 j hj).1
    · rw [f2 _ (fun j hj => by have := far j hj; omega), e4]; exact pk_us
    · rw [if_pos k9]; exact f1 j hj
    · rw [f2 q (fun j hj => (hq j hj).2), e4, pk_un hq2]
      exact r2 q hq
  · refine hp s4 (fun j hj => ?_) (by rw [e4]; exact pk_us) (fun j hj => ?_) (fun q hq hq2 => ?_)
    · have fj := far j hj
      rw [e4, pk_un (by omega)]; exact (r1 j hj).1
    · have fj := far j hj
      rw [if_neg k9, e4, pk_un (by omega)]; exact (r1 j hj).2
    · rw [e4, pk_un hq2]; exact r2 q hq
theorem xs_letL (H : tk_ok xtk n) (A : xb_A (tk_K xtk n) n xaf) {m c : Nat} (hm : m < n) (k1 : tk_K xtk n m = 1) (k8 : tk_K xtk n (m + 1) = 8 ∨ tk_K xtk n (m + 1) = 9) (hS : gr_SH (tk_K xtk n) xtv (sk_f (tk_K xtk n) n) m) (hc4 : c ≤ 4) (lc : ls_C (tk_K xtk n) (sk_f (tk_K xtk n) n) (m + 3) c) {post : SX → Prop}
    (hp : ∀ (sc' : Nat → Int32), (∀ j, j < c → sc' (it_f (sk_f (tk_K xtk n) n) j (m + 3) + 1) = sc_ls (tk_K xtk n) (sk_f (tk_K xtk n) n) xsc m j ∧ sc' (it_f (sk_f (tk_K xtk n) n) j (m + 3) + 2) = xsc m) → (∀ q, (∀ j, j < c → q ≠ it_f (sk_f (tk_K xtk n) n) j (m + 3) + 1 ∧ q ≠ it_f (sk_f (tk_K xtk n) n) j (m + 3) + 2) → sc' q = xsc q) → wX_scopeLet_70 post (nI m) (sc_ls (tk_K xtk n) (sk_f (tk_K xtk n) n) xsc m c) xdl xtn xpp xvc xcc xfc xoc xag xan xex xen xfl xac xst xsp xmd xrt xcu xtk xtv xaf xro sc' xho xvk xvf xvs xcv xco xff xfp xfe xfb xop) :
    ∀ d x (sc' : Nat → Int32), x + d = c → (∀ j, j < x → sc' (it_f (sk_f (tk_K xtk n) n) j (m + 3) + 1) = sc_ls (tk_K xtk n) (sk_f (tk_K xtk n) n) xsc m j ∧ sc' (it_f (sk_f (tk_K xtk n) n) j (m + 3) + 2) = xsc m) → (∀ q, (∀ j, j < x → q ≠ it_f (sk_f (tk_K xtk n) n) j (m + 3) + 1 ∧ q ≠ it_f (sk_f (tk_K xtk n) n) j (m + 3) + 2) → sc' q = xsc q) →
      wX_scopeLet_14 post (nI m) xdl xtn xpp xvc xcc xfc xoc xag xan xex xen xfl xac xst xsp xmd xrt xcu (d + 1) (sc_ls (tk_K xtk n) (sk_f (tk_K xtk n) n) xsc m x) (nI (it_f (sk_f (tk_K xtk n) n) x (m + 3))) (nI x) xtk xtv xaf xro sc' xho xvk xvf xvs xcv xco xff xfp xfe xfb xop := by
  have H1 := H.1
  have hB : ∀ i, i < n → tk_K xtk n i ≠ 2 → dp_I (tk_K xtk n) i (sk_f (tk_K xtk n) n i) := fun i hi hk => (A i hi hk).1
  obtain ⟨bp1, bp2, bp3, bp4, bp5⟩ := xs_bp (V := xtv) (K := (tk_K xtk n)) (n := n) (fun i => tk_0) hB hm k1 k8 hS lc
  have bd := ls_bd (K := (tk_K xtk n)) (n := n) (fun i => tk_0) lc
  intro d
  induction d with
  | zero =>
    intro x sc' e r1 r2
    have ec : x = c := by omega
    subst ec
    have hx := (bd.1 x (Nat.le_refl _)).1
    exact pk_le 4 x (fun _ => hp sc' r1 r2) (fun _ => ⟨tk_in H hx, tk_b H hx 2 (fun _ => hp sc' r1 r2) (fun z => absurd lc.2 z)⟩)
  | succ d ih =>
    intro x sc' e r1 r2
    have hx := (bd.1 x (by omega)).1
    have k := lc.1 x (by omega)
    have hx2 := (bd.1 (x + 1) (by omega)).1
    have ap := (bp1 x (by omega)).1
    have ge := bp3 x (by omega)
    have hc : (nI (it_f (sk_f (tk_K xtk n) n) x (m + 3))).toNatClampNeg = it_f (sk_f (tk_K xtk n) n) x (m + 3) := nI_clamp (by omega)
    have hcm : (nI m).toNatClampNeg = m := nI_clamp (by omega)
    have hc1 : (nI (it_f (sk_f (tk_K xtk n) n) x (m + 3) + 1)).toNatClampNeg = it_f (sk_f (tk_K xtk n) n) x (m + 3) + 1 := nI_clamp (by omega)
    have hc2 : (nI (it_f (sk_f (tk_K xtk n) n) x (m + 3) + 2)).toNatClampNeg = it_f (sk_f (tk_K xtk n) n) x (m + 3) + 2 := nI_clamp (by omega)
    have en : nI (it_f (sk_f (tk_K xtk n) n) x (m + 3) + 1) = sc_ls (tk_K xtk n) (sk_f (tk_K xtk n) n) xsc m (x + 1) := congrArg nI (show it_f (sk_f (tk_K xtk n) n) x (m + 3) + 1 = sc_nm (tk_K xtk n) (sk_f (tk_K xtk n) n) m x from (if_neg (by omega)).symm)
    refine pk_le 4 x (fun z => by omega) (fun _ => ⟨tk_in H hx, tk_b H hx 2 (fun z => absurd z k) (fun _ => ?_)⟩)
    rw [nI_1 (it_f (sk_f (tk_K xtk n) n) x (m + 3)), ni_2 (it_f (sk_f (tk_K xtk n) n) x (m + 3)), hc1, hc2, hcm]
    refine ⟨tk_in H (by omega), fun s2 e2 => ⟨tk_in H hm, tk_in H (by omega), fun s5 e5 => nm_r en ⟨tk_in H hx, nm_r ?_ (nm_r (nI_1 x) (ih (x + 1) s5 (by omega) (fun j hj => ?_) (fun q hq => ?_)))⟩⟩⟩
    · rw [hc, (A _ hx k).2, it_s]
    · have sm : s2 m = xsc m := by
        rw [e2, pk_un (by omega)]
        exact r2 m (fun j hj => by have := bp3 j (by omega); omega)
      by_cases z : j = x
      · rw [z]
        refine ⟨by rw [e5, pk_un (by omega), e2]; exact pk_us, by rw [e5, pk_us]; exact sm⟩
      · have g := it_gt (K := (tk_K xtk n)) (n := n) (fun i => tk_0) (m + 3) (j + 1) (x - (j + 1))
        rw [show j + 1 + (x - (j + 1)) = x from by omega] at g
        have a := (bp1 j (by omega)).1
        rw [e5, pk_un (by omega), pk_un (by omega), e2, pk_un (by omega), pk_un (by omega)]
        exact r1 j (by omega)
    · have q2 := hq x (by omega)
      rw [e5, pk_un q2.2, e2, pk_un q2.1]
      exact r2 q (fun j hj => hq j (by omega))
theorem xs_form (H : tk_ok xtk n) (A : xb_A (tk_K xtk n) n xaf) {m : Nat} (hm : m < n) (k1 : tk_K xtk n m = 1) (hS : gr_SH (tk_K xtk n) xtv (sk_f (tk_K xtk n) n) m) {post : SX → Prop}
    (hp : ∀ sF, sc_L (tk_K xtk n) (sk_f (tk_K xtk n) n) sF m → (∀ q, ¬ gr_Ch (tk_K xtk n) (sk_f (tk_K xtk n) n) m q → q ≠ m + 1 → sF q = xsc q) → post (xdl, xtn, xpp, xvc, xcc, xfc, xoc, xag, xan, xex, xen, xfl, xac, xst, xsp, xmd, xrt, xcu, xtk, xtv, xaf, xro, sF, xho, xvk, xvf, xvs, xcv, xco, xff, xfp, xfe, xfb, xop)) : wpX_scopeForm post (xdl, xtn, xpp, xvc, xcc, xfc, xoc, xag, xan, xex, xen, xfl, xac, xst, xsp, xmd, xrt, xcu, xtk, xtv, xaf, xro, xsc, xho, xvk, xvf, xvs, xcv, xco, xff, xfp, xfe, xfb, xop) (nI m) := by
  have H1 := H.1
  have hB : ∀ i, i < n → tk_K xtk n i ≠ 2 → dp_I (tk_K xtk n) i (sk_f (tk_K xtk n) n i) := fun i hi hk => (A i hi hk).1
  have hI := hB m hm (by omega)
  obtain ⟨c0, lc0, p1, p2, p3⟩ := xl_cnt H A hm k1
  have m1 : m + 1 < n := by omega
  have k20 := tk_20 H (m + 1)
  have dflt : (tk_K xtk n (m + 1) < 7 ∨ 9 < tk_K xtk n (m + 1)) → wpX_scopeItems post (xdl, xtn, xpp, xvc, xcc, xfc, xoc, xag, xan, xex, xen, xfl, xac, xst, xsp, xmd, xrt, xcu, xtk, xtv, xaf, xro, xsc, xho, xvk, xvf, xvs, xcv, xco, xff, xfp, xfe, xfb, xop) (nI m) := by
    intro k
    refine xs_items H A lc0 (fun sc' e1 e2 => hp sc' ⟨fun _ c hc => ?_, fun z z' => by omega⟩ (fun q hq hq1 => e2 q (fun w => ?_)))
    · have nm : ¬ ls_M (tk_K xtk n) (sk_f (tk_K xtk n) n) (m + 1) m := fun w => by
        have := (ls_Min hI k1 (dp_L_r _) (dp_I_1 hI k1) w).1
        omega
      rw [e2 m nm]
      refine e1 c ?_
      rcases hc.2 with ⟨_, w⟩ | ⟨_, w⟩ | ⟨w, w', _⟩ | ⟨w, _⟩
      · refine ls_M_s (by omega) ?_
        rw [sk_at (K := (tk_K xtk n)) (n := n) (i := m + 1) (by omega)]; exact w
      · exact w
      · omega
      · omega
    · by_cases k6 : tk_K xtk n (m + 1) < 6
      · exact hq (Or.inl ⟨k1, Or.inr (Or.inl ⟨k6, w⟩)⟩)
      · rcases (ls_M_c w).2 with e | w2
        · exact hq1 e
        · rw [sk_at (K := (tk_K xtk n)) (n := n) (i := m + 1) (by omega)] at w2
          by_cases k7 : tk_K xtk n (m + 1) = 6
          · exact hq (Or.inr (Or.inl ⟨k1, k7, w2⟩))
          · exact hq (Or.inl ⟨k1, Or.inl ⟨by omega, w2⟩⟩)
  have hlet : (tk_K xtk n (m + 1) = 8 ∨ tk_K xtk n (m + 1) = 9) → wpX_scopeLet post (xdl, xtn, xpp, xvc, xcc, xfc, xoc, xag, xan, xex, xen, xfl, xac, xst, xsp, xmd, xrt, xcu, xtk, xtv, xaf, xro, xsc, xho, xvk, xvf, xvs, xcv, xco, xff, xfp, xfe, xfb, xop) (nI m) := by
    intro k8
    obtain ⟨c, c4, lc, hN, hP, hc1⟩ := sc_N k1 (by omega) (by omega) hS
    obtain ⟨bp1, bp2, bp3, bp4, bp5⟩ := xs_bp (V := xtv) (K := (tk_K xtk n)) (n := n) (fun i => tk_0) hB hm k1 k8 hS lc
    have en : ∀ j, sc_nm (tk_K xtk n) (sk_f (tk_K xtk n) n) m j = it_f (sk_f (tk_K xtk n) n) j (m + 3) + 1 := fun j => if_neg (by omega)
    refine ⟨tk_in H hm, nm_r (show xsc (nI m).toNatClampNeg = sc_ls (tk_K xtk n) (sk_f (tk_K xtk n) n) xsc m 0 from by rw [nI_clamp (by omega)]; rfl) (nm_r (ni_3 m) ⟨c + 1, ?_⟩)⟩
    refine xs_letL H A hm k1 k8 hS c4 lc (xs_70 H A hm k1 k8 hS c4 lc (fun sF f1 f2 f3 f4 => hp sF ⟨fun z => by omega, fun _ _ c' lc' => ?_⟩ (fun q hq hq1 => f4 q (fun j hj => ⟨fun e => hq (Or.inr (Or.inr ((hN q).mpr ⟨j, hj, by rw [en]; exact e⟩))), fun e => hq (Or.inl ⟨k1, Or.inr (Or.inr (Or.inr ⟨k8, _, (ls_CM lc).mpr ⟨j, hj, rfl⟩, e⟩))⟩)⟩) (fun e => hq (Or.inl ⟨k1, Or.inr (Or.inr (Or.inl ⟨by omega, by omega, e⟩))⟩))))) c 0 xsc (by omega) (fun j hj => by omega) (fun q _ => rfl)
    have ec := ls_C_u lc' lc
    subst ec
    have sm : sF m = xsc m := f4 m (fun j hj => by have := bp3 j (by omega); omega) (by have := bp3 0 (by omega); have := (ls_bd (K := (tk_K xtk n)) (n := n) (fun i => tk_0) lc).1 c' (Nat.le_refl _); omega)
    have el : ∀ j, sc_ls (tk_K xtk n) (sk_f (tk_K xtk n) n) sF m j = sc_ls (tk_K xtk n) (sk_f (tk_K xtk n) n) xsc m j := fun j => by
      cases j with
      | zero => exact sm
      | succ j => rfl
    refine ⟨fun j hj => ?_, ?_, fun _ j hj => ?_⟩
    · rw [el, en]; exact f1 j hj
    · rw [el]; exact f2
    · rw [el, sm]; exact f3 j hj
  rw [show wpX_scopeForm post (xdl, xtn, xpp, xvc, xcc, xfc, xoc, xag, xan, xex, xen, xfl, xac, xst, xsp, xmd, xrt, xcu, xtk, xtv, xaf, xro, xsc, xho, xvk, xvf, xvs, xcv, xco, xff, xfp, xfe, xfb, xop) (nI m) = _ from rfl]
  refine ⟨by rw [nI_1]; exact tk_in H m1, nm_r (show xtk (nI m + 1).toNatClampNeg = nI (tk_K xtk n (m + 1)) from by rw [nI_1]; exact tk_c H m1) (pk_lt (tk_K xtk n (m + 1)) 7 (fun k => dflt (Or.inl k)) (fun k => pk_lt 9 (tk_K xtk n (m + 1)) (fun k' => dflt (Or.inr k')) (fun k' => pk_eq (tk_K xtk n (m + 1)) 7 (fun k7 => ?_) (fun k7 => pk_eq (tk_K xtk n (m + 1)) 8 (fun k8 => hlet (Or.inl k8)) (fun k8 => pk_eq (tk_K xtk n (m + 1)) 9 (fun k9 => hlet (Or.inr k9)) (fun k9 => trivial))))))⟩
  obtain ⟨c, c4, lc, hN, hP, hc1⟩ := sc_N k1 (by omega) (by omega) hS
  have P := hP k7
  have g := gr_bind hI k1 (by omega) (by omega) hS
  have en : ∀ j, sc_nm (tk_K xtk n) (sk_f (tk_K xtk n) n) m j = m + 3 + j := fun j => if_pos k7
  have ea : sk_f (tk_K xtk n) n (m + 2) = m + 2 + 2 + c := gr_Pa g.1 P
  have hb : sk_f (tk_K xtk n) n (m + 2) < n := by have := g.2.2.1.1; have := g.2.2.2.1; omega
  refine xs_lam H A P k7 g.1 hb (fun sc' f1 f2 => hp _ ⟨fun z => by omega, fun _ _ c' lc' => ?_⟩ (fun q hq hq1 => ?_))
  · have ec := ls_C_u lc' lc
    subst ec
    have sm : upd sc' (sk_f (tk_K xtk n) n (m + 2)) (sc_ls (tk_K xtk n) (sk_f (tk_K xtk n) n) xsc m c') m = xsc m := by
      rw [pk_un (by omega)]; exact f2 m (fun j hj => by omega)
    have el : ∀ j, sc_ls (tk_K xtk n) (sk_f (tk_K xtk n) n) (upd sc' (sk_f (tk_K xtk n) n (m + 2)) (sc_ls (tk_K xtk n) (sk_f (tk_K xtk n) n) xsc m c')) m j = sc_ls (tk_K xtk n) (sk_f (tk_K xtk n) n) xsc m j := fun j => by
      cases j with
      | zero => exact sm
      | succ j => rfl
    refine ⟨fun j hj => ?_, ?_, fun z => absurd k7 z⟩
    · rw [el, en, pk_un (by omega)]; exact f1 j hj
    · rw [el]; exact pk_us
  · rw [pk_un (fun e => hq (Or.inl ⟨k1, Or.inr (Or.inr (Or.inl ⟨by omega, by omega, e⟩))⟩))]
    exact f2 q (fun j hj e => hq (Or.inr (Or.inr ((hN q).mpr ⟨j, hj, by rw [en]; exact e⟩))))
theorem xs_findL (H : tk_ok xtk n) {i : Nat} (hi : i < n) {post : Int32 → SX → Prop} :
    ∀ (l : List Nat) (s : Int32) (x : Nat), sc_H n xsc l s → x + l.length ≤ i →
      (∀ h, sc_F xtv (xtv i) l h → post 1 (xdl, xtn, xpp, xvc, xcc, xfc, xoc, xag, xan, xex, xen, xfl, xac, xst, xsp, xmd, xrt, xcu, xtk, xtv, xaf, xro, xsc, upd xho i (nI (x + h)), xvk, xvf, xvs, xcv, xco, xff, xfp, xfe, xfb, xop)) → ((∀ m, m ∈ l → xtv m ≠ xtv i) → ∀ ho', post 0 (xdl, xtn, xpp, xvc, xcc, xfc, xoc, xag, xan, xex, xen, xfl, xac, xst, xsp, xmd, xrt, xcu, xtk, xtv, xaf, xro, xsc, ho', xvk, xvf, xvs, xcv, xco, xff, xfp, xfe, xfb, xop)) →
      wX_findBinding_9 post (nI i) xdl xtn xpp xvc xcc xfc xoc xag xan xex xen xfl xac xst xsp xmd xrt xcu xtk xtv xaf xro xsc xho xvk xvf xvs xcv xco xff xfp xfe xfb xop (l.length + 1) s (nI x) := by
  have H1 := H.1
  have hci : (nI i).toNatClampNeg = i := nI_clamp (by omega)
  intro l
  induction l with
  | nil =>
    intro s x hH hx h1 h0
    have x64 : x < 64 := by simp at hx; omega
    refine pk_le 64 x (fun z => by omega) (fun _ => br_t hH ⟨tk_in H hi, fun ho' _ => br_t hH (h0 (fun m hm => absurd hm List.not_mem_nil) ho')⟩)
  | cons m l ih =>
    intro s x hH hx h1 h0
    obtain ⟨e, hm, hH⟩ := hH
    simp only [List.length_cons] at hx ⊢
    have hcm : s.toNatClampNeg = m := by rw [e]; exact nI_clamp (by omega)
    have ne : ¬ s = -1 := by rw [e]; exact ni_nm1 (by omega)
    have im : vp_in s 64 := by rw [e]; exact tk_in H hm
    refine pk_le 64 x (fun z => by omega) (fun _ => br_f ne ⟨im, tk_in H hi, ?_⟩)
    rw [hcm, hci]
    by_cases ev : xtv m = xtv i
    · refine br_t ev ⟨tk_in H hi, fun ho' eh => br_f ne ?_⟩
      rw [eh, hci]
      exact h1 0 (Or.inl ⟨ev, rfl⟩)
    · refine br_f ev ⟨im, nm_e (nm_r (nI_1 x) (ih (xsc m) (x + 1) hH (by omega) (fun h hh => ?_) (fun hh => h0 (fun q hq => ?_))))⟩
      · have := h1 (h + 1) (Or.inr ⟨ev, h, rfl, hh⟩)
        rw [show x + (h + 1) = x + 1 + h from by omega] at this
        exact this
      · rcases List.mem_cons.mp hq with z | z
        · rw [z]; exact ev
        · exact hh q z
end
