section
variable {xdl xtn xpp xvc xcc xfc xoc xag xan xex xen xfl xac xst xsp xmd xrt xcu : Int32} {xtk xtv xaf xro xsc xho xvk xvf xvs xcv xco xff xfp xfe xfb xop : Nat → Int32} {n : Nat}
/-! the component's scopes -/
theorem xs_itL (H : tk_ok xtk n) (A : xb_A (tk_K xtk n) n xaf) {m s c : Nat} (hms : m < s) (lc : ls_C (tk_K xtk n) (sk_f (tk_K xtk n) n) s c) {post : SX → Prop}
    (hp : ∀ sc', (∀ q, ls_M (tk_K xtk n) (sk_f (tk_K xtk n) n) s q → sc' q = xsc m) → (∀ q, ¬ ls_M (tk_K xtk n) (sk_f (tk_K xtk n) n) s q → sc' q = xsc q) → post (xdl, xtn, xpp, xvc, xcc, xfc, xoc, xag, xan, xex, xen, xfl, xac, xst, xsp, xmd, xrt, xcu, xtk, xtv, xaf, xro, sc', xho, xvk, xvf, xvs, xcv, xco, xff, xfp, xfe, xfb, xop)) :
    ∀ d x (sc' : Nat → Int32), x + d = c → (∀ q, (∃ y, y < x ∧ q = it_f (sk_f (tk_K xtk n) n) y s) → sc' q = xsc m) → (∀ q, ¬ (∃ y, y < x ∧ q = it_f (sk_f (tk_K xtk n) n) y s) → sc' q = xsc q) →
      wX_scopeItems_6 post (nI m) xdl xtn xpp xvc xcc xfc xoc xag xan xex xen xfl xac xst xsp xmd xrt xcu (d + 1) (nI (it_f (sk_f (tk_K xtk n) n) x s)) (nI x) xtk xtv xaf xro sc' xho xvk xvf xvs xcv xco xff xfp xfe xfb xop := by
  have H1 := H.1
  have bd := ls_bd (K := (tk_K xtk n)) (n := n) (fun i => tk_0) lc
  have b2 := bd.2
  intro d
  induction d with
  | zero =>
    intro x r' e r1 r2
    have ec : x = c := by omega
    subst ec
    have hx := (bd.1 x (Nat.le_refl _)).1
    exact pk_le 64 x (fun z => by omega) (fun _ => ⟨tk_in H hx, tk_b H hx 2 (fun _ => hp r' (fun q hq => r1 q ((ls_CM lc).mp hq)) (fun q hq => r2 q (fun z => hq ((ls_CM lc).mpr z)))) (fun z => absurd lc.2 z)⟩)
  | succ d ih =>
    intro x r' e r1 r2
    have hx := (bd.1 x (by omega)).1
    have k := lc.1 x (by omega)
    have hc : (nI (it_f (sk_f (tk_K xtk n) n) x s)).toNatClampNeg = it_f (sk_f (tk_K xtk n) n) x s := nI_clamp (by omega)
    have hcm : (nI m).toNatClampNeg = m := nI_clamp (by omega)
    refine pk_le 64 x (fun z => by omega) (fun _ => ⟨tk_in H hx, tk_b H hx 2 (fun z => absurd z k) (fun _ => ⟨tk_in H (by omega), tk_in H hx, fun r5 e5 => ⟨tk_in H hx, nm_r ?_ (nm_r (nI_1 x) (ih (x + 1) r5 (by omega) ?_ ?_))⟩⟩)⟩)
    · rw [hc, (A _ hx k).2, it_s]
    · rintro q ⟨y, hy, eq⟩
      rw [e5, hc, hcm]
      by_cases z : q = it_f (sk_f (tk_K xtk n) n) x s
      · rw [z, pk_us]
        refine r2 m (fun ⟨y, hy, em⟩ => ?_)
        have := (bd.1 y (by omega)).2
        omega
      · rw [pk_un z]
        refine r1 q ⟨y, ?_, eq⟩
        by_cases y2 : y = x
        · subst y2; exact absurd eq z
        · omega
    · intro q hq
      rw [e5, hc, pk_un (fun z => hq ⟨x, by omega, z⟩)]
      exact r2 q (fun ⟨y, hy, eq⟩ => hq ⟨y, by omega, eq⟩)
theorem xs_items (H : tk_ok xtk n) (A : xb_A (tk_K xtk n) n xaf) {m c : Nat} (lc : ls_C (tk_K xtk n) (sk_f (tk_K xtk n) n) (m + 1) c) {post : SX → Prop}
    (hp : ∀ sc', (∀ q, ls_M (tk_K xtk n) (sk_f (tk_K xtk n) n) (m + 1) q → sc' q = xsc m) → (∀ q, ¬ ls_M (tk_K xtk n) (sk_f (tk_K xtk n) n) (m + 1) q → sc' q = xsc q) → post (xdl, xtn, xpp, xvc, xcc, xfc, xoc, xag, xan, xex, xen, xfl, xac, xst, xsp, xmd, xrt, xcu, xtk, xtv, xaf, xro, sc', xho, xvk, xvf, xvs, xcv, xco, xff, xfp, xfe, xfb, xop)) : wpX_scopeItems post (xdl, xtn, xpp, xvc, xcc, xfc, xoc, xag, xan, xex, xen, xfl, xac, xst, xsp, xmd, xrt, xcu, xtk, xtv, xaf, xro, xsc, xho, xvk, xvf, xvs, xcv, xco, xff, xfp, xfe, xfb, xop) (nI m) :=
  nm_r (nI_1 m) ⟨c + 1, xs_itL H A (by omega) lc hp c 0 xsc (by omega) (fun q ⟨y, hy, _⟩ => by omega) (fun q _ => rfl)⟩
theorem xs_body (H : tk_ok xtk n) (A : xb_A (tk_K xtk n) n xaf) {m : Nat} (h2 : m + 2 < n) (k2 : tk_K xtk n (m + 2) ≠ 2) {post : Int32 → Prop} (hp : post (nI (sk_f (tk_K xtk n) n (m + 2)))) : wpX_body post (xdl, xtn, xpp, xvc, xcc, xfc, xoc, xag, xan, xex, xen, xfl, xac, xst, xsp, xmd, xrt, xcu, xtk, xtv, xaf, xro, xsc, xho, xvk, xvf, xvs, xcv, xco, xff, xfp, xfe, xfb, xop) (nI m) := by
  have H1 := H.1
  refine ⟨by rw [ni_2]; exact tk_in H h2, ?_⟩
  rw [ni_2, nI_clamp (by omega), (A _ h2 k2).2]
  exact hp
theorem xs_lamL (H : tk_ok xtk n) (A : xb_A (tk_K xtk n) n xaf) {m c : Nat} (P : gr_P (tk_K xtk n) xtv (m + 2) c) (k2 : tk_K xtk n (m + 2) = 1) (hb : sk_f (tk_K xtk n) n (m + 2) < n) {post : SX → Prop}
    (hp : ∀ sc', (∀ j, j < c → sc' (m + 3 + j) = sc_ls (tk_K xtk n) (sk_f (tk_K xtk n) n) xsc m j) → (∀ q, (∀ j, j < c → q ≠ m + 3 + j) → sc' q = xsc q) → post (xdl, xtn, xpp, xvc, xcc, xfc, xoc, xag, xan, xex, xen, xfl, xac, xst, xsp, xmd, xrt, xcu, xtk, xtv, xaf, xro, upd sc' (sk_f (tk_K xtk n) n (m + 2)) (sc_ls (tk_K xtk n) (sk_f (tk_K xtk n) n) xsc m c), xho, xvk, xvf, xvs, xcv, xco, xff, xfp, xfe, xfb, xop)) (k7 : tk_K xtk n (m + 1) = 7) :
    ∀ d x (sc' : Nat → Int32), x + d = c → (∀ j, j < x → sc' (m + 3 + j) = sc_ls (tk_K xtk n) (sk_f (tk_K xtk n) n) xsc m j) → (∀ q, (∀ j, j < x → q ≠ m + 3 + j) → sc' q = xsc q) →
      wX_scopeLambda_14 post (nI m) xdl xtn xpp xvc xcc xfc xoc xag xan xex xen xfl xac xst xsp xmd xrt xcu (d + 1) (sc_ls (tk_K xtk n) (sk_f (tk_K xtk n) n) xsc m x) (nI (m + 3 + x)) (nI x) xtk xtv xaf xro sc' xho xvk xvf xvs xcv xco xff xfp xfe xfb xop := by
  have H1 := H.1
  have c4 := P.1
  have lc : ls_C (tk_K xtk n) (sk_f (tk_K xtk n) n) (m + 2 + 1) c := gr_PC (n := n) P
  have bd := ls_bd (K := (tk_K xtk n)) (n := n) (fun i => tk_0) lc
  have m2 : m + 2 < n := tk_lt (tk := xtk) (by omega)
  have fin : ∀ sc', (∀ j, j < c → sc' (m + 3 + j) = sc_ls (tk_K xtk n) (sk_f (tk_K xtk n) n) xsc m j) → (∀ q, (∀ j, j < c → q ≠ m + 3 + j) → sc' q = xsc q) → wX_scopeLambda_48 post (nI m) (sc_ls (tk_K xtk n) (sk_f (tk_K xtk n) n) xsc m c) xdl xtn xpp xvc xcc xfc xoc xag xan xex xen xfl xac xst xsp xmd xrt xcu xtk xtv xaf xro sc' xho xvk xvf xvs xcv xco xff xfp xfe xfb xop := by
    intro sc' r1 r2
    refine xs_body (xsc := sc') H A m2 (by omega) ⟨tk_in H hb, fun s4 e4 => ?_⟩
    rw [nI_clamp (by omega)] at e4
    rw [e4]; exact hp sc' r1 r2
  intro d
  induction d with
  | zero =>
    intro x sc' e r1 r2
    have ec : x = c := by omega
    subst ec
    have hx : m + 3 + x < n := by have := bd.2; omega
    exact pk_le 4 x (fun _ => fin sc' r1 r2) (fun _ => ⟨tk_in H hx, tk_b H hx 2 (fun _ => fin sc' r1 r2) (fun z => absurd P.2.2.1 z)⟩)
  | succ d ih =>
    intro x sc' e r1 r2
    have hx : m + 3 + x < n := by have := bd.2; omega
    have k4 : tk_K xtk n (m + 3 + x) = 4 := P.2.1 x (by omega)
    have hc : (nI (m + 3 + x)).toNatClampNeg = m + 3 + x := nI_clamp (by omega)
    have en : nI (m + 3 + x) = sc_ls (tk_K xtk n) (sk_f (tk_K xtk n) n) xsc m (x + 1) := congrArg nI (show m + 3 + x = sc_nm (tk_K xtk n) (sk_f (tk_K xtk n) n) m x from (if_pos k7).symm)
    refine pk_le 4 x (fun z => by omega) (fun _ => ⟨tk_in H hx, tk_b H hx 2 (fun z => by omega) (fun _ => ⟨tk_in H hx, fun s5 e5 => nm_r (nI_1 (m + 3 + x)) (nm_r (nI_1 x) ?_)⟩)⟩)
    rw [hc] at e5
    have := ih (x + 1) s5 (by omega) (fun j hj => ?_) (fun q hq => ?_)
    · rw [← en] at this; exact this
    · rw [e5]
      by_cases z : j = x
      · rw [z]; exact pk_us
      · rw [pk_un (by omega)]; exact r1 j (by omega)
    · rw [e5, pk_un (hq x (by omega))]
      exact r2 q (fun j hj => hq j (by omega))
theorem xs_lam (H : tk_ok xtk n) (A : xb_A (tk_K xtk n) n xaf) {m c : Nat} (P : gr_P (tk_K xtk n) xtv (m + 2) c) (k7 : tk_K xtk n (m + 1) = 7) (k2 : tk_K xtk n (m + 2) = 1) (hb : sk_f (tk_K xtk n) n (m + 2) < n) {post : SX → Prop}
    (hp : ∀ sc', (∀ j, j < c → sc' (m + 3 + j) = sc_ls (tk_K xtk n) (sk_f (tk_K xtk n) n) xsc m j) → (∀ q, (∀ j, j < c → q ≠ m + 3 + j) → sc' q = xsc q) → post (xdl, xtn, xpp, xvc, xcc, xfc, xoc, xag, xan, xex, xen, xfl, xac, xst, xsp, xmd, xrt, xcu, xtk, xtv, xaf, xro, upd sc' (sk_f (tk_K xtk n) n (m + 2)) (sc_ls (tk_K xtk n) (sk_f (tk_K xtk n) n) xsc m c), xho, xvk, xvf, xvs, xcv, xco, xff, xfp, xfe, xfb, xop)) : wpX_scopeLambda post (xdl, xtn, xpp, xvc, xcc, xfc, xoc, xag, xan, xex, xen, xfl, xac, xst, xsp, xmd, xrt, xcu, xtk, xtv, xaf, xro, xsc, xho, xvk, xvf, xvs, xcv, xco, xff, xfp, xfe, xfb, xop) (nI m) := by
  have H1 := H.1
  have m2 : m + 2 < n := tk_lt (tk := xtk) (by omega)
  refine ⟨tk_in H (by omega), nm_r (show xsc (nI m).toNatClampNeg = sc_ls (tk_K xtk n) (sk_f (tk_K xtk n) n) xsc m 0 from by rw [nI_clamp (by omega)]; rfl) (nm_r (ni_3 m) ⟨c + 1, ?_⟩)⟩
  exact xs_lamL H A P k2 hb hp k7 c 0 xsc (by omega) (fun j hj => by omega) (fun q _ => rfl)
/-- the places of a LET's binds -/
theorem xs_bp {K : Nat → Nat} {V : Nat → Int32} {n m c : Nat} (hn : ∀ i, n ≤ i → K i = 0) (hB : ∀ i, i < n → K i ≠ 2 → dp_I K i (sk_f K n i)) (hm : m < n) (k1 : K m = 1) (k8 : K (m + 1) = 8 ∨ K (m + 1) = 9) (hS : gr_SH K V (sk_f K n) m) (lc : ls_C K (sk_f K n) (m + 3) c) :
    (∀ j, j < c → it_f (sk_f K n) j (m + 3) + 4 ≤ it_f (sk_f K n) (j + 1) (m + 3) ∧ K (it_f (sk_f K n) j (m + 3)) = 1) ∧ it_f (sk_f K n) c (m + 3) < n ∧ (∀ j, j ≤ c → m + 3 ≤ it_f (sk_f K n) j (m + 3)) ∧ it_f (sk_f K n) c (m + 3) + 1 = sk_f K n (m + 2) ∧ sk_f K n (m + 2) < n := by
  have hI := hB m hm (by omega)
  have g := gr_bind hI k1 (by omega) (by omega) hS
  have bd := ls_bd hn lc
  obtain ⟨c', lc', q1, _, _⟩ := ls_in (n := n) g.2.1 g.1
  have ec : c' = c := ls_C_u lc' lc
  subst ec
  have hl := dp_le hn hI hm
  have g4 := g.2.2.1.1
  have g5 := g.2.2.2.1
  refine ⟨fun j hj => ?_, (bd.1 c' (Nat.le_refl _)).1, fun j hj => ?_, q1, by omega⟩
  · obtain ⟨m1, m2, m3, m4, m5, m6, m7, m8, m9⟩ := gr_bnd hI k1 k8 hS ((ls_CM lc).mpr ⟨j, hj, rfl⟩)
    have := m5.1
    rw [it_s]
    exact ⟨by omega, m2⟩
  · have := (bd.1 j hj).2; omega
theorem xs_lamsL (H : tk_ok xtk n) (A : xb_A (tk_K xtk n) n xaf) {m c : Nat} {v : Int32} (hc4 : c ≤ 4) (lc : ls_C (tk_K xtk n) (sk_f (tk_K xtk n) n) (m + 3) c) (bp : ∀ j, j < c → it_f (sk_f (tk_K xtk n) n) j (m + 3) + 4 ≤ it_f (sk_f (tk_K xtk n) n) (j + 1) (m + 3)) {post : SX → Prop}
    (hp : ∀ sc', (∀ j, j < c → sc' (it_f (sk_f (tk_K xtk n) n) j (m + 3) + 2) = v) → (∀ q, (∀ j, j < c → q ≠ it_f (sk_f (tk_K xtk n) n) j (m + 3) + 2) → sc' q = xsc q) → post (xdl, xtn, xpp, xvc, xcc, xfc, xoc, xag, xan, xex, xen, xfl, xac, xst, xsp, xmd, xrt, xcu, xtk, xtv, xaf, xro, sc', xho, xvk, xvf, xvs, xcv, xco, xff, xfp, xfe, xfb, xop)) :
    ∀ d x (sc' : Nat → Int32), x + d = c → (∀ j, j < x → sc' (it_f (sk_f (tk_K xtk n) n) j (m + 3) + 2) = v) → (∀ q, (∀ j, j < x → q ≠ it_f (sk_f (tk_K xtk n) n) j (m + 3) + 2) → sc' q = xsc q) →
      wX_scopeLams_7 post v xdl xtn xpp xvc xcc xfc xoc xag xan xex xen xfl xac xst xsp xmd xrt xcu (d + 1) (nI (it_f (sk_f (tk_K xtk n) n) x (m + 3))) (nI x) xtk xtv xaf xro sc' xho xvk xvf xvs xcv xco xff xfp xfe xfb xop := by
  have H1 := H.1
  have bd := ls_bd (K := (tk_K xtk n)) (n := n) (fun i => tk_0) lc
  have b2 := bd.2
  intro d
  induction d with
  | zero =>
    intro x r' e r1 r2
    have ec : x = c := by omega
    subst ec
    have hx := (bd.1 x (Nat.le_refl _)).1
    exact pk_le 4 x (fun z => hp r' r1 r2) (fun _ => ⟨tk_in H hx, tk_b H hx 2 (fun _ => hp r' r1 r2) (fun z => absurd lc.2 z)⟩)
  | succ d ih =>
    intro x r' e r1 r2
    have hx := (bd.1 x (by omega)).1
    have k := lc.1 x (by omega)
    have hx2 := (bd.1 (x + 1) (by omega)).1
    have ap := bp x (by omega)
    have hc : (nI (it_f (sk_f (tk_K xtk n) n) x (m + 3))).toNatClampNeg = it_f (sk_f (tk_K xtk n) n) x (m + 3) := nI_clamp (by omega)
    refine pk_le 4 x (fun z => by omega) (fun _ => ⟨tk_in H hx, tk_b H hx 2 (fun z => absurd z k) (fun _ => ?_)⟩)
    rw [ni_2]
    refine ⟨tk_in H (by omega), fun r5 e5 => ⟨tk_in H hx, nm_r ?_ (nm_r (nI_1 x) (ih (x + 1) r5 (by omega) (fun j hj => ?_) (fun q hq => ?_)))⟩⟩
    · rw [hc, (A _ hx k).2, it_s]
    · rw [e5, nI_clamp (by omega)]
      by_cases z : j = x
      · rw [z]; exact pk_us
      · have g := it_gt (K := (tk_K xtk n)) (n := n) (fun i => tk_0) (m + 3) j (x - j)
        rw [show j + (x - j) = x from by omega] at g
        rw [pk_un (by omega)]; exact r1 j (by omega)
    · rw [e5, nI_clamp (by omega), pk_un (hq x (by omega))]
      exact r2 q (fun j hj => hq j (by omega))
end
