/-! the component's parens, item by item -/
def xo_O (K : Nat → Nat) (af : Nat → Int32) (m : Nat) : List Nat → Int32 → Int → Prop
  | [], o, d => o = -1 ∧ d = 0
  | a :: l, o, d => o = nI a ∧ a < m ∧ K a = 1 ∧ dp_d K a = d - 1 ∧ (∀ x, a < x → x ≤ m → dp_d K a < dp_d K x) ∧ xo_O K af m l (af a) (d - 1)
section
variable {K : Nat → Nat}
theorem xo_len {af : Nat → Int32} {m : Nat} : ∀ {l : List Nat} {o : Int32} {d : Int}, xo_O K af m l o d → d = l.length
  | [], _, _, h => h.2
  | a :: l, _, _, h => by
    have := xo_len h.2.2.2.2.2
    simp only [List.length_cons]; omega
theorem xo_mem {af : Nat → Int32} {m b : Nat} : ∀ {l : List Nat} {o : Int32} {d : Int}, xo_O K af m l o d → b ∈ l → b < m ∧ dp_d K b < d
  | [], _, _, _, hb => absurd hb List.not_mem_nil
  | a :: l, _, _, h, hb => by
    rcases List.mem_cons.mp hb with e | e
    · subst e; exact ⟨h.2.1, by have := h.2.2.2.1; omega⟩
    · have := xo_mem h.2.2.2.2.2 e; exact ⟨this.1, by omega⟩
theorem xo_up {af af' : Nat → Int32} {m : Nat} : ∀ {l : List Nat} {o : Int32} {d : Int}, xo_O K af m l o d → (∀ b, b ∈ l → af' b = af b) → d ≤ dp_d K (m + 1) → xo_O K af' (m + 1) l o d
  | [], _, _, h, _, _ => h
  | a :: l, _, _, h, ha, hd => by
    obtain ⟨h1, h2, h3, h4, h5, h6⟩ := h
    refine ⟨h1, by omega, h3, h4, fun x x1 x2 => ?_, ?_⟩
    · by_cases z : x = m + 1
      · subst z; omega
      · exact h5 x x1 (by omega)
    · rw [ha a List.mem_cons_self]
      exact xo_up h6 (fun b hb => ha b (List.mem_cons_of_mem _ hb)) (by omega)
end
section
variable {xdl xtn xpp xvc xcc xfc xoc xag xan xex xen xfl xac xst xsp xmd xrt xcu : Int32} {xtk xtv xaf xro xsc xho xvk xvf xvs xcv xco xff xfp xfe xfb xop : Nat → Int32} {n : Nat}
theorem xo_loop (H : tk_ok xtk n) {post : Int32 → SX → Prop}
    (h1 : ∀ af', xb_A (tk_K xtk n) n af' → (0 < n → tk_K xtk n 0 ≠ 2) → post 1 (xdl, nI n, xpp, xvc, xcc, xfc, xoc, xag, xan, xex, xen, xfl, xac, xst, xsp, xmd, xrt, xcu, xtk, xtv, af', xro, xsc, xho, xvk, xvf, xvs, xcv, xco, xff, xfp, xfe, xfb, xop))
    (h0 : ∀ af', ¬ dp_I (tk_K xtk n) 0 n → post 0 (xdl, nI n, xpp, xvc, xcc, xfc, xoc, xag, xan, xex, xen, xfl, xac, xst, xsp, xmd, xrt, xcu, xtk, xtv, af', xro, xsc, xho, xvk, xvf, xvs, xcv, xco, xff, xfp, xfe, xfb, xop)) :
    ∀ (d m : Nat) (l : List Nat) (o : Int32) (af : Nat → Int32), m + d = n → xo_O (tk_K xtk n) af m l o (dp_d (tk_K xtk n) m) → (∀ i, i < m → tk_K xtk n i ≠ 2 → i ∈ l ∨ ∃ j, dp_I (tk_K xtk n) i j ∧ af i = nI j) → (0 < m → tk_K xtk n 0 ≠ 2) →
      wX_parensMatch_4 post xdl (nI n) xpp xvc xcc xfc xoc xag xan xex xen xfl xac xst xsp xmd xrt xcu (d + 1) o (nI m) xtk xtv af xro xsc xho xvk xvf xvs xcv xco xff xfp xfe xfb xop := by
  have H1 := H.1
  intro d
  induction d with
  | zero =>
    intro m l o af e hO hD hZ
    refine pk_le n m (fun _ => ?_) (fun z => by omega)
    cases l with
    | nil =>
      refine br_t hO.1 (h1 af (fun i hi hk => ?_) (fun z => hZ (by omega)))
      rcases hD i (by omega) hk with z | ⟨j, z, z2⟩
      · exact absurd z List.not_mem_nil
      · rw [sk_I z]; exact ⟨z, z2⟩
    | cons a l =>
      have la := hO.2.1
      refine br_f (by rw [hO.1]; exact ni_nm1 (by omega)) (h0 af (fun z => ?_))
      have e1 := xo_len hO
      have e2 := z.2.1
      rw [show n = m from by omega] at e2
      have e3 : dp_d (tk_K xtk m) 0 = 0 := rfl
      simp only [List.length_cons] at e1
      rw [show n = m from by omega] at e1
      omega
  | succ d ih =>
    intro m l o af e hO hD hZ
    have hm : m < n := by omega
    have hc : (nI m).toNatClampNeg = m := nI_clamp (by omega)
    refine pk_le n m (fun z => by omega) (fun _ => ⟨tk_in H hm, fun af4 e4 => ⟨tk_in H hm, tk_b H hm 1 (fun k => ?_) (fun k => ?_)⟩⟩)
    · refine ⟨tk_in H hm, fun a17 e17 => nm_r (nI_1 m) ?_⟩
      rw [hc] at e4 e17
      have f1 : a17 m = o := by rw [e17]; exact pk_us
      have f2 : ∀ j, j ≠ m → a17 j = af j := fun j hj => by rw [e17, pk_un hj, e4, pk_un hj]
      have d1 := dp_1 k
      refine ih (m + 1) (m :: l) (nI m) a17 (by omega) ⟨rfl, by omega, k, by omega, fun x x1 x2 => ?_, ?_⟩ (fun i hi hk => ?_) (fun z => ?_)
      · have : x = m + 1 := by omega
        subst this; omega
      · rw [f1, d1, show dp_d (tk_K xtk n) m + 1 - 1 = dp_d (tk_K xtk n) m from by omega]
        exact xo_up hO (fun b hb => f2 b (by have := (xo_mem hO hb).1; omega)) (by omega)
      · by_cases z : i = m
        · subst z; exact Or.inl List.mem_cons_self
        · rcases hD i (by omega) hk with y | y
          · exact Or.inl (List.mem_cons_of_mem _ y)
          · rw [f2 i z]; exact Or.inr y
      · by_cases y : m = 0
        · subst y; omega
        · exact hZ (by omega)
    · refine ⟨tk_in H hm, tk_b H hm 2 (fun k2 => ?_) (fun k2 => ?_)⟩
      · rw [hc] at e4
        have d2 := dp_2 k2
        cases l with
        | nil =>
          have hz := hO.2
          refine br_t hO.1 (h0 af4 (fun z => ?_))
          have e3 : dp_d (tk_K xtk n) 0 = 0 := rfl
          by_cases y : m + 1 = n
          · have := z.2.1; rw [← y] at this
            rw [← y] at e3 d2 hz; omega
          · have := z.2.2 (m + 1) (by omega) (by omega); omega
        | cons a l =>
          obtain ⟨o1, o2, o3, o4, o5, o6⟩ := hO
          have ca : o.toNatClampNeg = a := by rw [o1]; exact nI_clamp (by omega)
          have ia : vp_in o 64 := by rw [o1]; exact tk_in H (by omega)
          refine br_f (by rw [o1]; exact ni_nm1 (by omega)) ⟨ia, fun x3 e3 => ⟨ia, fun a14 e14 => nm_r (nI_1 m) ?_⟩⟩
          rw [ca] at e3 e14
          have f0 : x3 = af a := by rw [e3, e4, pk_un (by omega)]
          have f1 : a14 a = nI (m + 1) := by rw [e14, pk_us, nI_1]
          have f2 : ∀ j, j ≠ m → j ≠ a → a14 j = af j := fun j hj hj2 => by rw [e14, pk_un hj2, e4, pk_un hj]
          have nm : ∀ b, b ∈ l → b ≠ a ∧ b < m := fun b hb => by
            have := xo_mem o6 hb
            refine ⟨fun z => ?_, this.1⟩
            subst z; omega
          refine ih (m + 1) l x3 a14 (by omega) ?_ (fun i hi hk => ?_) (fun _ => hZ (by omega))
          · rw [f0, d2]
            exact xo_up o6 (fun b hb => f2 b (by have := (nm b hb).2; omega) (nm b hb).1) (by omega)
          · by_cases z : i = m
            · subst z; exact absurd k2 hk
            · by_cases z2 : i = a
              · subst z2
                refine Or.inr ⟨m + 1, ⟨by omega, by omega, fun x x1 x2 => o5 x x1 (by omega)⟩, f1⟩
              · rw [f2 i z z2]
                rcases hD i (by omega) hk with y | y
                · exact Or.inl ((List.mem_cons.mp y).resolve_left z2)
                · exact Or.inr y
      · rw [hc] at e4
        have f1 : af4 m = nI (m + 1) := by rw [e4, pk_us, nI_1]
        have f2 : ∀ j, j ≠ m → af4 j = af j := fun j hj => by rw [e4, pk_un hj]
        have d0 := dp_0 k k2
        refine nm_r (nI_1 m) (ih (m + 1) l o af4 (by omega) ?_ (fun i hi hk => ?_) (fun _ => ?_))
        · rw [d0]
          exact xo_up hO (fun b hb => f2 b (by have := (xo_mem hO hb).1; omega)) (by omega)
        · by_cases z : i = m
          · subst z; exact Or.inr ⟨i + 1, dp_I_a k k2, f1⟩
          · rw [f2 i z]; exact hD i (by omega) hk
        · by_cases y : m = 0
          · subst y; exact k2
          · exact hZ (by omega)
theorem xo_parens (H : tk_ok xtk n) {post : Int32 → SX → Prop}
    (h1 : ∀ af', xb_A (tk_K xtk n) n af' → (0 < n → tk_K xtk n 0 ≠ 2) → post 1 (xdl, nI n, xpp, xvc, xcc, xfc, xoc, xag, xan, xex, xen, xfl, xac, xst, xsp, xmd, xrt, xcu, xtk, xtv, af', xro, xsc, xho, xvk, xvf, xvs, xcv, xco, xff, xfp, xfe, xfb, xop))
    (h0 : ∀ af', ¬ dp_I (tk_K xtk n) 0 n → post 0 (xdl, nI n, xpp, xvc, xcc, xfc, xoc, xag, xan, xex, xen, xfl, xac, xst, xsp, xmd, xrt, xcu, xtk, xtv, af', xro, xsc, xho, xvk, xvf, xvs, xcv, xco, xff, xfp, xfe, xfb, xop)) : wpX_parensMatch post (xdl, nI n, xpp, xvc, xcc, xfc, xoc, xag, xan, xex, xen, xfl, xac, xst, xsp, xmd, xrt, xcu, xtk, xtv, xaf, xro, xsc, xho, xvk, xvf, xvs, xcv, xco, xff, xfp, xfe, xfb, xop) :=
  ⟨n + 1, xo_loop H h1 h0 n 0 [] (-1) xaf (by omega) ⟨rfl, rfl⟩ (fun i hi => by omega) (fun z => by omega)⟩
theorem xi_loop (H : tk_ok xtk n) (A : xb_A (tk_K xtk n) n xaf) {s c : Nat} (lc : ls_C (tk_K xtk n) (sk_f (tk_K xtk n) n) s c) {post : Int32 → Prop} (hp : post (nI c)) :
    ∀ d x, x + d = c → wX_itemCount_6 post xdl xtn xpp xvc xcc xfc xoc xag xan xex xen xfl xac xst xsp xmd xrt xcu xtk xtv xaf xro xsc xho xvk xvf xvs xcv xco xff xfp xfe xfb xop (d + 1) (nI (it_f (sk_f (tk_K xtk n) n) x s)) (nI x) := by
  have H1 := H.1
  have bd := ls_bd (K := (tk_K xtk n)) (n := n) (fun i => tk_0) lc
  have b2 := bd.2
  intro d
  induction d with
  | zero =>
    intro x e
    have ec : x = c := by omega
    subst ec
    have hx := (bd.1 x (Nat.le_refl _)).1
    exact pk_le 64 x (fun z => by omega) (fun _ => ⟨tk_in H hx, tk_b H hx 2 (fun _ => hp) (fun z => absurd lc.2 z)⟩)
  | succ d ih =>
    intro x e
    have hx := (bd.1 x (by omega)).1
    have k := lc.1 x (by omega)
    refine pk_le 64 x (fun z => by omega) (fun _ => ⟨tk_in H hx, tk_b H hx 2 (fun z => absurd z k) (fun _ => ⟨tk_in H hx, nm_r ?_ (nm_r (nI_1 x) (ih (x + 1) (by omega)))⟩)⟩)
    rw [nI_clamp (by omega), (A _ hx k).2, it_s]
theorem xi_items (H : tk_ok xtk n) (A : xb_A (tk_K xtk n) n xaf) {i c : Nat} (lc : ls_C (tk_K xtk n) (sk_f (tk_K xtk n) n) (i + 1) c) {post : Int32 → Prop} (hp : post (nI c)) : wpX_itemCount post (xdl, xtn, xpp, xvc, xcc, xfc, xoc, xag, xan, xex, xen, xfl, xac, xst, xsp, xmd, xrt, xcu, xtk, xtv, xaf, xro, xsc, xho, xvk, xvf, xvs, xcv, xco, xff, xfp, xfe, xfb, xop) (nI i) :=
  nm_r (nI_1 i) ⟨c + 1, xi_loop H A lc hp c 0 (by omega)⟩
theorem xg_loop (H : tk_ok xtk n) (A : xb_A (tk_K xtk n) n xaf) {s c : Nat} (lc : ls_C (tk_K xtk n) (sk_f (tk_K xtk n) n) s c) {ρ : Int32} {post : SX → Prop}
    (hp : ∀ r', (∀ q, ls_M (tk_K xtk n) (sk_f (tk_K xtk n) n) s q → r' q = ρ) → (∀ q, ¬ ls_M (tk_K xtk n) (sk_f (tk_K xtk n) n) s q → r' q = xro q) → post (xdl, xtn, xpp, xvc, xcc, xfc, xoc, xag, xan, xex, xen, xfl, xac, xst, xsp, xmd, xrt, xcu, xtk, xtv, xaf, r', xsc, xho, xvk, xvf, xvs, xcv, xco, xff, xfp, xfe, xfb, xop)) :
    ∀ d x (r' : Nat → Int32), x + d = c → (∀ q, (∃ y, y < x ∧ q = it_f (sk_f (tk_K xtk n) n) y s) → r' q = ρ) → (∀ q, ¬ (∃ y, y < x ∧ q = it_f (sk_f (tk_K xtk n) n) y s) → r' q = xro q) →
      wX_giveRole_5 post ρ xdl xtn xpp xvc xcc xfc xoc xag xan xex xen xfl xac xst xsp xmd xrt xcu (d + 1) (nI (it_f (sk_f (tk_K xtk n) n) x s)) (nI x) xtk xtv xaf r' xsc xho xvk xvf xvs xcv xco xff xfp xfe xfb xop := by
  have H1 := H.1
  have bd := ls_bd (K := (tk_K xtk n)) (n := n) (fun i => tk_0) lc
  have b2 := bd.2
  intro d
  induction d with
  | zero =>
    intro x r' e r1 r2
    have ec : x = c := by omega
    subst ec
    have hx := (bd.1 x (Nat.le_refl _)).1
    exact pk_le 64 x (fun z => by omega) (fun _ => ⟨tk_in H hx, tk_b H hx 2 (fun _ => hp r' (fun q hq => r1 q ((ls_CM lc).mp hq)) (fun q hq => r2 q (fun z => hq ((ls_CM lc).mpr z)))) (fun z => absurd lc.2 z)⟩)
  | succ d ih =>
    intro x r' e r1 r2
    have hx := (bd.1 x (by omega)).1
    have k := lc.1 x (by omega)
    have hc : (nI (it_f (sk_f (tk_K xtk n) n) x s)).toNatClampNeg = it_f (sk_f (tk_K xtk n) n) x s := nI_clamp (by omega)
    refine pk_le 64 x (fun z => by omega) (fun _ => ⟨tk_in H hx, tk_b H hx 2 (fun z => absurd z k) (fun _ => ⟨tk_in H hx, fun r5 e5 => ⟨tk_in H hx, nm_r ?_ (nm_r (nI_1 x) (ih (x + 1) r5 (by omega) ?_ ?_))⟩⟩)⟩)
    · rw [hc, (A _ hx k).2, it_s]
    · rintro q ⟨y, hy, eq⟩
      rw [e5, hc]
      by_cases z : q = it_f (sk_f (tk_K xtk n) n) x s
      · rw [z]; exact pk_us
      · rw [pk_un z]
        refine r1 q ⟨y, ?_, eq⟩
        by_cases y2 : y = x
        · subst y2; exact absurd eq z
        · omega
    · intro q hq
      rw [e5, hc, pk_un (fun z => hq ⟨x, by omega, z⟩)]
      exact r2 q (fun ⟨y, hy, eq⟩ => hq ⟨y, by omega, eq⟩)
theorem xg_give (H : tk_ok xtk n) (A : xb_A (tk_K xtk n) n xaf) {s c : Nat} (lc : ls_C (tk_K xtk n) (sk_f (tk_K xtk n) n) s c) {ρ : Int32} {post : SX → Prop}
    (hp : ∀ r', (∀ q, ls_M (tk_K xtk n) (sk_f (tk_K xtk n) n) s q → r' q = ρ) → (∀ q, ¬ ls_M (tk_K xtk n) (sk_f (tk_K xtk n) n) s q → r' q = xro q) → post (xdl, xtn, xpp, xvc, xcc, xfc, xoc, xag, xan, xex, xen, xfl, xac, xst, xsp, xmd, xrt, xcu, xtk, xtv, xaf, r', xsc, xho, xvk, xvf, xvs, xcv, xco, xff, xfp, xfe, xfb, xop)) : wpX_giveRole post (xdl, xtn, xpp, xvc, xcc, xfc, xoc, xag, xan, xex, xen, xfl, xac, xst, xsp, xmd, xrt, xcu, xtk, xtv, xaf, xro, xsc, xho, xvk, xvf, xvs, xcv, xco, xff, xfp, xfe, xfb, xop) (nI s) ρ :=
  ⟨c + 1, xg_loop H A lc hp c 0 xro (by omega) (fun q ⟨y, hy, _⟩ => by omega) (fun q _ => rfl)⟩
theorem xn_loop (H : tk_ok xtk n) {L q : Nat} (hq : q < n) {post : Int32 → SX → Prop}
    (h1 : (∀ x, L < x → x < q → xro x = 3 → xtv x ≠ xtv q) → post 1 (xdl, xtn, xpp, xvc, xcc, xfc, xoc, xag, xan, xex, xen, xfl, xac, xst, xsp, xmd, xrt, xcu, xtk, xtv, xaf, upd xro q 3, xsc, xho, xvk, xvf, xvs, xcv, xco, xff, xfp, xfe, xfb, xop))
    (h0 : (∃ x, L < x ∧ x < q ∧ xro x = 3 ∧ xtv x = xtv q) → post 0 (xdl, xtn, xpp, xvc, xcc, xfc, xoc, xag, xan, xex, xen, xfl, xac, xst, xsp, xmd, xrt, xcu, xtk, xtv, xaf, xro, xsc, xho, xvk, xvf, xvs, xcv, xco, xff, xfp, xfe, xfb, xop)) :
    ∀ d m, m + d = q → L < m → (∀ x, L < x → x < m → xro x = 3 → xtv x ≠ xtv q) → wX_takeName_16 post (nI q) xdl xtn xpp xvc xcc xfc xoc xag xan xex xen xfl xac xst xsp xmd xrt xcu xtk xtv xaf xro xsc xho xvk xvf xvs xcv xco xff xfp xfe xfb xop (d + 1) (nI m) := by
  have H1 := H.1
  have hcq : (nI q).toNatClampNeg = q := nI_clamp (by omega)
  intro d
  induction d with
  | zero =>
    intro m e hL hx
    have ec : m = q := by omega
    subst ec
    refine pk_le m m (fun _ => ⟨tk_in H hq, fun r6 e6 => ?_⟩) (fun z => by omega)
    rw [e6, hcq]; exact h1 hx
  | succ d ih =>
    intro m e hL hx
    have hm : m < n := by omega
    have hc : (nI m).toNatClampNeg = m := nI_clamp (by omega)
    refine pk_le q m (fun z => by omega) (fun _ => ⟨tk_in H hm, ?_⟩)
    rw [hc, hcq]
    by_cases r3 : xro m = 3
    · refine br_t r3 ⟨tk_in H hm, tk_in H hq, ?_⟩
      by_cases ev : xtv m = xtv q
      · exact br_t ev (h0 ⟨m, hL, by omega, r3, ev⟩)
      · refine br_f ev (nm_r (nI_1 m) (ih (m + 1) (by omega) (by omega) (fun x x1 x2 x3 => ?_)))
        by_cases z : x = m
        · subst z; exact ev
        · exact hx x x1 (by omega) x3
    · refine br_f r3 (nm_r (nI_1 m) (ih (m + 1) (by omega) (by omega) (fun x x1 x2 x3 => ?_)))
      by_cases z : x = m
      · subst z; exact absurd x3 r3
      · exact hx x x1 (by omega) x3
theorem xn_take (H : tk_ok xtk n) {L q : Nat} (hL : L < q) (hq : q < n) {post : Int32 → SX → Prop}
    (h1 : tk_K xtk n q = 4 → (∀ x, L < x → x < q → xro x = 3 → xtv x ≠ xtv q) → post 1 (xdl, xtn, xpp, xvc, xcc, xfc, xoc, xag, xan, xex, xen, xfl, xac, xst, xsp, xmd, xrt, xcu, xtk, xtv, xaf, upd xro q 3, xsc, xho, xvk, xvf, xvs, xcv, xco, xff, xfp, xfe, xfb, xop))
    (h0 : (tk_K xtk n q ≠ 4 ∨ ∃ x, L < x ∧ x < q ∧ xro x = 3 ∧ xtv x = xtv q) → post 0 (xdl, xtn, xpp, xvc, xcc, xfc, xoc, xag, xan, xex, xen, xfl, xac, xst, xsp, xmd, xrt, xcu, xtk, xtv, xaf, xro, xsc, xho, xvk, xvf, xvs, xcv, xco, xff, xfp, xfe, xfb, xop)) : wpX_takeName post (xdl, xtn, xpp, xvc, xcc, xfc, xoc, xag, xan, xex, xen, xfl, xac, xst, xsp, xmd, xrt, xcu, xtk, xtv, xaf, xro, xsc, xho, xvk, xvf, xvs, xcv, xco, xff, xfp, xfe, xfb, xop) (nI L) (nI q) :=
  ⟨tk_in H hq, tk_b H hq 4 (fun k => nm_r (nI_1 L) ⟨_, xn_loop H hq (h1 k) (fun z => h0 (Or.inr z)) (q - (L + 1)) (L + 1) (by omega) (by omega) (fun x x1 x2 => by omega)⟩) (fun k => h0 (Or.inl k))⟩
end
