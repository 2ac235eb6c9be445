section
variable {K : Nat → Nat} {V : Nat → Int32} {n : Nat}
theorem rw_K {r : Nat → Int32} {par : Nat → Nat} (W : rw_W K V (sk_f K n) n n r par) {q : Nat} (hq : q < n) (h : r q ≠ 0) : (K q = 1 ∨ K q = 3 ∨ K q = 4 ∨ K q = 5) ∧ (r q = 3 → K q = 4) := by
  have one : r q = 1 → (K q = 1 ∨ K q = 3 ∨ K q = 4 ∨ K q = 5) := fun z => by
    rcases (W.2.1 q hq z).1 with w | w | w | w
    · omega
    · omega
    · omega
    · exact Or.inl w.1
  have two : r q = 2 → (K q = 1 ∨ K q = 3 ∨ K q = 4 ∨ K q = 5) := fun z => by
    rcases (W.2.2.1 q hq z).1 with w | w | w
    · omega
    · omega
    · exact Or.inl w.1
  rcases W.2.2.2.1 q hq h with z | ⟨z1, z2, z3, z4⟩
  · have := W.2.2.2.2
    rw [← z] at this
    exact ⟨one this, fun w => by rw [this] at w; exact absurd w (by decide)⟩
  · rcases z4 with ⟨a, ⟨b, _⟩ | ⟨b, _⟩ | ⟨b, c⟩⟩ | ⟨a, b, _⟩
    · exact ⟨one b, fun w => by rw [b] at w; exact absurd w (by decide)⟩
    · exact ⟨two b, fun w => by rw [b] at w; exact absurd w (by decide)⟩
    · have k4 : K q = 4 := by
        have hS := (W.2.1 (par q) z2 a).1
        obtain ⟨k1, c⟩ := c
        rcases c with ⟨k7, c⟩ | ⟨k8, b', hb, e⟩
        · obtain ⟨c', c4, lc, hN, hP, _⟩ := sc_N k1 (by omega) (by omega) hS
          have P := hP k7
          obtain ⟨j, hj, e⟩ := (ls_CM lc).mp c
          rw [e, show par q + 3 = par q + 2 + 1 from rfl, gr_Pi P (by omega)]
          exact P.2.1 j hj
        · rcases gr_FSof hS k1 with ⟨k, l⟩ | ⟨k, l, k2, c', q'⟩ | ⟨k, l, k2, c', c1, c4, lc, bb⟩ | ⟨k, l⟩ | ⟨k, c', c4, l⟩
          · omega
          · omega
          · obtain ⟨j, hj, e2⟩ := (ls_CM lc).mp hb
            rw [e, e2]; exact (bb j hj).2.2.1
          · omega
          · omega
      exact ⟨by omega, fun _ => k4⟩
    · exact ⟨two b, fun w => by rw [b] at w; exact absurd w (by decide)⟩
theorem sc_Lc {sc sF : Nat → Int32} {i : Nat} (k1 : K i = 1) (hS : gr_SH K V (sk_f K n) i) (hi : sF i = sc i) (hc : ∀ c, gr_Ch K (sk_f K n) i c → sF c = sc c) (h : sc_L K (sk_f K n) sc i) : sc_L K (sk_f K n) sF i := by
  have el : ∀ j, sc_ls K (sk_f K n) sF i j = sc_ls K (sk_f K n) sc i j := fun j => by
    cases j with
    | zero => exact hi
    | succ j => rfl
  refine ⟨fun z c h' => by rw [hc c (Or.inl h'), hi]; exact h.1 z c h', fun z7 z9 c lc => ?_⟩
  obtain ⟨a1, a2, a3⟩ := h.2 z7 z9 c lc
  obtain ⟨c', c4, lc', hN, hP, _⟩ := sc_N k1 z7 z9 hS
  have ec := ls_C_u lc' lc
  subst ec
  refine ⟨fun j hj => ?_, ?_, fun z j hj => ?_⟩
  · rw [el, hc _ (Or.inr (Or.inr ((hN _).mpr ⟨j, hj, rfl⟩)))]; exact a1 j hj
  · rw [el, hc _ (Or.inl ⟨k1, Or.inr (Or.inr (Or.inl ⟨z7, z9, rfl⟩))⟩)]; exact a2
  · rw [el, hi, hc _ (Or.inl ⟨k1, Or.inr (Or.inr (Or.inr ⟨by omega, _, (ls_CM lc').mpr ⟨j, hj, rfl⟩, rfl⟩))⟩)]; exact a3 z j hj
end
/-- a used name's place -/
def xs_P (n : Nat) (V : Nat → Int32) (r : Nat → Int32) (par : Nat → Nat) (sc ho : Nat → Int32) (i : Nat) : Prop := ∃ l h, sc_H n sc l (sc i) ∧ (∀ m, m ∈ l → r m = 3 ∧ par m < i) ∧ ho i = nI h ∧ sc_F V (V i) l h ∧ l.length ≤ i
def lt_P (K : Nat → Nat) (vk vf vs : Nat → Int32) (v e : Nat) : Prop := (K e = 2 → vk v = 2) ∧ (K e ≠ 2 → vk v = 3 ∧ vf v = nI e ∧ vs v = nI (64 + e))
def lt_L (K : Nat → Nat) (V : Nat → Int32) (a : Nat → Nat) (r vk vf vs : Nat → Int32) (m : Nat) : Prop := ∀ i, i < m → (K i = 3 → vk i = 1 ∧ vf i = V i) ∧ (K i = 5 → vk i = 2) ∧ (r i = 2 → K i = 1 → lt_P K vk vf vs i (i + 1)) ∧ (r i = 2 → lt_P K vk vf vs (64 + i) (a i))
theorem sc_Fm {V : Nat → Int32} {x : Int32} : ∀ {l : List Nat} {h : Nat}, sc_F V x l h → ∃ m, m ∈ l ∧ V m = x
  | [], _, h => False.elim h
  | m :: l, _, h => by
    rcases h with ⟨a, _⟩ | ⟨_, h', _, b⟩
    · exact ⟨m, List.mem_cons_self, a⟩
    · obtain ⟨q, hq, e⟩ := sc_Fm b
      exact ⟨q, List.mem_cons_of_mem _ hq, e⟩
section
variable {xdl xtn xpp xvc xcc xfc xoc xag xan xex xen xfl xac xst xsp xmd xrt xcu : Int32} {xtk xtv xaf xro xsc xho xvk xvf xvs xcv xco xff xfp xfe xfb xop : Nat → Int32} {n : Nat}
theorem xs_loop (H : tk_ok xtk n) (A : xb_A (tk_K xtk n) n xaf) {par : Nat → Nat} (W : rw_W (tk_K xtk n) xtv (sk_f (tk_K xtk n) n) n n (xr_c n xro) par) (hC : ∀ j, tk_K xtk n j = 1 → 7 ≤ tk_K xtk n (j + 1) → tk_K xtk n (j + 1) ≤ 9 → xr_c n xro j = 1) {post : Int32 → SX → Prop}
    (h1 : ∀ sc' ho', sc' 0 = -1 → (∀ i, i < n → xr_c n xro i = 1 → tk_K xtk n i = 1 → sc_L (tk_K xtk n) (sk_f (tk_K xtk n) n) sc' i) → (∀ i, i < n → xr_c n xro i = 1 → tk_K xtk n i = 4 → xs_P n xtv (xr_c n xro) par sc' ho' i ∧ sc_B (tk_K xtk n) xtv (sk_f (tk_K xtk n) n) i (xtv i)) → post 1 (xdl, nI n, xpp, xvc, xcc, xfc, xoc, xag, xan, xex, xen, xfl, xac, xst, xsp, xmd, xrt, xcu, xtk, xtv, xaf, xro, sc', ho', xvk, xvf, xvs, xcv, xco, xff, xfp, xfe, xfb, xop))
    (h0 : ∀ sc' ho', (∃ i, i < n ∧ xr_c n xro i = 1 ∧ tk_K xtk n i = 4 ∧ ¬ sc_B (tk_K xtk n) xtv (sk_f (tk_K xtk n) n) i (xtv i)) → post 0 (xdl, nI n, xpp, xvc, xcc, xfc, xoc, xag, xan, xex, xen, xfl, xac, xst, xsp, xmd, xrt, xcu, xtk, xtv, xaf, xro, sc', ho', xvk, xvf, xvs, xcv, xco, xff, xfp, xfe, xfb, xop)) :
    ∀ d m (sc' ho' : Nat → Int32), m + d = n → sc' 0 = -1 → (∀ i, i < m → i < n → xr_c n xro i = 1 → tk_K xtk n i = 1 → sc_L (tk_K xtk n) (sk_f (tk_K xtk n) n) sc' i) → (∀ i, i < m → xr_c n xro i = 1 → tk_K xtk n i = 4 → xs_P n xtv (xr_c n xro) par sc' ho' i ∧ sc_B (tk_K xtk n) xtv (sk_f (tk_K xtk n) n) i (xtv i)) →
      wX_namesAreBound_9 post (d + 1) (nI m) xdl (nI n) xpp xvc xcc xfc xoc xag xan xex xen xfl xac xst xsp xmd xrt xcu xtk xtv xaf xro sc' ho' xvk xvf xvs xcv xco xff xfp xfe xfb xop := by
  have H1 := H.1
  have hB : ∀ i, i < n → tk_K xtk n i ≠ 2 → dp_I (tk_K xtk n) i (sk_f (tk_K xtk n) n i) := fun i hi hk => (A i hi hk).1
  have hn0 : ∀ i, n ≤ i → tk_K xtk n i = 0 := fun i => tk_0
  intro d
  induction d with
  | zero =>
    intro m sc' ho' e s0 s1 s2
    have em : m = n := by omega
    subst em
    exact pk_le m m (fun _ => h1 sc' ho' s0 (fun i hi => s1 i hi hi) s2) (fun z => by omega)
  | succ d ih =>
    intro m sc' ho' e s0 s1 s2
    have hm : m < n := by omega
    have hc : (nI m).toNatClampNeg = m := nI_clamp (by omega)
    refine pk_le n m (fun z => by omega) (fun _ => ⟨tk_in H hm, ?_⟩)
    have skipS : ∀ sc'', (tk_K xtk n m ≠ 4 ∨ xro m ≠ 1) → sc'' 0 = -1 → (∀ i, i < m + 1 → i < n → xr_c n xro i = 1 → tk_K xtk n i = 1 → sc_L (tk_K xtk n) (sk_f (tk_K xtk n) n) sc'' i) → (∀ i, i < m → xr_c n xro i = 1 → tk_K xtk n i = 4 → xs_P n xtv (xr_c n xro) par sc'' ho' i ∧ sc_B (tk_K xtk n) xtv (sk_f (tk_K xtk n) n) i (xtv i)) → wX_namesAreBound_42 post (wX_namesAreBound_9 post (d + 1)) (nI m) xdl (nI n) xpp xvc xcc xfc xoc xag xan xex xen xfl xac xst xsp xmd xrt xcu xtk xtv xaf xro sc'' ho' xvk xvf xvs xcv xco xff xfp xfe xfb xop := by
      intro sc'' hk t0 t1 t2
      have go : wX_namesAreBound_9 post (d + 1) (nI (m + 1)) xdl (nI n) xpp xvc xcc xfc xoc xag xan xex xen xfl xac xst xsp xmd xrt xcu xtk xtv xaf xro sc'' ho' xvk xvf xvs xcv xco xff xfp xfe xfb xop := ih (m + 1) sc'' ho' (by omega) t0 t1 (fun i hi hr hk4 => by
        by_cases z : i = m
        · subst z
          rw [xr_in hm] at hr
          rcases hk with hk | hk
          · exact absurd hk4 hk
          · exact absurd hr hk
        · exact t2 i (by omega) hr hk4)
      refine ⟨tk_in H hm, ?_⟩
      rw [hc]
      by_cases r1 : xro m = 1
      · have k4 : tk_K xtk n m ≠ 4 := by
          rcases hk with hk | hk
          · exact hk
          · exact absurd r1 hk
        have hb := tk_b H hm 4 (A := wpX_findBinding (fun r_12 u => match u with | (xdl, xtn, xpp, xvc, xcc, xfc, xoc, xag, xan, xex, xen, xfl, xac, xst, xsp, xmd, xrt, xcu, xtk, xtv, xaf, xro, xsc, xho, xvk, xvf, xvs, xcv, xco, xff, xfp, xfe, xfb, xop) => (((r_12 = 0 → (post 0 (xdl, xtn, xpp, xvc, xcc, xfc, xoc, xag, xan, xex, xen, xfl, xac, xst, xsp, xmd, xrt, xcu, xtk, xtv, xaf, xro, xsc, xho, xvk, xvf, xvs, xcv, xco, xff, xfp, xfe, xfb, xop))) ∧ (¬ r_12 = 0 → (∀ x1_48 : Int32, x1_48 = nI m + 1 → (wX_namesAreBound_9 post (d + 1) x1_48 xdl xtn xpp xvc xcc xfc xoc xag xan xex xen xfl xac xst xsp xmd xrt xcu xtk xtv xaf xro xsc xho xvk xvf xvs xcv xco xff xfp xfe xfb xop)))))) (xdl, nI n, xpp, xvc, xcc, xfc, xoc, xag, xan, xex, xen, xfl, xac, xst, xsp, xmd, xrt, xcu, xtk, xtv, xaf, xro, sc'', ho', xvk, xvf, xvs, xcv, xco, xff, xfp, xfe, xfb, xop) (nI m)) (B := ∀ x1_11 : Int32, x1_11 = nI m + 1 → wX_namesAreBound_9 post (d + 1) x1_11 xdl (nI n) xpp xvc xcc xfc xoc xag xan xex xen xfl xac xst xsp xmd xrt xcu xtk xtv xaf xro sc'' ho' xvk xvf xvs xcv xco xff xfp xfe xfb xop) (fun z => absurd z k4) (fun _ => nm_r (nI_1 m) go)
        rw [hc] at hb
        exact br_t r1 ⟨tk_in H hm, hb⟩
      · exact br_f r1 (nm_r (nI_1 m) go)
    have upS : ∀ i, (i < m → xr_c n xro i = 1 → tk_K xtk n i = 1 → i < n → sc_L (tk_K xtk n) (sk_f (tk_K xtk n) n) sc' i) := fun i hi hr hk hn' => s1 i hi hn' hr hk
    rw [hc]
    by_cases r1 : xro m = 1
    · have R1 : xr_c n xro m = 1 := (xr_in hm).trans r1
      refine br_t r1 ⟨tk_in H hm, ?_⟩
      have hb := tk_b H hm 1 (A := wpX_scopeForm (fun u => match u with | (xdl, xtn, xpp, xvc, xcc, xfc, xoc, xag, xan, xex, xen, xfl, xac, xst, xsp, xmd, xrt, xcu, xtk, xtv, xaf, xro, xsc, xho, xvk, xvf, xvs, xcv, xco, xff, xfp, xfe, xfb, xop) => (wX_namesAreBound_42 post (wX_namesAreBound_9 post (d + 1)) (nI m) xdl xtn xpp xvc xcc xfc xoc xag xan xex xen xfl xac xst xsp xmd xrt xcu xtk xtv xaf xro xsc xho xvk xvf xvs xcv xco xff xfp xfe xfb xop)) (xdl, nI n, xpp, xvc, xcc, xfc, xoc, xag, xan, xex, xen, xfl, xac, xst, xsp, xmd, xrt, xcu, xtk, xtv, xaf, xro, sc', ho', xvk, xvf, xvs, xcv, xco, xff, xfp, xfe, xfb, xop) (nI m)) (B := wX_namesAreBound_42 post (wX_namesAreBound_9 post (d + 1)) (nI m) xdl (nI n) xpp xvc xcc xfc xoc xag xan xex xen xfl xac xst xsp xmd xrt xcu xtk xtv xaf xro sc' ho' xvk xvf xvs xcv xco xff xfp xfe xfb xop) (fun k1 => ?_) (fun k1 => ?_)
      · rw [hc] at hb; exact hb
      · have hS := (W.2.1 m hm R1).1
        refine xs_form (xtn := nI n) (xsc := sc') (xho := ho') H A hm k1 hS (fun sF f1 f2 => ?_)
        have ag : ∀ q, q < n → xr_c n xro q ≠ 0 → (q ≤ m ∨ par q ≠ m) → sF q = sc' q := by
          intro q hq hr hpq
          have nch : ¬ gr_Ch (tk_K xtk n) (sk_f (tk_K xtk n) n) m q := by
            intro z
            have gi := gr_in (hB m hm (by omega)) hS z
            have pq : par q = m := by
              rcases z with z | z | z
              · exact ((W.2.1 m hm R1).2.1 q z).2
              · exact ((W.2.1 m hm R1).2.2.1 q z).2
              · exact ((W.2.1 m hm R1).2.2.2 q z).2
            rcases hpq with w | w
            · omega
            · exact w pq
          refine f2 q nch (fun z => ?_)
          have kq := (rw_K W hq hr).1
          refine nch (Or.inl ⟨k1, Or.inr (Or.inl ⟨?_, ?_⟩)⟩)
          · rw [← z]; omega
          · rw [z]; rw [z] at kq; exact ls_M_0 (by omega)
        refine skipS sF (Or.inl (by omega)) ?_ (fun i hi hin hr hk => ?_) (fun i hi hr hk => ?_)
        · rw [ag 0 (by omega) (by rw [W.2.2.2.2]; decide) (Or.inl (by omega))]; exact s0
        · by_cases z : i = m
          · subst z; exact f1
          · have hSi := (W.2.1 i hin hr).1
            have hIi := hB i hin (by omega)
            refine sc_Lc hk hSi (ag i hin (by rw [hr]; decide) (Or.inl (by omega))) (fun c hc' => ?_) (s1 i (by omega) hin hr hk)
            have gi := gr_in hIi hSi hc'
            have g2 := gi.2.1.1
            have lim := dp_le hn0 hIi hin
            rcases hc' with w | w | w
            · have q := (W.2.1 i hin hr).2.1 c w
              exact ag c (by omega) (by rw [q.1]; decide) (Or.inr (by rw [q.2]; exact z))
            · have q := (W.2.1 i hin hr).2.2.1 c w
              exact ag c (by omega) (by rw [q.1]; decide) (Or.inr (by rw [q.2]; exact z))
            · have q := (W.2.1 i hin hr).2.2.2 c w
              exact ag c (by omega) (by rw [q.1]; decide) (Or.inr (by rw [q.2]; exact z))
        · obtain ⟨⟨l, h, q1, q2, q3, q4, q5⟩, q6⟩ := s2 i hi hr hk
          refine ⟨⟨l, h, ?_, q2, q3, q4, q5⟩, q6⟩
          rw [ag i (by omega) (by rw [hr]; decide) (Or.inl (by omega))]
          refine sc_Hc (fun x hx => ?_) q1
          have w := q2 x hx
          have xn : x < n := by
            rcases Nat.lt_or_ge x n with y | y
            · exact y
            · rw [xr_out y] at w; exact absurd w.1 (by decide)
          exact ag x xn (by rw [w.1]; decide) (Or.inr (by omega))
      · by_cases k4 : tk_K xtk n m = 4
        · obtain ⟨l, c1, c2, c3, c4⟩ := sc_ch (at' := m) hB hn0 W hC s0 s1 m m (Nat.le_refl _) hm (Nat.le_refl _) R1
          refine ⟨tk_in H hm, ?_⟩
          rw [hc]
          have hb := tk_b H hm 4 (A := wpX_findBinding (fun r_12 u => match u with | (xdl, xtn, xpp, xvc, xcc, xfc, xoc, xag, xan, xex, xen, xfl, xac, xst, xsp, xmd, xrt, xcu, xtk, xtv, xaf, xro, xsc, xho, xvk, xvf, xvs, xcv, xco, xff, xfp, xfe, xfb, xop) => (((r_12 = 0 → (post 0 (xdl, xtn, xpp, xvc, xcc, xfc, xoc, xag, xan, xex, xen, xfl, xac, xst, xsp, xmd, xrt, xcu, xtk, xtv, xaf, xro, xsc, xho, xvk, xvf, xvs, xcv, xco, xff, xfp, xfe, xfb, xop))) ∧ (¬ r_12 = 0 → (∀ x1_48 : Int32, x1_48 = nI m + 1 → (wX_namesAreBound_9 post (d + 1) x1_48 xdl xtn xpp xvc xcc xfc xoc xag xan xex xen xfl xac xst xsp xmd xrt xcu xtk xtv xaf xro xsc xho xvk xvf xvs xcv xco xff xfp xfe xfb xop)))))) (xdl, nI n, xpp, xvc, xcc, xfc, xoc, xag, xan, xex, xen, xfl, xac, xst, xsp, xmd, xrt, xcu, xtk, xtv, xaf, xro, sc', ho', xvk, xvf, xvs, xcv, xco, xff, xfp, xfe, xfb, xop) (nI m)) (B := ∀ x1_11 : Int32, x1_11 = nI m + 1 → wX_namesAreBound_9 post (d + 1) x1_11 xdl (nI n) xpp xvc xcc xfc xoc xag xan xex xen xfl xac xst xsp xmd xrt xcu xtk xtv xaf xro sc' ho' xvk xvf xvs xcv xco xff xfp xfe xfb xop) (fun _ => ?_) (fun z => absurd k4 z)
          · rw [hc] at hb; exact br_t r1 ⟨tk_in H hm, hb⟩
          · refine ⟨tk_in H hm, nm_r (show sc' (nI m).toNatClampNeg = sc' m from by rw [hc]) ⟨l.length + 1, xs_findL (xtn := nI n) (xsc := sc') (xho := ho') H hm l (sc' m) 0 c1 (by omega) (fun h hh => br_f (by decide) (nm_r (nI_1 m) (ih (m + 1) sc' _ (by omega) s0 (fun i hi hin hr hk => ?_) (fun i hi hr hk => ?_)))) (fun w ho2 => br_t rfl (h0 sc' ho2 ⟨m, hm, R1, k4, fun z => ?_⟩))⟩⟩
            · refine s1 i ?_ hin hr hk
              by_cases z : i = m
              · subst z; omega
              · omega
            · by_cases z : i = m
              · subst z
                exact ⟨⟨l, h, c1, c3, by rw [pk_us, Nat.zero_add], hh, c2⟩, (c4 _).mp (sc_Fm hh)⟩
              · obtain ⟨⟨l, h, q1, q2, q3, q4, q5⟩, q6⟩ := s2 i (by omega) hr hk
                exact ⟨⟨l, h, q1, q2, by rw [pk_un z]; exact q3, q4, q5⟩, q6⟩
            · obtain ⟨q, hq, ev⟩ := (c4 _).mpr z
              exact w q hq ev
        · exact skipS sc' (Or.inl k4) s0 (fun i hi hin hr hk => s1 i (by
            by_cases z : i = m
            · subst z; exact absurd hk k1
            · omega) hin hr hk) s2
    · refine br_f r1 (skipS sc' (Or.inr r1) s0 (fun i hi hin hr hk => s1 i (by
        by_cases z : i = m
        · subst z; rw [xr_in hm] at hr; exact absurd hr r1
        · omega) hin hr hk) s2)
end
