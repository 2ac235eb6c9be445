/-! the reference's stack of goals -/
def ys_R (gk ga gb : Nat → Int32) : List (Nat × Nat × Nat) → Prop
  | [] => True
  | (g, x, st) :: S => gk S.length = nI g ∧ ga S.length = nI x ∧ gb S.length = nI st ∧ (1 ≤ g ∧ g ≤ 8 ∧ x ≤ 5 ∧ st ≤ 100) ∧ ys_R gk ga gb S
theorem ys_k {gk ga gb gk' ga' gb' : Nat → Int32} : ∀ {S : List (Nat × Nat × Nat)}, (∀ i, i < S.length → gk' i = gk i ∧ ga' i = ga i ∧ gb' i = gb i) → ys_R gk ga gb S → ys_R gk' ga' gb' S
  | [], _, _ => trivial
  | (g, x, st) :: S, h, r => by
    have q := h S.length (by simp)
    exact ⟨q.1.trans r.1, q.2.1.trans r.2.1, q.2.2.trans r.2.2.1, r.2.2.2.1, ys_k (fun i hi => h i (by simp; omega)) r.2.2.2.2⟩
theorem pm_D {K : Nat → Nat} {V : Nat → Int32} {a : Nat → Nat} {p g x st p' p2 : Nat} {new new2 : List (Nat × Nat × Nat)} (t : pm_T K V a p g x st p' new) (t' : pm_T K V a p g x st p2 new2) : p2 = p' ∧ new2 = new := by
  have lam : ∀ c c', gr_P K V (p + 2) c → gr_P K V (p + 2) c' → c' = c := fun c c' P P' => by
    rcases Nat.lt_trichotomy c c' with z | z | z
    · have := P'.2.1 c z; have := P.2.2.1; omega
    · exact z.symm
    · have := P.2.1 c' z; have := P'.2.2.1; omega
  unfold pm_T at t t'
  rcases t with ⟨g1, k, e1, e2⟩ | ⟨g1, k, e1, e2⟩ | ⟨g1, k, e1, e2⟩ | ⟨g1, k, e1, e2⟩ | ⟨g1, k, e1, e2⟩ | ⟨g1, k, e1, e2⟩ | ⟨g1, k, k2, e1, e2⟩ | ⟨g1, k, k2, e1, e2⟩ | ⟨g1, k, k2, k3, k4, e1, e2⟩ | ⟨g1, k, k2, k3, c, P, e1, e2⟩ | ⟨g1, k, e1, e2⟩ | ⟨g1, k, k2, k3, e1, e2⟩ | ⟨g1, k, k2, e1, e2⟩ | ⟨g1, k, k2, e1, e2⟩ | ⟨g1, k, k2, e1, e2⟩ <;>
  rcases t' with ⟨f1, l, d1, d2⟩ | ⟨f1, l, d1, d2⟩ | ⟨f1, l, d1, d2⟩ | ⟨f1, l, d1, d2⟩ | ⟨f1, l, d1, d2⟩ | ⟨f1, l, d1, d2⟩ | ⟨f1, l, l2, d1, d2⟩ | ⟨f1, l, l2, d1, d2⟩ | ⟨f1, l, l2, l3, l4, d1, d2⟩ | ⟨f1, l, l2, l3, c', P', d1, d2⟩ | ⟨f1, l, d1, d2⟩ | ⟨f1, l, l2, l3, d1, d2⟩ | ⟨f1, l, l2, d1, d2⟩ | ⟨f1, l, l2, d1, d2⟩ | ⟨f1, l, l2, d1, d2⟩ <;>
  first
  | (exfalso; omega)
  | exact ⟨d1.trans e1.symm, d2.trans e2.symm⟩
  | (have := lam c c' P P'; subst this; exact ⟨d1.trans e1.symm, d2.trans e2.symm⟩)
theorem pm_F2 {K : Nat → Nat} {V : Nat → Int32} {n : Nat} {E D N : Nat → Prop} (hE : ∀ p, E p → gr_EC K V (sk_f K n) E D p) (hN : ∀ p, E p → ∀ c, gr_N K (sk_f K n) p c → N c) (hD : ∀ p, D p → gr_DC K (sk_f K n) D p) (hEI : ∀ c, E c → dp_I K c (sk_f K n c)) (hDI : ∀ c, D c → dp_I K c (sk_f K n c))
    {g x st : Nat} {S : List (Nat × Nat × Nat)} {p p' : Nat} {new : List (Nat × Nat × Nat)} (h : pm_C K V (sk_f K n) n E D N ((g, x, st) :: S) p) (t : pm_T K V (sk_f K n) p g x st p' new) : pm_C K V (sk_f K n) n E D N (new ++ S) p' := by
  obtain ⟨_, p2, new2, t2, c2⟩ := pm_F hE hN hD hEI hDI h
  obtain ⟨e1, e2⟩ := pm_D t t2
  rw [← e1, ← e2]; exact c2
def yu_S (K : Nat → Nat) (p g : Nat) (us us' : Nat → Int32) : Prop := (g = 1 ∧ (K p = 3 ∨ K p = 4 ∨ K p = 5) → us' p = (if K p = 4 then 1 else 0) ∧ ∀ q, q ≠ p → us' q = us q) ∧ (¬ (g = 1 ∧ (K p = 3 ∨ K p = 4 ∨ K p = 5)) → us' = us)
section
variable {yli yn ypr ygs ypo yhp yfs yvp yfu ysp ymd yac yst yrt ycu yhv : Int32} {ytk ytv yus ygk yga ygb yck yca ycb ycc yfp yfe yfS yfn yfb yvs yds : Nat → Int32} {ynk yna ynb ync : Nat} {n : Nat}
theorem yg_goal {S : List (Nat × Nat × Nat)} (g x st : Nat) (hS : S.length < 256) (R : ys_R ygk yga ygb S) (hb : 1 ≤ g ∧ g ≤ 8 ∧ x ≤ 5 ∧ st ≤ 100) {post : SY → Prop}
    (hp : ∀ gk' ga' gb', ys_R gk' ga' gb' ((g, x, st) :: S) → post (yli, yn, ypr, nI (S.length + 1), ypo, yhp, yfs, yvp, yfu, ysp, ymd, yac, yst, yrt, ycu, yhv, ytk, ytv, yus, gk', ga', gb', yck, yca, ycb, ycc, yfp, yfe, yfS, yfn, yfb, yvs, yds, ynk, yna, ynb, ync)) : wpY_goal post (yli, yn, ypr, nI S.length, ypo, yhp, yfs, yvp, yfu, ysp, ymd, yac, yst, yrt, ycu, yhv, ytk, ytv, yus, ygk, yga, ygb, yck, yca, ycb, ycc, yfp, yfe, yfS, yfn, yfb, yvs, yds, ynk, yna, ynb, ync) (nI g) (nI x) (nI st) := by
  have hi : vp_in (nI S.length) 256 := vp_in_nI hS (by omega)
  have hc : (nI S.length).toNatClampNeg = S.length := nI_clamp (by omega)
  refine pk_le 256 S.length (fun z => by omega) (fun _ => ⟨hi, fun gk' e1 => ⟨hi, fun ga' e2 => ⟨hi, fun gb' e3 => nm_r (nI_1 _) (hp gk' ga' gb' ⟨?_, ?_, ?_, hb, ys_k (fun i hi => ⟨?_, ?_, ?_⟩) R⟩)⟩⟩⟩)
  · rw [e1, hc]; exact pk_us
  · rw [e2, hc]; exact pk_us
  · rw [e3, hc]; exact pk_us
  · rw [e1, hc]; exact pk_un (by omega)
  · rw [e2, hc]; exact pk_un (by omega)
  · rw [e3, hc]; exact pk_un (by omega)
theorem yl_lam (H : tk_ok ytk n) {S : List (Nat × Nat × Nat)} {p : Nat} (hp : p < n) (R : ys_R ygk yga ygb S) (hS : S.length + 2 ≤ 256) {post : Int32 → SY → Prop}
    (h1 : ∀ c gk' ga' gb', tk_K ytk n (p + 2) = 1 → gr_P (tk_K ytk n) ytv (p + 2) c → ys_R gk' ga' gb' ((1, 0, 0) :: (4, 0, 0) :: S) → post 1 (yli, nI n, ypr, nI (S.length + 2), nI (p + 4 + c), yhp, yfs, yvp, yfu, ysp, ymd, yac, yst, yrt, ycu, yhv, ytk, ytv, yus, gk', ga', gb', yck, yca, ycb, ycc, yfp, yfe, yfS, yfn, yfb, yvs, yds, ynk, yna, ynb, ync))
    (h0 : ¬ (tk_K ytk n (p + 2) = 1 ∧ ∃ c, gr_P (tk_K ytk n) ytv (p + 2) c) → post 0 (yli, nI n, ypr, nI S.length, nI p, yhp, yfs, yvp, yfu, ysp, ymd, yac, yst, yrt, ycu, yhv, ytk, ytv, yus, ygk, yga, ygb, yck, yca, ycb, ycc, yfp, yfe, yfS, yfn, yfb, yvs, yds, ynk, yna, ynb, ync)) : wpY_lambda post (yli, nI n, ypr, nI S.length, nI p, yhp, yfs, yvp, yfu, ysp, ymd, yac, yst, yrt, ycu, yhv, ytk, ytv, yus, ygk, yga, ygb, yck, yca, ycb, ycc, yfp, yfe, yfS, yfn, yfb, yvs, yds, ynk, yna, ynb, ync) := by
  have H1 := H.1
  unfold wpY_lambda
  dsimp only
  rw [ni_2 p]
  refine yq_params (q := p + 2) H (by omega) (fun c k P => ?_) (fun w => br_f (by decide) (h0 w))
  have := P.1
  refine br_t (nI_pos' (by omega)) ?_
  refine yg_goal (S := S) 4 0 0 (by omega) R (by omega) (fun gk1 ga1 gb1 R1 => ?_)
  refine yg_goal (S := (4, 0, 0) :: S) 1 0 0 (by simp; omega) R1 (by omega) (fun gk2 ga2 gb2 R2 => ?_)
  have := h1 c gk2 ga2 gb2 k P R2
  rw [show p + 4 + c = p + 2 + 2 + c from by omega] at this
  exact this
theorem ye_rep {d : Nat} {S : List (Nat × Nat × Nat)} : List.replicate d ((1, 0, 0) : Nat × Nat × Nat) ++ (1, 0, 0) :: S = List.replicate (d + 1) (1, 0, 0) ++ S := by
  rw [List.replicate_succ', List.append_assoc]; rfl
theorem ye_255 {S0 : List (Nat × Nat × Nat)} {m : Nat} (hm : m ≤ 3) {post : Int32 → SY → Prop} (hp : ∀ gk' ga' gb', ys_R gk' ga' gb' (List.replicate m (1, 0, 0) ++ S0) → post 1 (yli, yn, ypr, nI (m + S0.length), ypo, yhp, yfs, yvp, yfu, ysp, ymd, yac, yst, yrt, ycu, yhv, ytk, ytv, yus, gk', ga', gb', yck, yca, ycb, ycc, yfp, yfe, yfS, yfn, yfb, yvs, yds, ynk, yna, ynb, ync)) (h0 : S0.length + 4 ≤ 256) :
    ∀ d j (gk ga gb : Nat → Int32), j + d = m → ys_R gk ga gb (List.replicate j (1, 0, 0) ++ S0) → wY_expr_255 post (nI m) (d + 1) (nI j) yli yn ypr (nI (j + S0.length)) ypo yhp yfs yvp yfu ysp ymd yac yst yrt ycu yhv ytk ytv yus gk ga gb yck yca ycb ycc yfp yfe yfS yfn yfb yvs yds ynk yna ynb ync := by
  intro d
  induction d with
  | zero =>
    intro j gk ga gb e R
    have ej : j = m := by omega
    subst ej
    exact pk_le j j (fun _ => hp gk ga gb R) (fun z => by omega)
  | succ d ih =>
    intro j gk ga gb e R
    refine pk_le m j (fun z => by omega) (fun _ => ?_)
    have el : (List.replicate j ((1, 0, 0) : Nat × Nat × Nat) ++ S0).length = j + S0.length := by simp
    have key : wpY_goal (fun u => match u with | (yli, yn, ypr, ygs, ypo, yhp, yfs, yvp, yfu, ysp, ymd, yac, yst, yrt, ycu, yhv, ytk, ytv, yus, ygk, yga, ygb, yck, yca, ycb, ycc, yfp, yfe, yfS, yfn, yfb, yvs, yds, ynk, yna, ynb, ync) => (∀ x4_327 : Int32, x4_327 = nI j + 1 → (wY_expr_255 post (nI m) (d + 1) x4_327 yli yn ypr ygs ypo yhp yfs yvp yfu ysp ymd yac yst yrt ycu yhv ytk ytv yus ygk yga ygb yck yca ycb ycc yfp yfe yfS yfn yfb yvs yds ynk yna ynb ync))) (yli, yn, ypr, nI (List.replicate j ((1, 0, 0) : Nat × Nat × Nat) ++ S0).length, ypo, yhp, yfs, yvp, yfu, ysp, ymd, yac, yst, yrt, ycu, yhv, ytk, ytv, yus, gk, ga, gb, yck, yca, ycb, ycc, yfp, yfe, yfS, yfn, yfb, yvs, yds, ynk, yna, ynb, ync) (nI 1) (nI 0) (nI 0) := by
      refine yg_goal (ygk := gk) (yga := ga) (ygb := gb) (S := List.replicate j (1, 0, 0) ++ S0) 1 0 0 (by rw [el]; omega) R (by omega) (fun gk1 ga1 gb1 R1 => nm_r (nI_1 j) ?_)
      rw [el, show j + S0.length + 1 = j + 1 + S0.length from by omega]
      refine ih (j + 1) gk1 ga1 gb1 (by omega) ?_
      rw [List.replicate_succ]
      exact R1
    rw [el] at key
    exact key
theorem yb_nar0 : vp_nar .boolean 0 = 0 := rfl
theorem yb_nar1 : vp_nar .boolean 1 = 1 := rfl
end
