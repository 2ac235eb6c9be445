section
variable {yli yn ypr ygs ypo yhp yfs yvp yfu ysp ymd yac yst yrt ycu yhv : Int32} {ytk ytv yus ygk yga ygb yck yca ycb ycc yfp yfe yfS yfn yfb yvs yds : Nat → Int32} {ynk yna ynb ync : Nat} {n : Nat}
theorem yp_posL (H : tk_ok ytk n) {r : Nat → Int32} {par : Nat → Nat} (hB : ∀ i, i < n → tk_K ytk n i ≠ 2 → dp_I (tk_K ytk n) i (sk_f (tk_K ytk n) n i)) (hrn : ∀ c, r c ≠ 0 → c < n) (W : rw_W (tk_K ytk n) ytv (sk_f (tk_K ytk n) n) n n r par) {post : Int32 → SY → Prop}
    (hp : ∀ us' gs' po' gk' ga' gb', (∀ i, i < n → us' i = if r i = 1 ∧ tk_K ytk n i = 4 then 1 else 0) → post 1 (yli, nI n, ypr, gs', po', yhp, yfs, yvp, yfu, ysp, ymd, yac, yst, yrt, ycu, yhv, ytk, ytv, us', gk', ga', gb', yck, yca, ycb, ycc, yfp, yfe, yfS, yfn, yfb, yvs, yds, ynk, yna, ynb, ync)) :
    ∀ (f : Nat) (S : List (Nat × Nat × Nat)) (p it : Nat) (us gk ga gb : Nat → Int32), 4 * (n - p) + S.length + 2 * pm_fS S ≤ f → it + f < 1024 → p ≤ n → S.length + pm_fS S ≤ 2 * p + 2 → ys_R gk ga gb S →
      pm_C (tk_K ytk n) ytv (sk_f (tk_K ytk n) n) n (fun c => r c = 1) (fun c => r c = 2) (fun c => r c = 3) S p → (∀ i, i < p → us i = if r i = 1 ∧ tk_K ytk n i = 4 then 1 else 0) → (∀ i, p ≤ i → i < n → us i = 0) →
      wY_parse_49 post (f + 1) (nI it) yli (nI n) ypr (nI S.length) (nI p) yhp yfs yvp yfu ysp ymd yac yst yrt ycu yhv ytk ytv us gk ga gb yck yca ycb ycc yfp yfe yfS yfn yfb yvs yds ynk yna ynb ync := by
  have H1 := H.1
  have hn0 : ∀ i, n ≤ i → tk_K ytk n i = 0 := fun i => tk_0
  obtain ⟨hE, hN, hD⟩ := rw_EC hrn W
  have hK2 : ∀ c, r c ≠ 0 → tk_K ytk n c ≠ 2 := fun c hc => by
    have := (rw_K W (hrn c hc) hc).1
    omega
  have hEI : ∀ c, r c = 1 → dp_I (tk_K ytk n) c (sk_f (tk_K ytk n) n c) := fun c hc => hB c (hrn c (by rw [hc]; decide)) (hK2 c (by rw [hc]; decide))
  have hDI : ∀ c, r c = 2 → dp_I (tk_K ytk n) c (sk_f (tk_K ytk n) n c) := fun c hc => hB c (hrn c (by rw [hc]; decide)) (hK2 c (by rw [hc]; decide))
  intro f
  induction f with
  | zero =>
    intro S p it us gk ga gb hM hit hpn hl R C u1 u2
    cases S with
    | nil =>
      change p = n at C
      subst C
      exact pk_le 1024 it (fun z => by omega) (fun _ => br_t (by decide) (br_t rfl (br_t rfl (hp us _ _ gk ga gb (fun i hi => u1 i (by omega))))))
    | cons a S => simp at hM
  | succ f ih =>
    intro S p it us gk ga gb hM hit hpn hl R C u1 u2
    cases S with
    | nil =>
      change p = n at C
      subst C
      exact pk_le 1024 it (fun z => by omega) (fun _ => br_t (by decide) (br_t rfl (br_t rfl (hp us _ _ gk ga gb (fun i hi => u1 i (by omega))))))
    | cons a S =>
      obtain ⟨g, x, st⟩ := a
      have ex := pm_F hE hN hD hEI hDI C
      have pn : p < n := by
        rcases Nat.lt_or_ge p n with z | z
        · exact z
        · exact absurd (hn0 p z) ex.1
      have e0 : pm_fS ((g, x, st) :: S) = pm_fl g := rfl
      rw [e0] at hM hl
      simp only [List.length_cons] at hM hl
      refine pk_le 1024 it (fun z => by omega) (fun _ => pk_le (S.length + 1) 0 (fun z => by omega) (fun _ => pk_le n p (fun z => by omega) (fun _ => ?_)))
      refine yp_step (ygk := gk) (yga := ga) (ygb := gb) (yus := us) H pn R (by omega) (fun p' new us' gk' ga' gb' T R' U => br_f (by decide) (nm_r (nI_1 it) ?_)) (fun w => absurd ex.2 (fun ⟨p', new, T, _⟩ => w ⟨p', new, T⟩))
      have d := pm_dec (S := S) hn0 pn T
      refine ih (new ++ S) p' (it + 1) us' gk' ga' gb' (by omega) (by omega) d.1 (d.2.2 (by omega)) R' (pm_F2 hE hN hD hEI hDI C T) (fun i hi => ?_) (fun i hi1 hi2 => ?_)
      · rcases Nat.lt_or_ge i p with z | z
        · rw [← u1 i z]
          by_cases at' : g = 1 ∧ (tk_K ytk n p = 3 ∨ tk_K ytk n p = 4 ∨ tk_K ytk n p = 5)
          · exact (U.1 at').2 i (by omega)
          · rw [U.2 at']
        · have cov := (pm_cov hn0 W C T i z hi).1
          by_cases at' : g = 1 ∧ (tk_K ytk n p = 3 ∨ tk_K ytk n p = 4 ∨ tk_K ytk n p = 5)
          · have q := U.1 at'
            by_cases y : i = p
            · rw [y, q.1]
              have rp : r p = 1 := by
                have C2 := C
                rw [at'.1] at C2
                exact (pm_C1.mp C2).1
              by_cases k4 : tk_K ytk n p = 4
              · rw [if_pos k4, if_pos ⟨rp, k4⟩]
              · rw [if_neg k4, if_neg (fun w => k4 w.2)]
            · rw [q.2 i y, u2 i z (by omega), if_neg]
              rintro ⟨w1, w2⟩
              rcases cov w2 with ⟨_, _, w3, _⟩ | w3
              · exact y w3
              · rw [w1] at w3; exact absurd w3 (by decide)
          · rw [U.2 at', u2 i z (by omega), if_neg]
            rintro ⟨w1, w2⟩
            rcases cov w2 with ⟨_, w4, w3, _⟩ | w3
            · rw [w3] at w2; exact at' ⟨w4, by omega⟩
            · rw [w1] at w3; exact absurd w3 (by decide)
      · by_cases at' : g = 1 ∧ (tk_K ytk n p = 3 ∨ tk_K ytk n p = 4 ∨ tk_K ytk n p = 5)
        · have q := U.1 at'
          have pp : p < p' := by
            rcases Nat.lt_or_ge p p' with z | z
            · exact z
            · rcases T with ⟨g1, k, e1, _⟩ | ⟨g1, k, e1, _⟩ | ⟨g1, k, e1, _⟩ | ⟨g1, k, e1, _⟩ | ⟨g1, k, e1, _⟩ | ⟨g1, k, e1, _⟩ | ⟨g1, k, k2, e1, _⟩ | ⟨g1, k, k2, e1, _⟩ | ⟨g1, k, k2, k3, k4, e1, _⟩ | ⟨g1, k, k2, k3, c, P, e1, _⟩ | ⟨g1, k, e1, _⟩ | ⟨g1, k, k2, k3, e1, _⟩ | ⟨g1, k, k2, e1, _⟩ | ⟨g1, k, k2, e1, _⟩ | ⟨g1, k, k2, e1, _⟩ <;> omega
          rw [q.2 i (by omega)]
          exact u2 i (by omega) hi2
        · rw [U.2 at']
          refine u2 i ?_ hi2
          rcases T with ⟨g1, k, e1, _⟩ | ⟨g1, k, e1, _⟩ | ⟨g1, k, e1, _⟩ | ⟨g1, k, e1, _⟩ | ⟨g1, k, e1, _⟩ | ⟨g1, k, e1, _⟩ | ⟨g1, k, k2, e1, _⟩ | ⟨g1, k, k2, e1, _⟩ | ⟨g1, k, k2, k3, k4, e1, _⟩ | ⟨g1, k, k2, k3, c, P, e1, _⟩ | ⟨g1, k, e1, _⟩ | ⟨g1, k, k2, k3, e1, _⟩ | ⟨g1, k, k2, e1, _⟩ | ⟨g1, k, k2, e1, _⟩ | ⟨g1, k, k2, e1, _⟩ <;> omega
theorem yp_negL (H : tk_ok ytk n) {post : Int32 → SY → Prop}
    (hp : ∀ us' gs' po' gk' ga' gb', post 0 (yli, nI n, ypr, gs', po', yhp, yfs, yvp, yfu, ysp, ymd, yac, yst, yrt, ycu, yhv, ytk, ytv, us', gk', ga', gb', yck, yca, ycb, ycc, yfp, yfe, yfS, yfn, yfb, yvs, yds, ynk, yna, ynb, ync)) :
    ∀ (f : Nat) (S : List (Nat × Nat × Nat)) (p it : Nat) (us gk ga gb : Nat → Int32), it + f = 1024 → p ≤ n → S.length + pm_fS S ≤ 2 * p + 2 → ys_R gk ga gb S →
      (∀ k, ¬ pm_C (tk_K ytk n) ytv (sk_f (tk_K ytk n) n) n (gr_X (tk_K ytk n) ytv (sk_f (tk_K ytk n) n) k true) (gr_X (tk_K ytk n) ytv (sk_f (tk_K ytk n) n) k false) (fun _ => True) S p) →
      wY_parse_49 post (f + 1) (nI it) yli (nI n) ypr (nI S.length) (nI p) yhp yfs yvp yfu ysp ymd yac yst yrt ycu yhv ytk ytv us gk ga gb yck yca ycb ycc yfp yfe yfS yfn yfb yvs yds ynk yna ynb ync := by
  have H1 := H.1
  have hn0 : ∀ i, n ≤ i → tk_K ytk n i = 0 := fun i => tk_0
  have f89 : ∀ (S : List (Nat × Nat × Nat)) (p : Nat) (us gk ga gb : Nat → Int32), p ≤ n → S.length ≤ 200 → (S = [] → p ≠ n) → wY_parse_89 post yli (nI n) ypr (nI S.length) (nI p) yhp yfs yvp yfu ysp ymd yac yst yrt ycu yhv ytk ytv us gk ga gb yck yca ycb ycc yfp yfe yfS yfn yfb yvs yds ynk yna ynb ync := by
    intro S p us gk ga gb hpn hl hS
    refine pk_eq S.length 0 (fun z => pk_eq p n (fun y => absurd y (hS (List.eq_nil_of_length_eq_zero z))) (fun y => hp _ _ _ _ _ _)) (fun z => hp _ _ _ _ _ _)
  intro f
  induction f with
  | zero =>
    intro S p it us gk ga gb hit hpn hl R C
    exact pk_le 1024 it (fun _ => f89 S p us gk ga gb hpn (by omega) (fun z y => by subst z; exact C 0 y)) (fun z => by omega)
  | succ f ih =>
    intro S p it us gk ga gb hit hpn hl R C
    refine pk_le 1024 it (fun z => by omega) (fun _ => pk_le S.length 0 (fun z => f89 S p us gk ga gb hpn (by omega) (fun z y => by subst z; exact C 0 y)) (fun hpos => pk_le n p (fun z => hp _ _ _ _ _ _) (fun pn => ?_)))
    cases S with
    | nil => simp at hpos
    | cons a S =>
      obtain ⟨g, x, st⟩ := a
      have e0 : pm_fS ((g, x, st) :: S) = pm_fl g := rfl
      rw [e0] at hl
      simp only [List.length_cons] at hl
      refine yp_step (ygk := gk) (yga := ga) (ygb := gb) (yus := us) H pn R (by omega) (fun p' new us' gk' ga' gb' T R' U => br_f (by decide) (nm_r (nI_1 it) ?_)) (fun w _ _ _ _ _ => br_t rfl (hp _ _ _ _ _ _))
      have d := pm_dec (S := S) hn0 pn T
      refine ih (new ++ S) p' (it + 1) us' gk' ga' gb' (by omega) d.1 (d.2.2 (by omega)) R' (fun k C' => C (k + 1) ?_)
      exact pm_B (fun _ => trivial) (fun p h => h) (fun p h => h) (fun c h => gr_X_up k true c h) (fun c h => gr_X_up k false c h) (fun c h => gr_XI k true c h) (fun c h => gr_XI k false c h) T C'
theorem yp_clr {post : Int32 → SY → Prop} (h : ∀ us', (∀ i, i < 64 → us' i = 0) → (yn = 0 → post 0 (yli, yn, ypr, ygs, ypo, yhp, yfs, yvp, yfu, ysp, ymd, yac, yst, yrt, ycu, yhv, ytk, ytv, us', ygk, yga, ygb, yck, yca, ycb, ycc, yfp, yfe, yfS, yfn, yfb, yvs, yds, ynk, yna, ynb, ync)) ∧ (¬ yn = 0 → wpY_goal (fun u => match u with | (yli, yn, ypr, ygs, ypo, yhp, yfs, yvp, yfu, ysp, ymd, yac, yst, yrt, ycu, yhv, ytk, ytv, yus, ygk, yga, ygb, yck, yca, ycb, ycc, yfp, yfe, yfS, yfn, yfb, yvs, yds, ynk, yna, ynb, ync) => (∃ n49 : Nat, wY_parse_49 post n49 0 yli yn ypr ygs ypo yhp yfs yvp yfu ysp ymd yac yst yrt ycu yhv ytk ytv yus ygk yga ygb yck yca ycb ycc yfp yfe yfS yfn yfb yvs yds ynk yna ynb ync)) (yli, yn, ypr, 0, 0, yhp, yfs, yvp, yfu, ysp, ymd, yac, yst, yrt, ycu, yhv, ytk, ytv, us', ygk, yga, ygb, yck, yca, ycb, ycc, yfp, yfe, yfS, yfn, yfb, yvs, yds, ynk, yna, ynb, ync) 1 0 0)) :
    ∀ d m (us' : Nat → Int32), m + d = 64 → (∀ i, i < m → us' i = 0) → wY_parse_2 post yli yn ypr ygs ypo yhp yfs yvp yfu ysp ymd yac yst yrt ycu yhv ynk yna ynb ync (d + 1) (nI m) ytk ytv us' ygk yga ygb yck yca ycb ycc yfp yfe yfS yfn yfb yvs yds := by
  intro d
  induction d with
  | zero =>
    intro m us' e hu
    have em : m = 64 := by omega
    subst em
    exact pk_le 64 64 (fun _ => h us' hu) (fun z => by omega)
  | succ d ih =>
    intro m us' e hu
    have hc : (nI m).toNatClampNeg = m := nI_clamp (by omega)
    refine pk_le 64 m (fun z => by omega) (fun _ => ⟨vp_in_nI (by omega) (by omega), fun u2 e2 => nm_r (nI_1 m) (ih (m + 1) u2 (by omega) (fun i hi => ?_))⟩)
    rw [e2, hc]
    by_cases z : i = m
    · rw [z, pk_us]; exact yb_nar0
    · rw [pk_un z]; exact hu i (by omega)
theorem yp_parse {post : Int32 → SY → Prop} (h : ∀ us', (∀ i, i < 64 → us' i = 0) → (yn = 0 → post 0 (yli, yn, ypr, ygs, ypo, yhp, yfs, yvp, yfu, ysp, ymd, yac, yst, yrt, ycu, yhv, ytk, ytv, us', ygk, yga, ygb, yck, yca, ycb, ycc, yfp, yfe, yfS, yfn, yfb, yvs, yds, ynk, yna, ynb, ync)) ∧ (¬ yn = 0 → wpY_goal (fun u => match u with | (yli, yn, ypr, ygs, ypo, yhp, yfs, yvp, yfu, ysp, ymd, yac, yst, yrt, ycu, yhv, ytk, ytv, yus, ygk, yga, ygb, yck, yca, ycb, ycc, yfp, yfe, yfS, yfn, yfb, yvs, yds, ynk, yna, ynb, ync) => (∃ n49 : Nat, wY_parse_49 post n49 0 yli yn ypr ygs ypo yhp yfs yvp yfu ysp ymd yac yst yrt ycu yhv ytk ytv yus ygk yga ygb yck yca ycb ycc yfp yfe yfS yfn yfb yvs yds ynk yna ynb ync)) (yli, yn, ypr, 0, 0, yhp, yfs, yvp, yfu, ysp, ymd, yac, yst, yrt, ycu, yhv, ytk, ytv, us', ygk, yga, ygb, yck, yca, ycb, ycc, yfp, yfe, yfS, yfn, yfb, yvs, yds, ynk, yna, ynb, ync) 1 0 0)) : wpY_parse post (yli, yn, ypr, ygs, ypo, yhp, yfs, yvp, yfu, ysp, ymd, yac, yst, yrt, ycu, yhv, ytk, ytv, yus, ygk, yga, ygb, yck, yca, ycb, ycc, yfp, yfe, yfS, yfn, yfb, yvs, yds, ynk, yna, ynb, ync) :=
  ⟨65, yp_clr h 64 0 yus (by omega) (fun i hi => by omega)⟩
theorem yp_pos (H : tk_ok ytk n) {r : Nat → Int32} {par : Nat → Nat} (n0 : 0 < n) (I0 : dp_I (tk_K ytk n) 0 n) (hB : ∀ i, i < n → tk_K ytk n i ≠ 2 → dp_I (tk_K ytk n) i (sk_f (tk_K ytk n) n i)) (hrn : ∀ c, r c ≠ 0 → c < n) (W : rw_W (tk_K ytk n) ytv (sk_f (tk_K ytk n) n) n n r par) {post : Int32 → SY → Prop}
    (hp : ∀ us' gs' po' gk' ga' gb', (∀ i, i < n → us' i = if r i = 1 ∧ tk_K ytk n i = 4 then 1 else 0) → post 1 (yli, nI n, ypr, gs', po', yhp, yfs, yvp, yfu, ysp, ymd, yac, yst, yrt, ycu, yhv, ytk, ytv, us', gk', ga', gb', yck, yca, ycb, ycc, yfp, yfe, yfS, yfn, yfb, yvs, yds, ynk, yna, ynb, ync)) : wpY_parse post (yli, nI n, ypr, ygs, ypo, yhp, yfs, yvp, yfu, ysp, ymd, yac, yst, yrt, ycu, yhv, ytk, ytv, yus, ygk, yga, ygb, yck, yca, ycb, ycc, yfp, yfe, yfS, yfn, yfb, yvs, yds, ynk, yna, ynb, ync) := by
  have H1 := H.1
  refine yp_parse (fun us' hu => pk_eq n 0 (fun z => by omega) (fun _ => ?_))
  refine yg_goal (S := []) 1 0 0 (by simp) trivial (by omega) (fun gk' ga' gb' R => ⟨1 + 4 * n + 1, ?_⟩)
  exact yp_posL H hB hrn W hp (1 + 4 * n) [(1, 0, 0)] 0 0 us' gk' ga' gb' (by simp [pm_fS, pm_fl]; omega) (by omega) (by omega) (by simp [pm_fS, pm_fl]) R (pm_C1.mpr ⟨W.2.2.2.2, sk_I I0⟩) (fun i hi => by omega) (fun i _ hi => hu i (by omega))
theorem yp_neg (H : tk_ok ytk n) (no : ∀ k, ¬ (0 < n ∧ sk_f (tk_K ytk n) n 0 = n ∧ gr_X (tk_K ytk n) ytv (sk_f (tk_K ytk n) n) k true 0)) {post : Int32 → SY → Prop}
    (hp : ∀ us' gs' po' gk' ga' gb', post 0 (yli, nI n, ypr, gs', po', yhp, yfs, yvp, yfu, ysp, ymd, yac, yst, yrt, ycu, yhv, ytk, ytv, us', gk', ga', gb', yck, yca, ycb, ycc, yfp, yfe, yfS, yfn, yfb, yvs, yds, ynk, yna, ynb, ync)) : wpY_parse post (yli, nI n, ypr, ygs, ypo, yhp, yfs, yvp, yfu, ysp, ymd, yac, yst, yrt, ycu, yhv, ytk, ytv, yus, ygk, yga, ygb, yck, yca, ycb, ycc, yfp, yfe, yfS, yfn, yfb, yvs, yds, ynk, yna, ynb, ync) := by
  have H1 := H.1
  refine yp_parse (fun us' hu => pk_eq n 0 (fun z => hp _ _ _ _ _ _) (fun z => ?_))
  refine yg_goal (S := []) 1 0 0 (by simp) trivial (by omega) (fun gk' ga' gb' R => ⟨1024 + 1, ?_⟩)
  refine yp_negL H hp 1024 [(1, 0, 0)] 0 0 us' gk' ga' gb' (by omega) (by omega) (by simp [pm_fS, pm_fl]) R (fun k C => no k ⟨by omega, ?_, (pm_C1.mp C).1⟩)
  exact (pm_C1.mp C).2
end
