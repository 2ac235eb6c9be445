section
variable {yli yn ypr ygs ypo yhp yfs yvp yfu ysp ymd yac yst yrt ycu yhv : Int32} {ytk ytv yus ygk yga ygb yck yca ycb ycc yfp yfe yfS yfn yfb yvs yds : Nat → Int32} {ynk yna ynb ync : Nat} {n : Nat}
theorem yp_bind (H : tk_ok ytk n) {S : List (Nat × Nat × Nat)} {p g x st : Nat} (hp : p < n) (hg : g = 5 ∨ g = 6) (hb : 1 ≤ g ∧ g ≤ 8 ∧ x ≤ 5 ∧ st ≤ 100) (R : ys_R ygk yga ygb S) (hS : S.length + 8 ≤ 256) {post : Int32 → SY → Prop}
    (h1 : ∀ p' new gk' ga' gb', pm_T (tk_K ytk n) ytv (sk_f (tk_K ytk n) n) p g x st p' new → ys_R gk' ga' gb' (new ++ S) → post 1 (yli, nI n, ypr, nI (new ++ S).length, nI p', yhp, yfs, yvp, yfu, ysp, ymd, yac, yst, yrt, ycu, yhv, ytk, ytv, yus, gk', ga', gb', yck, yca, ycb, ycc, yfp, yfe, yfS, yfn, yfb, yvs, yds, ynk, yna, ynb, ync))
    (h0 : (¬ ∃ p' new, pm_T (tk_K ytk n) ytv (sk_f (tk_K ytk n) n) p g x st p' new) → ∀ gs' po' gk' ga' gb', post 0 (yli, nI n, ypr, gs', po', yhp, yfs, yvp, yfu, ysp, ymd, yac, yst, yrt, ycu, yhv, ytk, ytv, yus, gk', ga', gb', yck, yca, ycb, ycc, yfp, yfe, yfS, yfn, yfb, yvs, yds, ynk, yna, ynb, ync)) : wY_parseStep_221 post (nI g) (nI x) (nI st) (nI (tk_K ytk n p)) yli (nI n) ypr (nI S.length) (nI p) yhp yfs yvp yfu ysp ymd yac yst yrt ycu yhv ytk ytv yus ygk yga ygb yck yca ycb ycc yfp yfe yfS yfn yfb yvs yds ynk yna ynb ync := by
  have H1 := H.1
  have k20 := tk_20 H p
  have k21 := tk_20 H (p + 1)
  have f243 : (tk_K ytk n p = 2 → x = 0) → wY_parseStep_243 post (nI g) (nI x) (nI st) (nI (tk_K ytk n p)) yli (nI n) ypr (nI S.length) (nI p) yhp yfs yvp yfu ysp ymd yac yst yrt ycu yhv ytk ytv yus ygk yga ygb yck yca ycb ycc yfp yfe yfS yfn yfb yvs yds ynk yna ynb ync := by
    intro hz
    refine pk_eq (tk_K ytk n p) 1 (fun k1 => pk_le 4 x (fun x4 => h0 ?_ _ _ _ _ _) (fun x4 => ?_)) (fun k1 => h0 ?_ _ _ _ _ _)
    · rintro ⟨p', new, t⟩
      rcases t with ⟨g1, _⟩ | ⟨g1, _⟩ | ⟨g1, _⟩ | ⟨g1, _⟩ | ⟨g1, _⟩ | ⟨g1, _⟩ | ⟨g1, _⟩ | ⟨g1, k, _⟩ | ⟨g1, k, k2, _⟩ | ⟨g1, k, _⟩ | ⟨g1, k, _⟩ | ⟨g1, k, _⟩ | ⟨g1, k, _⟩ | ⟨g1, k, _⟩ | ⟨g1, k, _⟩ <;> omega
    · rw [nI_1 p]
      refine yt_t (i := p + 1) H (by omega) (pk_eq (tk_K ytk n (p + 1)) 4 (fun k4 => ?_) (fun k4 => h0 ?_ _ _ _ _ _))
      · have hp1 : p + 1 < n := tk_lt (tk := ytk) (by omega)
        refine yd_dup (st := st) (s := p + 1) H hp1 (by omega) (by omega) (fun d => br_f (by decide) (h0 ?_ _ _ _ _ _)) (fun d => br_t rfl (nm_r (ni_2 p) ?_))
        · rintro ⟨p', new, t⟩
          rcases t with ⟨g1, _⟩ | ⟨g1, _⟩ | ⟨g1, _⟩ | ⟨g1, _⟩ | ⟨g1, _⟩ | ⟨g1, _⟩ | ⟨g1, _⟩ | ⟨g1, k, _⟩ | ⟨g1, k, k2, k3, k4, _⟩ | ⟨g1, k, _⟩ | ⟨g1, k, _⟩ | ⟨g1, k, _⟩ | ⟨g1, k, _⟩ | ⟨g1, k, _⟩ | ⟨g1, k, _⟩
          all_goals first | omega | skip
          exact k4 d
        · rw [nI_1 x]
          refine yg_goal (S := S) g (x + 1) st (by omega) R (by omega) (fun gk1 ga1 gb1 R1 => ?_)
          refine yg_goal (ygk := gk1) (yga := ga1) (ygb := gb1) (S := (g, x + 1, st) :: S) 4 0 0 (by simp; omega) R1 (by omega) (fun gk2 ga2 gb2 R2 => ?_)
          have fin : ∀ gk3 ga3 gb3, ys_R gk3 ga3 gb3 ((if g = 5 then 1 else 7, 0, 0) :: (4, 0, 0) :: (g, x + 1, st) :: S) → post 1 (yli, nI n, ypr, nI (S.length + 3), nI (p + 2), yhp, yfs, yvp, yfu, ysp, ymd, yac, yst, yrt, ycu, yhv, ytk, ytv, yus, gk3, ga3, gb3, yck, yca, ycb, ycc, yfp, yfe, yfS, yfn, yfb, yvs, yds, ynk, yna, ynb, ync) := fun gk3 ga3 gb3 R3 =>
            h1 (p + 2) [(if g = 5 then 1 else 7, 0, 0), (4, 0, 0), (g, x + 1, st)] gk3 ga3 gb3 (Or.inr (Or.inr (Or.inr (Or.inr (Or.inr (Or.inr (Or.inr (Or.inr (Or.inl ⟨hg, k1, x4, k4, d, rfl, rfl⟩))))))))) R3
          refine pk_eq g 5 (fun g5 => ?_) (fun g5 => ?_)
          · refine yg_goal (ygk := gk2) (yga := ga2) (ygb := gb2) (S := (4, 0, 0) :: (g, x + 1, st) :: S) 1 0 0 (by simp; omega) R2 (by omega) (fun gk3 ga3 gb3 R3 => fin gk3 ga3 gb3 (by rw [if_pos g5]; exact R3))
          · refine yg_goal (ygk := gk2) (yga := ga2) (ygb := gb2) (S := (4, 0, 0) :: (g, x + 1, st) :: S) 7 0 0 (by simp; omega) R2 (by omega) (fun gk3 ga3 gb3 R3 => fin gk3 ga3 gb3 (by rw [if_neg g5]; exact R3))
      · rintro ⟨p', new, t⟩
        rcases t with ⟨g1, _⟩ | ⟨g1, _⟩ | ⟨g1, _⟩ | ⟨g1, _⟩ | ⟨g1, _⟩ | ⟨g1, _⟩ | ⟨g1, _⟩ | ⟨g1, k, _⟩ | ⟨g1, k, k2, k3, _⟩ | ⟨g1, k, _⟩ | ⟨g1, k, _⟩ | ⟨g1, k, _⟩ | ⟨g1, k, _⟩ | ⟨g1, k, _⟩ | ⟨g1, k, _⟩ <;> omega
    · rintro ⟨p', new, t⟩
      rcases t with ⟨g1, _⟩ | ⟨g1, _⟩ | ⟨g1, _⟩ | ⟨g1, _⟩ | ⟨g1, _⟩ | ⟨g1, _⟩ | ⟨g1, _⟩ | ⟨g1, k, k2, _⟩ | ⟨g1, k, k2, _⟩ | ⟨g1, k, _⟩ | ⟨g1, k, _⟩ | ⟨g1, k, _⟩ | ⟨g1, k, _⟩ | ⟨g1, k, _⟩ | ⟨g1, k, _⟩ <;> omega
  refine pk_eq (tk_K ytk n p) 2 (fun k2 => pk_le x 0 (fun x0 => f243 (fun _ => by omega)) (fun x0 => nm_r (nI_1 p) ?_)) (fun k2 => f243 (fun z => absurd z k2))
  exact h1 (p + 1) [] _ _ _ (Or.inr (Or.inr (Or.inr (Or.inr (Or.inr (Or.inr (Or.inr (Or.inl ⟨hg, k2, x0, rfl, rfl⟩)))))))) R
theorem yp_step (H : tk_ok ytk n) {S : List (Nat × Nat × Nat)} {p g x st : Nat} (hp : p < n) (R : ys_R ygk yga ygb ((g, x, st) :: S)) (hS : S.length + 8 ≤ 256) {post : Int32 → SY → Prop}
    (h1 : ∀ p' new us' gk' ga' gb', pm_T (tk_K ytk n) ytv (sk_f (tk_K ytk n) n) p g x st p' new → ys_R gk' ga' gb' (new ++ S) → yu_S (tk_K ytk n) p g yus us' → post 1 (yli, nI n, ypr, nI (new ++ S).length, nI p', yhp, yfs, yvp, yfu, ysp, ymd, yac, yst, yrt, ycu, yhv, ytk, ytv, us', gk', ga', gb', yck, yca, ycb, ycc, yfp, yfe, yfS, yfn, yfb, yvs, yds, ynk, yna, ynb, ync))
    (h0 : (¬ ∃ p' new, pm_T (tk_K ytk n) ytv (sk_f (tk_K ytk n) n) p g x st p' new) → ∀ gs' po' gk' ga' gb', post 0 (yli, nI n, ypr, gs', po', yhp, yfs, yvp, yfu, ysp, ymd, yac, yst, yrt, ycu, yhv, ytk, ytv, yus, gk', ga', gb', yck, yca, ycb, ycc, yfp, yfe, yfS, yfn, yfb, yvs, yds, ynk, yna, ynb, ync)) : wpY_parseStep post (yli, nI n, ypr, nI (S.length + 1), nI p, yhp, yfs, yvp, yfu, ysp, ymd, yac, yst, yrt, ycu, yhv, ytk, ytv, yus, ygk, yga, ygb, yck, yca, ycb, ycc, yfp, yfe, yfS, yfn, yfb, yvs, yds, ynk, yna, ynb, ync) := by
  have H1 := H.1
  have k20 := tk_20 H p
  have k21 := tk_20 H (p + 1)
  obtain ⟨r1, r2, r3, hb, R⟩ := R
  have hi : vp_in (nI S.length) 256 := vp_in_nI (by omega) (by omega)
  have hc : (nI S.length).toNatClampNeg = S.length := nI_clamp (by omega)
  have keep : g ≠ 1 → yu_S (tk_K ytk n) p g yus yus := fun k => ⟨fun z => absurd z.1 k, fun _ => rfl⟩
  have q1 : ygk (nI S.length).toNatClampNeg = nI g := by rw [hc]; exact r1
  have q2 : yga (nI S.length).toNatClampNeg = nI x := by rw [hc]; exact r2
  have q3 : ygb (nI S.length).toNatClampNeg = nI st := by rw [hc]; exact r3
  refine nm_r (nI_pred S.length) ⟨hi, nm_r q1 ⟨hi, nm_r q2 ⟨hi, nm_r q3 ?_⟩⟩⟩
  refine yt_t (i := p) H (by omega) ?_
  refine pk_eq g 4 (fun g4 => nm_r (nI_1 p) (pk_eq (tk_K ytk n p) 2 (fun k => ?_) (fun k => h0 ?_ _ _ _ _ _))) (fun g4 => pk_eq g 3 (fun g3 => pk_eq (tk_K ytk n p) 2 (fun k => nm_r (nI_1 p) ?_) (fun k => ?_)) (fun g3 => pk_eq g 2 (fun g2 => pk_eq (tk_K ytk n p) 1 (fun k => ?_) (fun k => ?_)) (fun g2 => pk_eq g 8 (fun g8 => pk_eq (tk_K ytk n p) 2 (fun k => ?_) (fun k => ?_)) (fun g8 => pk_eq g 5 (fun g5 => ?_) (fun g5 => pk_eq g 6 (fun g6 => ?_) (fun g6 => pk_eq g 7 (fun g7 => ?_) (fun g7 => ?_)))))))
  · exact h1 (p + 1) [] yus _ _ _ (Or.inl ⟨g4, k, rfl, rfl⟩) R (keep (by omega))
  · rintro ⟨p', new, t⟩
    rcases t with ⟨g1, k1, _⟩ | ⟨g1, _⟩ | ⟨g1, _⟩ | ⟨g1, _⟩ | ⟨g1, _⟩ | ⟨g1, _⟩ | ⟨g1, _⟩ | ⟨g1, _⟩ | ⟨g1, _⟩ | ⟨g1, _⟩ | ⟨g1, _⟩ | ⟨g1, _⟩ | ⟨g1, _⟩ | ⟨g1, _⟩ | ⟨g1, _⟩ <;> omega
  · exact h1 (p + 1) [] yus _ _ _ (Or.inr (Or.inl ⟨g3, k, rfl, rfl⟩)) R (keep (by omega))
  · refine yg_goal (S := S) 3 0 0 (by omega) R (by omega) (fun gk1 ga1 gb1 R1 => ?_)
    refine yg_goal (ygk := gk1) (yga := ga1) (ygb := gb1) (S := (3, 0, 0) :: S) 2 0 0 (by simp; omega) R1 (by omega) (fun gk2 ga2 gb2 R2 => ?_)
    exact h1 p [(2, 0, 0), (3, 0, 0)] yus gk2 ga2 gb2 (Or.inr (Or.inr (Or.inl ⟨g3, k, rfl, rfl⟩))) R2 (keep (by omega))
  · refine yg_goal (S := S) 3 0 0 (by omega) R (by omega) (fun gk1 ga1 gb1 R1 => nm_r (nI_1 p) (pk_eq (tk_K ytk n p) 3 (fun z => by omega) (fun _ => pk_eq (tk_K ytk n p) 5 (fun z => by omega) (fun _ => pk_eq (tk_K ytk n p) 1 (fun _ => ?_) (fun z => absurd k z)))))
    exact h1 (p + 1) [(3, 0, 0)] yus gk1 ga1 gb1 (Or.inr (Or.inr (Or.inr (Or.inl ⟨g2, k, rfl, rfl⟩)))) R1 (keep (by omega))
  · have ok : (tk_K ytk n p = 3 ∨ tk_K ytk n p = 5) → post 1 (yli, nI n, ypr, nI S.length, nI (p + 1), yhp, yfs, yvp, yfu, ysp, ymd, yac, yst, yrt, ycu, yhv, ytk, ytv, yus, ygk, yga, ygb, yck, yca, ycb, ycc, yfp, yfe, yfS, yfn, yfb, yvs, yds, ynk, yna, ynb, ync) := fun z => h1 (p + 1) [] yus _ _ _ (Or.inr (Or.inr (Or.inr (Or.inr (Or.inl ⟨g2, z, rfl, rfl⟩))))) R (keep (by omega))
    refine nm_r (nI_1 p) (pk_eq (tk_K ytk n p) 3 (fun z => ok (Or.inl z)) (fun k3 => pk_eq (tk_K ytk n p) 5 (fun z => ok (Or.inr z)) (fun k5 => pk_eq (tk_K ytk n p) 1 (fun z => absurd z k) (fun _ => h0 ?_ _ _ _ _ _))))
    rintro ⟨p', new, t⟩
    rcases t with ⟨g1, _⟩ | ⟨g1, _⟩ | ⟨g1, _⟩ | ⟨g1, k1, _⟩ | ⟨g1, k1, _⟩ | ⟨g1, _⟩ | ⟨g1, _⟩ | ⟨g1, _⟩ | ⟨g1, _⟩ | ⟨g1, _⟩ | ⟨g1, _⟩ | ⟨g1, _⟩ | ⟨g1, _⟩ | ⟨g1, _⟩ | ⟨g1, _⟩ <;> omega
  · exact h1 p [] yus _ _ _ (Or.inr (Or.inr (Or.inr (Or.inr (Or.inr (Or.inl ⟨g8, k, rfl, rfl⟩)))))) R (keep (by omega))
  · by_cases x4 : x < 4
    · rw [nI_1 x]
      refine yg_goal (S := S) 8 (x + 1) 0 (by omega) R (by omega) (fun gk1 ga1 gb1 R1 => ?_)
      refine yg_goal (ygk := gk1) (yga := ga1) (ygb := gb1) (S := (8, x + 1, 0) :: S) 1 0 0 (by simp; omega) R1 (by omega) (fun gk2 ga2 gb2 R2 => pk_le 4 x (fun z => by omega) (fun _ => ?_))
      exact h1 p [(1, 0, 0), (8, x + 1, 0)] yus gk2 ga2 gb2 (Or.inr (Or.inr (Or.inr (Or.inr (Or.inr (Or.inr (Or.inl ⟨g8, k, x4, rfl, rfl⟩))))))) R2 (keep (by omega))
    · have no : ∀ gs' po' gk' ga' gb', post 0 (yli, nI n, ypr, gs', po', yhp, yfs, yvp, yfu, ysp, ymd, yac, yst, yrt, ycu, yhv, ytk, ytv, yus, gk', ga', gb', yck, yca, ycb, ycc, yfp, yfe, yfS, yfn, yfb, yvs, yds, ynk, yna, ynb, ync) := h0 (by
        rintro ⟨p', new, t⟩
        rcases t with ⟨g1, _⟩ | ⟨g1, _⟩ | ⟨g1, _⟩ | ⟨g1, _⟩ | ⟨g1, _⟩ | ⟨g1, k1, _⟩ | ⟨g1, k1, k2, _⟩ | ⟨g1, _⟩ | ⟨g1, _⟩ | ⟨g1, _⟩ | ⟨g1, _⟩ | ⟨g1, _⟩ | ⟨g1, _⟩ | ⟨g1, _⟩ | ⟨g1, _⟩ <;> omega)
      have hgl : ∀ {post : SY → Prop} {gs' : Nat} {gk ga gb : Nat → Int32} (a b c : Int32), gs' < 250 → (∀ gk' ga' gb', post (yli, nI n, ypr, nI (gs' + 1), nI p, yhp, yfs, yvp, yfu, ysp, ymd, yac, yst, yrt, ycu, yhv, ytk, ytv, yus, gk', ga', gb', yck, yca, ycb, ycc, yfp, yfe, yfS, yfn, yfb, yvs, yds, ynk, yna, ynb, ync)) → wpY_goal post (yli, nI n, ypr, nI gs', nI p, yhp, yfs, yvp, yfu, ysp, ymd, yac, yst, yrt, ycu, yhv, ytk, ytv, yus, gk, ga, gb, yck, yca, ycb, ycc, yfp, yfe, yfS, yfn, yfb, yvs, yds, ynk, yna, ynb, ync) a b c := by
        intro post gs' gk ga gb a b c hl hh
        have hi : vp_in (nI gs') 256 := vp_in_nI (by omega) (by omega)
        exact pk_le 256 gs' (fun z => by omega) (fun _ => ⟨hi, fun gk' _ => ⟨hi, fun ga' _ => ⟨hi, fun gb' _ => nm_r (nI_1 _) (hh gk' ga' gb')⟩⟩⟩)
      refine hgl _ _ _ (by omega) (fun gk1 ga1 gb1 => ?_)
      refine hgl _ _ _ (by omega) (fun gk2 ga2 gb2 => pk_le 4 x (fun _ => no _ _ _ _ _) (fun z => by omega))
  · exact yp_bind H hp (Or.inl g5) hb R hS (fun p' new gk' ga' gb' t r => h1 p' new yus gk' ga' gb' t r (keep (by omega))) h0
  · exact yp_bind H hp (Or.inr g6) hb R hS (fun p' new gk' ga' gb' t r => h1 p' new yus gk' ga' gb' t r (keep (by omega))) h0
  · refine pk_eq (tk_K ytk n p) 1 (fun k1 => ?_) (fun k1 => h0 ?_ _ _ _ _ _)
    · rw [nI_1 p]
      refine yt_t (i := p + 1) H (by omega) (pk_eq (tk_K ytk n (p + 1)) 7 (fun k7 => ?_) (fun k7 => h0 ?_ _ _ _ _ _))
      · refine yl_lam H hp R (by omega) (fun c gk' ga' gb' k P R' => br_f (by decide) ?_) (fun w => br_t rfl (h0 ?_ _ _ _ _ _))
        · exact h1 (p + 4 + c) [(1, 0, 0), (4, 0, 0)] yus gk' ga' gb' (Or.inr (Or.inr (Or.inr (Or.inr (Or.inr (Or.inr (Or.inr (Or.inr (Or.inr (Or.inl ⟨Or.inl g7, k1, k7, k, c, P, rfl, rfl⟩)))))))))) R' (keep (by omega))
        · rintro ⟨p', new, t⟩
          rcases t with ⟨g1, _⟩ | ⟨g1, _⟩ | ⟨g1, _⟩ | ⟨g1, _⟩ | ⟨g1, _⟩ | ⟨g1, _⟩ | ⟨g1, _⟩ | ⟨g1, _⟩ | ⟨g1, _⟩ | ⟨g1, k, k2, k3, c, P, e1, e2⟩ | ⟨g1, k, _⟩ | ⟨g1, k, k2, _⟩ | ⟨g1, k, k2, _⟩ | ⟨g1, k, k2, _⟩ | ⟨g1, k, k2, _⟩
          all_goals first | omega | skip
          exact w ⟨k3, c, P⟩
      · rintro ⟨p', new, t⟩
        rcases t with ⟨g1, _⟩ | ⟨g1, _⟩ | ⟨g1, _⟩ | ⟨g1, _⟩ | ⟨g1, _⟩ | ⟨g1, _⟩ | ⟨g1, _⟩ | ⟨g1, _⟩ | ⟨g1, _⟩ | ⟨g1, k, k2, k3, c, P, e1, e2⟩ | ⟨g1, k, _⟩ | ⟨g1, k, k2, _⟩ | ⟨g1, k, k2, _⟩ | ⟨g1, k, k2, _⟩ | ⟨g1, k, k2, _⟩ <;> omega
    · rintro ⟨p', new, t⟩
      rcases t with ⟨g1, _⟩ | ⟨g1, _⟩ | ⟨g1, _⟩ | ⟨g1, _⟩ | ⟨g1, _⟩ | ⟨g1, _⟩ | ⟨g1, _⟩ | ⟨g1, _⟩ | ⟨g1, _⟩ | ⟨g1, k, k2, k3, c, P, e1, e2⟩ | ⟨g1, k, _⟩ | ⟨g1, k, k2, _⟩ | ⟨g1, k, k2, _⟩ | ⟨g1, k, k2, _⟩ | ⟨g1, k, k2, _⟩ <;> omega
  · have eg : g = 1 := by omega
    subst eg
    exact ye_expr (x := x) (st := st) H hp R (by omega) (fun p' new us' gk' ga' gb' t r u => ⟨rfl, h1 p' new us' gk' ga' gb' t r u⟩) (fun w gs' po' gk' ga' gb' => ⟨rfl, h0 w gs' po' gk' ga' gb'⟩)
end
