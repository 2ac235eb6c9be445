section
variable {yli yn ypr ygs ypo yhp yfs yvp yfu ysp ymd yac yst yrt ycu yhv : Int32} {ytk ytv yus ygk yga ygb yck yca ycb ycc yfp yfe yfS yfn yfb yvs yds : Nat → Int32} {ynk yna ynb ync : Nat} {n : Nat}
theorem ye_33 (H : tk_ok ytk n) {S : List (Nat × Nat × Nat)} {p x st : Nat} (hp : p < n) (R : ys_R ygk yga ygb S) {post : Int32 → SY → Prop}
    (h1 : ∀ p' new us' gk' ga' gb', pm_T (tk_K ytk n) ytv (sk_f (tk_K ytk n) n) p 1 x st p' new → ys_R gk' ga' gb' (new ++ S) → yu_S (tk_K ytk n) p 1 yus us' → post 1 (yli, nI n, ypr, nI (new ++ S).length, nI p', yhp, yfs, yvp, yfu, ysp, ymd, yac, yst, yrt, ycu, yhv, ytk, ytv, us', gk', ga', gb', yck, yca, ycb, ycc, yfp, yfe, yfS, yfn, yfb, yvs, yds, ynk, yna, ynb, ync))
    (k : tk_K ytk n p = 3 ∨ tk_K ytk n p = 4 ∨ tk_K ytk n p = 5) : wY_expr_15 post (nI (tk_K ytk n p)) yli (nI n) ypr (nI S.length) (nI p) yhp yfs yvp yfu ysp ymd yac yst yrt ycu yhv ytk ytv yus ygk yga ygb yck yca ycb ycc yfp yfe yfS yfn yfb yvs yds ynk yna ynb ync := by
  have H1 := H.1
  have hc : (nI p).toNatClampNeg = p := nI_clamp (by omega)
  have T : pm_T (tk_K ytk n) ytv (sk_f (tk_K ytk n) n) p 1 x st (p + 1) [] := Or.inr (Or.inr (Or.inr (Or.inr (Or.inr (Or.inr (Or.inr (Or.inr (Or.inr (Or.inr (Or.inl ⟨rfl, k, rfl, rfl⟩))))))))))
  refine pk_eq (tk_K ytk n p) 4 (fun k4 => ⟨tk_in H hp, fun us' eu => nm_r (nI_1 p) (h1 (p + 1) [] us' _ _ _ T R ⟨fun _ => ⟨?_, fun q hq => ?_⟩, fun z => absurd ⟨rfl, k⟩ z⟩)⟩) (fun k4 => ⟨tk_in H hp, fun us' eu => nm_r (nI_1 p) (h1 (p + 1) [] us' _ _ _ T R ⟨fun _ => ⟨?_, fun q hq => ?_⟩, fun z => absurd ⟨rfl, k⟩ z⟩)⟩)
  · rw [eu, hc, pk_us, if_pos k4]; exact yb_nar1
  · rw [eu, hc, pk_un hq]
  · rw [eu, hc, pk_us, if_neg k4]; exact yb_nar0
  · rw [eu, hc, pk_un hq]
theorem ye_expr (H : tk_ok ytk n) {S : List (Nat × Nat × Nat)} {p x st : Nat} (hp : p < n) (R : ys_R ygk yga ygb S) (hS : S.length + 5 ≤ 256) {post : Int32 → SY → Prop}
    (h1 : ∀ p' new us' gk' ga' gb', pm_T (tk_K ytk n) ytv (sk_f (tk_K ytk n) n) p 1 x st p' new → ys_R gk' ga' gb' (new ++ S) → yu_S (tk_K ytk n) p 1 yus us' → post 1 (yli, nI n, ypr, nI (new ++ S).length, nI p', yhp, yfs, yvp, yfu, ysp, ymd, yac, yst, yrt, ycu, yhv, ytk, ytv, us', gk', ga', gb', yck, yca, ycb, ycc, yfp, yfe, yfS, yfn, yfb, yvs, yds, ynk, yna, ynb, ync))
    (h0 : (¬ ∃ p' new, pm_T (tk_K ytk n) ytv (sk_f (tk_K ytk n) n) p 1 x st p' new) → ∀ gs' po' gk' ga' gb', post 0 (yli, nI n, ypr, gs', po', yhp, yfs, yvp, yfu, ysp, ymd, yac, yst, yrt, ycu, yhv, ytk, ytv, yus, gk', ga', gb', yck, yca, ycb, ycc, yfp, yfe, yfS, yfn, yfb, yvs, yds, ynk, yna, ynb, ync)) : wpY_expr post (yli, nI n, ypr, nI S.length, nI p, yhp, yfs, yvp, yfu, ysp, ymd, yac, yst, yrt, ycu, yhv, ytk, ytv, yus, ygk, yga, ygb, yck, yca, ycb, ycc, yfp, yfe, yfS, yfn, yfb, yvs, yds, ynk, yna, ynb, ync) (nI (tk_K ytk n p)) := by
  have H1 := H.1
  have k20 := tk_20 H p
  have k21 := tk_20 H (p + 1)
  have keep : tk_K ytk n p = 1 → yu_S (tk_K ytk n) p 1 yus yus := fun k => ⟨fun z => by omega, fun _ => rfl⟩
  unfold wpY_expr
  dsimp only
  refine pk_eq (tk_K ytk n p) 3 (fun k => ye_33 H hp R h1 (by omega)) (fun k3 => pk_eq (tk_K ytk n p) 5 (fun k => ye_33 H hp R h1 (by omega)) (fun k5 => pk_eq (tk_K ytk n p) 4 (fun k => ye_33 H hp R h1 (by omega)) (fun k4 => pk_eq (tk_K ytk n p) 1 (fun k1 => ?_) (fun k1 => h0 ?_ _ _ _ _ _))))
  · rw [nI_1 p]
    refine yt_t (i := p + 1) H (by omega) (pk_eq (tk_K ytk n (p + 1)) 7 (fun k7 => ?_) (fun k7 => ?_))
    · refine yl_lam H hp R (by omega) (fun c gk' ga' gb' k P R' => ⟨rfl, ?_⟩) (fun w => ⟨rfl, h0 ?_ _ _ _ _ _⟩)
      · exact h1 (p + 4 + c) [(1, 0, 0), (4, 0, 0)] yus gk' ga' gb' (Or.inr (Or.inr (Or.inr (Or.inr (Or.inr (Or.inr (Or.inr (Or.inr (Or.inr (Or.inl ⟨Or.inr rfl, k1, k7, k, c, P, rfl, rfl⟩)))))))))) R' (keep k1)
      · rintro ⟨p', new, t⟩
        rcases t with ⟨g1, _⟩ | ⟨g1, _⟩ | ⟨g1, _⟩ | ⟨g1, _⟩ | ⟨g1, _⟩ | ⟨g1, _⟩ | ⟨g1, _⟩ | ⟨g1, _⟩ | ⟨g1, _⟩ | ⟨g1, k, k2, k3, c, P, e1, e2⟩ | ⟨g1, k, _⟩ | ⟨g1, k, k2, _⟩ | ⟨g1, k, k2, _⟩ | ⟨g1, k, k2, _⟩ | ⟨g1, k, k2, _⟩
        all_goals first | omega | skip
        exact w ⟨k3, c, P⟩
    · refine yg_goal (S := S) 4 0 0 (by omega) R (by omega) (fun gk1 ga1 gb1 R1 => ?_)
      have f94 : (tk_K ytk n (p + 1) = 8 ∨ tk_K ytk n (p + 1) = 9) → wY_expr_94 post (nI (tk_K ytk n (p + 1))) yli (nI n) ypr (nI (S.length + 1)) (nI p) yhp yfs yvp yfu ysp ymd yac yst yrt ycu yhv ytk ytv yus gk1 ga1 gb1 yck yca ycb ycc yfp yfe yfS yfn yfb yvs yds ynk yna ynb ync := by
        intro k8
        have f114 : ∀ gk2 ga2 gb2, ys_R gk2 ga2 gb2 ((1, 0, 0) :: (4, 0, 0) :: S) → wY_expr_114 post (nI (tk_K ytk n (p + 1) - 3)) yli (nI n) ypr (nI (S.length + 2)) (nI p) yhp yfs yvp yfu ysp ymd yac yst yrt ycu yhv ytk ytv yus gk2 ga2 gb2 yck yca ycb ycc yfp yfe yfS yfn yfb yvs yds ynk yna ynb ync := by
          intro gk2 ga2 gb2 R2
          have : wpY_goal (fun u => match u with | (yli, yn, ypr, ygs, ypo, yhp, yfs, yvp, yfu, ysp, ymd, yac, yst, yrt, ycu, yhv, ytk, ytv, yus, ygk, yga, ygb, yck, yca, ycb, ycc, yfp, yfe, yfS, yfn, yfb, yvs, yds, ynk, yna, ynb, ync) => (∀ f_pos_164 : Int32, f_pos_164 = ypo + 3 → (wpY_t (fun r_165 => (((r_165 = 1 → (post 1 (yli, yn, ypr, ygs, f_pos_164, yhp, yfs, yvp, yfu, ysp, ymd, yac, yst, yrt, ycu, yhv, ytk, ytv, yus, ygk, yga, ygb, yck, yca, ycb, ycc, yfp, yfe, yfS, yfn, yfb, yvs, yds, ynk, yna, ynb, ync))) ∧ (¬ r_165 = 1 → (post 0 (yli, yn, ypr, ygs, f_pos_164, yhp, yfs, yvp, yfu, ysp, ymd, yac, yst, yrt, ycu, yhv, ytk, ytv, yus, ygk, yga, ygb, yck, yca, ycb, ycc, yfp, yfe, yfS, yfn, yfb, yvs, yds, ynk, yna, ynb, ync)))))) (yli, yn, ypr, ygs, f_pos_164, yhp, yfs, yvp, yfu, ysp, ymd, yac, yst, yrt, ycu, yhv, ytk, ytv, yus, ygk, yga, ygb, yck, yca, ycb, ycc, yfp, yfe, yfS, yfn, yfb, yvs, yds, ynk, yna, ynb, ync) (f_pos_164 - 1)))) (yli, nI n, ypr, nI (S.length + 2), nI p, yhp, yfs, yvp, yfu, ysp, ymd, yac, yst, yrt, ycu, yhv, ytk, ytv, yus, gk2, ga2, gb2, yck, yca, ycb, ycc, yfp, yfe, yfS, yfn, yfb, yvs, yds, ynk, yna, ynb, ync) (nI (tk_K ytk n (p + 1) - 3)) (nI 0) (nI (p + 2)) := by
            refine yg_goal (ygk := gk2) (yga := ga2) (ygb := gb2) (S := (1, 0, 0) :: (4, 0, 0) :: S) (tk_K ytk n (p + 1) - 3) 0 (p + 2) (by simp; omega) R2 (by omega) (fun gk3 ga3 gb3 R3 => nm_r (ni_3 p) ?_)
            rw [ni_m (a := p + 3) (by omega), show p + 3 - 1 = p + 2 from by omega]
            have k22 := tk_20 H (p + 2)
            refine yt_t (i := p + 2) H (by omega) (pk_eq (tk_K ytk n (p + 2)) 1 (fun k2 => ?_) (fun k2 => h0 ?_ _ _ _ _ _))
            · exact h1 (p + 3) [(tk_K ytk n (p + 1) - 3, 0, p + 2), (1, 0, 0), (4, 0, 0)] yus gk3 ga3 gb3 (Or.inr (Or.inr (Or.inr (Or.inr (Or.inr (Or.inr (Or.inr (Or.inr (Or.inr (Or.inr (Or.inr (Or.inl ⟨rfl, k1, k8, k2, rfl, rfl⟩)))))))))))) R3 (keep k1)
            · rintro ⟨p', new, t⟩
              rcases t with ⟨g1, _⟩ | ⟨g1, _⟩ | ⟨g1, _⟩ | ⟨g1, _⟩ | ⟨g1, _⟩ | ⟨g1, _⟩ | ⟨g1, _⟩ | ⟨g1, _⟩ | ⟨g1, _⟩ | ⟨g1, k, k3, _⟩ | ⟨g1, k, _⟩ | ⟨g1, k, k3, k4, _⟩ | ⟨g1, k, k3, _⟩ | ⟨g1, k, k3, _⟩ | ⟨g1, k, k3, _⟩ <;> omega
          rw [← ni_2 p] at this
          exact this
        refine yg_goal (ygk := gk1) (yga := ga1) (ygb := gb1) (S := (4, 0, 0) :: S) 1 0 0 (by simp; omega) R1 (by omega) (fun gk2 ga2 gb2 R2 => ?_)
        refine pk_eq (tk_K ytk n (p + 1)) 8 (fun z => ?_) (fun z => ?_)
        · have := f114 gk2 ga2 gb2 R2
          rw [z] at this; exact this
        · have := f114 gk2 ga2 gb2 R2
          rw [show tk_K ytk n (p + 1) = 9 from by omega] at this; exact this
      refine pk_eq (tk_K ytk n (p + 1)) 8 (fun k8 => f94 (Or.inl k8)) (fun k8 => pk_eq (tk_K ytk n (p + 1)) 9 (fun k9 => f94 (Or.inr k9)) (fun k9 => pk_lt (tk_K ytk n (p + 1)) 6 (fun k6 => nm_r (nI_1 p) ?_) (fun k6 => pk_le (tk_K ytk n (p + 1)) 20 (fun _ => nm_r (ni_2 p) ?_) (fun z => by omega))))
      · refine yg_goal (ygk := gk1) (yga := ga1) (ygb := gb1) (S := (4, 0, 0) :: S) 8 0 0 (by simp; omega) R1 (by omega) (fun gk2 ga2 gb2 R2 => ?_)
        refine yg_goal (ygk := gk2) (yga := ga2) (ygb := gb2) (S := (8, 0, 0) :: (4, 0, 0) :: S) 1 0 0 (by simp; omega) R2 (by omega) (fun gk3 ga3 gb3 R3 => ?_)
        exact h1 (p + 1) [(1, 0, 0), (8, 0, 0), (4, 0, 0)] yus gk3 ga3 gb3 (Or.inr (Or.inr (Or.inr (Or.inr (Or.inr (Or.inr (Or.inr (Or.inr (Or.inr (Or.inr (Or.inr (Or.inr (Or.inl ⟨rfl, k1, k6, rfl, rfl⟩))))))))))))) R3 (keep k1)
      · have ops : ∀ m, gr_n (tk_K ytk n (p + 1)) = m → 10 ≤ tk_K ytk n (p + 1) → ∃ n255 : Nat, wY_expr_255 post (nI m) n255 0 yli (nI n) ypr (nI (S.length + 1)) (nI (p + 2)) yhp yfs yvp yfu ysp ymd yac yst yrt ycu yhv ytk ytv yus gk1 ga1 gb1 yck yca ycb ycc yfp yfe yfS yfn yfb yvs yds ynk yna ynb ync := by
          intro m em k10
          have g13 := gr_n13 (tk_K ytk n (p + 1))
          refine ⟨m + 1, ?_⟩
          have : wY_expr_255 post (nI m) (m + 1) (nI 0) yli (nI n) ypr (nI (0 + ((4, 0, 0) :: S : List (Nat × Nat × Nat)).length)) (nI (p + 2)) yhp yfs yvp yfu ysp ymd yac yst yrt ycu yhv ytk ytv yus gk1 ga1 gb1 yck yca ycb ycc yfp yfe yfS yfn yfb yvs yds ynk yna ynb ync := by
            refine ye_255 (S0 := (4, 0, 0) :: S) (m := m) (by omega) (fun gk2 ga2 gb2 R2 => ?_) (by simp; omega) m 0 gk1 ga1 gb1 (by omega) (by rw [List.replicate_zero]; exact R1)
            have q := h1 (p + 2) (List.replicate m (1, 0, 0) ++ [(4, 0, 0)]) yus gk2 ga2 gb2 (Or.inr (Or.inr (Or.inr (Or.inr (Or.inr (Or.inr (Or.inr (Or.inr (Or.inr (Or.inr (Or.inr (Or.inr (Or.inr (Or.inr ⟨rfl, k1, k10, rfl, by rw [em]⟩)))))))))))))) (by rw [List.append_assoc]; exact R2) (keep k1)
            have el : ((List.replicate m ((1, 0, 0) : Nat × Nat × Nat) ++ [((4, 0, 0) : Nat × Nat × Nat)]) ++ S).length = m + (((4, 0, 0) : Nat × Nat × Nat) :: S).length := by simp
            rw [el] at q
            exact q
          rw [show 0 + ((4, 0, 0) :: S : List (Nat × Nat × Nat)).length = S.length + 1 from by simp] at this
          exact this
        refine pk_eq (tk_K ytk n (p + 1)) 6 (fun z => ?_) (fun z6 => pk_eq (tk_K ytk n (p + 1)) 10 (fun z => ops 3 (by rw [z]; rfl) (by omega)) (fun z10 => pk_eq (tk_K ytk n (p + 1)) 12 (fun z => ops 1 (by rw [z]; rfl) (by omega)) (fun z12 => pk_eq (tk_K ytk n (p + 1)) 13 (fun z => ops 1 (by rw [z]; rfl) (by omega)) (fun z13 => pk_eq (tk_K ytk n (p + 1)) 14 (fun z => ops 1 (by rw [z]; rfl) (by omega)) (fun z14 => ops 2 (by unfold gr_n; rw [if_neg z10, if_neg (by omega)]) (by omega))))))
        refine yg_goal (ygk := gk1) (yga := ga1) (ygb := gb1) (S := (4, 0, 0) :: S) 2 0 0 (by simp; omega) R1 (by omega) (fun gk2 ga2 gb2 R2 => ?_)
        exact h1 (p + 2) [(2, 0, 0), (4, 0, 0)] yus gk2 ga2 gb2 (Or.inr (Or.inr (Or.inr (Or.inr (Or.inr (Or.inr (Or.inr (Or.inr (Or.inr (Or.inr (Or.inr (Or.inr (Or.inr (Or.inl ⟨rfl, k1, z, rfl, rfl⟩)))))))))))))) R2 (keep k1)
  · rintro ⟨p', new, t⟩
    rcases t with ⟨g1, _⟩ | ⟨g1, _⟩ | ⟨g1, _⟩ | ⟨g1, _⟩ | ⟨g1, _⟩ | ⟨g1, _⟩ | ⟨g1, _⟩ | ⟨g1, _⟩ | ⟨g1, _⟩ | ⟨g1, k, _⟩ | ⟨g1, k, _⟩ | ⟨g1, k, _⟩ | ⟨g1, k, _⟩ | ⟨g1, k, _⟩ | ⟨g1, k, _⟩ <;> omega
end
