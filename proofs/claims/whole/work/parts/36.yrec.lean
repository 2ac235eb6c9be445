section
variable {yli yn ypr ygs ypo yhp yfs yvp yfu ysp ymd yac yst yrt ycu yhv : Int32} {ytk ytv yus ygk yga ygb yck yca ycb ycc yfp yfe yfS yfn yfb yvs yds : Nat → Int32} {ynk yna ynb ync : Nat} {n : Nat}
/-! LETREC -/
theorem yR_cL (H : tk_ok ytk n) {y q k hp : Nat} {e0 : Int32} (hk : k ≤ 4) (lc : ls_C (tk_K ytk n) (sk_f (tk_K ytk n) n) (q + 3) k) (hk1 : ∀ i, i < k → tk_K ytk n (it_f (sk_f (tk_K ytk n) n) i (q + 3)) = 1 ∧ it_f (sk_f (tk_K ytk n) n) i (q + 3) + 1 < n) (hh : hp + k ≤ 50000) {Q : Int32 → SY → Prop}
    (h : ∀ ck' ca' cb' cC', yc_S yck yca ycb ycc (fun i => ytv (it_f (sk_f (tk_K ytk n) n) i (q + 3) + 1)) (fun _ => 0) e0 hp k ck' ca' cb' cC' → wY_stepLetrec_114 Q (nI y) (hb_e e0 hp k) yli (nI n) ypr ygs ypo (nI (hp + k)) yfs yvp yfu ysp ymd yac yst yrt ycu yhv ytk ytv yus ygk yga ygb ck' ca' cb' cC' yfp yfe yfS yfn yfb yvs yds 50000 50000 50000 50000) :
    ∀ d j (ck' ca' cb' cC' : Nat → Int32), j + d = k → yc_S yck yca ycb ycc (fun i => ytv (it_f (sk_f (tk_K ytk n) n) i (q + 3) + 1)) (fun _ => 0) e0 hp j ck' ca' cb' cC' → wY_stepLetrec_64 Q (nI y) (d + 1) (hb_e e0 hp j) (nI (it_f (sk_f (tk_K ytk n) n) j (q + 3))) (nI j) yli (nI n) ypr ygs ypo (nI (hp + j)) yfs yvp yfu ysp ymd yac yst yrt ycu yhv ytk ytv yus ygk yga ygb ck' ca' cb' cC' yfp yfe yfS yfn yfb yvs yds 50000 50000 50000 50000 := by
  have H1 := H.1
  have bd := ls_bd (K := (tk_K ytk n)) (n := n) (fun i => tk_0) lc
  intro d
  induction d with
  | zero =>
    intro j ck' ca' cb' cC' e S
    have ej : j = k := by omega
    subst ej
    have hx := (bd.1 j (Nat.le_refl _)).1
    have kx := lc.2
    exact pk_le 4 j (fun _ => h ck' ca' cb' cC' S) (fun _ => yt_t (i := it_f (sk_f (tk_K ytk n) n) j (q + 3)) H (by omega) (pk_eq (tk_K ytk n (it_f (sk_f (tk_K ytk n) n) j (q + 3))) 1 (fun z => by omega) (fun _ => h ck' ca' cb' cC' S)))
  | succ d ih =>
    intro j ck' ca' cb' cC' e S
    have hx := (bd.1 j (by omega)).1
    have kx := hk1 j (by omega)
    refine pk_le 4 j (fun z => by omega) (fun _ => yt_t (i := it_f (sk_f (tk_K ytk n) n) j (q + 3)) H (by omega) (pk_eq (tk_K ytk n (it_f (sk_f (tk_K ytk n) n) j (q + 3))) 1 (fun _ => ?_) (fun z => absurd kx.1 z)))
    rw [nI_1 (it_f (sk_f (tk_K ytk n) n) j (q + 3))]
    refine yt_v (i := it_f (sk_f (tk_K ytk n) n) j (q + 3) + 1) H kx.2 ?_
    refine yr_al (yck := ck') (yca := ca') (ycb := cb') (ycc := cC') (hp := hp + j) (by omega) ?_
    refine yk_skip (i := it_f (sk_f (tk_K ytk n) n) j (q + 3)) H (by omega) (nm_r (nI_1 j) ?_)
    rw [← it_s (sk_f (tk_K ytk n) n) j (q + 3)]
    exact ih (j + 1) _ _ _ _ (by omega) (yc_up S rfl rfl)
theorem yR_0 (H : tk_ok ytk n) {y q k hp : Nat} (hy : y < 512) (hS : yfS y = 0) (hP : yfp y = nI q) (hk : k ≤ 4) (lc : ls_C (tk_K ytk n) (sk_f (tk_K ytk n) n) (q + 3) k) (hk1 : ∀ i, i < k → tk_K ytk n (it_f (sk_f (tk_K ytk n) n) i (q + 3)) = 1 ∧ it_f (sk_f (tk_K ytk n) n) i (q + 3) + 1 < n) (hh : hp + k ≤ 50000) {Q : Int32 → SY → Prop}
    (h : ∀ ck' ca' cb' cC', yc_S yck yca ycb ycc (fun i => ytv (it_f (sk_f (tk_K ytk n) n) i (q + 3) + 1)) (fun _ => 0) (yfe y) hp k ck' ca' cb' cC' → Q 0 (yli, nI n, ypr, ygs, ypo, nI (hp + k), yfs, yvp, yfu, ysp, ymd, yac, yst, yrt, ycu, yhv, ytk, ytv, yus, ygk, yga, ygb, ck', ca', cb', cC', yfp, upd yfe y (hb_e (yfe y) hp k), upd yfS y 1, yfn, yfb, yvs, yds, 50000, 50000, 50000, 50000)) : wpY_stepLetrec Q (yli, nI n, ypr, ygs, ypo, nI hp, yfs, yvp, yfu, ysp, ymd, yac, yst, yrt, ycu, yhv, ytk, ytv, yus, ygk, yga, ygb, yck, yca, ycb, ycc, yfp, yfe, yfS, yfn, yfb, yvs, yds, 50000, 50000, 50000, 50000) (nI y) := by
  have hi : vp_in (nI y) 512 := vp_in_nI hy (by omega)
  have hc : (nI y).toNatClampNeg = y := nI_clamp (by omega)
  refine ⟨hi, nm_e ⟨hi, br_f (by rw [hc, hS]; decide) ⟨hi, br_t (by rw [hc]; exact hS) ⟨hi, nm_r (show yfe (nI y).toNatClampNeg = yfe y from by rw [hc]) ⟨hi, nm_r (show yfp (nI y).toNatClampNeg + 3 = nI (q + 3) from by rw [hc, hP, ni_3]) ⟨k + 1, ?_⟩⟩⟩⟩⟩⟩
  exact yR_cL H hk lc hk1 hh (fun ck' ca' cb' cC' S => ⟨hi, nm_r (by rw [hc]) ⟨hi, nm_r (by rw [hc]) (h ck' ca' cb' cC' S)⟩⟩) k 0 yck yca ycb ycc (by omega) yc_0
theorem yR_n (H : tk_ok ytk n) {y p : Nat} (hy : y < 512) (hS : yfS y = 1) (hN : yfn y = nI p) (hp : p < n) (kp : tk_K ytk n p = 1) {Q : Int32 → SY → Prop} (h : wpY_req Q (yli, nI n, ypr, ygs, ypo, yhp, yfs, yvp, yfu, ysp, ymd, yac, yst, yrt, ycu, yhv, ytk, ytv, yus, ygk, yga, ygb, yck, yca, ycb, ycc, yfp, yfe, yfS, upd yfn y (nI (sk_f (tk_K ytk n) n p)), yfb, yvs, yds, ynk, yna, ynb, ync) (nI (p + 2)) (yfe y)) : wpY_stepLetrec Q (yli, nI n, ypr, ygs, ypo, yhp, yfs, yvp, yfu, ysp, ymd, yac, yst, yrt, ycu, yhv, ytk, ytv, yus, ygk, yga, ygb, yck, yca, ycb, ycc, yfp, yfe, yfS, yfn, yfb, yvs, yds, ynk, yna, ynb, ync) (nI y) := by
  have H1 := H.1
  have hi : vp_in (nI y) 512 := vp_in_nI hy (by omega)
  have hc : (nI y).toNatClampNeg = y := nI_clamp (by omega)
  refine ⟨hi, nm_e ⟨hi, br_f (by rw [hc, hS]; decide) ⟨hi, br_f (by rw [hc, hS]; decide) ⟨hi, nm_r (show yfn (nI y).toNatClampNeg = nI p from by rw [hc]; exact hN) ?_⟩⟩⟩⟩
  refine yt_t (i := p) H (by omega) (pk_eq (tk_K ytk n p) 1 (fun _ => ?_) (fun z => absurd kp z))
  refine yk_skip (i := p) H (by omega) ⟨hi, nm_r (by rw [hc]) ⟨hi, ?_⟩⟩
  rw [hc, ni_2 p]
  exact h
theorem yR_fL (H : tk_ok ytk n) {y q b k h0 : Nat} {x3 : Int32} (hy : y < 512) (hk : k ≤ 4) (lc : ls_C (tk_K ytk n) (sk_f (tk_K ytk n) n) (q + 3) k) (hk1 : ∀ i, i < k → tk_K ytk n (it_f (sk_f (tk_K ytk n) n) i (q + 3)) = 1 ∧ it_f (sk_f (tk_K ytk n) n) i (q + 3) + 1 < n) (hh : h0 + k ≤ 50000) (hb : b + k ≤ 1024) (hw : ∀ i, i < k → ∃ d, d < 50000 ∧ yh_W yca ycc (ytv (it_f (sk_f (tk_K ytk n) n) i (q + 3) + 1)) d (yfe y) (h0 + i)) {Q : Int32 → SY → Prop}
    (h : ∀ cb', (∀ i, i < k → cb' (h0 + i) = yvs (b + i)) → (∀ c, (∀ i, i < k → c ≠ h0 + i) → cb' c = ycb c) → wY_stepLetrec_258 Q (nI y) (nI b) x3 yli (nI n) ypr ygs ypo yhp yfs yvp yfu ysp ymd yac yst yrt ycu yhv ytk ytv yus ygk yga ygb yck yca cb' ycc yfp yfe yfS yfn yfb yvs yds ynk 50000 50000 50000) :
    ∀ d j (cb' : Nat → Int32), j + d = k → (∀ i, i < j → cb' (h0 + i) = yvs (b + i)) → (∀ c, (∀ i, i < j → c ≠ h0 + i) → cb' c = ycb c) → wY_stepLetrec_184 Q (nI y) (nI b) x3 yli (nI n) ypr ygs ypo yhp yfs yvp yfu ysp ymd yac yst yrt ycu yhv ynk 50000 50000 50000 (d + 1) (nI (it_f (sk_f (tk_K ytk n) n) j (q + 3))) (nI j) ytk ytv yus ygk yga ygb yck yca cb' ycc yfp yfe yfS yfn yfb yvs yds := by
  have H1 := H.1
  have bd := ls_bd (K := (tk_K ytk n)) (n := n) (fun i => tk_0) lc
  have hi : vp_in (nI y) 512 := vp_in_nI hy (by omega)
  have hc : (nI y).toNatClampNeg = y := nI_clamp (by omega)
  intro d
  induction d with
  | zero =>
    intro j cb' e s1 s2
    have ej : j = k := by omega
    subst ej
    have hx := (bd.1 j (Nat.le_refl _)).1
    have kx := lc.2
    exact pk_le 4 j (fun _ => h cb' s1 s2) (fun _ => yt_t (i := it_f (sk_f (tk_K ytk n) n) j (q + 3)) H (by omega) (pk_eq (tk_K ytk n (it_f (sk_f (tk_K ytk n) n) j (q + 3))) 1 (fun z => by omega) (fun _ => h cb' s1 s2)))
  | succ d ih =>
    intro j cb' e s1 s2
    have hx := (bd.1 j (by omega)).1
    have kx := hk1 j (by omega)
    obtain ⟨dw, dl, w⟩ := hw j (by omega)
    have hcl : (nI (h0 + j)).toNatClampNeg = h0 + j := nI_clamp (by omega)
    refine pk_le 4 j (fun z => by omega) (fun _ => yt_t (i := it_f (sk_f (tk_K ytk n) n) j (q + 3)) H (by omega) (pk_eq (tk_K ytk n (it_f (sk_f (tk_K ytk n) n) j (q + 3))) 1 (fun _ => ?_) (fun z => absurd kx.1 z)))
    rw [nI_1 (it_f (sk_f (tk_K ytk n) n) j (q + 3)), nI_add b j]
    refine yt_v (i := it_f (sk_f (tk_K ytk n) n) j (q + 3) + 1) H kx.2 ⟨hi, ?_⟩
    rw [hc]
    refine yr_cell (ycb := cb') dl w (br_f (nI_pos (by omega)) (yr_vat (i := b + j) (by omega) ⟨vp_in_nI (by omega) (by omega), fun cb2 e2 => ?_⟩))
    rw [hcl] at e2
    refine yk_skip (i := it_f (sk_f (tk_K ytk n) n) j (q + 3)) H (by omega) (nm_r (nI_1 j) ?_)
    rw [← it_s (sk_f (tk_K ytk n) n) j (q + 3)]
    refine ih (j + 1) cb2 (by omega) (fun i hi' => ?_) (fun c hc' => ?_)
    · rw [e2]
      by_cases z : i = j
      · rw [z]; exact pk_us
      · rw [pk_un (by omega)]; exact s1 i (by omega)
    · rw [e2, pk_un (hc' j (by omega))]
      exact s2 c (fun i hi' => hc' i (by omega))
theorem yR_b (H : tk_ok ytk n) {y q b k h0 : Nat} (hy : y < 512) (hS : yfS y = 1) (hP : yfp y = nI q) (hB : yfb y = nI b) (hk : k ≤ 4) (lc : ls_C (tk_K ytk n) (sk_f (tk_K ytk n) n) (q + 3) k) (hN : yfn y = nI (it_f (sk_f (tk_K ytk n) n) k (q + 3))) (hk1 : ∀ i, i < k → tk_K ytk n (it_f (sk_f (tk_K ytk n) n) i (q + 3)) = 1 ∧ it_f (sk_f (tk_K ytk n) n) i (q + 3) + 1 < n) (hh : h0 + k ≤ 50000) (hb : b + k ≤ 1024) (hw : ∀ i, i < k → ∃ d, d < 50000 ∧ yh_W yca ycc (ytv (it_f (sk_f (tk_K ytk n) n) i (q + 3) + 1)) d (yfe y) (h0 + i)) {Q : Int32 → SY → Prop}
    (h : ∀ cb', (∀ i, i < k → cb' (h0 + i) = yvs (b + i)) → (∀ c, (∀ i, i < k → c ≠ h0 + i) → cb' c = ycb c) → wpY_req Q (yli, nI n, ypr, ygs, ypo, yhp, yfs, nI b, yfu, ysp, ymd, yac, yst, yrt, ycu, yhv, ytk, ytv, yus, ygk, yga, ygb, yck, yca, cb', ycc, yfp, yfe, upd yfS y 2, yfn, yfb, yvs, yds, ynk, 50000, 50000, 50000) (nI (it_f (sk_f (tk_K ytk n) n) k (q + 3) + 1)) (yfe y)) : wpY_stepLetrec Q (yli, nI n, ypr, ygs, ypo, yhp, yfs, yvp, yfu, ysp, ymd, yac, yst, yrt, ycu, yhv, ytk, ytv, yus, ygk, yga, ygb, yck, yca, ycb, ycc, yfp, yfe, yfS, yfn, yfb, yvs, yds, ynk, 50000, 50000, 50000) (nI y) := by
  have H1 := H.1
  have bd := ls_bd (K := (tk_K ytk n)) (n := n) (fun i => tk_0) lc
  have hi : vp_in (nI y) 512 := vp_in_nI hy (by omega)
  have hc : (nI y).toNatClampNeg = y := nI_clamp (by omega)
  have hx := (bd.1 k (Nat.le_refl _)).1
  have kx := lc.2
  refine ⟨hi, nm_r (show yfb (nI y).toNatClampNeg = nI b from by rw [hc]; exact hB) ⟨hi, br_f (by rw [hc, hS]; decide) ⟨hi, br_f (by rw [hc, hS]; decide) ⟨hi, nm_r (show yfn (nI y).toNatClampNeg = nI (it_f (sk_f (tk_K ytk n) n) k (q + 3)) from by rw [hc]; exact hN) ?_⟩⟩⟩⟩
  refine yt_t (i := it_f (sk_f (tk_K ytk n) n) k (q + 3)) H (by omega) (pk_eq (tk_K ytk n (it_f (sk_f (tk_K ytk n) n) k (q + 3))) 1 (fun z => by omega) (fun _ => ⟨hi, nm_r (show yfp (nI y).toNatClampNeg + 3 = nI (q + 3) from by rw [hc, hP, ni_3]) ⟨k + 1, ?_⟩⟩))
  refine yR_fL H hy hk lc hk1 hh hb hw (fun cb' s1 s2 => ⟨hi, nm_r (by rw [hc]) ⟨hi, ?_⟩⟩) k 0 ycb (by omega) (fun i hi => by omega) (fun c _ => rfl)
  rw [hc, nI_1 (it_f (sk_f (tk_K ytk n) n) k (q + 3))]
  exact h cb' s1 s2
theorem yR_p {y b : Nat} (hy : y < 512) (hS : yfS y = 2) (hB : yfb y = nI b) (hb : b < 1023) {Q : Int32 → SY → Prop} (h : Q 0 (yli, yn, ypr, ygs, ypo, yhp, nI y, nI (b + 1), yfu, ysp, ymd, yac, yst, yrt, ycu, yhv, ytk, ytv, yus, ygk, yga, ygb, yck, yca, ycb, ycc, yfp, yfe, yfS, yfn, yfb, upd yvs b (yvs b), yds, ynk, yna, ynb, ync)) : wpY_stepLetrec Q (yli, yn, ypr, ygs, ypo, yhp, yfs, nI (b + 1), yfu, ysp, ymd, yac, yst, yrt, ycu, yhv, ytk, ytv, yus, ygk, yga, ygb, yck, yca, ycb, ycc, yfp, yfe, yfS, yfn, yfb, yvs, yds, ynk, yna, ynb, ync) (nI y) := by
  have hi : vp_in (nI y) 512 := vp_in_nI hy (by omega)
  have hc : (nI y).toNatClampNeg = y := nI_clamp (by omega)
  refine ⟨hi, nm_e ⟨hi, br_t (by rw [hc]; exact hS) ?_⟩⟩
  rw [nI_pred b]
  exact yr_vat (i := b) (by omega) (yr_done hy (by omega) hB h)
/-! operators -/
theorem yO_sel {y h' : Nat} (hh : 11 ≤ h' ∧ h' ≤ 20) {Q : Int32 → SY → Prop} (h : wY_stepOp_23 Q (nI y) (nI h') (nI (gr_n h')) yli yn ypr ygs ypo yhp yfs yvp yfu ysp ymd yac yst yrt ycu yhv ytk ytv yus ygk yga ygb yck yca ycb ycc yfp yfe yfS yfn yfb yvs yds ynk yna ynb ync) : wpY_stepOp Q (yli, yn, ypr, ygs, ypo, yhp, yfs, yvp, yfu, ysp, ymd, yac, yst, yrt, ycu, yhv, ytk, ytv, yus, ygk, yga, ygb, yck, yca, ycb, ycc, yfp, yfe, yfS, yfn, yfb, yvs, yds, ynk, yna, ynb, ync) (nI y) (nI h') := by
  have e1 : (h' = 12 ∨ h' = 13 ∨ h' = 14) → gr_n h' = 1 := fun z => by unfold gr_n; rw [if_neg (by omega), if_pos z]
  have e2 : ¬ (h' = 12 ∨ h' = 13 ∨ h' = 14) → gr_n h' = 2 := fun z => by unfold gr_n; rw [if_neg (by omega), if_neg z]
  refine pk_eq h' 12 (fun z => ?_) (fun z12 => pk_eq h' 13 (fun z => ?_) (fun z13 => pk_eq h' 14 (fun z => ?_) (fun z14 => ?_)))
  · rw [e1 (by omega)] at h; exact h
  · rw [e1 (by omega)] at h; exact h
  · rw [e1 (by omega)] at h; exact h
  · rw [e2 (by omega)] at h; exact h
theorem yO_n (H : tk_ok ytk n) {y p k h' m : Nat} (hy : y < 512) (hk : k < m) (hm : m ≤ 3) (hS : yfS y = nI k) (hN : yfn y = nI p) (hp : p < n) {Q : Int32 → SY → Prop} (h : wpY_req Q (yli, nI n, ypr, ygs, ypo, yhp, yfs, yvp, yfu, ysp, ymd, yac, yst, yrt, ycu, yhv, ytk, ytv, yus, ygk, yga, ygb, yck, yca, ycb, ycc, yfp, yfe, upd yfS y (nI (k + 1)), upd yfn y (nI (sk_f (tk_K ytk n) n p)), yfb, yvs, yds, ynk, yna, ynb, ync) (nI p) (yfe y)) : wY_stepOp_23 Q (nI y) (nI h') (nI m) yli (nI n) ypr ygs ypo yhp yfs yvp yfu ysp ymd yac yst yrt ycu yhv ytk ytv yus ygk yga ygb yck yca ycb ycc yfp yfe yfS yfn yfb yvs yds ynk yna ynb ync := by
  have H1 := H.1
  have hi : vp_in (nI y) 512 := vp_in_nI hy (by omega)
  have hc : (nI y).toNatClampNeg = y := nI_clamp (by omega)
  refine ⟨hi, ?_⟩
  rw [hc, hS]
  refine pk_le m k (fun z => by omega) (fun _ => ⟨hi, nm_r hN (yk_skip (i := p) H (by omega) ⟨hi, nm_e ⟨hi, hi, nm_r (by rw [nI_1]) ⟨hi, h⟩⟩⟩)⟩)
end
