section
variable {yli yn ypr ygs ypo yhp yfs yvp yfu ysp ymd yac yst yrt ycu yhv : Int32} {ytk ytv yus ygk yga ygb yck yca ycb ycc yfp yfe yfS yfn yfb yvs yds : Nat → Int32} {ynk yna ynb ync : Nat} {n : Nat}
/-! the reference's frames: which step is due -/
theorem yF_dIf (H : tk_ok ytk n) {y q : Nat} (hy : y < 512) (hP : yfp y = nI q) (hq : q < n) (hk : tk_K ytk n (q + 1) = 10) {Q : Int32 → SY → Prop} (h : wpY_stepIf Q (yli, nI n, ypr, ygs, ypo, yhp, nI (y + 1), yvp, yfu, ysp, ymd, yac, yst, yrt, ycu, yhv, ytk, ytv, yus, ygk, yga, ygb, yck, yca, ycb, ycc, yfp, yfe, yfS, yfn, yfb, yvs, yds, ynk, yna, ynb, ync) (nI y)) : wpY_stepFrame Q (yli, nI n, ypr, ygs, ypo, yhp, nI (y + 1), yvp, yfu, ysp, ymd, yac, yst, yrt, ycu, yhv, ytk, ytv, yus, ygk, yga, ygb, yck, yca, ycb, ycc, yfp, yfe, yfS, yfn, yfb, yvs, yds, ynk, yna, ynb, ync) := by
  have H1 := H.1
  have hc : (nI y).toNatClampNeg = y := nI_clamp (by omega)
  refine nm_r (nI_pred y) ⟨vp_in_nI hy (by omega), ?_⟩
  rw [hc, hP, nI_1 q]
  refine yt_t (i := q + 1) H (by omega) ?_
  rw [hk]
  exact pk_eq 10 10 (fun _ => h) (fun z => absurd rfl z)
theorem yF_dLet (H : tk_ok ytk n) {y q : Nat} (hy : y < 512) (hP : yfp y = nI q) (hq : q < n) (hk : tk_K ytk n (q + 1) = 8) {Q : Int32 → SY → Prop} (h : wpY_stepLet Q (yli, nI n, ypr, ygs, ypo, yhp, nI (y + 1), yvp, yfu, ysp, ymd, yac, yst, yrt, ycu, yhv, ytk, ytv, yus, ygk, yga, ygb, yck, yca, ycb, ycc, yfp, yfe, yfS, yfn, yfb, yvs, yds, ynk, yna, ynb, ync) (nI y)) : wpY_stepFrame Q (yli, nI n, ypr, ygs, ypo, yhp, nI (y + 1), yvp, yfu, ysp, ymd, yac, yst, yrt, ycu, yhv, ytk, ytv, yus, ygk, yga, ygb, yck, yca, ycb, ycc, yfp, yfe, yfS, yfn, yfb, yvs, yds, ynk, yna, ynb, ync) := by
  have H1 := H.1
  have hc : (nI y).toNatClampNeg = y := nI_clamp (by omega)
  refine nm_r (nI_pred y) ⟨vp_in_nI hy (by omega), ?_⟩
  rw [hc, hP, nI_1 q]
  refine yt_t (i := q + 1) H (by omega) ?_
  rw [hk]
  exact pk_eq 8 10 (fun z => by omega) (fun _ => pk_eq 8 8 (fun _ => h) (fun z => absurd rfl z))
theorem yF_dLr (H : tk_ok ytk n) {y q : Nat} (hy : y < 512) (hP : yfp y = nI q) (hq : q < n) (hk : tk_K ytk n (q + 1) = 9) {Q : Int32 → SY → Prop} (h : wpY_stepLetrec Q (yli, nI n, ypr, ygs, ypo, yhp, nI (y + 1), yvp, yfu, ysp, ymd, yac, yst, yrt, ycu, yhv, ytk, ytv, yus, ygk, yga, ygb, yck, yca, ycb, ycc, yfp, yfe, yfS, yfn, yfb, yvs, yds, ynk, yna, ynb, ync) (nI y)) : wpY_stepFrame Q (yli, nI n, ypr, ygs, ypo, yhp, nI (y + 1), yvp, yfu, ysp, ymd, yac, yst, yrt, ycu, yhv, ytk, ytv, yus, ygk, yga, ygb, yck, yca, ycb, ycc, yfp, yfe, yfS, yfn, yfb, yvs, yds, ynk, yna, ynb, ync) := by
  have H1 := H.1
  have hc : (nI y).toNatClampNeg = y := nI_clamp (by omega)
  refine nm_r (nI_pred y) ⟨vp_in_nI hy (by omega), ?_⟩
  rw [hc, hP, nI_1 q]
  refine yt_t (i := q + 1) H (by omega) ?_
  rw [hk]
  exact pk_eq 9 10 (fun z => by omega) (fun _ => pk_eq 9 8 (fun z => by omega) (fun _ => pk_eq 9 9 (fun _ => h) (fun z => absurd rfl z)))
theorem yF_dApp (H : tk_ok ytk n) {y q : Nat} (hy : y < 512) (hP : yfp y = nI q) (hq : q < n) (hk : tk_K ytk n (q + 1) < 6) {Q : Int32 → SY → Prop} (h : wpY_stepApp Q (yli, nI n, ypr, ygs, ypo, yhp, nI (y + 1), yvp, yfu, ysp, ymd, yac, yst, yrt, ycu, yhv, ytk, ytv, yus, ygk, yga, ygb, yck, yca, ycb, ycc, yfp, yfe, yfS, yfn, yfb, yvs, yds, ynk, yna, ynb, ync) (nI y)) : wpY_stepFrame Q (yli, nI n, ypr, ygs, ypo, yhp, nI (y + 1), yvp, yfu, ysp, ymd, yac, yst, yrt, ycu, yhv, ytk, ytv, yus, ygk, yga, ygb, yck, yca, ycb, ycc, yfp, yfe, yfS, yfn, yfb, yvs, yds, ynk, yna, ynb, ync) := by
  have H1 := H.1
  have hc : (nI y).toNatClampNeg = y := nI_clamp (by omega)
  refine nm_r (nI_pred y) ⟨vp_in_nI hy (by omega), ?_⟩
  rw [hc, hP, nI_1 q]
  refine yt_t (i := q + 1) H (by omega) ?_
  exact pk_eq (tk_K ytk n (q + 1)) 10 (fun z => by omega) (fun _ => pk_eq (tk_K ytk n (q + 1)) 8 (fun z => by omega) (fun _ => pk_eq (tk_K ytk n (q + 1)) 9 (fun z => by omega) (fun _ => pk_lt (tk_K ytk n (q + 1)) 11 (fun _ => h) (fun z => by omega))))
theorem yF_dOp (H : tk_ok ytk n) {y q h' : Nat} (hy : y < 512) (hP : yfp y = nI q) (hq : q < n) (hk : tk_K ytk n (q + 1) = h') (hh : 11 ≤ h') {Q : Int32 → SY → Prop} (h : wpY_stepOp Q (yli, nI n, ypr, ygs, ypo, yhp, nI (y + 1), yvp, yfu, ysp, ymd, yac, yst, yrt, ycu, yhv, ytk, ytv, yus, ygk, yga, ygb, yck, yca, ycb, ycc, yfp, yfe, yfS, yfn, yfb, yvs, yds, ynk, yna, ynb, ync) (nI y) (nI h')) : wpY_stepFrame Q (yli, nI n, ypr, ygs, ypo, yhp, nI (y + 1), yvp, yfu, ysp, ymd, yac, yst, yrt, ycu, yhv, ytk, ytv, yus, ygk, yga, ygb, yck, yca, ycb, ycc, yfp, yfe, yfS, yfn, yfb, yvs, yds, ynk, yna, ynb, ync) := by
  have H1 := H.1
  have k20 := tk_20 H (q + 1)
  have hc : (nI y).toNatClampNeg = y := nI_clamp (by omega)
  refine nm_r (nI_pred y) ⟨vp_in_nI hy (by omega), ?_⟩
  rw [hc, hP, nI_1 q]
  refine yt_t (i := q + 1) H (by omega) ?_
  rw [hk]
  exact pk_eq h' 10 (fun z => by omega) (fun _ => pk_eq h' 8 (fun z => by omega) (fun _ => pk_eq h' 9 (fun z => by omega) (fun _ => pk_lt h' 11 (fun z => by omega) (fun _ => pk_lt 20 h' (fun z => by omega) (fun _ => h)))))
/-! IF -/
theorem yI_0 {y q : Nat} (hy : y < 512) (hP : yfp y = nI q) (hS : yfS y = 0) {Q : Int32 → SY → Prop} (h : wpY_req Q (yli, yn, ypr, ygs, ypo, yhp, yfs, yvp, yfu, ysp, ymd, yac, yst, yrt, ycu, yhv, ytk, ytv, yus, ygk, yga, ygb, yck, yca, ycb, ycc, yfp, yfe, upd yfS y 1, yfn, yfb, yvs, yds, ynk, yna, ynb, ync) (nI (q + 2)) (yfe y)) : wpY_stepIf Q (yli, yn, ypr, ygs, ypo, yhp, yfs, yvp, yfu, ysp, ymd, yac, yst, yrt, ycu, yhv, ytk, ytv, yus, ygk, yga, ygb, yck, yca, ycb, ycc, yfp, yfe, yfS, yfn, yfb, yvs, yds, ynk, yna, ynb, ync) (nI y) := by
  have hi : vp_in (nI y) 512 := vp_in_nI hy (by omega)
  have hc : (nI y).toNatClampNeg = y := nI_clamp (by omega)
  refine ⟨hi, nm_r (show yfS (nI y).toNatClampNeg = 0 from by rw [hc]; exact hS) ⟨hi, nm_e (br_t rfl ⟨hi, nm_r (by rw [hc]) ⟨hi, hi, ?_⟩⟩)⟩⟩
  rw [hc, hP, ni_2 q]
  exact h
theorem yI_1 (H : tk_ok ytk n) {y q b c : Nat} (hy : y < 512) (hP : yfp y = nI q) (hS : yfS y = 1) (hB : yfb y = nI b) (hb : b < 1024) (hq : q < n) (hl : sk_f (tk_K ytk n) n (q + 2) < 2 ^ 20) (hv : yvs b = nI c) (hcc : c < 50000) {Q : Int32 → SY → Prop}
    (h6 : yck c ≠ 1 → Q 6 (yli, nI n, ypr, ygs, ypo, yhp, yfs, yvp, yfu, ysp, ymd, yac, yst, yrt, ycu, yhv, ytk, ytv, yus, ygk, yga, ygb, yck, yca, ycb, ycc, yfp, yfe, yfS, yfn, yfb, yvs, yds, 50000, 50000, ynb, ync))
    (h1 : yck c = 1 → ∀ t, (yca c = 0 → t = sk_f (tk_K ytk n) n (sk_f (tk_K ytk n) n (q + 2))) → (yca c ≠ 0 → t = sk_f (tk_K ytk n) n (q + 2)) → wpY_req Q (yli, nI n, ypr, ygs, ypo, yhp, yfs, nI b, yfu, ysp, ymd, yac, yst, yrt, ycu, yhv, ytk, ytv, yus, ygk, yga, ygb, yck, yca, ycb, ycc, yfp, yfe, upd yfS y 2, yfn, yfb, yvs, yds, 50000, 50000, ynb, ync) (nI t) (yfe y)) : wpY_stepIf Q (yli, nI n, ypr, ygs, ypo, yhp, yfs, yvp, yfu, ysp, ymd, yac, yst, yrt, ycu, yhv, ytk, ytv, yus, ygk, yga, ygb, yck, yca, ycb, ycc, yfp, yfe, yfS, yfn, yfb, yvs, yds, 50000, 50000, ynb, ync) (nI y) := by
  have H1 := H.1
  have hi : vp_in (nI y) 512 := vp_in_nI hy (by omega)
  have hc : (nI y).toNatClampNeg = y := nI_clamp (by omega)
  have hic : vp_in (nI c) 50000 := vp_in_nI hcc (by omega)
  refine ⟨hi, nm_r (show yfS (nI y).toNatClampNeg = 1 from by rw [hc]; exact hS) ⟨hi, nm_r (show yfb (nI y).toNatClampNeg = nI b from by rw [hc]; exact hB) (br_f (by decide) (br_f (by decide) ?_))⟩⟩
  refine yr_vat (i := b) hb ?_
  rw [hv, nI_clamp (n := c) (by omega), hc, hP, ni_2 q]
  refine ⟨hic, ?_⟩
  have f122 : ∀ t, (yca c = 0 → t = sk_f (tk_K ytk n) n (sk_f (tk_K ytk n) n (q + 2))) → (yca c ≠ 0 → t = sk_f (tk_K ytk n) n (q + 2)) → yck c = 1 → wY_stepIf_122 Q (nI y) (nI b) (nI t) yli (nI n) ypr ygs ypo yhp yfs yvp yfu ysp ymd yac yst yrt ycu yhv ytk ytv yus ygk yga ygb yck yca ycb ycc yfp yfe yfS yfn yfb yvs yds 50000 50000 ynb ync := by
    intro t t1 t2 k1
    refine ⟨hi, nm_r (by rw [hc]) ⟨hi, ?_⟩⟩
    rw [hc]
    exact h1 k1 t t1 t2
  by_cases k1 : yck c = 1
  · refine br_t k1 ⟨hi, yk_skip (i := q + 2) H (by omega) ⟨hic, ?_⟩⟩
    by_cases a0 : yca c = 0
    · exact br_t a0 (yk_skip (i := sk_f (tk_K ytk n) n (q + 2)) H (by omega) (f122 _ (fun _ => rfl) (fun z => absurd a0 z) k1))
    · exact br_f a0 (f122 _ (fun z => absurd z a0) (fun _ => rfl) k1)
  · exact br_f k1 (h6 k1)
theorem yI_2 {y b : Nat} (hy : y < 512) (hS : yfS y = 2) (hB : yfb y = nI b) (hb : b < 1023) {Q : Int32 → SY → Prop} (h : Q 0 (yli, yn, ypr, ygs, ypo, yhp, nI y, nI (b + 1), yfu, ysp, ymd, yac, yst, yrt, ycu, yhv, ytk, ytv, yus, ygk, yga, ygb, yck, yca, ycb, ycc, yfp, yfe, yfS, yfn, yfb, upd yvs b (yvs b), yds, ynk, yna, ynb, ync)) : wpY_stepIf Q (yli, yn, ypr, ygs, ypo, yhp, yfs, nI (b + 1), yfu, ysp, ymd, yac, yst, yrt, ycu, yhv, ytk, ytv, yus, ygk, yga, ygb, yck, yca, ycb, ycc, yfp, yfe, yfS, yfn, yfb, yvs, yds, ynk, yna, ynb, ync) (nI y) := by
  have hi : vp_in (nI y) 512 := vp_in_nI hy (by omega)
  have hc : (nI y).toNatClampNeg = y := nI_clamp (by omega)
  refine ⟨hi, nm_r (show yfS (nI y).toNatClampNeg = 2 from by rw [hc]; exact hS) ⟨hi, nm_e (br_f (by decide) (br_t rfl ?_))⟩⟩
  rw [nI_pred b]
  exact yr_vat (i := b) (by omega) (yr_done hy (by omega) hB h)
/-! LET -/
theorem yL_n (H : tk_ok ytk n) {y p : Nat} (hy : y < 512) (hS : yfS y = 0) (hN : yfn y = nI p) (hp : p < n) (kp : tk_K ytk n p = 1) {Q : Int32 → SY → Prop} (h : wpY_req Q (yli, nI n, ypr, ygs, ypo, yhp, yfs, yvp, yfu, ysp, ymd, yac, yst, yrt, ycu, yhv, ytk, ytv, yus, ygk, yga, ygb, yck, yca, ycb, ycc, yfp, yfe, yfS, upd yfn y (nI (sk_f (tk_K ytk n) n p)), yfb, yvs, yds, ynk, yna, ynb, ync) (nI (p + 2)) (yfe y)) : wpY_stepLet Q (yli, nI n, ypr, ygs, ypo, yhp, yfs, yvp, yfu, ysp, ymd, yac, yst, yrt, ycu, yhv, ytk, ytv, yus, ygk, yga, ygb, yck, yca, ycb, ycc, yfp, yfe, yfS, yfn, yfb, yvs, yds, ynk, yna, ynb, ync) (nI y) := by
  have H1 := H.1
  have hi : vp_in (nI y) 512 := vp_in_nI hy (by omega)
  have hc : (nI y).toNatClampNeg = y := nI_clamp (by omega)
  refine ⟨hi, nm_e ⟨hi, br_f (by rw [hc, hS]; decide) ⟨hi, nm_r (show yfn (nI y).toNatClampNeg = nI p from by rw [hc]; exact hN) ?_⟩⟩⟩
  refine yt_t (i := p) H (by omega) (pk_eq (tk_K ytk n p) 1 (fun _ => ?_) (fun z => absurd kp z))
  refine yk_skip (i := p) H (by omega) ⟨hi, nm_r (by rw [hc]) ⟨hi, ?_⟩⟩
  rw [hc, ni_2 p]
  exact h
theorem yL_cL (H : tk_ok ytk n) {y q b k hp : Nat} {e0 x3 : Int32} (hk : k ≤ 4) (lc : ls_C (tk_K ytk n) (sk_f (tk_K ytk n) n) (q + 3) k) (hk1 : ∀ i, i < k → tk_K ytk n (it_f (sk_f (tk_K ytk n) n) i (q + 3)) = 1 ∧ it_f (sk_f (tk_K ytk n) n) i (q + 3) + 1 < n) (hh : hp + k ≤ 50000) (hb : b + k ≤ 1024) {Q : Int32 → SY → Prop}
    (h : ∀ ck' ca' cb' cC', yc_S yck yca ycb ycc (fun i => ytv (it_f (sk_f (tk_K ytk n) n) i (q + 3) + 1)) (fun i => yvs (b + i)) e0 hp k ck' ca' cb' cC' → wY_stepLet_160 Q (nI y) (nI b) x3 (hb_e e0 hp k) yli (nI n) ypr ygs ypo (nI (hp + k)) yfs yvp yfu ysp ymd yac yst yrt ycu yhv ytk ytv yus ygk yga ygb ck' ca' cb' cC' yfp yfe yfS yfn yfb yvs yds 50000 50000 50000 50000) :
    ∀ d j (ck' ca' cb' cC' : Nat → Int32), j + d = k → yc_S yck yca ycb ycc (fun i => ytv (it_f (sk_f (tk_K ytk n) n) i (q + 3) + 1)) (fun i => yvs (b + i)) e0 hp j ck' ca' cb' cC' → wY_stepLet_97 Q (nI y) (nI b) x3 (d + 1) (hb_e e0 hp j) (nI (it_f (sk_f (tk_K ytk n) n) j (q + 3))) (nI j) yli (nI n) ypr ygs ypo (nI (hp + j)) yfs yvp yfu ysp ymd yac yst yrt ycu yhv ytk ytv yus ygk yga ygb ck' ca' cb' cC' yfp yfe yfS yfn yfb yvs yds 50000 50000 50000 50000 := by
  have H1 := H.1
  have bd := ls_bd (K := (tk_K ytk n)) (n := n) (fun i => tk_0) lc
  intro d
  induction d with
  | zero =>
    intro j ck' ca' cb' cC' e S
    have ej : j = k := by omega
    subst ej
    have hx := (bd.1 j (Nat.le_refl _)).1
    have kx := lc.2
    exact pk_le 4 j (fun _ => h ck' ca' cb' cC' S) (fun _ => yt_t (i := it_f (sk_f (tk_K ytk n) n) j (q + 3)) H (by omega) (pk_eq (tk_K ytk n (it_f (sk_f (tk_K ytk n) n) j (q + 3))) 1 (fun z => by omega) (fun _ => h ck' ca' cb' cC' S)))
  | succ d ih =>
    intro j ck' ca' cb' cC' e S
    have hx := (bd.1 j (by omega)).1
    have kx := hk1 j (by omega)
    refine pk_le 4 j (fun z => by omega) (fun _ => yt_t (i := it_f (sk_f (tk_K ytk n) n) j (q + 3)) H (by omega) (pk_eq (tk_K ytk n (it_f (sk_f (tk_K ytk n) n) j (q + 3))) 1 (fun _ => ?_) (fun z => absurd kx.1 z)))
    rw [nI_1 (it_f (sk_f (tk_K ytk n) n) j (q + 3)), nI_add b j]
    refine yt_v (i := it_f (sk_f (tk_K ytk n) n) j (q + 3) + 1) H kx.2 (yr_vat (i := b + j) (by omega) ?_)
    refine yr_al (yck := ck') (yca := ca') (ycb := cb') (ycc := cC') (hp := hp + j) (by omega) ?_
    refine yk_skip (i := it_f (sk_f (tk_K ytk n) n) j (q + 3)) H (by omega) (nm_r (nI_1 j) ?_)
    rw [← it_s (sk_f (tk_K ytk n) n) j (q + 3)]
    exact ih (j + 1) _ _ _ _ (by omega) (yc_up S rfl rfl)
theorem yL_b (H : tk_ok ytk n) {y q b k hp : Nat} (hy : y < 512) (hS : yfS y = 0) (hP : yfp y = nI q) (hB : yfb y = nI b) (hk : k ≤ 4) (lc : ls_C (tk_K ytk n) (sk_f (tk_K ytk n) n) (q + 3) k) (hN : yfn y = nI (it_f (sk_f (tk_K ytk n) n) k (q + 3))) (hk1 : ∀ i, i < k → tk_K ytk n (it_f (sk_f (tk_K ytk n) n) i (q + 3)) = 1 ∧ it_f (sk_f (tk_K ytk n) n) i (q + 3) + 1 < n) (hh : hp + k ≤ 50000) (hb : b + k ≤ 1024) {Q : Int32 → SY → Prop}
    (h : ∀ ck' ca' cb' cC', yc_S yck yca ycb ycc (fun i => ytv (it_f (sk_f (tk_K ytk n) n) i (q + 3) + 1)) (fun i => yvs (b + i)) (yfe y) hp k ck' ca' cb' cC' → wpY_req Q (yli, nI n, ypr, ygs, ypo, nI (hp + k), yfs, nI b, yfu, ysp, ymd, yac, yst, yrt, ycu, yhv, ytk, ytv, yus, ygk, yga, ygb, ck', ca', cb', cC', yfp, yfe, upd yfS y 1, yfn, yfb, yvs, yds, 50000, 50000, 50000, 50000) (nI (it_f (sk_f (tk_K ytk n) n) k (q + 3) + 1)) (hb_e (yfe y) hp k)) : wpY_stepLet Q (yli, nI n, ypr, ygs, ypo, nI hp, yfs, yvp, yfu, ysp, ymd, yac, yst, yrt, ycu, yhv, ytk, ytv, yus, ygk, yga, ygb, yck, yca, ycb, ycc, yfp, yfe, yfS, yfn, yfb, yvs, yds, 50000, 50000, 50000, 50000) (nI y) := by
  have H1 := H.1
  have bd := ls_bd (K := (tk_K ytk n)) (n := n) (fun i => tk_0) lc
  have hi : vp_in (nI y) 512 := vp_in_nI hy (by omega)
  have hc : (nI y).toNatClampNeg = y := nI_clamp (by omega)
  have hx := (bd.1 k (Nat.le_refl _)).1
  have kx := lc.2
  refine ⟨hi, nm_r (show yfb (nI y).toNatClampNeg = nI b from by rw [hc]; exact hB) ⟨hi, br_f (by rw [hc, hS]; decide) ⟨hi, nm_r (show yfn (nI y).toNatClampNeg = nI (it_f (sk_f (tk_K ytk n) n) k (q + 3)) from by rw [hc]; exact hN) ?_⟩⟩⟩
  refine yt_t (i := it_f (sk_f (tk_K ytk n) n) k (q + 3)) H (by omega) (pk_eq (tk_K ytk n (it_f (sk_f (tk_K ytk n) n) k (q + 3))) 1 (fun z => by omega) (fun _ => ⟨hi, nm_r (show yfe (nI y).toNatClampNeg = yfe y from by rw [hc]) ⟨hi, nm_r (show yfp (nI y).toNatClampNeg + 3 = nI (q + 3) from by rw [hc, hP, ni_3]) ⟨k + 1, ?_⟩⟩⟩))
  refine yL_cL H hk lc hk1 hh hb (fun ck' ca' cb' cC' S => ⟨hi, nm_r (by rw [hc]) ?_⟩) k 0 yck yca ycb ycc (by omega) yc_0
  rw [nI_1 (it_f (sk_f (tk_K ytk n) n) k (q + 3))]
  exact h ck' ca' cb' cC' S
theorem yL_p {y b : Nat} (hy : y < 512) (hS : yfS y = 1) (hB : yfb y = nI b) (hb : b < 1023) {Q : Int32 → SY → Prop} (h : Q 0 (yli, yn, ypr, ygs, ypo, yhp, nI y, nI (b + 1), yfu, ysp, ymd, yac, yst, yrt, ycu, yhv, ytk, ytv, yus, ygk, yga, ygb, yck, yca, ycb, ycc, yfp, yfe, yfS, yfn, yfb, upd yvs b (yvs b), yds, ynk, yna, ynb, ync)) : wpY_stepLet Q (yli, yn, ypr, ygs, ypo, yhp, yfs, nI (b + 1), yfu, ysp, ymd, yac, yst, yrt, ycu, yhv, ytk, ytv, yus, ygk, yga, ygb, yck, yca, ycb, ycc, yfp, yfe, yfS, yfn, yfb, yvs, yds, ynk, yna, ynb, ync) (nI y) := by
  have hi : vp_in (nI y) 512 := vp_in_nI hy (by omega)
  have hc : (nI y).toNatClampNeg = y := nI_clamp (by omega)
  refine ⟨hi, nm_e ⟨hi, br_t (by rw [hc]; exact hS) ?_⟩⟩
  rw [nI_pred b]
  exact yr_vat (i := b) (by omega) (yr_done hy (by omega) hB h)
end
