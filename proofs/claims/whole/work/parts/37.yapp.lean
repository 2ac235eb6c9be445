section
variable {yli yn ypr ygs ypo yhp yfs yvp yfu ysp ymd yac yst yrt ycu yhv : Int32} {ytk ytv yus ygk yga ygb yck yca ycb ycc yfp yfe yfS yfn yfb yvs yds : Nat → Int32} {ynk yna ynb ync : Nat} {n : Nat}
/-- an operator's operands are there -/
theorem yO_cons {y b hp : Nat} (hy : y < 512) (hb : b + 1 < 1024) (hh : hp < 50000) (hS : yfS y = 2) (hB : yfb y = nI b) {Q : Int32 → SY → Prop}
    (h : Q 0 (yli, yn, ypr, ygs, ypo, nI (hp + 1), nI y, nI (b + 1), yfu, ysp, ymd, yac, yst, yrt, ycu, yhv, ytk, ytv, yus, ygk, yga, ygb, upd yck hp 3, upd yca hp (yvs b), upd ycb hp (yvs (b + 1)), upd ycc hp 0, yfp, yfe, yfS, yfn, yfb, upd yvs b (nI hp), yds, 50000, 50000, 50000, 50000)) : wY_stepOp_23 Q (nI y) (nI 11) (nI 2) yli yn ypr ygs ypo (nI hp) yfs yvp yfu ysp ymd yac yst yrt ycu yhv ytk ytv yus ygk yga ygb yck yca ycb ycc yfp yfe yfS yfn yfb yvs yds 50000 50000 50000 50000 := by
  have hi : vp_in (nI y) 512 := vp_in_nI hy (by omega)
  have hc : (nI y).toNatClampNeg = y := nI_clamp (by omega)
  refine ⟨hi, ?_⟩
  rw [hc, hS, hB, nI_1 b]
  refine pk_le 2 2 (fun _ => ⟨hi, yr_vat (i := b) (by omega) ⟨hi, yr_vat (i := b + 1) (by omega) (pk_eq 11 11 (fun _ => ?_) (fun z => absurd rfl z))⟩⟩) (fun z => by omega)
  exact yr_al hh (yr_done hy (by omega) hB h)
theorem yO_null {y b hp a : Nat} (hy : y < 512) (hb : b + 1 < 1024) (hh : hp < 50000) (ha : a < 50000) (hS : yfS y = 1) (hB : yfb y = nI b) (hv : yvs b = nI a) {Q : Int32 → SY → Prop}
    (h : Q 0 (yli, yn, ypr, ygs, ypo, nI (hp + 1), nI y, nI (b + 1), yfu, ysp, ymd, yac, yst, yrt, ycu, yhv, ytk, ytv, yus, ygk, yga, ygb, upd yck hp 1, upd yca hp (if yck a = 2 then 1 else 0), upd ycb hp 0, upd ycc hp 0, yfp, yfe, yfS, yfn, yfb, upd yvs b (nI hp), yds, 50000, 50000, 50000, 50000)) : wY_stepOp_23 Q (nI y) (nI 14) (nI 1) yli yn ypr ygs ypo (nI hp) yfs yvp yfu ysp ymd yac yst yrt ycu yhv ytk ytv yus ygk yga ygb yck yca ycb ycc yfp yfe yfS yfn yfb yvs yds 50000 50000 50000 50000 := by
  have hi : vp_in (nI y) 512 := vp_in_nI hy (by omega)
  have hc : (nI y).toNatClampNeg = y := nI_clamp (by omega)
  refine ⟨hi, ?_⟩
  rw [hc, hS, hB, nI_1 b]
  refine pk_le 1 1 (fun _ => ⟨hi, yr_vat (i := b) (by omega) ⟨hi, yr_vat (i := b + 1) (by omega) (pk_eq 14 11 (fun z => by omega) (fun _ => pk_eq 14 14 (fun _ => ?_) (fun z => absurd rfl z)))⟩⟩) (fun z => by omega)
  rw [hv, nI_clamp (n := a) (by omega)]
  refine ⟨vp_in_nI ha (by omega), ?_⟩
  by_cases k2 : yck a = 2
  · rw [if_pos k2] at h
    exact br_t k2 (yr_al hh (yr_done hy (by omega) hB h))
  · rw [if_neg k2] at h
    exact br_f k2 (yr_al hh (yr_done hy (by omega) hB h))
theorem yO_part {y b a h' : Nat} (hy : y < 512) (hb : b + 1 < 1024) (ha : a < 50000) (hh : h' = 12 ∨ h' = 13) (hS : yfS y = 1) (hB : yfb y = nI b) (hv : yvs b = nI a) {Q : Int32 → SY → Prop}
    (h6 : yck a ≠ 3 → Q 6 (yli, yn, ypr, ygs, ypo, yhp, yfs, yvp, yfu, ysp, ymd, yac, yst, yrt, ycu, yhv, ytk, ytv, yus, ygk, yga, ygb, yck, yca, ycb, ycc, yfp, yfe, yfS, yfn, yfb, yvs, yds, 50000, 50000, 50000, ync)) (h : yck a = 3 → Q 0 (yli, yn, ypr, ygs, ypo, yhp, nI y, nI (b + 1), yfu, ysp, ymd, yac, yst, yrt, ycu, yhv, ytk, ytv, yus, ygk, yga, ygb, yck, yca, ycb, ycc, yfp, yfe, yfS, yfn, yfb, upd yvs b (if h' = 12 then yca a else ycb a), yds, 50000, 50000, 50000, ync)) : wY_stepOp_23 Q (nI y) (nI h') (nI 1) yli yn ypr ygs ypo yhp yfs yvp yfu ysp ymd yac yst yrt ycu yhv ytk ytv yus ygk yga ygb yck yca ycb ycc yfp yfe yfS yfn yfb yvs yds 50000 50000 50000 ync := by
  have hi : vp_in (nI y) 512 := vp_in_nI hy (by omega)
  have hc : (nI y).toNatClampNeg = y := nI_clamp (by omega)
  have hia : vp_in (nI a) 50000 := vp_in_nI ha (by omega)
  refine ⟨hi, ?_⟩
  rw [hc, hS, hB, nI_1 b]
  have f180 : wY_stepOp_180 Q (nI y) (nI h') (nI a) yli yn ypr ygs ypo yhp yfs yvp yfu ysp ymd yac yst yrt ycu yhv ytk ytv yus ygk yga ygb yck yca ycb ycc yfp yfe yfS yfn yfb yvs yds 50000 50000 50000 ync := by
    refine ⟨hia, ?_⟩
    rw [nI_clamp (n := a) (by omega)]
    by_cases k3 : yck a = 3
    · refine br_t k3 (pk_eq h' 12 (fun z => ⟨hia, ?_⟩) (fun z => ⟨hia, ?_⟩))
      · have := h k3; rw [if_pos z] at this
        exact yr_done hy (by omega) hB this
      · have := h k3; rw [if_neg z] at this
        exact yr_done hy (by omega) hB this
    · exact br_f k3 (h6 k3)
  refine pk_le 1 1 (fun _ => ⟨hi, yr_vat (i := b) (by omega) ⟨hi, yr_vat (i := b + 1) (by omega) (pk_eq h' 11 (fun z => by omega) (fun _ => pk_eq h' 14 (fun z => by omega) (fun _ => pk_eq h' 12 (fun _ => ?_) (fun _ => pk_eq h' 13 (fun _ => ?_) (fun z => by omega)))))⟩⟩) (fun z => by omega)
  · rw [hv]; exact f180
  · rw [hv]; exact f180
theorem yO_calc {y b a c h' hp : Nat} (hy : y < 512) (hb : b + 1 < 1024) (hh : hp < 50000) (ha : a < 50000) (hcc : c < 50000) (hh' : 15 ≤ h' ∧ h' ≤ 20) (hS : yfS y = 2) (hB : yfb y = nI b) (hv : yvs b = nI a) (hv2 : yvs (b + 1) = nI c) {Q : Int32 → SY → Prop}
    (h6 : ¬ (yck a = 1 ∧ yck c = 1) → Q 6 (yli, yn, ypr, ygs, ypo, nI hp, yfs, yvp, yfu, ysp, ymd, yac, yst, yrt, ycu, yhv, ytk, ytv, yus, ygk, yga, ygb, yck, yca, ycb, ycc, yfp, yfe, yfS, yfn, yfb, yvs, yds, 50000, 50000, 50000, 50000)) (h7 : yck a = 1 → yck c = 1 → h' = 18 → yca c = 0 → Q 7 (yli, yn, ypr, ygs, ypo, nI hp, yfs, yvp, yfu, ysp, ymd, yac, yst, yrt, ycu, yhv, ytk, ytv, yus, ygk, yga, ygb, yck, yca, ycb, ycc, yfp, yfe, yfS, yfn, yfb, yvs, yds, 50000, 50000, 50000, 50000))
    (h : yck a = 1 → yck c = 1 → ¬ (h' = 18 ∧ yca c = 0) → Q 0 (yli, yn, ypr, ygs, ypo, nI (hp + 1), nI y, nI (b + 1), yfu, ysp, ymd, yac, yst, yrt, ycu, yhv, ytk, ytv, yus, ygk, yga, ygb, upd yck hp 1, upd yca hp (al_op h' (yca a) (yca c)), upd ycb hp 0, upd ycc hp 0, yfp, yfe, yfS, yfn, yfb, upd yvs b (nI hp), yds, 50000, 50000, 50000, 50000)) : wY_stepOp_23 Q (nI y) (nI h') (nI 2) yli yn ypr ygs ypo (nI hp) yfs yvp yfu ysp ymd yac yst yrt ycu yhv ytk ytv yus ygk yga ygb yck yca ycb ycc yfp yfe yfS yfn yfb yvs yds 50000 50000 50000 50000 := by
  have hi : vp_in (nI y) 512 := vp_in_nI hy (by omega)
  have hc : (nI y).toNatClampNeg = y := nI_clamp (by omega)
  have hia : vp_in (nI a) 50000 := vp_in_nI ha (by omega)
  have hic : vp_in (nI c) 50000 := vp_in_nI hcc (by omega)
  refine ⟨hi, ?_⟩
  rw [hc, hS, hB, nI_1 b]
  refine pk_le 2 2 (fun _ => ⟨hi, yr_vat (i := b) (by omega) ⟨hi, yr_vat (i := b + 1) (by omega) (pk_eq h' 11 (fun z => by omega) (fun _ => pk_eq h' 14 (fun z => by omega) (fun _ => pk_eq h' 12 (fun z => by omega) (fun _ => pk_eq h' 13 (fun z => by omega) (fun _ => ?_)))))⟩⟩) (fun z => by omega)
  rw [hv, hv2, nI_clamp (n := a) (by omega), nI_clamp (n := c) (by omega)]
  refine ⟨hia, ?_⟩
  by_cases v1 : yck a = 1
  · refine br_t v1 ⟨hic, ?_⟩
    by_cases v2 : yck c = 1
    · refine br_t v2 ⟨hia, nm_e ⟨hic, nm_e ?_⟩⟩
      have fin : ¬ (h' = 18 ∧ yca c = 0) → ∀ z, z = al_op h' (yca a) (yca c) → wY_stepOp_360 Q (nI y) z yli yn ypr ygs ypo (nI hp) yfs yvp yfu ysp ymd yac yst yrt ycu yhv ytk ytv yus ygk yga ygb yck yca ycb ycc yfp yfe yfS yfn yfb yvs yds 50000 50000 50000 50000 := fun w z e => by
        rw [e]; exact yr_al hh (yr_done hy (by omega) hB (h v1 v2 w))
      have f339 : ∀ z, (h' ≠ 18 → z = al_op h' (yca a) (yca c)) → wY_stepOp_339 Q (nI y) (nI h') (yca a) (yca c) z yli yn ypr ygs ypo (nI hp) yfs yvp yfu ysp ymd yac yst yrt ycu yhv ytk ytv yus ygk yga ygb yck yca ycb ycc yfp yfe yfS yfn yfb yvs yds 50000 50000 50000 50000 := fun z e => by
        refine pk_eq h' 18 (fun k => ?_) (fun k => fin (fun w => k w.1) z (e k))
        by_cases c0 : yca c = 0
        · exact br_t c0 (h7 v1 v2 k c0)
        · exact br_f c0 ⟨c0, nm_e (fin (fun w => c0 w.2) _ (by rw [k]; rfl))⟩
      have f300 : ∀ z, (h' ≠ 15 → h' ≠ 16 → h' ≠ 17 → h' ≠ 18 → z = al_op h' (yca a) (yca c)) → wY_stepOp_300 Q (nI y) (nI h') (yca a) (yca c) z yli yn ypr ygs ypo (nI hp) yfs yvp yfu ysp ymd yac yst yrt ycu yhv ytk ytv yus ygk yga ygb yck yca ycb ycc yfp yfe yfS yfn yfb yvs yds 50000 50000 50000 50000 := fun z e => by
        refine pk_eq h' 15 (fun k => nm_e ?_) (fun k15 => ?_)
        · refine pk_eq h' 16 (fun k => by omega) (fun _ => pk_eq h' 17 (fun k => by omega) (fun _ => f339 _ (fun _ => by rw [k]; rfl)))
        · refine pk_eq h' 16 (fun k => nm_e ?_) (fun k16 => ?_)
          · exact pk_eq h' 17 (fun k => by omega) (fun _ => f339 _ (fun _ => by rw [k]; rfl))
          · refine pk_eq h' 17 (fun k => nm_e (f339 _ (fun _ => by rw [k]; rfl))) (fun k17 => f339 _ (fun k18 => e k15 k16 k17 k18))
      have f278 : ∀ z, (h' = 20 → z = al_op h' (yca a) (yca c)) → wY_stepOp_278 Q (nI y) (nI h') (yca a) (yca c) z yli yn ypr ygs ypo (nI hp) yfs yvp yfu ysp ymd yac yst yrt ycu yhv ytk ytv yus ygk yga ygb yck yca ycb ycc yfp yfe yfS yfn yfb yvs yds 50000 50000 50000 50000 := fun z e => by
        refine pk_eq h' 19 (fun k => ?_) (fun k19 => f300 _ (fun a1 a2 a3 a4 => e (by omega)))
        by_cases ee : yca a = yca c
        · exact br_t ee (f300 1 (fun _ _ _ _ => by rw [k]; unfold al_op; simp [ee]))
        · exact br_f ee (f300 0 (fun _ _ _ _ => by rw [k]; unfold al_op; simp [ee]))
      by_cases le : yca c ≤ yca a
      · exact br_t le (f278 0 (fun k => by rw [k]; unfold al_op; simp [le]))
      · exact br_f le (f278 1 (fun k => by rw [k]; unfold al_op; simp [le]))
    · exact br_f v2 (h6 (fun w => v2 w.2))
  · exact br_f v1 (h6 (fun w => v1 w.1))
/-! calls -/
theorem yA_a (H : tk_ok ytk n) {y p : Nat} (hy : y < 512) (hS : yfS y = 0) (hN : yfn y = nI p) (hp : p < n) (kp : tk_K ytk n p ≠ 2) {Q : Int32 → SY → Prop} (h : wpY_req Q (yli, nI n, ypr, ygs, ypo, yhp, yfs, yvp, yfu, ysp, ymd, yac, yst, yrt, ycu, yhv, ytk, ytv, yus, ygk, yga, ygb, yck, yca, ycb, ycc, yfp, yfe, yfS, upd yfn y (nI (sk_f (tk_K ytk n) n p)), yfb, yvs, yds, ynk, yna, ynb, ync) (nI p) (yfe y)) : wpY_stepApp Q (yli, nI n, ypr, ygs, ypo, yhp, yfs, yvp, yfu, ysp, ymd, yac, yst, yrt, ycu, yhv, ytk, ytv, yus, ygk, yga, ygb, yck, yca, ycb, ycc, yfp, yfe, yfS, yfn, yfb, yvs, yds, ynk, yna, ynb, ync) (nI y) := by
  have H1 := H.1
  have k20 := tk_20 H p
  have hi : vp_in (nI y) 512 := vp_in_nI hy (by omega)
  have hc : (nI y).toNatClampNeg = y := nI_clamp (by omega)
  refine ⟨hi, nm_e ⟨hi, nm_r (show yfS (nI y).toNatClampNeg = 0 from by rw [hc]; exact hS) (br_f (by decide) (br_t rfl ⟨hi, nm_r (show yfn (nI y).toNatClampNeg = nI p from by rw [hc]; exact hN) ?_⟩))⟩⟩
  refine yt_t (i := p) H (by omega) (pk_eq (tk_K ytk n p) 2 (fun z => absurd z kp) (fun _ => ?_))
  refine yk_skip (i := p) H (by omega) ⟨hi, nm_r (by rw [hc]) ⟨hi, ?_⟩⟩
  rw [hc]
  exact h
theorem yA_h (H : tk_ok ytk n) {y p q : Nat} (hy : y < 512) (hS : yfS y = 0) (hP : yfp y = nI q) (hN : yfn y = nI p) (hp : p < n) (kp : tk_K ytk n p = 2) {Q : Int32 → SY → Prop} (h : wpY_req Q (yli, nI n, ypr, ygs, ypo, yhp, yfs, yvp, yfu, ysp, ymd, yac, yst, yrt, ycu, yhv, ytk, ytv, yus, ygk, yga, ygb, yck, yca, ycb, ycc, yfp, yfe, upd yfS y 1, yfn, yfb, yvs, yds, ynk, yna, ynb, ync) (nI (q + 1)) (yfe y)) : wpY_stepApp Q (yli, nI n, ypr, ygs, ypo, yhp, yfs, yvp, yfu, ysp, ymd, yac, yst, yrt, ycu, yhv, ytk, ytv, yus, ygk, yga, ygb, yck, yca, ycb, ycc, yfp, yfe, yfS, yfn, yfb, yvs, yds, ynk, yna, ynb, ync) (nI y) := by
  have H1 := H.1
  have hi : vp_in (nI y) 512 := vp_in_nI hy (by omega)
  have hc : (nI y).toNatClampNeg = y := nI_clamp (by omega)
  refine ⟨hi, nm_e ⟨hi, nm_r (show yfS (nI y).toNatClampNeg = 0 from by rw [hc]; exact hS) (br_f (by decide) (br_t rfl ⟨hi, nm_r (show yfn (nI y).toNatClampNeg = nI p from by rw [hc]; exact hN) ?_⟩))⟩⟩
  refine yt_t (i := p) H (by omega) (pk_eq (tk_K ytk n p) 2 (fun _ => ⟨hi, nm_r (by rw [hc]) ⟨hi, hi, ?_⟩⟩) (fun z => absurd kp z))
  rw [hc, hP, nI_1 q]
  exact h
theorem yA_r {y b : Nat} (hy : y < 512) (hS : yfS y = 2) (hB : yfb y = nI b) (hb : b < 1023) {Q : Int32 → SY → Prop} (h : Q 0 (yli, yn, ypr, ygs, ypo, yhp, nI y, nI (b + 1), yfu, ysp, ymd, yac - 1, yst, yrt, ycu, yhv, ytk, ytv, yus, ygk, yga, ygb, yck, yca, ycb, ycc, yfp, yfe, yfS, yfn, yfb, upd yvs b (yvs b), yds, ynk, yna, ynb, ync)) : wpY_stepApp Q (yli, yn, ypr, ygs, ypo, yhp, yfs, nI (b + 1), yfu, ysp, ymd, yac, yst, yrt, ycu, yhv, ytk, ytv, yus, ygk, yga, ygb, yck, yca, ycb, ycc, yfp, yfe, yfS, yfn, yfb, yvs, yds, ynk, yna, ynb, ync) (nI y) := by
  have hi : vp_in (nI y) 512 := vp_in_nI hy (by omega)
  have hc : (nI y).toNatClampNeg = y := nI_clamp (by omega)
  refine ⟨hi, nm_e ⟨hi, nm_r (show yfS (nI y).toNatClampNeg = 2 from by rw [hc]; exact hS) (br_t rfl (nm_e ?_))⟩⟩
  rw [nI_pred b]
  exact yr_vat (i := b) (by omega) (yr_done hy (by omega) hB h)
theorem yA_arL (H : tk_ok ytk n) {q c : Nat} (hq : q < n) (P : gr_P (tk_K ytk n) ytv (q + 2) c) {post : Int32 → Prop} (h : post (nI c)) : ∀ d j, j + d = c → wY_arity_6 post yli (nI n) ypr ygs ypo yhp yfs yvp yfu ysp ymd yac yst yrt ycu yhv ytk ytv yus ygk yga ygb yck yca ycb ycc yfp yfe yfS yfn yfb yvs yds ynk yna ynb ync (d + 1) (nI j) (nI (q + 3 + j)) := by
  have H1 := H.1
  have c4 := P.1
  intro d
  induction d with
  | zero =>
    intro j e
    have ej : j = c := by omega
    subst ej
    have k2 : tk_K ytk n (q + 3 + j) = 2 := P.2.2.1
    exact pk_le 5 j (fun z => by omega) (fun _ => yt_t (i := q + 3 + j) H (by omega) (pk_eq (tk_K ytk n (q + 3 + j)) 4 (fun z => by omega) (fun _ => h)))
  | succ d ih =>
    intro j e
    have k4 : tk_K ytk n (q + 3 + j) = 4 := P.2.1 j (by omega)
    exact pk_le 5 j (fun z => by omega) (fun _ => yt_t (i := q + 3 + j) H (by omega) (pk_eq (tk_K ytk n (q + 3 + j)) 4 (fun _ => nm_r (nI_1 j) (nm_r (nI_1 (q + 3 + j)) (ih (j + 1) (by omega)))) (fun z => absurd k4 z)))
theorem yA_ar (H : tk_ok ytk n) {q c : Nat} (hq : q < n) (P : gr_P (tk_K ytk n) ytv (q + 2) c) {post : Int32 → Prop} (h : post (nI c)) : wpY_arity post (yli, nI n, ypr, ygs, ypo, yhp, yfs, yvp, yfu, ysp, ymd, yac, yst, yrt, ycu, yhv, ytk, ytv, yus, ygk, yga, ygb, yck, yca, ycb, ycc, yfp, yfe, yfS, yfn, yfb, yvs, yds, ynk, yna, ynb, ync) (nI q) :=
  nm_r (ni_3 q) ⟨c + 1, yA_arL H hq P h c 0 (by omega)⟩
theorem yA_cL (H : tk_ok ytk n) {y q b k hp : Nat} {e0 : Int32} (hk : k ≤ 4) (hq : q + 3 + k < n) (hh : hp + k ≤ 50000) (hb : b + k ≤ 1024) {Q : Int32 → SY → Prop}
    (h : ∀ ck' ca' cb' cC', yc_S yck yca ycb ycc (fun i => ytv (q + 3 + i)) (fun i => yvs (b + i)) e0 hp k ck' ca' cb' cC' → wY_stepApp_290 Q (nI y) (nI b) (nI k) (nI q) (hb_e e0 hp k) yli (nI n) ypr ygs ypo (nI (hp + k)) yfs yvp yfu ysp ymd yac yst yrt ycu yhv ytk ytv yus ygk yga ygb ck' ca' cb' cC' yfp yfe yfS yfn yfb yvs yds 50000 50000 50000 50000) :
    ∀ d j (ck' ca' cb' cC' : Nat → Int32), j + d = k → yc_S yck yca ycb ycc (fun i => ytv (q + 3 + i)) (fun i => yvs (b + i)) e0 hp j ck' ca' cb' cC' → wY_stepApp_235 Q (nI y) (nI b) (nI k) (nI q) (d + 1) (hb_e e0 hp j) (nI j) yli (nI n) ypr ygs ypo (nI (hp + j)) yfs yvp yfu ysp ymd yac yst yrt ycu yhv ytk ytv yus ygk yga ygb ck' ca' cb' cC' yfp yfe yfS yfn yfb yvs yds 50000 50000 50000 50000 := by
  have H1 := H.1
  intro d
  induction d with
  | zero =>
    intro j ck' ca' cb' cC' e S
    have ej : j = k := by omega
    subst ej
    exact pk_le 4 j (fun _ => h ck' ca' cb' cC' S) (fun _ => pk_le j j (fun _ => h ck' ca' cb' cC' S) (fun z => by omega))
  | succ d ih =>
    intro j ck' ca' cb' cC' e S
    refine pk_le 4 j (fun z => by omega) (fun _ => pk_le k j (fun z => by omega) (fun _ => ?_))
    rw [ni_3 q, nI_add (q + 3) j, nI_add b j]
    refine yt_v (i := q + 3 + j) H (by omega) (yr_vat (i := b + j) (by omega) ?_)
    refine yr_al (yck := ck') (yca := ca') (ycb := cb') (ycc := cC') (hp := hp + j) (by omega) (nm_r (nI_1 j) ?_)
    exact ih (j + 1) _ _ _ _ (by omega) (yc_up S rfl rfl)
theorem yA_c (H : tk_ok ytk n) {y b k f hp : Nat} (hy : y < 512) (hS : yfS y = 1) (hB : yfb y = nI b) (hb : b + k + 1 ≤ 1024) (hf : f < 50000) (hk : k ≤ 4) (hh : hp + k ≤ 50000) (hv : yvs (b + k) = nI f) {Q : Int32 → SY → Prop}
    (h8 : yck f ≠ 4 → Q 8 (yli, nI n, ypr, ygs, ypo, nI hp, yfs, nI (b + k + 1), yfu, ysp, ymd, yac, yst, yrt, ycu, yhv, ytk, ytv, yus, ygk, yga, ygb, yck, yca, ycb, ycc, yfp, yfe, yfS, yfn, yfb, yvs, yds, 50000, 50000, 50000, 50000))
    (hcl : yck f = 4 → ∃ q c, yca f = nI q ∧ q + 3 + c < n ∧ gr_P (tk_K ytk n) ytv (q + 2) c ∧ (c ≠ k → Q 9 (yli, nI n, ypr, ygs, ypo, nI hp, yfs, nI (b + k + 1), yfu, ysp, ymd, yac, yst, yrt, ycu, yhv, ytk, ytv, yus, ygk, yga, ygb, yck, yca, ycb, ycc, yfp, yfe, yfS, yfn, yfb, yvs, yds, 50000, 50000, 50000, 50000)) ∧ (c = k → yac = yli → Q 5 (yli, nI n, ypr, ygs, ypo, nI hp, yfs, nI (b + k + 1), yfu, ysp, ymd, yac, yst, yrt, ycu, yhv, ytk, ytv, yus, ygk, yga, ygb, yck, yca, ycb, ycc, yfp, yfe, yfS, yfn, yfb, yvs, yds, 50000, 50000, 50000, 50000)) ∧
      (c = k → yac ≠ yli → ∀ ck' ca' cb' cC' md', md' = (if yac + 1 ≤ ymd then ymd else yac + 1) → yc_S yck yca ycb ycc (fun i => ytv (q + 3 + i)) (fun i => yvs (b + i)) (ycb f) hp k ck' ca' cb' cC' →
        wpY_req Q (yli, nI n, ypr, ygs, ypo, nI (hp + k), yfs, nI b, yfu, ysp, md', yac + 1, yst, yrt, ycu, yhv, ytk, ytv, yus, ygk, yga, ygb, ck', ca', cb', cC', yfp, yfe, upd yfS y 2, yfn, yfb, yvs, yds, 50000, 50000, 50000, 50000) (nI (q + 4 + k)) (hb_e (ycb f) hp k))) : wpY_stepApp Q (yli, nI n, ypr, ygs, ypo, nI hp, yfs, nI (b + k + 1), yfu, ysp, ymd, yac, yst, yrt, ycu, yhv, ytk, ytv, yus, ygk, yga, ygb, yck, yca, ycb, ycc, yfp, yfe, yfS, yfn, yfb, yvs, yds, 50000, 50000, 50000, 50000) (nI y) := by
  have H1 := H.1
  have hi : vp_in (nI y) 512 := vp_in_nI hy (by omega)
  have hc : (nI y).toNatClampNeg = y := nI_clamp (by omega)
  have hif : vp_in (nI f) 50000 := vp_in_nI hf (by omega)
  have hcf : (nI f).toNatClampNeg = f := nI_clamp (by omega)
  refine ⟨hi, nm_r (show yfb (nI y).toNatClampNeg = nI b from by rw [hc]; exact hB) ⟨hi, nm_r (show yfS (nI y).toNatClampNeg = 1 from by rw [hc]; exact hS) (br_f (by decide) (br_f (by decide) ?_))⟩⟩
  rw [nI_pred (b + k)]
  refine yr_vat (i := b + k) (by omega) (nm_r (show nI (b + k) - nI b = nI k from by rw [pk_sub (by omega), show b + k - b = k from by omega]) ?_)
  rw [hv, hcf]
  refine ⟨hif, ?_⟩
  by_cases v4 : yck f = 4
  · obtain ⟨q, c, e1, l1, P, g1, g2, g3⟩ := hcl v4
    refine br_t v4 ⟨hif, nm_r e1 ?_⟩
    have c4 := P.1
    refine yA_ar (q := q) H (by omega) P (pk_eq c k (fun ek => ?_) (fun ek => g1 ek))
    have loop : ∀ md', md' = (if yac + 1 ≤ ymd then ymd else yac + 1) → yac ≠ yli → wY_stepApp_235 Q (nI y) (nI b) (nI k) (nI q) (k + 1) (ycb f) (nI 0) yli (nI n) ypr ygs ypo (nI hp) yfs (nI (b + k + 1)) yfu ysp md' (yac + 1) yst yrt ycu yhv ytk ytv yus ygk yga ygb yck yca ycb ycc yfp yfe yfS yfn yfb yvs yds 50000 50000 50000 50000 := by
      intro md' em ea
      refine yA_cL (e0 := ycb f) H hk (by omega) hh (by omega) (fun ck' ca' cb' cC' S => ⟨hi, nm_r (by rw [hc]) ?_⟩) k 0 yck yca ycb ycc (by omega) yc_0
      rw [ni_4 q, nI_add (q + 4) k]
      exact g3 ek ea ck' ca' cb' cC' md' em S
    by_cases ea : yac = yli
    · exact br_t ea (g2 ek ea)
    · refine br_f ea (nm_e ?_)
      by_cases em : yac + 1 ≤ ymd
      · exact br_t em ⟨hif, nm_e ⟨k + 1, loop ymd (if_pos em).symm ea⟩⟩
      · exact br_f em ⟨hif, nm_e ⟨k + 1, loop (yac + 1) (if_neg em).symm ea⟩⟩
  · exact br_f v4 (h8 v4)
end
