section
variable {xdl xtn xpp xvc xcc xfc xoc xag xan xex xen xfl xac xst xsp xmd xrt xcu : Int32} {xtk xtv xaf xro xsc xho xvk xvf xvs xcv xco xff xfp xfe xfb xop : Nat → Int32} {yli yn ypr ygs ypo yhp yfs yvp yfu ysp ymd yac yst yrt ycu yhv : Int32} {ytk ytv yus ygk yga ygb yck yca ycb ycc yfp yfe yfS yfn yfb yvs yds : Nat → Int32} {ynk yna ynb ync : Nat} {n : Nat} {par : Nat → Nat} {VR : Nat → Nat → Prop} {g nm : Nat → Nat} {vc cc hp fc oc y u s t it F d x b k q u' va vb : Nat}
theorem hb_kind {K : Nat → Nat} {V R sc : Nat → Int32} {n : Nat} {VR : Nat → Nat → Prop} {g nm : Nat → Nat} {vc cc hp lo a b : Nat} {vk vf vs cv co ck ca cb cC : Nat → Int32} (B : hb_B K V R sc n VR g nm vc cc hp lo vk vf vs cv co ck ca cb cC) (v : VR a b) : a < vc ∧ b < hp ∧ vk a = ck b ∧ (vk a = 1 → vf a = ca b) := by
  obtain ⟨h1, h2, h3⟩ := B.1 a b v
  refine ⟨h1, h2, ?_, ?_⟩
  · rcases h3 with w | w | w | w
    · exact w.1.trans w.2.1.symm
    · exact w.1.trans w.2.symm
    · exact w.1.trans w.2.1.symm
    · exact w.1.trans w.2.1.symm
  · intro k1
    rcases h3 with w | w | w | w
    · exact w.2.2
    · rw [k1] at w; exact absurd w.1 (by decide)
    · rw [k1] at w; exact absurd w.1 (by decide)
    · rw [k1] at w; exact absurd w.1 (by decide)
theorem sr_fin (PG : pg_F xtk xtv xaf xro xsc xho n par) (I : (sr_I (tk_K xtk n) xtv (sk_f (tk_K xtk n) n) (xr_c n xro) xsc n VR g nm vc cc hp fc oc 0 u s t it 1 F xvk xvf xvs xcv xco xff xfp xfe xfb xop yck yca ycb ycc yfp yfe yfS yfn yfb yvs)) (hv : yvs oc = nI vb) (v : VR va vb) (ht : t < 990) (hit : it < 1900) : sm_R (xdl, nI n, 1, nI vc, nI cc, nI fc, nI oc, 1, nI va, xex, xen, nI F, xac, -1, nI s, xmd, -1, -1, xtk, xtv, xaf, xro, xsc, xho, xvk, xvf, xvs, xcv, xco, xff, xfp, xfe, xfb, xop) (xdl, nI n, 1, ygs, ypo, nI hp, 0, nI (oc + 1), nI F, nI s, xmd, xac, yst, yrt, ycu, 0, xtk, xtv, yus, ygk, yga, ygb, yck, yca, ycb, ycc, yfp, yfe, yfS, yfn, yfb, yvs, yds, 50000, 50000, 50000, 50000) t it := by
  obtain ⟨B, O, R, N, L⟩ := I
  obtain ⟨r1, r2, r3⟩ := R
  subst r1 r2 r3
  unfold sr_N at N
  refine sm_Rfin ht hit ?_
  rw [hv]
  exact ⟨_, _, _, _, _, _, _, _, _, _, _, _, _, _, _, _, _,  _, _, _, _, _, _, _, _, _, _, _, _, _, _, _, _,  _, _, _, _, _, _, _, _, _, _,  _, _, _, _, _, _, _, _, _, _, _, _, _, _, _,  n, rfl, rfl, PG.1, B.2.2.2.2, Or.inr ⟨rfl, PG.2.2.2.2.2 _ _ _ L⟩, Or.inr ⟨rfl, rfl, VR, g, nm, vc, cc, hp, B, by omega, by omega, va, vb, va, vb, rfl, rfl, v, rfl, rfl, v⟩⟩
/-- what is known where a form's part has been answered -/
def sr_J (K : Nat → Nat) (V : Nat → Int32) (a : Nat → Nat) (R sc : Nat → Int32) (n : Nat) (VR : Nat → Nat → Prop) (g nm : Nat → Nat) (vc cc hp x b k q y u' s t it F : Nat) (xvk xvf xvs xcv xco xff xfp xfe xfb xop yck yca ycb ycc yfp yfe yfS yfn yfb yvs : Nat → Int32) (va vb : Nat) : Prop :=
  hb_B K V R sc n VR g nm vc cc hp cc xvk xvf xvs xcv xco yck yca ycb ycc ∧ op_R VR xop yvs (b + k) ∧ fr_W K a R sc n g nm cc xff xfp xfe xfb yfp yfe yfS yfn yfb x y b k q ∧ fr_R K a R sc n g nm cc xff xfp xfe xfb yfp yfe yfS yfn yfb y x b u' ∧ sr_N vc cc hp (x + 1) (b + k) (y + 1) (u' + 1) s t it 1 F ∧ lt_L K V a R xvk xvf xvs n ∧ yvs (b + k) = nI vb ∧ VR va vb
theorem sr_if (PG : pg_F xtk xtv xaf xro xsc xho n par) (J : sr_J (tk_K xtk n) xtv (sk_f (tk_K xtk n) n) (xr_c n xro) xsc n VR g nm vc cc hp x b k q y u' s t it F xvk xvf xvs xcv xco xff xfp xfe xfb xop yck yca ycb ycc yfp yfe yfS yfn yfb yvs va vb) (k10 : tk_K xtk n (q + 1) = 10) (ht : t + (d + 1) = 900) (IHE : sm_ET xdl xtk xtv xaf xro xsc xho n F d) : sm_R (xdl, nI n, 1, nI vc, nI cc, nI (x + 1), nI (b + k), 1, nI va, xex, xen, nI F, xac, -1, nI s, xmd, -1, -1, xtk, xtv, xaf, xro, xsc, xho, xvk, xvf, xvs, xcv, xco, xff, xfp, xfe, xfb, xop) (xdl, nI n, 1, ygs, ypo, nI hp, nI (y + 1), nI (b + k + 1), nI F, nI s, xmd, xac, yst, yrt, ycu, 0, xtk, xtv, yus, ygk, yga, ygb, yck, yca, ycb, ycc, yfp, yfe, yfS, yfn, yfb, yvs, yds, 50000, 50000, 50000, 50000) t it := by
  obtain ⟨B, O, Wf, R, N, L, hv, v⟩ := J
  obtain ⟨hq, rq, k1, w1, w2, w3, w4, w5, w6⟩ := Wf
  have H := PG.1
  have H1 := H.1
  have N' := N
  unfold sr_N at N
  have hn0 : ∀ i, n ≤ i → tk_K xtk n i = 0 := fun i => tk_0
  have hBp : ∀ i, i < n → tk_K xtk n i ≠ 2 → dp_I (tk_K xtk n) i (sk_f (tk_K xtk n) n i) := fun i hi hk => (PG.2.1 i hi hk).1
  have hq1 : q + 1 < n := tk_lt (tk := xtk) (by omega)
  have w6' : k = 0 ∧ xfp x = nI (q + 2) ∧ yfS y = 1 := by
    rcases w6 with w | w | w | w
    · exact w.2
    · omega
    · omega
    · omega
  obtain ⟨k0, w7, w8⟩ := w6'
  subst k0
  obtain ⟨lc, st, _⟩ := st_op hn0 hBp PG.2.2.1 PG.2.2.2.1 hq rq k1 (by omega)
  rw [k10] at lc st
  have s0 := st 0 (by decide)
  have s1 := st 1 (by decide)
  have s2 := st 2 (by decide)
  change q + 2 < n ∧ xr_c n xro (q + 2) = 1 ∧ tk_K xtk n (q + 2) ≠ 2 ∧ _ ∧ xsc (q + 2) = xsc q at s0
  change sk_f (tk_K xtk n) n (q + 2) < n ∧ xr_c n xro (sk_f (tk_K xtk n) n (q + 2)) = 1 ∧ tk_K xtk n (sk_f (tk_K xtk n) n (q + 2)) ≠ 2 ∧ _ ∧ xsc (sk_f (tk_K xtk n) n (q + 2)) = xsc q at s1
  change sk_f (tk_K xtk n) n (sk_f (tk_K xtk n) n (q + 2)) < n ∧ xr_c n xro (sk_f (tk_K xtk n) n (sk_f (tk_K xtk n) n (q + 2))) = 1 ∧ _ ∧ _ ∧ xsc (sk_f (tk_K xtk n) n (sk_f (tk_K xtk n) n (q + 2))) = xsc q at s2
  have kd := hb_kind B v
  have hA : xp_A (tk_K xtk n) (sk_f (tk_K xtk n) n) n q (q + 2) (-1) := ⟨s0.1, s0.2.2.1, Or.inl ⟨k10, rfl⟩⟩
  have opb : upd xop (b + 0) (nI va) b = nI va := pk_us
  have hvb : yvs b = nI vb := hv
  by_cases v1 : xvk va = 1
  · have c1 : yck vb = 1 := by rw [← kd.2.2.1]; exact v1
    have ev : xvf va = yca vb := kd.2.2.2 v1
    have key : ∀ T, (xvf va = 0 → T = sk_f (tk_K xtk n) n (sk_f (tk_K xtk n) n (q + 2))) → (xvf va ≠ 0 → T = sk_f (tk_K xtk n) n (q + 2)) → T < n → xr_c n xro T = 1 → xsc T = xsc q → sm_R (xdl, nI n, 1, nI vc, nI cc, nI (x + 1), nI (b + 0), 1, nI va, xex, xen, nI F, xac, -1, nI s, xmd, -1, -1, xtk, xtv, xaf, xro, xsc, xho, xvk, xvf, xvs, xcv, xco, xff, xfp, xfe, xfb, xop) (xdl, nI n, 1, ygs, ypo, nI hp, nI (y + 1), nI (b + 0 + 1), nI F, nI s, xmd, xac, yst, yrt, ycu, 0, xtk, xtv, yus, ygk, yga, ygb, yck, yca, ycb, ycc, yfp, yfe, yfS, yfn, yfb, yvs, yds, 50000, 50000, 50000, 50000) t it := by
      intro T t1 t2 hT rT sT
      refine sm_RE (y := y) (u1 := (xdl, nI n, 1, nI vc, nI cc, nI x, nI b, 0, nI va, nI T, xfe x, nI F, xac, -1, nI s, xmd, -1, -1, xtk, xtv, xaf, xro, xsc, xho, xvk, xvf, xvs, xcv, xco, xff, upd xfp x (-1), xfe, xfb, upd xop (b + 0) (nI va))) (v2 := (xdl, nI n, 1, ygs, ypo, nI hp, nI (y + 1), nI b, nI F, nI s, xmd, xac, yst, yrt, ycu, 0, xtk, xtv, yus, ygk, yga, ygb, yck, yca, ycb, ycc, yfp, yfe, upd yfS y 2, yfn, yfb, yvs, yds, 50000, 50000, 50000, 50000)) (q' := nI T) (e' := yfe y) (by omega) (by omega) (by omega) (fun Q h => xr_last H PG.2.1 (p := q + 2) (by omega) (by omega) hq1 w1 w7 hA (xF_if (xop := upd xop (b + 0) (nI va)) (xfp := upd xfp x (-1)) H PG.2.1 (by omega) (by omega) (by omega) w1 w3 k10 s0.1 s0.2.2.1 s1.1 s1.2.2.1 opb (fun z => absurd v1 z) (fun _ T' a1 a2 => ?_))) (fun Q h => yF_dIf H (by omega) w2 hq k10 (yI_1 H (by omega) w2 w8 w4 (by omega) hq (by omega) hvb (by omega) (fun z => absurd c1 z) (fun _ T' a1 a2 => ?_))) ?_
      · have : T' = T := by
          by_cases z : xvf va = 0
          · rw [a1 z, t1 z]
          · rw [a2 z, t2 z]
        rw [this]; exact h
      · have : T' = T := by
          by_cases z : xvf va = 0
          · rw [a1 (by rw [← ev]; exact z), t1 z]
          · rw [a2 (by rw [← ev]; exact z), t2 z]
        rw [this]; exact h
      · refine IHE VR g nm vc cc hp x b (y + 1) u' s (t + 1) (it + 1) T _ _ _ _ _ _ _ _ _ _  _ _ _ _ _ _ _ _ _ _ _ _ _ _ _ _ _ _ _ _ _ _ _ _ _  (by omega) ⟨B, op_m (fun _ _ z => z) (fun i hi => ⟨pk_un (by omega), rfl⟩) (op_l (by omega) O), Or.inl ⟨⟨w4, q, hq, w2, Or.inl ⟨k10, pk_us⟩⟩, fr_k (Nat.le_refl _) (fun _ _ => ⟨rfl, rfl⟩) (fun i hi => ⟨rfl, pk_un (by omega), rfl, rfl⟩) (fun i hi => ⟨rfl, rfl, pk_un (by omega), rfl, rfl⟩) R⟩, by unfold sr_N; omega, L⟩ hT rT (by rw [sT]; exact w5)
    by_cases z : xvf va = 0
    · exact key _ (fun _ => rfl) (fun w => absurd z w) s2.1 s2.2.1 s2.2.2.2.2
    · exact key _ (fun w => absurd w z) (fun _ => rfl) s1.1 s1.2.1 s1.2.2.2.2
  · have c1 : yck vb ≠ 1 := by rw [← kd.2.2.1]; exact v1
    refine sm_Rerr (y := y) (r := 6) (u1 := (xdl, nI n, 1, nI vc, nI cc, nI x, nI b, 1, nI va, xex, xfe x, nI F, xac, 6, nI s, xmd, -1, -1, xtk, xtv, xaf, xro, xsc, xho, xvk, xvf, xvs, xcv, xco, xff, upd xfp x (-1), xfe, xfb, upd xop (b + 0) (nI va))) (v2 := (xdl, nI n, 1, ygs, ypo, nI hp, nI (y + 1), nI (b + 0 + 1), nI F, nI s, xmd, xac, yst, yrt, ycu, 0, xtk, xtv, yus, ygk, yga, ygb, yck, yca, ycb, ycc, yfp, yfe, yfS, yfn, yfb, yvs, yds, 50000, 50000, 50000, 50000)) (by omega) (by omega) (by omega) (by decide) (by decide) rfl (fun Q h => xr_last H PG.2.1 (p := q + 2) (by omega) (by omega) hq1 w1 w7 hA (xF_if (xop := upd xop (b + 0) (nI va)) (xfp := upd xfp x (-1)) H PG.2.1 (by omega) (by omega) (by omega) w1 w3 k10 s0.1 s0.2.2.1 s1.1 s1.2.2.1 opb (fun _ => h) (fun z => absurd z v1))) (fun Q h => yF_dIf H (by omega) w2 hq k10 (yI_1 H (by omega) w2 w8 w4 (by omega) hq (by omega) hvb (by omega) (fun _ => h) (fun z => absurd z c1))) (sf_err PG B.2.2.2.2 L)
end
