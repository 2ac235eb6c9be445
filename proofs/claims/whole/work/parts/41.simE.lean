/-- the program's facts -/
def pg_F (xtk xtv xaf xro xsc xho : Nat → Int32) (n : Nat) (par : Nat → Nat) : Prop := tk_ok xtk n ∧ xb_A (tk_K xtk n) n xaf ∧ rw_W (tk_K xtk n) xtv (sk_f (tk_K xtk n) n) n n (xr_c n xro) par ∧ (∀ i, i < n → xr_c n xro i = 1 → tk_K xtk n i = 1 → sc_L (tk_K xtk n) (sk_f (tk_K xtk n) n) xsc i) ∧ (∀ i, i < n → xr_c n xro i = 1 → tk_K xtk n i = 4 → xs_P n xtv (xr_c n xro) par xsc xho i) ∧ (∀ vk vf vs, lt_L (tk_K xtk n) xtv (sk_f (tk_K xtk n) n) (xr_c n xro) vk vf vs n → cp_P xtk xtv n xaf xro xsc xho vk vf vs)
def sm_RT (xdl : Int32) (xtk xtv xaf xro xsc xho : Nat → Int32) (n F d : Nat) : Prop :=
  ∀ (VR : Nat → Nat → Prop) (g nm : Nat → Nat) (vc cc hp fc oc y u s t it a b : Nat) (xex xen xac xmd ygs ypo yst yrt ycu : Int32) (xvk xvf xvs xcv xco xff xfp xfe xfb xop yus ygk yga ygb yck yca ycb ycc yfp yfe yfS yfn yfb yvs yds : Nat → Int32), t + d = 900 → (sr_I (tk_K xtk n) xtv (sk_f (tk_K xtk n) n) (xr_c n xro) xsc n VR g nm vc cc hp fc oc y u s t it 1 F xvk xvf xvs xcv xco xff xfp xfe xfb xop yck yca ycb ycc yfp yfe yfS yfn yfb yvs) → yvs oc = nI b → VR a b → sm_R (xdl, nI n, 1, nI vc, nI cc, nI fc, nI oc, 1, nI a, xex, xen, nI F, xac, -1, nI s, xmd, -1, -1, xtk, xtv, xaf, xro, xsc, xho, xvk, xvf, xvs, xcv, xco, xff, xfp, xfe, xfb, xop) (xdl, nI n, 1, ygs, ypo, nI hp, nI y, nI (oc + 1), nI F, nI s, xmd, xac, yst, yrt, ycu, 0, xtk, xtv, yus, ygk, yga, ygb, yck, yca, ycb, ycc, yfp, yfe, yfS, yfn, yfb, yvs, yds, 50000, 50000, 50000, 50000) t it
def sm_ET (xdl : Int32) (xtk xtv xaf xro xsc xho : Nat → Int32) (n F d : Nat) : Prop :=
  ∀ (VR : Nat → Nat → Prop) (g nm : Nat → Nat) (vc cc hp fc oc y u s t it q : Nat) (xan xen e xac xmd ygs ypo yst yrt ycu : Int32) (xvk xvf xvs xcv xco xff xfp xfe xfb xop yus ygk yga ygb yck yca ycb ycc yfp yfe yfS yfn yfb yvs yds : Nat → Int32), t + d = 900 → (sr_I (tk_K xtk n) xtv (sk_f (tk_K xtk n) n) (xr_c n xro) xsc n VR g nm vc cc hp fc oc y u s t it 0 F xvk xvf xvs xcv xco xff xfp xfe xfb xop yck yca ycb ycc yfp yfe yfS yfn yfb yvs) → q < n → xr_c n xro q = 1 → hb_E g nm cc xen e (xsc q) → sm_E (xdl, nI n, 1, nI vc, nI cc, nI fc, nI oc, 0, xan, nI q, xen, nI F, xac, -1, nI s, xmd, -1, -1, xtk, xtv, xaf, xro, xsc, xho, xvk, xvf, xvs, xcv, xco, xff, xfp, xfe, xfb, xop) (xdl, nI n, 1, ygs, ypo, nI hp, nI y, nI oc, nI F, nI s, xmd, xac, yst, yrt, ycu, 0, xtk, xtv, yus, ygk, yga, ygb, yck, yca, ycb, ycc, yfp, yfe, yfS, yfn, yfb, yvs, yds, 50000, 50000, 50000, 50000) t it (nI q) e
section
variable {xdl xtn xpp xvc xcc xfc xoc xag xan xex xen xfl xac xst xsp xmd xrt xcu : Int32} {xtk xtv xaf xro xsc xho xvk xvf xvs xcv xco xff xfp xfe xfb xop : Nat → Int32} {yli yn ypr ygs ypo yhp yfs yvp yfu ysp ymd yac yst yrt ycu yhv : Int32} {ytk ytv yus ygk yga ygb yck yca ycb ycc yfp yfe yfS yfn yfb yvs yds : Nat → Int32} {ynk yna ynb ync : Nat} {n : Nat} {par : Nat → Nat} {VR : Nat → Nat → Prop} {g nm : Nat → Nat} {vc cc hp fc oc y u s t it F d : Nat}
theorem sf_err (PG : pg_F xtk xtv xaf xro xsc xho n par) (h0 : yck 0 = 2) (L : lt_L (tk_K xtk n) xtv (sk_f (tk_K xtk n) n) (xr_c n xro) xvk xvf xvs n) : i_Rel 0 (xdl, nI n, 1, xvc, xcc, xfc, xoc, xag, xan, xex, xen, xfl, xac, xst, xsp, xmd, -1, -1, xtk, xtv, xaf, xro, xsc, xho, xvk, xvf, xvs, xcv, xco, xff, xfp, xfe, xfb, xop) (xdl, nI n, 1, ygs, ypo, yhp, yfs, yvp, yfu, xsp, xmd, yac, xst, yrt, ycu, 0, xtk, xtv, yus, ygk, yga, ygb, yck, yca, ycb, ycc, yfp, yfe, yfS, yfn, yfb, yvs, yds, 50000, 50000, 50000, 50000) :=
  ⟨_, _, _, _, _, _, _, _, _, _, _, _, _, _, _, _, _,  _, _, _, _, _, _, _, _, _, _, _, _, _, _, _, _,  _, _, _, _, _, _, _, _, _, _,  _, _, _, _, _, _, _, _, _, _, _, _, _, _, _,  n, rfl, rfl, PG.1, h0, Or.inr ⟨rfl, PG.2.2.2.2.2 _ _ _ L⟩, Or.inl ⟨rfl, rfl, rfl⟩⟩
theorem se_fuel (PG : pg_F xtk xtv xaf xro xsc xho n par) (I : (sr_I (tk_K xtk n) xtv (sk_f (tk_K xtk n) n) (xr_c n xro) xsc n VR g nm vc cc hp fc oc y u s t it 0 F xvk xvf xvs xcv xco xff xfp xfe xfb xop yck yca ycb ycc yfp yfe yfS yfn yfb yvs)) (ht : t < 990) (hit : it < 1900) (hs : s = F) {q : Nat} {e : Int32} : sm_E (xdl, nI n, 1, nI vc, nI cc, nI fc, nI oc, 0, xan, nI q, xen, nI F, xac, -1, nI s, xmd, -1, -1, xtk, xtv, xaf, xro, xsc, xho, xvk, xvf, xvs, xcv, xco, xff, xfp, xfe, xfb, xop) (xdl, nI n, 1, ygs, ypo, nI hp, nI y, nI oc, nI F, nI s, xmd, xac, yst, yrt, ycu, 0, xtk, xtv, yus, ygk, yga, ygb, yck, yca, ycb, ycc, yfp, yfe, yfS, yfn, yfb, yvs, yds, 50000, 50000, 50000, 50000) t it (nI q) e := by
  obtain ⟨B, O, R, N, L⟩ := I
  subst hs
  exact sm_Efuel ht hit rfl (fun Q h => yq_fuel rfl h) (sf_err PG B.2.2.2.2 L)
theorem se_num (PG : pg_F xtk xtv xaf xro xsc xho n par) (I : (sr_I (tk_K xtk n) xtv (sk_f (tk_K xtk n) n) (xr_c n xro) xsc n VR g nm vc cc hp fc oc y u s t it 0 F xvk xvf xvs xcv xco xff xfp xfe xfb xop yck yca ycb ycc yfp yfe yfS yfn yfb yvs)) (hs : s < F) {q : Nat} {e : Int32} (hq : q < n) (k3 : tk_K xtk n q = 3) (ht : t + (d + 1) = 900) (IH : sm_RT xdl xtk xtv xaf xro xsc xho n F d) : sm_E (xdl, nI n, 1, nI vc, nI cc, nI fc, nI oc, 0, xan, nI q, xen, nI F, xac, -1, nI s, xmd, -1, -1, xtk, xtv, xaf, xro, xsc, xho, xvk, xvf, xvs, xcv, xco, xff, xfp, xfe, xfb, xop) (xdl, nI n, 1, ygs, ypo, nI hp, nI y, nI oc, nI F, nI s, xmd, xac, yst, yrt, ycu, 0, xtk, xtv, yus, ygk, yga, ygb, yck, yca, ycb, ycc, yfp, yfe, yfS, yfn, yfb, yvs, yds, 50000, 50000, 50000, 50000) t it (nI q) e := by
  obtain ⟨B, O, R, N, L⟩ := I
  have H := PG.1
  have H1 := H.1
  unfold sr_N at N
  have hyy : ∀ i, i < hp → upd yck hp 1 i = yck i ∧ upd yca hp (xtv q) i = yca i ∧ upd ycb hp 0 i = ycb i ∧ upd ycc hp 0 i = ycc i := fun i hi => ⟨pk_un (by omega), pk_un (by omega), pk_un (by omega), pk_un (by omega)⟩
  refine sm_ER (by omega) (fun Q h => xr_lit H hq (Or.inl k3) hs (by omega) h) (fun Q h => yq_num H hq k3 hs (by omega) (by omega) (by omega) h) (IH (fun a b => VR a b ∨ (a = q ∧ b = hp)) g nm vc cc (hp + 1) fc oc y u (s + 1) (t + 1) it q hp _ _ _ _ _ _ _ _ _  _ _ _ _ _ _ _ _ _ _ _ _ _ _ _ _ _ _ _ _ _ _ _ _ _  (by omega) ⟨?_, ?_, R, ?_, L⟩ pk_us (Or.inr ⟨rfl, rfl⟩))
  · refine hb_add (Nat.le_refl _) (by omega) (fun a b z => Or.inl z) (fun _ _ => ⟨rfl, rfl, rfl⟩) hyy (fun _ _ => ⟨rfl, rfl⟩) (fun a b z => ?_) B
    rcases z with z | ⟨z1, z2⟩
    · exact Or.inl z
    · refine Or.inr ?_
      rw [z1, z2]
      have l3 := (L q hq).1 k3
      exact ⟨by omega, by omega, Or.inl ⟨l3.1, pk_us, by rw [pk_us]; exact l3.2⟩⟩
  · exact op_m (fun a b z => Or.inl z) (fun k hk => ⟨rfl, pk_un (by omega)⟩) O
  · unfold sr_N; omega
theorem se_nil (PG : pg_F xtk xtv xaf xro xsc xho n par) (I : (sr_I (tk_K xtk n) xtv (sk_f (tk_K xtk n) n) (xr_c n xro) xsc n VR g nm vc cc hp fc oc y u s t it 0 F xvk xvf xvs xcv xco xff xfp xfe xfb xop yck yca ycb ycc yfp yfe yfS yfn yfb yvs)) (hs : s < F) {q : Nat} {e : Int32} (hq : q < n) (k5 : tk_K xtk n q = 5) (ht : t + (d + 1) = 900) (IH : sm_RT xdl xtk xtv xaf xro xsc xho n F d) : sm_E (xdl, nI n, 1, nI vc, nI cc, nI fc, nI oc, 0, xan, nI q, xen, nI F, xac, -1, nI s, xmd, -1, -1, xtk, xtv, xaf, xro, xsc, xho, xvk, xvf, xvs, xcv, xco, xff, xfp, xfe, xfb, xop) (xdl, nI n, 1, ygs, ypo, nI hp, nI y, nI oc, nI F, nI s, xmd, xac, yst, yrt, ycu, 0, xtk, xtv, yus, ygk, yga, ygb, yck, yca, ycb, ycc, yfp, yfe, yfS, yfn, yfb, yvs, yds, 50000, 50000, 50000, 50000) t it (nI q) e := by
  obtain ⟨B, O, R, N, L⟩ := I
  have H := PG.1
  have H1 := H.1
  unfold sr_N at N
  refine sm_ER (by omega) (fun Q h => xr_lit H hq (Or.inr k5) hs (by omega) h) (fun Q h => yq_nil H hq k5 hs (by omega) (by omega) h) (IH (fun a b => VR a b ∨ (a = q ∧ b = 0)) g nm vc cc hp fc oc y u (s + 1) (t + 1) it q 0 _ _ _ _ _ _ _ _ _  _ _ _ _ _ _ _ _ _ _ _ _ _ _ _ _ _ _ _ _ _ _ _ _ _  (by omega) ⟨?_, ?_, R, ?_, L⟩ pk_us (Or.inr ⟨rfl, rfl⟩))
  · refine hb_add (Nat.le_refl _) (Nat.le_refl _) (fun a b z => Or.inl z) (fun _ _ => ⟨rfl, rfl, rfl⟩) (fun _ _ => ⟨rfl, rfl, rfl, rfl⟩) (fun _ _ => ⟨rfl, rfl⟩) (fun a b z => ?_) B
    rcases z with z | ⟨z1, z2⟩
    · exact Or.inl z
    · refine Or.inr ?_
      rw [z1, z2]
      exact ⟨by omega, B.2.2.2.1, Or.inr (Or.inl ⟨(L q hq).2.1 k5, B.2.2.2.2⟩)⟩
  · exact op_m (fun a b z => Or.inl z) (fun k hk => ⟨rfl, pk_un (by omega)⟩) O
  · unfold sr_N; omega
/-- the two walks to a name's cell -/
theorem hb_walk {K : Nat → Nat} {V R sc : Nat → Int32} {n : Nat} {VR : Nat → Nat → Prop} {g nm : Nat → Nat} {vc cc hp lo : Nat} {vk vf vs cv co ck ca cb cC : Nat → Int32} {x : Int32} (hn : n ≤ 64) (hcc : cc ≤ 404) (hhp : hp ≤ 50000) (B : hb_B K V R sc n VR g nm vc cc hp lo vk vf vs cv co ck ca cb cC) :
    ∀ (l : List Nat) (h : Nat) (c e s' : Int32), sc_H n sc l s' → sc_F V x l h → hb_E g nm cc c e s' → ∃ i, i < cc ∧ xh_W co h c i ∧ yh_W ca cC x h e (g i)
  | [], _, _, _, _, _, hF, _ => False.elim hF
  | m :: l, h, c, e, s', hH, hF, hE => by
    obtain ⟨e1, hm, hH⟩ := hH
    rcases hE with ⟨_, _, z⟩ | ⟨i, hi, ec, ee, es⟩
    · rw [e1] at z
      exact absurd z (ni_nm1 (by omega))
    · have hC := B.2.1 i hi
      have h1 := hC.1
      have h2 := hC.2.1
      have emi : m = nm i := by
        rw [e1] at es
        exact (nI_eq (by omega) (by omega)).mp es
      have eca : ca (g i) = V m := by rw [emi]; exact hC.2.2.2.1
      rcases hF with ⟨ev, eh⟩ | ⟨ev, h', eh, hF⟩
      · subst eh
        exact ⟨i, hi, ec, ee, by omega, by rw [eca]; exact ev⟩
      · subst eh
        have hE2 := hC.2.2.2.2.1
        rw [← emi] at hE2
        obtain ⟨i', hi', w1, w2⟩ := hb_walk hn hcc hhp B l h' (co i) (cC (g i)) (sc m) hH hF hE2
        exact ⟨i', hi', ⟨i, ec, by omega, w1⟩, ⟨g i, ee, by omega, by rw [eca]; exact ev, w2⟩⟩
theorem sc_Fl {V : Nat → Int32} {x : Int32} : ∀ {l : List Nat} {h : Nat}, sc_F V x l h → h < l.length
  | [], _, h => False.elim h
  | m :: l, h, hF => by
    rcases hF with ⟨_, e⟩ | ⟨_, h', e, hF⟩
    · simp only [List.length_cons]; omega
    · have := sc_Fl hF
      simp only [List.length_cons]; omega
theorem se_sym (PG : pg_F xtk xtv xaf xro xsc xho n par) (I : (sr_I (tk_K xtk n) xtv (sk_f (tk_K xtk n) n) (xr_c n xro) xsc n VR g nm vc cc hp fc oc y u s t it 0 F xvk xvf xvs xcv xco xff xfp xfe xfb xop yck yca ycb ycc yfp yfe yfS yfn yfb yvs)) (hs : s < F) {q : Nat} {e : Int32} (hq : q < n) (rq : xr_c n xro q = 1) (k4 : tk_K xtk n q = 4) (hE : hb_E g nm cc xen e (xsc q)) (ht : t + (d + 1) = 900) (IH : sm_RT xdl xtk xtv xaf xro xsc xho n F d) : sm_E (xdl, nI n, 1, nI vc, nI cc, nI fc, nI oc, 0, xan, nI q, xen, nI F, xac, -1, nI s, xmd, -1, -1, xtk, xtv, xaf, xro, xsc, xho, xvk, xvf, xvs, xcv, xco, xff, xfp, xfe, xfb, xop) (xdl, nI n, 1, ygs, ypo, nI hp, nI y, nI oc, nI F, nI s, xmd, xac, yst, yrt, ycu, 0, xtk, xtv, yus, ygk, yga, ygb, yck, yca, ycb, ycc, yfp, yfe, yfS, yfn, yfb, yvs, yds, 50000, 50000, 50000, 50000) t it (nI q) e := by
  obtain ⟨B, O, R, N, L⟩ := I
  have H := PG.1
  have H1 := H.1
  unfold sr_N at N
  obtain ⟨l, h, p1, p2, p3, p4, p5⟩ := PG.2.2.2.2.1 q hq rq k4
  have hl := sc_Fl p4
  obtain ⟨i, hi, w1, w2⟩ := hb_walk H1 (by omega) (by omega) B l h xen e (xsc q) p1 p4 hE
  have hC := B.2.1 i hi
  obtain ⟨a, b, v1, v2, v3⟩ := hC.2.2.2.2.2 hi
  have hg := hC.1
  refine sm_ER (by omega) (fun Q h => xr_sym H hq k4 hs (by omega) (by omega) (by omega) p3 w1 h) (fun Q h => yq_sym H hq k4 hs (by omega) (by omega) (by omega) (by omega) w2 h) ?_
  rw [v1, v2]
  refine IH VR g nm vc cc hp fc oc y u (s + 1) (t + 1) it a b _ _ _ _ _ _ _ _ _  _ _ _ _ _ _ _ _ _ _ _ _ _ _ _ _ _ _ _ _ _ _ _ _ _  (by omega) ⟨B, ?_, R, ?_, L⟩ pk_us v3
  · exact op_m (fun a b z => z) (fun k hk => ⟨rfl, pk_un (by omega)⟩) O
  · unfold sr_N; omega
theorem se_lam (PG : pg_F xtk xtv xaf xro xsc xho n par) (I : (sr_I (tk_K xtk n) xtv (sk_f (tk_K xtk n) n) (xr_c n xro) xsc n VR g nm vc cc hp fc oc y u s t it 0 F xvk xvf xvs xcv xco xff xfp xfe xfb xop yck yca ycb ycc yfp yfe yfS yfn yfb yvs)) (hs : s < F) {q : Nat} {e : Int32} (hq : q < n) (rq : xr_c n xro q = 1) (k1 : tk_K xtk n q = 1) (k7 : tk_K xtk n (q + 1) = 7) (hE : hb_E g nm cc xen e (xsc q)) (ht : t + (d + 1) = 900) (IH : sm_RT xdl xtk xtv xaf xro xsc xho n F d) : sm_E (xdl, nI n, 1, nI vc, nI cc, nI fc, nI oc, 0, xan, nI q, xen, nI F, xac, -1, nI s, xmd, -1, -1, xtk, xtv, xaf, xro, xsc, xho, xvk, xvf, xvs, xcv, xco, xff, xfp, xfe, xfb, xop) (xdl, nI n, 1, ygs, ypo, nI hp, nI y, nI oc, nI F, nI s, xmd, xac, yst, yrt, ycu, 0, xtk, xtv, yus, ygk, yga, ygb, yck, yca, ycb, ycc, yfp, yfe, yfS, yfn, yfb, yvs, yds, 50000, 50000, 50000, 50000) t it (nI q) e := by
  obtain ⟨B, O, R, N, L⟩ := I
  have H := PG.1
  have H1 := H.1
  have hq1 : q + 1 < n := tk_lt (tk := xtk) (by omega)
  unfold sr_N at N
  have hyy : ∀ i, i < hp → upd yck hp 4 i = yck i ∧ upd yca hp (nI q) i = yca i ∧ upd ycb hp e i = ycb i ∧ upd ycc hp 0 i = ycc i := fun i hi => ⟨pk_un (by omega), pk_un (by omega), pk_un (by omega), pk_un (by omega)⟩
  have hxx : ∀ i, i < vc → upd xvk vc 4 i = xvk i ∧ upd xvf vc (nI q) i = xvf i ∧ upd xvs vc xen i = xvs i := fun i hi => ⟨pk_un (by omega), pk_un (by omega), pk_un (by omega)⟩
  refine sm_ER (by omega) (fun Q h => xr_form H hq k1 hs (by omega) (xr_lam H hq1 k7 (by omega) h)) (fun Q h => yq_lam H hq k1 k7 hs (by omega) (by omega) (by omega) h) (IH (fun a b => VR a b ∨ (a = vc ∧ b = hp)) g nm (vc + 1) cc (hp + 1) fc oc y u (s + 1) (t + 1) it vc hp _ _ _ _ _ _ _ _ _  _ _ _ _ _ _ _ _ _ _ _ _ _ _ _ _ _ _ _ _ _ _ _ _ _  (by omega) ⟨?_, ?_, R, ?_, ?_⟩ pk_us (Or.inr ⟨rfl, rfl⟩))
  · refine hb_add (by omega) (by omega) (fun a b z => Or.inl z) hxx hyy (fun _ _ => ⟨rfl, rfl⟩) (fun a b z => ?_) B
    rcases z with z | ⟨z1, z2⟩
    · exact Or.inl z
    · refine Or.inr ?_
      rw [z1, z2]
      refine ⟨by omega, by omega, Or.inr (Or.inr (Or.inr ⟨pk_us, pk_us, q, hq, rq, k1, k7, pk_us, pk_us, ?_⟩))⟩
      rw [pk_us, pk_us]; exact hE
  · exact op_m (fun a b z => Or.inl z) (fun k hk => ⟨rfl, pk_un (by omega)⟩) O
  · unfold sr_N; omega
  · exact lt_Lk L (fun j hj => ⟨hxx j (by omega), hxx (64 + j) (by omega)⟩)
theorem se_quote (PG : pg_F xtk xtv xaf xro xsc xho n par) (I : (sr_I (tk_K xtk n) xtv (sk_f (tk_K xtk n) n) (xr_c n xro) xsc n VR g nm vc cc hp fc oc y u s t it 0 F xvk xvf xvs xcv xco xff xfp xfe xfb xop yck yca ycb ycc yfp yfe yfS yfn yfb yvs)) (hs : s < F) {q : Nat} {e : Int32} (hq : q < n) (rq : xr_c n xro q = 1) (k1 : tk_K xtk n q = 1) (k6 : tk_K xtk n (q + 1) = 6) (ht : t + (d + 1) = 900) (IH : sm_RT xdl xtk xtv xaf xro xsc xho n F d) : sm_E (xdl, nI n, 1, nI vc, nI cc, nI fc, nI oc, 0, xan, nI q, xen, nI F, xac, -1, nI s, xmd, -1, -1, xtk, xtv, xaf, xro, xsc, xho, xvk, xvf, xvs, xcv, xco, xff, xfp, xfe, xfb, xop) (xdl, nI n, 1, ygs, ypo, nI hp, nI y, nI oc, nI F, nI s, xmd, xac, yst, yrt, ycu, 0, xtk, xtv, yus, ygk, yga, ygb, yck, yca, ycb, ycc, yfp, yfe, yfS, yfn, yfb, yvs, yds, 50000, 50000, 50000, 50000) t it (nI q) e := by
  obtain ⟨B, O, R, N, L⟩ := I
  have H := PG.1
  have H1 := H.1
  have W := PG.2.2.1
  have hn0 : ∀ i, n ≤ i → tk_K xtk n i = 0 := fun i => tk_0
  have hBp : ∀ i, i < n → tk_K xtk n i ≠ 2 → dp_I (tk_K xtk n) i (sk_f (tk_K xtk n) n i) := fun i hi hk => (PG.2.1 i hi hk).1
  have hq1 : q + 1 < n := tk_lt (tk := xtk) (by omega)
  unfold sr_N at N
  have hS := (W.2.1 q hq rq).1
  have lc : ls_C (tk_K xtk n) (sk_f (tk_K xtk n) n) (q + 2) 1 := by
    rcases gr_FSof hS k1 with ⟨k, l⟩ | ⟨k, l, k2, c', q'⟩ | ⟨k, l, k2, c', c1, c4, lc, bb⟩ | ⟨k, l⟩ | ⟨k, c', c4, l⟩
    · exact l
    · omega
    · omega
    · omega
    · omega
  have bd := ls_bd (K := (tk_K xtk n)) (n := n) (fun i => tk_0) lc
  have k2 := lc.1 0 (by omega)
  have kend := lc.2
  change tk_K xtk n (q + 2) ≠ 2 at k2
  change tk_K xtk n (sk_f (tk_K xtk n) n (q + 2)) = 2 at kend
  have h2 : q + 2 < n := (bd.1 0 (by omega)).1
  have h3 : sk_f (tk_K xtk n) n (q + 2) < n := (bd.1 1 (by omega)).1
  have r2 : xr_c n xro (q + 2) = 2 := ((W.2.1 q hq rq).2.2.1 (q + 2) ⟨k1, k6, ls_M_0 k2⟩).1
  have cov := dt_cov hn0 hBp W (sk_f (tk_K xtk n) n (q + 2) - (q + 2)) (q + 2) h2 r2 (Nat.le_refl _)
  have hR : ∀ m, m < n → xr_c n xro m = 2 → tk_K xtk n m = 3 ∨ tk_K xtk n m = 5 ∨ tk_K xtk n m = 1 := fun m hm hr => by
    rcases (W.2.2.1 m hm hr).1 with z | z | z
    · exact Or.inl z
    · exact Or.inr (Or.inl z)
    · exact Or.inr (Or.inr z.1)
  obtain ⟨hp', VR', ck', ca', cb', cC', ds', a, ⟨z1, z2, z3, z4, z5⟩, w⟩ := dt_datum (yli := xdl) (ypr := 1) (ygs := ygs) (ypo := ypo) (yfs := nI y) (yvp := nI oc) (yfu := nI F) (ysp := nI (s + 1)) (ymd := xmd) (yac := xac) (yst := yst) (yrt := yrt) (ycu := ycu) (yhv := 0) (yus := yus) (ygk := ygk) (yga := yga) (ygb := ygb) (yfp := yfp) (yfe := yfe) (yfS := yfS) (yfn := yfn) (yfb := yfb) (yvs := yvs) (yds := yds) H hBp (q0 := q + 2) cov L hR (by omega) h3 k2 kend (by omega) B (by omega)
  refine sm_ER (u1 := (xdl, nI n, 1, nI vc, nI cc, nI fc, nI oc, 1, nI (q + 2), nI q, xen, nI F, xac, -1, nI (s + 1), xmd, -1, -1, xtk, xtv, xaf, xro, xsc, xho, xvk, xvf, xvs, xcv, xco, xff, xfp, xfe, xfb, xop)) (v1 := (xdl, nI n, 1, ygs, ypo, nI hp', nI y, nI (oc + 1), nI F, nI (s + 1), xmd, xac, yst, yrt, ycu, 0, xtk, xtv, yus, ygk, yga, ygb, ck', ca', cb', cC', yfp, yfe, yfS, yfn, yfb, upd yvs oc (nI a), ds', 50000, 50000, 50000, 50000)) (by omega) (fun Q h => xr_form H hq k1 hs (by omega) (xr_quote H hq1 k6 h)) (fun Q h => yq_quote H hq k1 k6 hs (by omega) (w _ (yr_push (by omega) h))) (IH VR' g nm vc cc hp' fc oc y u (s + 1) (t + 1) it (q + 2) a _ _ _ _ _ _ _ _ _  _ _ _ _ _ _ _ _ _ _ _ _ _ _ _ _ _ _ _ _ _ _ _ _ _  (by omega) ⟨z4, ?_, R, ?_, L⟩ pk_us z5)
  · exact op_m z3 (fun k hk => ⟨rfl, pk_un (by omega)⟩) O
  · unfold sr_N; omega
end
