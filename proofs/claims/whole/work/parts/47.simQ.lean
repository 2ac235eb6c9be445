/-! LETREC -/
theorem hb_fills {K : Nat → Nat} {V R sc : Nat → Int32} {n : Nat} {VR : Nat → Nat → Prop} {g nm : Nat → Nat} {vc cc hp lo : Nat} {vk vf vs cv co ck ca cb cC cv' cb' : Nat → Int32} (B : hb_B K V R sc n VR g nm vc cc hp lo vk vf vs cv co ck ca cb cC) (h1 : ∀ c, c < lo → cv' c = cv c) (h2 : ∀ j, (∀ c, lo ≤ c → c < cc → j ≠ g c) → cb' j = cb j) (h3 : ∀ c, lo ≤ c → c < cc → ∃ a b, cv' c = nI a ∧ cb' (g c) = nI b ∧ VR a b) :
    hb_B K V R sc n VR g nm vc cc hp cc vk vf vs cv' co ck ca cb' cC := by
  obtain ⟨b1, b2, b3, b4, b5⟩ := B
  refine ⟨fun i j hij => ?_, fun c hc => ?_, b3, b4, b5⟩
  · obtain ⟨q1, q2, q3⟩ := b1 i j hij
    refine ⟨q1, q2, hb_Vm (fun _ _ z => z) (Nat.le_refl _) (fun _ _ => ⟨rfl, rfl⟩) ⟨rfl, rfl, rfl⟩ ⟨rfl, rfl, h2 j (fun c hc1 hc2 e => ?_)⟩ q3⟩
    have k5 := (b2 c hc2).2.2.1
    rw [← e] at k5
    rcases q3 with w | w | w | w
    · rw [w.2.1] at k5; exact absurd k5 (by decide)
    · rw [w.2] at k5; exact absurd k5 (by decide)
    · rw [w.2.1] at k5; exact absurd k5 (by decide)
    · rw [w.2.1] at k5; exact absurd k5 (by decide)
  · obtain ⟨g1, g2, g3, g4, g5, g6⟩ := b2 c hc
    refine ⟨g1, g2, g3, g4, g5, fun _ => ?_⟩
    rcases Nat.lt_or_ge c lo with z | z
    · obtain ⟨a, b, e1, e2, v⟩ := g6 z
      refine ⟨a, b, (h1 c z).trans e1, (h2 (g c) (fun c' hc1 hc2 e => ?_)).trans e2, v⟩
      have := b3 c c' (by omega) hc2
      omega
    · exact h3 c z hc
theorem yh_chain {ca cC : Nat → Int32} {e0 x : Int32} {h0 i : Nat} : ∀ d, h0 + i + d < 50000 → ca (h0 + i) = x → (∀ m, i < m → m ≤ i + d → ca (h0 + m) ≠ x) → (∀ m, m ≤ i + d → cC (h0 + m) = hb_e e0 h0 m) → yh_W ca cC x d (hb_e e0 h0 (i + 1 + d)) (h0 + i)
  | 0, hl, h1, _, _ => ⟨rfl, by omega, h1⟩
  | d + 1, hl, h1, h2, h3 => by
    refine ⟨h0 + (i + 1 + d), rfl, by omega, h2 (i + 1 + d) (by omega) (by omega), ?_⟩
    rw [h3 (i + 1 + d) (by omega)]
    exact yh_chain d (by omega) h1 (fun m m1 m2 => h2 m m1 (by omega)) (fun m hm => h3 m (by omega))
def sq_J (K : Nat → Nat) (V : Nat → Int32) (a : Nat → Nat) (R sc : Nat → Int32) (n : Nat) (g nm : Nat → Nat) (c0 h0 c q fc oc y u F : Nat) (e00 e01 : Int32) (VR : Nat → Nat → Prop) (vc hp s t it j : Nat) (xvk xvf xvs xcv xco xff xfp xfe xfb xop yck yca ycb ycc yfp yfe yfS yfn yfb yvs : Nat → Int32) : Prop :=
  hb_B K V R sc n VR g nm vc (c0 + c) hp c0 xvk xvf xvs xcv xco yck yca ycb ycc ∧ op_R VR xop yvs (oc + j) ∧ fr_R K a R sc n g nm (c0 + c) xff xfp xfe xfb yfp yfe yfS yfn yfb y fc oc u ∧
  (xff fc = nI q ∧ xfp fc = nI (it_f a j (q + 3) + 2) ∧ xfe fc = hb_e e00 c0 c ∧ xfb fc = nI oc) ∧ (yfp y = nI q ∧ yfe y = hb_e e01 h0 c ∧ yfS y = 1 ∧ yfn y = nI (it_f a (j + 1) (q + 3)) ∧ yfb y = nI oc) ∧
  hb_E g nm (c0 + c) (hb_e e00 c0 c) (hb_e e01 h0 c) (hb_s (sc q) (fun i => it_f a i (q + 3) + 1) c) ∧ (∀ i, i < c → g (c0 + i) = h0 + i ∧ xco (c0 + i) = hb_e e00 c0 i ∧ yca (h0 + i) = V (it_f a i (q + 3) + 1) ∧ ycc (h0 + i) = hb_e e01 h0 i) ∧ h0 + c ≤ hp ∧
  (vc + u ≤ 128 + s ∧ 128 ≤ vc ∧ c0 + oc + fc + 1 + j ≤ s ∧ c0 + c ≤ 404 ∧ hp + 4 * u ≤ 1 + 122 * s ∧ y + 1 ≤ s ∧ t + (fc + 1) ≤ 2 * s ∧ it + (y + 1) ≤ 3 * s + 1 ∧ s ≤ F ∧ F ≤ 400) ∧ lt_L K V a R xvk xvf xvs n
theorem sq_lam {xdl : Int32} {xtk xtv xaf xro xsc xho : Nat → Int32} {n F d : Nat} {par : Nat → Nat} (PG : pg_F xtk xtv xaf xro xsc xho n par) {g nm : Nat → Nat} {c0 h0 c q fc oc y u : Nat} {e00 e01 : Int32} (hq : q < n) (rq : xr_c n xro q = 1) (k1 : tk_K xtk n q = 1) (k9 : tk_K xtk n (q + 1) = 9) (lc0 : ls_C (tk_K xtk n) (sk_f (tk_K xtk n) n) (q + 3) c) (IHE : ∀ d', d' < d → sm_ET xdl xtk xtv xaf xro xsc xho n F d') :
    ∀ (m j : Nat) (VR : Nat → Nat → Prop) (vc hp s t it : Nat) (xan xac xmd ygs ypo yst yrt ycu : Int32) (xvk xvf xvs xcv xco xff xfp xfe xfb xop yus ygk yga ygb yck yca ycb ycc yfp yfe yfS yfn yfb yvs yds : Nat → Int32), j + (m + 1) = c → 900 ≤ t + d → 
      sq_J (tk_K xtk n) xtv (sk_f (tk_K xtk n) n) (xr_c n xro) xsc n g nm c0 h0 c q fc oc y u F e00 e01 VR vc hp s t it j xvk xvf xvs xcv xco xff xfp xfe xfb xop yck yca ycb ycc yfp yfe yfS yfn yfb yvs →
      sm_E (xdl, nI n, 1, nI vc, nI (c0 + c), nI (fc + 1), nI (oc + j), 0, xan, nI (it_f (sk_f (tk_K xtk n) n) j (q + 3) + 2), hb_e e00 c0 c, nI F, xac, -1, nI s, xmd, -1, -1, xtk, xtv, xaf, xro, xsc, xho, xvk, xvf, xvs, xcv, xco, xff, xfp, xfe, xfb, xop) (xdl, nI n, 1, ygs, ypo, nI hp, nI (y + 1), nI (oc + j), nI F, nI s, xmd, xac, yst, yrt, ycu, 0, xtk, xtv, yus, ygk, yga, ygb, yck, yca, ycb, ycc, yfp, yfe, yfS, yfn, yfb, yvs, yds, 50000, 50000, 50000, 50000) t it (nI (it_f (sk_f (tk_K xtk n) n) j (q + 3) + 2)) (hb_e e01 h0 c) := by
  have H := PG.1
  have H1 := H.1
  have hn0 : ∀ i, n ≤ i → tk_K xtk n i = 0 := fun i => tk_0
  have hBp : ∀ i, i < n → tk_K xtk n i ≠ 2 → dp_I (tk_K xtk n) i (sk_f (tk_K xtk n) n i) := fun i hi hk => (PG.2.1 i hi hk).1
  obtain ⟨c', c1, c4, lc, st, dist, h2, k2, e2, h3, r3, sc3⟩ := st_let hn0 hBp PG.2.2.1 PG.2.2.2.1 hq rq k1 (Or.inr k9)
  have ec := ls_C_u lc lc0
  subst ec
  have hq1 : q + 1 < n := by omega
  intro m
  induction m with
  | zero =>
    intro j VR vc hp s t it xan xac xmd ygs ypo yst yrt ycu xvk xvf xvs xcv xco xff xfp xfe xfb xop yus ygk yga ygb yck yca ycb ycc yfp yfe yfS yfn yfb yvs yds ej hd J
    obtain ⟨B, O, R, ⟨x1, x2, x3, x4⟩, ⟨y1, y2, y3, y4, y5⟩, hE, hC, hh, N, L⟩ := J
    obtain ⟨b1, b2, b3, b4, b5, b6, b7, b8, b9, b10⟩ := st j (by omega)
    obtain ⟨b11, b12⟩ := b9 k9
    have b13 : it_f (sk_f (tk_K xtk n) n) j (q + 3) + 3 < n := tk_lt (tk := xtk) (by omega)
    rw [if_pos k9] at b8
    by_cases hs : s = F
    · subst hs
      exact sm_Efuel (by omega) (by omega) rfl (fun Q h => yq_fuel rfl h) (sf_err PG B.2.2.2.2 L)
    · have ec : c' = j + 1 := by omega
      subst ec
      have hs : s < F := by omega
      have hyy : ∀ i, i < hp → upd yck hp 4 i = yck i ∧ upd yca hp (nI (it_f (sk_f (tk_K xtk n) n) j (q + 3) + 2)) i = yca i ∧ upd ycb hp (hb_e e01 h0 (j + 1)) i = ycb i ∧ upd ycc hp 0 i = ycc i := fun i hi => ⟨pk_un (by omega), pk_un (by omega), pk_un (by omega), pk_un (by omega)⟩
      have hxx : ∀ i, i < vc → upd xvk vc 4 i = xvk i ∧ upd xvf vc (nI (it_f (sk_f (tk_K xtk n) n) j (q + 3) + 2)) i = xvf i ∧ upd xvs vc (hb_e e00 c0 (j + 1)) i = xvs i := fun i hi => ⟨pk_un (by omega), pk_un (by omega), pk_un (by omega)⟩
      have hA : xp_A (tk_K xtk n) (sk_f (tk_K xtk n) n) n q (it_f (sk_f (tk_K xtk n) n) j (q + 3) + 2) (-1) := by
        refine ⟨b2, b4, Or.inr (Or.inr (Or.inl ⟨Or.inr k9, by omega, by omega, Or.inl ⟨?_, rfl⟩⟩))⟩
        rw [← b6]; exact lc.2
      have B1 : hb_B (tk_K xtk n) xtv (xr_c n xro) xsc n (fun a b => VR a b ∨ (a = vc ∧ b = hp)) g nm (vc + 1) (c0 + (j + 1)) (hp + 1) c0 (upd xvk vc 4) (upd xvf vc (nI (it_f (sk_f (tk_K xtk n) n) j (q + 3) + 2))) (upd xvs vc (hb_e e00 c0 (j + 1))) xcv xco (upd yck hp 4) (upd yca hp (nI (it_f (sk_f (tk_K xtk n) n) j (q + 3) + 2))) (upd ycb hp (hb_e e01 h0 (j + 1))) (upd ycc hp 0) := by
        refine hb_add (by omega) (by omega) (fun a b z => Or.inl z) hxx hyy (fun _ _ => ⟨rfl, rfl⟩) (fun a b z => ?_) B
        rcases z with z | ⟨z1, z2⟩
        · exact Or.inl z
        · refine Or.inr ?_
          rw [z1, z2]
          refine ⟨by omega, by omega, Or.inr (Or.inr (Or.inr ⟨pk_us, pk_us, _, b2, b3, b11, b12, pk_us, pk_us, ?_⟩))⟩
          rw [pk_us, pk_us, b8]; exact hE
      have hO1 : op_R (fun a b => VR a b ∨ (a = vc ∧ b = hp)) (upd xop (oc + j) (nI vc)) (upd yvs (oc + j) (nI hp)) (oc + j + 1) := op_s (fun a b z => Or.inl z) (fun i hi => pk_un (by omega)) pk_us (Or.inr ⟨rfl, rfl⟩) O
      have hcl : ∀ i, i < j + 1 → upd yca hp (nI (it_f (sk_f (tk_K xtk n) n) j (q + 3) + 2)) (h0 + i) = xtv (it_f (sk_f (tk_K xtk n) n) i (q + 3) + 1) ∧ upd ycc hp 0 (h0 + i) = hb_e e01 h0 i := fun i hi => by
        have w := hC i hi
        exact ⟨((hyy (h0 + i) (by omega)).2.1).trans w.2.2.1, ((hyy (h0 + i) (by omega)).2.2.2).trans w.2.2.2⟩
      -- the filled cells, as functions
      let cvF : Nat → Int32 := fun z => if c0 ≤ z ∧ z < c0 + (j + 1) then upd xop (oc + j) (nI vc) (oc + (z - c0)) else xcv z
      let cbF : Nat → Int32 := fun z => if h0 ≤ z ∧ z < h0 + (j + 1) then upd yvs (oc + j) (nI hp) (oc + (z - h0)) else upd ycb hp (hb_e e01 h0 (j + 1)) z
      have cvE : ∀ cv' : Nat → Int32, (∀ i, i < j + 1 → cv' (c0 + i) = upd xop (oc + j) (nI vc) (oc + i)) → (∀ z, (∀ i, i < j + 1 → z ≠ c0 + i) → cv' z = xcv z) → cv' = cvF := fun cv' s1 s2 => by
        funext z
        by_cases w : c0 ≤ z ∧ z < c0 + (j + 1)
        · have := s1 (z - c0) (by omega)
          rw [show c0 + (z - c0) = z from by omega] at this
          rw [this]; exact (if_pos w).symm
        · rw [s2 z (fun i hi e => w (by omega))]; exact (if_neg w).symm
      have cbE : ∀ cb' : Nat → Int32, (∀ i, i < j + 1 → cb' (h0 + i) = upd yvs (oc + j) (nI hp) (oc + i)) → (∀ z, (∀ i, i < j + 1 → z ≠ h0 + i) → cb' z = upd ycb hp (hb_e e01 h0 (j + 1)) z) → cb' = cbF := fun cb' s1 s2 => by
        funext z
        by_cases w : h0 ≤ z ∧ z < h0 + (j + 1)
        · have := s1 (z - h0) (by omega)
          rw [show h0 + (z - h0) = z from by omega] at this
          rw [this]; exact (if_pos w).symm
        · rw [s2 z (fun i hi e => w (by omega))]; exact (if_neg w).symm
      have cvI : ∀ i, i < j + 1 → cvF (c0 + i) = upd xop (oc + j) (nI vc) (oc + i) := fun i hi => (if_pos (show c0 ≤ c0 + i ∧ c0 + i < c0 + (j + 1) by omega)).trans (by rw [show c0 + i - c0 = i from by omega])
      have cbI : ∀ i, i < j + 1 → cbF (h0 + i) = upd yvs (oc + j) (nI hp) (oc + i) := fun i hi => (if_pos (show h0 ≤ h0 + i ∧ h0 + i < h0 + (j + 1) by omega)).trans (by rw [show h0 + i - h0 = i from by omega])
      have B2 : hb_B (tk_K xtk n) xtv (xr_c n xro) xsc n (fun a b => VR a b ∨ (a = vc ∧ b = hp)) g nm (vc + 1) (c0 + (j + 1)) (hp + 1) (c0 + (j + 1)) (upd xvk vc 4) (upd xvf vc (nI (it_f (sk_f (tk_K xtk n) n) j (q + 3) + 2))) (upd xvs vc (hb_e e00 c0 (j + 1))) cvF xco (upd yck hp 4) (upd yca hp (nI (it_f (sk_f (tk_K xtk n) n) j (q + 3) + 2))) cbF (upd ycc hp 0) := by
        refine hb_fills B1 (fun z hz => if_neg (by omega)) (fun z hz => if_neg (fun w => ?_)) (fun z z1 z2 => ?_)
        · have := (hC (z - h0) (by omega)).1
          refine hz (c0 + (z - h0)) (by omega) (by omega) ?_
          rw [this]; omega
        · have w := (hC (z - c0) (by omega)).1
          rw [show c0 + (z - c0) = z from by omega] at w
          obtain ⟨a, b, o1, o2, o3⟩ := hO1 (oc + (z - c0)) (by omega)
          refine ⟨a, b, ?_, ?_, o3⟩
          · have := cvI (z - c0) (by omega)
            rw [show c0 + (z - c0) = z from by omega] at this
            exact this.trans o1
          · rw [w]
            exact (cbI (z - c0) (by omega)).trans o2
      refine sm_ER (u1 := (xdl, nI n, 1, nI (vc + 1), nI (c0 + (j + 1)), nI (fc + 1), nI (oc + j), 1, nI vc, nI (it_f (sk_f (tk_K xtk n) n) j (q + 3) + 2), hb_e e00 c0 (j + 1), nI F, xac, -1, nI (s + 1), xmd, -1, -1, xtk, xtv, xaf, xro, xsc, xho, upd xvk vc 4, upd xvf vc (nI (it_f (sk_f (tk_K xtk n) n) j (q + 3) + 2)), upd xvs vc (hb_e e00 c0 (j + 1)), xcv, xco, xff, xfp, xfe, xfb, xop)) (v1 := (xdl, nI n, 1, ygs, ypo, nI (hp + 1), nI (y + 1), nI (oc + j + 1), nI F, nI (s + 1), xmd, xac, yst, yrt, ycu, 0, xtk, xtv, yus, ygk, yga, ygb, upd yck hp 4, upd yca hp (nI (it_f (sk_f (tk_K xtk n) n) j (q + 3) + 2)), upd ycb hp (hb_e e01 h0 (j + 1)), upd ycc hp 0, yfp, yfe, yfS, yfn, yfb, upd yvs (oc + j) (nI hp), yds, 50000, 50000, 50000, 50000)) (by omega) (fun Q h => xr_form H b2 b11 hs (by omega) (xr_lam H b13 b12 (by omega) h)) (fun Q h => yq_lam H b2 b11 b12 hs (by omega) (by omega) (by omega) h) ?_
      refine sm_RE (y := y) (u1 := (xdl, nI n, 1, nI (vc + 1), nI (c0 + (j + 1)), nI fc, nI oc, 0, nI vc, nI (sk_f (tk_K xtk n) n (q + 2)), hb_e e00 c0 (j + 1), nI F, xac, -1, nI (s + 1), xmd, -1, -1, xtk, xtv, xaf, xro, xsc, xho, upd xvk vc 4, upd xvf vc (nI (it_f (sk_f (tk_K xtk n) n) j (q + 3) + 2)), upd xvs vc (hb_e e00 c0 (j + 1)), cvF, xco, xff, upd xfp fc (-1), xfe, xfb, upd xop (oc + j) (nI vc))) (v2 := (xdl, nI n, 1, ygs, ypo, nI (hp + 1), nI (y + 1), nI oc, nI F, nI (s + 1), xmd, xac, yst, yrt, ycu, 0, xtk, xtv, yus, ygk, yga, ygb, upd yck hp 4, upd yca hp (nI (it_f (sk_f (tk_K xtk n) n) j (q + 3) + 2)), cbF, upd ycc hp 0, yfp, yfe, upd yfS y 2, yfn, yfb, upd yvs (oc + j) (nI hp), yds, 50000, 50000, 50000, 50000)) (q' := nI (it_f (sk_f (tk_K xtk n) n) (j + 1) (q + 3) + 1)) (e' := yfe y) (by omega) (by omega) (by omega) (fun Q h => xr_last H PG.2.1 (p := it_f (sk_f (tk_K xtk n) n) j (q + 3) + 2) (by omega) (by omega) hq1 x1 x2 hA (xF_letrec (xop := upd xop (oc + j) (nI vc)) (xfp := upd xfp fc (-1)) (k := j + 1) H PG.2.1 (by omega) (by omega) (by omega) x1 x4 x3 (fun i hi => (hC i hi).2.1) k9 h2 (by omega) (fun cv' s1 s2 => by rw [cvE cv' s1 s2]; exact h))) (fun Q h => yF_dLr H (by omega) y1 hq k9 (yR_b (h0 := h0) (k := j + 1) H (by omega) y3 y1 y5 c4 lc y4 (fun i hi => by
        obtain ⟨a1, a2, _⟩ := st i hi
        exact ⟨a1, by omega⟩) (by omega) (by omega) (fun i hi => ⟨j - i, by omega, ?_⟩) (fun cb' s1 s2 => by rw [cbE cb' s1 s2]; exact h))) ?_
      · have w := yh_chain (ca := upd yca hp (nI (it_f (sk_f (tk_K xtk n) n) j (q + 3) + 2))) (cC := upd ycc hp 0) (e0 := e01) (h0 := h0) (i := i) (x := xtv (it_f (sk_f (tk_K xtk n) n) i (q + 3) + 1)) (j - i) (by omega) (hcl i hi).1 (fun z z1 z2 => by rw [(hcl z (by omega)).1]; exact (dist i z z1 (by omega)).symm) (fun z hz => (hcl z (by omega)).2)
        rw [show i + 1 + (j - i) = j + 1 from by omega] at w
        rw [y2]; exact w
      · rw [← e2, y2]
        have IH := IHE (900 - (t + 1 + 1)) (by omega)
        refine IH (fun a b => VR a b ∨ (a = vc ∧ b = hp)) g nm (vc + 1) (c0 + (j + 1)) (hp + 1) fc oc (y + 1) u (s + 1) (t + 1 + 1) (it + 1) (sk_f (tk_K xtk n) n (q + 2)) _ _ _ _ _ _ _ _ _ _  _ _ _ _ _ _ _ _ _ _ _ _ _ _ _ _ _ _ _ _ _ _ _ _ _  (by omega) ⟨B2, op_l (by omega) hO1, Or.inl ⟨⟨y5, q, hq, y1, Or.inr (Or.inr ⟨k9, pk_us⟩)⟩, fr_k (Nat.le_refl _) (fun _ _ => ⟨rfl, rfl⟩) (fun i hi => ⟨rfl, pk_un (by omega), rfl, rfl⟩) (fun i hi => ⟨rfl, rfl, pk_un (by omega), rfl, rfl⟩) R⟩, by unfold sr_N; omega, lt_Lk L (fun i hi => ⟨hxx i (by omega), hxx (64 + i) (by omega)⟩)⟩ h3 r3 (by rw [sc3]; exact hE)
  | succ m ih =>
    intro j VR vc hp s t it xan xac xmd ygs ypo yst yrt ycu xvk xvf xvs xcv xco xff xfp xfe xfb xop yus ygk yga ygb yck yca ycb ycc yfp yfe yfS yfn yfb yvs yds ej hd J
    obtain ⟨B, O, R, ⟨x1, x2, x3, x4⟩, ⟨y1, y2, y3, y4, y5⟩, hE, hC, hh, N, L⟩ := J
    obtain ⟨b1, b2, b3, b4, b5, b6, b7, b8, b9, b10⟩ := st j (by omega)
    obtain ⟨b11, b12⟩ := b9 k9
    have b13 : it_f (sk_f (tk_K xtk n) n) j (q + 3) + 3 < n := tk_lt (tk := xtk) (by omega)
    rw [if_pos k9] at b8
    by_cases hs : s = F
    · subst hs
      exact sm_Efuel (by omega) (by omega) rfl (fun Q h => yq_fuel rfl h) (sf_err PG B.2.2.2.2 L)
    · have hs : s < F := by omega
      obtain ⟨d1, d2, d3, d4, d5, d6, d7, d8, d9, d10⟩ := st (j + 1) (by omega)
      have hyy : ∀ i, i < hp → upd yck hp 4 i = yck i ∧ upd yca hp (nI (it_f (sk_f (tk_K xtk n) n) j (q + 3) + 2)) i = yca i ∧ upd ycb hp (hb_e e01 h0 c') i = ycb i ∧ upd ycc hp 0 i = ycc i := fun i hi => ⟨pk_un (by omega), pk_un (by omega), pk_un (by omega), pk_un (by omega)⟩
      have hxx : ∀ i, i < vc → upd xvk vc 4 i = xvk i ∧ upd xvf vc (nI (it_f (sk_f (tk_K xtk n) n) j (q + 3) + 2)) i = xvf i ∧ upd xvs vc (hb_e e00 c0 c') i = xvs i := fun i hi => ⟨pk_un (by omega), pk_un (by omega), pk_un (by omega)⟩
      have hA : xp_A (tk_K xtk n) (sk_f (tk_K xtk n) n) n q (it_f (sk_f (tk_K xtk n) n) j (q + 3) + 2) (nI (it_f (sk_f (tk_K xtk n) n) (j + 1) (q + 3) + 2)) := by
        refine ⟨b2, b4, Or.inr (Or.inr (Or.inl ⟨Or.inr k9, by omega, by omega, Or.inr ⟨?_, ?_⟩⟩))⟩
        · rw [← b6]; omega
        · rw [b6]
      have B1 : hb_B (tk_K xtk n) xtv (xr_c n xro) xsc n (fun a b => VR a b ∨ (a = vc ∧ b = hp)) g nm (vc + 1) (c0 + c') (hp + 1) c0 (upd xvk vc 4) (upd xvf vc (nI (it_f (sk_f (tk_K xtk n) n) j (q + 3) + 2))) (upd xvs vc (hb_e e00 c0 c')) xcv xco (upd yck hp 4) (upd yca hp (nI (it_f (sk_f (tk_K xtk n) n) j (q + 3) + 2))) (upd ycb hp (hb_e e01 h0 c')) (upd ycc hp 0) := by
        refine hb_add (by omega) (by omega) (fun a b z => Or.inl z) hxx hyy (fun _ _ => ⟨rfl, rfl⟩) (fun a b z => ?_) B
        rcases z with z | ⟨z1, z2⟩
        · exact Or.inl z
        · refine Or.inr ?_
          rw [z1, z2]
          refine ⟨by omega, by omega, Or.inr (Or.inr (Or.inr ⟨pk_us, pk_us, _, b2, b3, b11, b12, pk_us, pk_us, ?_⟩))⟩
          rw [pk_us, pk_us, b8]; exact hE
      have hO1 : op_R (fun a b => VR a b ∨ (a = vc ∧ b = hp)) (upd xop (oc + j) (nI vc)) (upd yvs (oc + j) (nI hp)) (oc + j + 1) := op_s (fun a b z => Or.inl z) (fun i hi => pk_un (by omega)) pk_us (Or.inr ⟨rfl, rfl⟩) O
      refine sm_ER (u1 := (xdl, nI n, 1, nI (vc + 1), nI (c0 + c'), nI (fc + 1), nI (oc + j), 1, nI vc, nI (it_f (sk_f (tk_K xtk n) n) j (q + 3) + 2), hb_e e00 c0 c', nI F, xac, -1, nI (s + 1), xmd, -1, -1, xtk, xtv, xaf, xro, xsc, xho, upd xvk vc 4, upd xvf vc (nI (it_f (sk_f (tk_K xtk n) n) j (q + 3) + 2)), upd xvs vc (hb_e e00 c0 c'), xcv, xco, xff, xfp, xfe, xfb, xop)) (v1 := (xdl, nI n, 1, ygs, ypo, nI (hp + 1), nI (y + 1), nI (oc + j + 1), nI F, nI (s + 1), xmd, xac, yst, yrt, ycu, 0, xtk, xtv, yus, ygk, yga, ygb, upd yck hp 4, upd yca hp (nI (it_f (sk_f (tk_K xtk n) n) j (q + 3) + 2)), upd ycb hp (hb_e e01 h0 c'), upd ycc hp 0, yfp, yfe, yfS, yfn, yfb, upd yvs (oc + j) (nI hp), yds, 50000, 50000, 50000, 50000)) (by omega) (fun Q h => xr_form H b2 b11 hs (by omega) (xr_lam H b13 b12 (by omega) h)) (fun Q h => yq_lam H b2 b11 b12 hs (by omega) (by omega) (by omega) h) ?_
      refine sm_RE (y := y) (v2 := (xdl, nI n, 1, ygs, ypo, nI (hp + 1), nI (y + 1), nI (oc + j + 1), nI F, nI (s + 1), xmd, xac, yst, yrt, ycu, 0, xtk, xtv, yus, ygk, yga, ygb, upd yck hp 4, upd yca hp (nI (it_f (sk_f (tk_K xtk n) n) j (q + 3) + 2)), upd ycb hp (hb_e e01 h0 c'), upd ycc hp 0, yfp, yfe, yfS, upd yfn y (nI (sk_f (tk_K xtk n) n (it_f (sk_f (tk_K xtk n) n) (j + 1) (q + 3)))), yfb, upd yvs (oc + j) (nI hp), yds, 50000, 50000, 50000, 50000)) (q' := nI (it_f (sk_f (tk_K xtk n) n) (j + 1) (q + 3) + 2)) (e' := yfe y) (by omega) (by omega) (by omega) (fun Q h => xr_more H PG.2.1 (p := it_f (sk_f (tk_K xtk n) n) j (q + 3) + 2) (by omega) (by omega) hq1 x1 x2 (by omega) hA h) (fun Q h => yF_dLr H (by omega) y1 hq k9 (yR_n H (by omega) y3 y4 (by omega) d1 h)) ?_
      rw [y2, x3]
      refine ih (j + 1) (fun a b => VR a b ∨ (a = vc ∧ b = hp)) (vc + 1) (hp + 1) (s + 1) (t + 1 + 1) (it + 1) _ _ _ _ _ _ _ _  _ _ _ _ _ _ _ _ _ _ _ _ _ _ _ _ _ _ _ _ _ _ _ _ _  (by omega) (by omega) ⟨B1, hO1, fr_k (Nat.le_refl _) (fun _ _ => ⟨rfl, rfl⟩) (fun i hi => ⟨rfl, pk_un (by omega), rfl, rfl⟩) (fun i hi => ⟨rfl, rfl, rfl, pk_un (by omega), rfl⟩) R, ⟨x1, pk_us, x3, x4⟩, ⟨y1, y2, y3, ?_, y5⟩, hE, fun i hi => ?_, by omega, by omega, lt_Lk L (fun i hi => ⟨hxx i (by omega), hxx (64 + i) (by omega)⟩)⟩
      · rw [pk_us, ← it_s (sk_f (tk_K xtk n) n) (j + 1) (q + 3)]
      · have w := hC i hi
        exact ⟨w.1, w.2.1, ((hyy (h0 + i) (by omega)).2.1).trans w.2.2.1, ((hyy (h0 + i) (by omega)).2.2.2).trans w.2.2.2⟩
