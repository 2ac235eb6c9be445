/-! the reference's quoted data -/
theorem dt_find {f : Nat → Nat} {m : Nat} (h0 : f 0 ≤ m) : ∀ c, m < f c → ∃ x, x < c ∧ f x ≤ m ∧ m < f (x + 1)
  | 0, h => by omega
  | c + 1, h => by
    by_cases z : m < f c
    · obtain ⟨x, a, b⟩ := dt_find h0 c z
      exact ⟨x, by omega, b⟩
    · exact ⟨c, by omega, by omega, h⟩
theorem dt_cov {K : Nat → Nat} {V : Nat → Int32} {n : Nat} {r : Nat → Int32} {par : Nat → Nat} (hn : ∀ i, n ≤ i → K i = 0) (hB : ∀ i, i < n → K i ≠ 2 → dp_I K i (sk_f K n i)) (W : rw_W K V (sk_f K n) n n r par) :
    ∀ L i, i < n → r i = 2 → sk_f K n i - i ≤ L → ∀ m, i ≤ m → m < sk_f K n i → K m ≠ 2 → r m = 2 := by
  intro L
  induction L with
  | zero =>
    intro i hi hr hL m m1 m2 km
    omega
  | succ L ih =>
    intro i hi hr hL m m1 m2 km
    by_cases e : m = i
    · rw [e]; exact hr
    · obtain ⟨hs, hm⟩ := W.2.2.1 i hi hr
      have k1 : K i = 1 := by
        rcases hs with z | z | z
        · rw [sk_at (by omega)] at m2; omega
        · rw [sk_at (by omega)] at m2; omega
        · exact z.1
      have hI := hB i hi (by omega)
      obtain ⟨c, lc, q1, q2, q3⟩ := ls_in (n := n) hI k1
      have ml : m < it_f (sk_f K n) c (i + 1) := by
        rcases Nat.lt_or_ge m (it_f (sk_f K n) c (i + 1)) with z | z
        · exact z
        · have e2 : m = it_f (sk_f K n) c (i + 1) := by omega
          rw [e2] at km
          exact absurd lc.2 km
      obtain ⟨x, x1, x2, x3⟩ := dt_find (f := fun y => it_f (sk_f K n) y (i + 1)) (m := m) (by show i + 1 ≤ m; omega) c ml
      change it_f (sk_f K n) x (i + 1) ≤ m at x2
      change m < it_f (sk_f K n) (x + 1) (i + 1) at x3
      rw [it_s] at x3
      have dm : gr_DM K (sk_f K n) i (it_f (sk_f K n) x (i + 1)) := ⟨k1, (ls_CM lc).mpr ⟨x, x1, rfl⟩⟩
      have rc := hm _ dm
      have mi := ls_Min hI k1 (dp_L_r _) (dp_I_1 hI k1) dm.2
      have xl := dp_le hn hI hi
      have xm := mi.2.1.1
      have xs := mi.2.2.1
      have xn : it_f (sk_f K n) x (i + 1) < n := by omega
      exact ih _ xn rc.1 (by omega) m x2 x3 km
/-- a rest of a quoted list on the reference's heap -/
def dt_L (K : Nat → Nat) (VR : Nat → Nat → Prop) (hp : Nat) (ck ca cb : Nat → Int32) (p y : Nat) : Prop := (K p = 2 ∧ y = 0) ∨ (K p ≠ 2 ∧ y < hp ∧ ck y = 3 ∧ ∃ a b, ca y = nI a ∧ cb y = nI b ∧ VR p a ∧ VR (64 + p) b)
theorem dt_Lm {K : Nat → Nat} {VR VR' : Nat → Nat → Prop} {hp hp' : Nat} {ck ca cb ck' ca' cb' : Nat → Int32} {p y : Nat} (hV : ∀ a b, VR a b → VR' a b) (hh : hp ≤ hp') (hy : ∀ j, j < hp → ck' j = ck j ∧ ca' j = ca j ∧ cb' j = cb j) (h : dt_L K VR hp ck ca cb p y) : dt_L K VR' hp' ck' ca' cb' p y := by
  rcases h with h | ⟨h1, h2, h3, a, b, h4, h5, h6, h7⟩
  · exact Or.inl h
  · have q := hy y h2
    exact Or.inr ⟨h1, by omega, q.1.trans h3, a, b, q.2.1.trans h4, q.2.2.trans h5, hV _ _ h6, hV _ _ h7⟩
/-- a literal's place and the rest that it stands for -/
theorem dt_V {K : Nat → Nat} {R sc : Nat → Int32} {n : Nat} {VR : Nat → Nat → Prop} {g nm : Nat → Nat} {cc hp : Nat} {vk vf vs ck ca cb : Nat → Int32} {v p y : Nat} (hP : lt_P K vk vf vs v p) (h0 : ck 0 = 2) (h : dt_L K VR hp ck ca cb p y) : hb_V K R sc n VR g nm cc vk vf vs ck ca cb v y := by
  rcases h with ⟨h1, h2⟩ | ⟨h1, h2, h3, a, b, h4, h5, h6, h7⟩
  · subst h2; exact Or.inr (Or.inl ⟨hP.1 h1, h0⟩)
  · obtain ⟨a1, a2, a3⟩ := hP.2 h1
    exact Or.inr (Or.inr (Or.inl ⟨a1, h3, p, 64 + p, a, b, a2, a3, h4, h5, h6, h7⟩))
theorem dp_lip {K : Nat → Nat} (p : Nat) : ∀ d : Nat, dp_d K (p + d) ≤ dp_d K p + d
  | 0 => by simp
  | d + 1 => by
    have h := dp_lip (K := K) p d
    have s := (dp_s (K := K) (p + d)).2
    rw [show p + (d + 1) = p + d + 1 from rfl]
    omega
theorem ni_d {j : Nat} (h : 1 ≤ j) : nI j + -1 = nI (j - 1) := by
  obtain ⟨i, rfl⟩ : ∃ i, j = i + 1 := ⟨j - 1, by omega⟩
  rw [pk_m1]; rfl
section
variable {yli yn ypr ygs ypo yhp yfs yvp yfu ysp ymd yac yst yrt ycu yhv : Int32} {ytk ytv yus ygk yga ygb yck yca ycb ycc yfp yfe yfS yfn yfb yvs yds : Nat → Int32} {ynk yna ynb ync : Nat} {n : Nat}
def dt_Z (K : Nat → Nat) (V R sc : Nat → Int32) (n : Nat) (VR0 : Nat → Nat → Prop) (g nm : Nat → Nat) (vc cc lo q0 hp0 top : Nat) (vk vf vs cv co : Nat → Int32) (hp' : Nat) (VR' : Nat → Nat → Prop) (ck' ca' cb' cC' : Nat → Int32) (a : Nat) : Prop := hp' ≤ top ∧ hp0 ≤ hp' ∧ (∀ a b, VR0 a b → VR' a b) ∧ hb_B K V R sc n VR' g nm vc cc hp' lo vk vf vs cv co ck' ca' cb' cC' ∧ VR' q0 a
theorem dt_loop (H : tk_ok ytk n) {R sc vk vf vs cv co : Nat → Int32} {g nm : Nat → Nat} {vc cc lo q0 hp0 : Nat} {VR0 : Nat → Nat → Prop}
    (hBp : ∀ i, i < n → tk_K ytk n i ≠ 2 → dp_I (tk_K ytk n) i (sk_f (tk_K ytk n) n i)) (cov : ∀ m, q0 ≤ m → m < sk_f (tk_K ytk n) n q0 → tk_K ytk n m ≠ 2 → R m = 2) (Lt : lt_L (tk_K ytk n) ytv (sk_f (tk_K ytk n) n) R vk vf vs n) (hR : ∀ m, m < n → R m = 2 → tk_K ytk n m = 3 ∨ tk_K ytk n m = 5 ∨ tk_K ytk n m = 1) (hq0 : 2 ≤ q0) (hend : sk_f (tk_K ytk n) n q0 < n) (hk0 : tk_K ytk n q0 ≠ 2) (hvc : 128 ≤ vc)
    (hroom : hp0 + 2 * (sk_f (tk_K ytk n) n q0 - q0) ≤ 50000) :
    ∀ (t j d hp : Nat) (VR : Nat → Nat → Prop) (ck ca cb cC ds : Nat → Int32) (pp : Nat → Nat), j + 1 = q0 + t → q0 + t ≤ sk_f (tk_K ytk n) n q0 → 1 ≤ d → (d : Int) = dp_d (tk_K ytk n) (j + 1) - dp_d (tk_K ytk n) q0 + 1 → pp (d - 1) = j + 1 → (∀ k : Nat, k < d → j + 1 ≤ pp k ∧ dp_d (tk_K ytk n) (pp k) = dp_d (tk_K ytk n) q0 + k ∧ (∀ m, j + 1 ≤ m → m < pp k → dp_d (tk_K ytk n) q0 + k < dp_d (tk_K ytk n) m)) →
      hp + 2 * t ≤ hp0 + 2 * (sk_f (tk_K ytk n) n q0 - q0) → hp0 ≤ hp → (∀ a b, VR0 a b → VR a b) → hb_B (tk_K ytk n) ytv R sc n VR g nm vc cc hp lo vk vf vs cv co ck ca cb cC → (∀ k : Nat, k < d → ∃ y, ds k = nI y ∧ dt_L (tk_K ytk n) VR hp ck ca cb (pp k) y) →
      ∃ hp' VR' ck' ca' cb' cC' ds' a, dt_Z (tk_K ytk n) ytv R sc n VR0 g nm vc cc lo q0 hp0 (hp0 + 2 * (sk_f (tk_K ytk n) n q0 - q0)) vk vf vs cv co hp' VR' ck' ca' cb' cC' a ∧ ∀ post : Int32 → SY → Prop, post (nI a) (yli, nI n, ypr, ygs, ypo, nI hp', yfs, yvp, yfu, ysp, ymd, yac, yst, yrt, ycu, yhv, ytk, ytv, yus, ygk, yga, ygb, ck', ca', cb', cC', yfp, yfe, yfS, yfn, yfb, yvs, ds', 50000, 50000, 50000, 50000) →
        wY_datum_20 post (nI q0) (t + 1) (nI d) (nI j) yli (nI n) ypr ygs ypo (nI hp) yfs yvp yfu ysp ymd yac yst yrt ycu yhv ytk ytv yus ygk yga ygb ck ca cb cC yfp yfe yfS yfn yfb yvs ds 50000 50000 50000 50000 := by
  have H1 := H.1
  intro t
  induction t with
  | zero =>
    intro j d hp' VR ck ca cb cC ds pp ej hle hd ed e1 hpp hroom' hlow hVR hB hds
    have d1 : d = 1 := by rw [show j + 1 = q0 from by omega] at ed; omega
    subst d1
    obtain ⟨y, e2, e3⟩ := hds 0 (by omega)
    have p0 : pp 0 = q0 := by rw [show (0 : Nat) = 1 - 1 from rfl, e1]; omega
    rw [p0] at e3
    rcases e3 with ⟨z, _⟩ | ⟨_, l, _, a, b, ea, _, va, _⟩
    · exact absurd z hk0
    · refine ⟨hp', VR, ck, ca, cb, cC, ds, a, ⟨by omega, hlow, hVR, hB, va⟩, fun post hp => pk_lt j q0 (fun _ => ?_) (fun z => by omega)⟩
      rw [e2, nI_clamp (n := y) (by omega), ea]
      exact ⟨vp_in_nI (by omega) (by omega), hp⟩
  | succ t ih =>
    intro j d hp' VR ck ca cb cC ds pp ej hle hd ed e1 hpp hroom' hlow hVR hB hds
    have hj : j < n := by omega
    have k20 := tk_20 H j
    have dB : (d : Int) ≤ j + 2 - q0 := by
      have := dp_lip (K := (tk_K ytk n)) q0 (j + 1 - q0)
      rw [show q0 + (j + 1 - q0) = j + 1 from by omega] at this
      omega
    have hck0 : ck 0 = 2 := hB.2.2.2.2
    have hp1 : 1 ≤ hp' := hB.2.2.2.1
    have lt := Lt j hj
    -- a pair is put before the rest behind j
    have cons : ∀ (d' it1 y0 hp1 : Nat) (VR1 : Nat → Nat → Prop) (ck1 ca1 cb1 cC1 : Nat → Int32), tk_K ytk n j ≠ 2 → 1 ≤ d' → d' ≤ d → (d' : Int) = dp_d (tk_K ytk n) j - dp_d (tk_K ytk n) q0 + 1 → pp (d' - 1) = sk_f (tk_K ytk n) n j → hp' ≤ hp1 → hp1 ≤ hp' + 1 → (∀ a b, VR a b → VR1 a b) → hb_B (tk_K ytk n) ytv R sc n VR1 g nm vc cc hp1 lo vk vf vs cv co ck1 ca1 cb1 cC1 → (∀ i, i < hp' → ck1 i = ck i ∧ ca1 i = ca i ∧ cb1 i = cb i ∧ cC1 i = cC i) → VR1 j it1 → ds (d' - 1) = nI y0 → dt_L (tk_K ytk n) VR hp' ck ca cb (sk_f (tk_K ytk n) n j) y0 →
        ∃ hp' VR' ck' ca' cb' cC' ds' a, dt_Z (tk_K ytk n) ytv R sc n VR0 g nm vc cc lo q0 hp0 (hp0 + 2 * (sk_f (tk_K ytk n) n q0 - q0)) vk vf vs cv co hp' VR' ck' ca' cb' cC' a ∧ ∀ post : Int32 → SY → Prop, post (nI a) (yli, nI n, ypr, ygs, ypo, nI hp', yfs, yvp, yfu, ysp, ymd, yac, yst, yrt, ycu, yhv, ytk, ytv, yus, ygk, yga, ygb, ck', ca', cb', cC', yfp, yfe, yfS, yfn, yfb, yvs, ds', 50000, 50000, 50000, 50000) → wY_datum_111 post (wY_datum_20 post (nI q0) (t + 1)) (nI q0) (nI d') (nI j) (nI it1) yli (nI n) ypr ygs ypo (nI hp1) yfs yvp yfu ysp ymd yac yst yrt ycu yhv ytk ytv yus ygk yga ygb ck1 ca1 cb1 cC1 yfp yfe yfS yfn yfb yvs ds 50000 50000 50000 50000 := by
      intro d' it1 y0 hpA VR1 ck1 ca1 cb1 cC1 kj hd1 hd2 ed' ep' hl1 hl2 hV1 hB1 hy1 hv1 hd0 hL
      have rj : R j = 2 := cov j (by omega) (by omega) kj
      have hc : (nI (d' - 1)).toNatClampNeg = d' - 1 := nI_clamp (by omega)
      have hi : vp_in (nI (d' - 1)) 64 := vp_in_nI (by omega) (by omega)
      have hyl : y0 < hpA := by
        rcases hL with ⟨_, z⟩ | ⟨_, z, _⟩
        · omega
        · omega
      have hit : it1 < hpA := (hB1.1 j it1 hv1).2.1
      let VR2 : Nat → Nat → Prop := fun a b => VR1 a b ∨ (a = 64 + j ∧ b = y0)
      have hV2 : ∀ a b, VR1 a b → VR2 a b := fun a b z => Or.inl z
      have hyy : ∀ i, i < hpA → upd ck1 hpA 3 i = ck1 i ∧ upd ca1 hpA (nI it1) i = ca1 i ∧ upd cb1 hpA (nI y0) i = cb1 i ∧ upd cC1 hpA 0 i = cC1 i := fun i hi' => ⟨pk_un (by omega), pk_un (by omega), pk_un (by omega), pk_un (by omega)⟩
      have hL2 : dt_L (tk_K ytk n) VR2 (hpA + 1) (upd ck1 hpA 3) (upd ca1 hpA (nI it1)) (upd cb1 hpA (nI y0)) (sk_f (tk_K ytk n) n j) y0 := dt_Lm (fun a b z => hV2 a b (hV1 a b z)) (by omega) (fun i hi' => by
        have q1 := hyy i (by omega)
        have q2 := hy1 i hi'
        exact ⟨q1.1.trans q2.1, q1.2.1.trans q2.2.1, q1.2.2.1.trans q2.2.2.1⟩) hL
      have hB2 : hb_B (tk_K ytk n) ytv R sc n VR2 g nm vc cc (hpA + 1) lo vk vf vs cv co (upd ck1 hpA 3) (upd ca1 hpA (nI it1)) (upd cb1 hpA (nI y0)) (upd cC1 hpA 0) := by
        refine hb_add (Nat.le_refl _) (by omega) hV2 (fun _ _ => ⟨rfl, rfl, rfl⟩) hyy (fun _ _ => ⟨rfl, rfl⟩) (fun a b z => ?_) hB1
        rcases z with z | ⟨z1, z2⟩
        · exact Or.inl z
        · refine Or.inr ?_
          rw [z1, z2]
          refine ⟨by omega, by omega, dt_V (lt.2.2.2 rj) ?_ hL2⟩
          rw [(hyy 0 (by omega)).1]
          exact hB1.2.2.2.2
      have res := ih (j - 1) d' (hpA + 1) VR2 (upd ck1 hpA 3) (upd ca1 hpA (nI it1)) (upd cb1 hpA (nI y0)) (upd cC1 hpA 0) (upd ds (d' - 1) (nI hpA)) (hb_u pp (d' - 1) j) (by omega) (by omega) hd1 ?_ (by rw [hb_us]; omega) (fun k hk => ?_) (by omega) (by omega) (fun a b z => hV2 a b (hV1 a b (hVR a b z))) hB2 (fun k hk => ?_)
      · obtain ⟨hpZ, VRZ, ckZ, caZ, cbZ, cCZ, dsZ, aZ, Z, w⟩ := res
        refine ⟨hpZ, VRZ, ckZ, caZ, cbZ, cCZ, dsZ, aZ, Z, fun post hp => ?_⟩
        unfold wY_datum_111
        rw [ni_m hd1, hc, hd0]
        refine ⟨hi, yr_al (yck := ck1) (yca := ca1) (ycb := cb1) (ycc := cC1) (hp := hpA) (by omega) ⟨hi, fun ds2 e2 => nm_r (ni_d (show 1 ≤ j by omega)) ?_⟩⟩
        rw [e2]
        exact w post hp
      · rw [show j - 1 + 1 = j from by omega]; exact ed'
      · rw [show j - 1 + 1 = j from by omega]
        by_cases z : k = d' - 1
        · rw [z, hb_us]
          exact ⟨Nat.le_refl _, by omega, fun m m1 m2 => by omega⟩
        · rw [hb_un z]
          have q := hpp k (by omega)
          refine ⟨by omega, q.2.1, fun m m1 m2 => ?_⟩
          by_cases y : m = j
          · rw [y]; omega
          · exact q.2.2 m (by omega) m2
      · by_cases z : k = d' - 1
        · rw [z, hb_us]
          refine ⟨hpA, pk_us, Or.inr ⟨kj, by omega, pk_us, it1, y0, pk_us, pk_us, hV2 _ _ hv1, Or.inr ⟨rfl, rfl⟩⟩⟩
        · rw [hb_un z, pk_un z]
          obtain ⟨y, ey, hLy⟩ := hds k (by omega)
          exact ⟨y, ey, dt_Lm (fun a b z => hV2 a b (hV1 a b z)) (by omega) (fun i hi' => by
            have q1 := hyy i (by omega)
            have q2 := hy1 i hi'
            exact ⟨q1.1.trans q2.1, q1.2.1.trans q2.2.1, q1.2.2.1.trans q2.2.2.1⟩) hLy⟩
    have ret : ∀ W0 : (Int32 → SY → Prop) → Prop, (∃ hp' VR' ck' ca' cb' cC' ds' a, dt_Z (tk_K ytk n) ytv R sc n VR0 g nm vc cc lo q0 hp0 (hp0 + 2 * (sk_f (tk_K ytk n) n q0 - q0)) vk vf vs cv co hp' VR' ck' ca' cb' cC' a ∧ ∀ post : Int32 → SY → Prop, post (nI a) (yli, nI n, ypr, ygs, ypo, nI hp', yfs, yvp, yfu, ysp, ymd, yac, yst, yrt, ycu, yhv, ytk, ytv, yus, ygk, yga, ygb, ck', ca', cb', cC', yfp, yfe, yfS, yfn, yfb, yvs, ds', 50000, 50000, 50000, 50000) → W0 post) → (∀ post, W0 post → wY_datum_20 post (nI q0) (t + 1 + 1) (nI d) (nI j) yli (nI n) ypr ygs ypo (nI hp') yfs yvp yfu ysp ymd yac yst yrt ycu yhv ytk ytv yus ygk yga ygb ck ca cb cC yfp yfe yfS yfn yfb yvs ds 50000 50000 50000 50000) →
        ∃ hp2 VR' ck' ca' cb' cC' ds' a, dt_Z (tk_K ytk n) ytv R sc n VR0 g nm vc cc lo q0 hp0 (hp0 + 2 * (sk_f (tk_K ytk n) n q0 - q0)) vk vf vs cv co hp2 VR' ck' ca' cb' cC' a ∧ ∀ post : Int32 → SY → Prop, post (nI a) (yli, nI n, ypr, ygs, ypo, nI hp2, yfs, yvp, yfu, ysp, ymd, yac, yst, yrt, ycu, yhv, ytk, ytv, yus, ygk, yga, ygb, ck', ca', cb', cC', yfp, yfe, yfS, yfn, yfb, yvs, ds', 50000, 50000, 50000, 50000) → wY_datum_20 post (nI q0) (t + 1 + 1) (nI d) (nI j) yli (nI n) ypr ygs ypo (nI hp') yfs yvp yfu ysp ymd yac yst yrt ycu yhv ytk ytv yus ygk yga ygb ck ca cb cC yfp yfe yfS yfn yfb yvs ds 50000 50000 50000 50000 := by
      rintro W0 ⟨z1, z2, z3, z4, z5, z6, z7, z8, Z, w⟩ f
      exact ⟨z1, z2, z3, z4, z5, z6, z7, z8, Z, fun post hp => f post (w post hp)⟩
    by_cases k2 : tk_K ytk n j = 2
    · have d2 := dp_2 k2
      have hi : vp_in (nI d) 64 := vp_in_nI (by omega) (by omega)
      have hc : (nI d).toNatClampNeg = d := nI_clamp (by omega)
      refine ret _ (ih (j - 1) (d + 1) hp' VR ck ca cb cC (upd ds d 0) (hb_u pp d j) (by omega) (by omega) (by omega) ?_ (by rw [show d + 1 - 1 = d from by omega, hb_us]; omega) (fun k hk => ?_) (by omega) hlow hVR hB (fun k hk => ?_)) (fun post w => pk_lt j q0 (fun z => by omega) (fun _ => yt_t (i := j) H (by omega) (pk_eq (tk_K ytk n j) 2 (fun _ => pk_le 64 d (fun z => by omega) (fun _ => ⟨hi, nm_r (by rw [hc]) (nm_r (nI_1 d) (nm_r (ni_d (show 1 ≤ j by omega)) w))⟩)) (fun z => absurd k2 z))))
      · rw [show j - 1 + 1 = j from by omega]; omega
      · rw [show j - 1 + 1 = j from by omega]
        by_cases z : k = d
        · rw [z, hb_us]
          exact ⟨Nat.le_refl _, by omega, fun m m1 m2 => by omega⟩
        · rw [hb_un z]
          have q := hpp k (by omega)
          refine ⟨by omega, q.2.1, fun m m1 m2 => ?_⟩
          by_cases y : m = j
          · rw [y]; omega
          · exact q.2.2 m (by omega) m2
      · by_cases z : k = d
        · rw [z, hb_us]; exact ⟨0, pk_us, Or.inl ⟨k2, rfl⟩⟩
        · rw [hb_un z, pk_un z]; exact hds k (by omega)
    · have rj : R j = 2 := cov j (by omega) (by omega) k2
      have kk := hR j hj rj
      obtain ⟨y1, ey1, hL1⟩ := hds (d - 1) (by omega)
      have atomI : tk_K ytk n j ≠ 1 → dp_d (tk_K ytk n) (j + 1) = dp_d (tk_K ytk n) j ∧ sk_f (tk_K ytk n) n j = j + 1 := fun z => ⟨dp_0 z k2, sk_at z⟩
      by_cases k3 : tk_K ytk n j = 3
      · have at' := atomI (by omega)
        have hyy : ∀ i, i < hp' → upd ck hp' 1 i = ck i ∧ upd ca hp' (ytv j) i = ca i ∧ upd cb hp' 0 i = cb i ∧ upd cC hp' 0 i = cC i := fun i hi' => ⟨pk_un (by omega), pk_un (by omega), pk_un (by omega), pk_un (by omega)⟩
        refine ret _ (cons d hp' y1 (hp' + 1) (fun a b => VR a b ∨ (a = j ∧ b = hp')) (upd ck hp' 1) (upd ca hp' (ytv j)) (upd cb hp' 0) (upd cC hp' 0) k2 hd (Nat.le_refl _) (by omega) (by rw [e1, at'.2]) (by omega) (Nat.le_refl _) (fun a b z => Or.inl z) ?_ hyy (Or.inr ⟨rfl, rfl⟩) ey1 (by rw [at'.2, ← e1]; exact hL1)) (fun post w => pk_lt j q0 (fun z => by omega) (fun _ => yt_t (i := j) H (by omega) (pk_eq (tk_K ytk n j) 2 (fun z => absurd z k2) (fun _ => pk_eq (tk_K ytk n j) 3 (fun _ => yt_v (i := j) H hj (yr_al (yck := ck) (yca := ca) (ycb := cb) (ycc := cC) (hp := hp') (by omega) (pk_eq (tk_K ytk n j) 1 (fun z => by omega) (fun _ => w)))) (fun z => absurd k3 z)))))
        refine hb_add (Nat.le_refl _) (by omega) (fun a b z => Or.inl z) (fun _ _ => ⟨rfl, rfl, rfl⟩) hyy (fun _ _ => ⟨rfl, rfl⟩) (fun a b z => ?_) hB
        rcases z with z | ⟨z1, z2⟩
        · exact Or.inl z
        · refine Or.inr ?_
          rw [z1, z2]
          have l3 := lt.1 k3
          refine ⟨by omega, by omega, Or.inl ⟨l3.1, pk_us, ?_⟩⟩
          rw [pk_us]; exact l3.2
      · by_cases k1 : tk_K ytk n j = 1
        · have dj := dp_1 k1
          have ge : dp_d (tk_K ytk n) q0 ≤ dp_d (tk_K ytk n) j := by
            by_cases z : j = q0
            · rw [z]; exact Int.le_refl _
            · have hq0n : q0 < n := by omega
              have := (hBp q0 hq0n hk0).2.2 j (by omega) (by omega)
              omega
          have hi : vp_in (nI (d - 1)) 64 := vp_in_nI (by omega) (by omega)
          have hc : (nI (d - 1)).toNatClampNeg = d - 1 := nI_clamp (by omega)
          obtain ⟨y2, ey2, hL2⟩ := hds (d - 1 - 1) (by omega)
          have q := hpp (d - 1 - 1) (by omega)
          have ie : sk_f (tk_K ytk n) n j = pp (d - 1 - 1) := sk_I ⟨by omega, by omega, fun m m1 m2 => by have := q.2.2 m (by omega) m2; omega⟩
          refine ret _ (cons (d - 1) y1 y2 hp' (fun a b => VR a b ∨ (a = j ∧ b = y1)) ck ca cb cC k2 (by omega) (by omega) (by omega) ie.symm (Nat.le_refl _) (by omega) (fun a b z => Or.inl z) ?_ (fun _ _ => ⟨rfl, rfl, rfl, rfl⟩) (Or.inr ⟨rfl, rfl⟩) ey2 (by rw [ie]; exact hL2)) (fun post w => pk_lt j q0 (fun z => by omega) (fun _ => yt_t (i := j) H (by omega) (pk_eq (tk_K ytk n j) 2 (fun z => absurd z k2) (fun _ => pk_eq (tk_K ytk n j) 3 (fun z => absurd z k3) (fun _ => pk_eq (tk_K ytk n j) 1 (fun _ => pk_le d 1 (fun z => by omega) (fun hd1 => ?_)) (fun z => absurd k1 z))))))
          · refine hb_add (Nat.le_refl _) (Nat.le_refl _) (fun a b z => Or.inl z) (fun _ _ => ⟨rfl, rfl, rfl⟩) (fun _ _ => ⟨rfl, rfl, rfl, rfl⟩) (fun _ _ => ⟨rfl, rfl⟩) (fun a b z => ?_) hB
            rcases z with z | ⟨z1, z2⟩
            · exact Or.inl z
            · refine Or.inr ?_
              rw [z1, z2]
              have hL1' : dt_L (tk_K ytk n) (fun a b => VR a b ∨ (a = j ∧ b = y1)) hp' ck ca cb (j + 1) y1 := by
                rw [← e1]
                exact dt_Lm (fun a b z => Or.inl z) (Nat.le_refl _) (fun _ _ => ⟨rfl, rfl, rfl⟩) hL1
              refine ⟨by omega, ?_, dt_V (lt.2.2.1 rj k1) hck0 hL1'⟩
              rcases hL1' with ⟨_, w⟩ | ⟨_, w, _⟩ <;> omega
          · rw [ni_m hd, hc]
            exact ⟨hi, nm_r ey1 (nm_r (ni_d hd) w)⟩
        · have k5 : tk_K ytk n j = 5 := by omega
          have at' := atomI k1
          refine ret _ (cons d 0 y1 hp' (fun a b => VR a b ∨ (a = j ∧ b = 0)) ck ca cb cC k2 hd (Nat.le_refl _) (by omega) (by rw [e1, at'.2]) (Nat.le_refl _) (by omega) (fun a b z => Or.inl z) ?_ (fun _ _ => ⟨rfl, rfl, rfl, rfl⟩) (Or.inr ⟨rfl, rfl⟩) ey1 (by rw [at'.2, ← e1]; exact hL1)) (fun post w => pk_lt j q0 (fun z => by omega) (fun _ => yt_t (i := j) H (by omega) (pk_eq (tk_K ytk n j) 2 (fun z => absurd z k2) (fun _ => pk_eq (tk_K ytk n j) 3 (fun z => absurd z k3) (fun _ => pk_eq (tk_K ytk n j) 1 (fun z => absurd z k1) (fun _ => w))))))
          refine hb_add (Nat.le_refl _) (Nat.le_refl _) (fun a b z => Or.inl z) (fun _ _ => ⟨rfl, rfl, rfl⟩) (fun _ _ => ⟨rfl, rfl, rfl, rfl⟩) (fun _ _ => ⟨rfl, rfl⟩) (fun a b z => ?_) hB
          rcases z with z | ⟨z1, z2⟩
          · exact Or.inl z
          · refine Or.inr ?_
            rw [z1, z2]
            exact ⟨by omega, by omega, Or.inr (Or.inl ⟨lt.2.1 k5, hck0⟩)⟩
theorem dt_datum (H : tk_ok ytk n) {R sc vk vf vs cv co : Nat → Int32} {g nm : Nat → Nat} {vc cc lo q0 hp0 : Nat} {VR0 : Nat → Nat → Prop}
    (hBp : ∀ i, i < n → tk_K ytk n i ≠ 2 → dp_I (tk_K ytk n) i (sk_f (tk_K ytk n) n i)) (cov : ∀ m, q0 ≤ m → m < sk_f (tk_K ytk n) n q0 → tk_K ytk n m ≠ 2 → R m = 2) (Lt : lt_L (tk_K ytk n) ytv (sk_f (tk_K ytk n) n) R vk vf vs n) (hR : ∀ m, m < n → R m = 2 → tk_K ytk n m = 3 ∨ tk_K ytk n m = 5 ∨ tk_K ytk n m = 1) (hq0 : 2 ≤ q0) (hend : sk_f (tk_K ytk n) n q0 < n) (hk0 : tk_K ytk n q0 ≠ 2) (kend : tk_K ytk n (sk_f (tk_K ytk n) n q0) = 2) (hvc : 128 ≤ vc)
    (hB0 : hb_B (tk_K ytk n) ytv R sc n VR0 g nm vc cc hp0 lo vk vf vs cv co yck yca ycb ycc)
    (hroom : hp0 + 2 * (sk_f (tk_K ytk n) n q0 - q0) ≤ 50000) :
    ∃ hp' VR' ck' ca' cb' cC' ds' a, dt_Z (tk_K ytk n) ytv R sc n VR0 g nm vc cc lo q0 hp0 (hp0 + 2 * (sk_f (tk_K ytk n) n q0 - q0)) vk vf vs cv co hp' VR' ck' ca' cb' cC' a ∧ ∀ post : Int32 → SY → Prop, post (nI a) (yli, nI n, ypr, ygs, ypo, nI hp', yfs, yvp, yfu, ysp, ymd, yac, yst, yrt, ycu, yhv, ytk, ytv, yus, ygk, yga, ygb, ck', ca', cb', cC', yfp, yfe, yfS, yfn, yfb, yvs, ds', 50000, 50000, 50000, 50000) → wpY_datum post (yli, nI n, ypr, ygs, ypo, nI hp0, yfs, yvp, yfu, ysp, ymd, yac, yst, yrt, ycu, yhv, ytk, ytv, yus, ygk, yga, ygb, yck, yca, ycb, ycc, yfp, yfe, yfS, yfn, yfb, yvs, yds, 50000, 50000, 50000, 50000) (nI q0) := by
  have H1 := H.1
  have hq0n : q0 < n := by
    have := sk_gt (K := (tk_K ytk n)) (n := n) (fun i => tk_0) q0
    omega
  have I0 := hBp q0 hq0n hk0
  have gt := I0.1
  have res := dt_loop (yli := yli) (ypr := ypr) (ygs := ygs) (ypo := ypo) (yfs := yfs) (yvp := yvp) (yfu := yfu) (ysp := ysp) (ymd := ymd) (yac := yac) (yst := yst) (yrt := yrt) (ycu := ycu) (yhv := yhv) (yus := yus) (ygk := ygk) (yga := yga) (ygb := ygb) (yfp := yfp) (yfe := yfe) (yfS := yfS) (yfn := yfn) (yfb := yfb) (yvs := yvs) H hBp cov Lt hR hq0 hend hk0 hvc hroom (sk_f (tk_K ytk n) n q0 - q0) (sk_f (tk_K ytk n) n q0 - 1) 1 hp0 VR0 yck yca ycb ycc (upd yds 0 0) (fun _ => sk_f (tk_K ytk n) n q0) (by omega) (by omega) (by omega) ?_ (by show sk_f (tk_K ytk n) n q0 = _; omega) (fun k hk => ?_) (Nat.le_refl _) (Nat.le_refl _) (fun a b z => z) hB0 (fun k hk => ?_)
  · obtain ⟨z1, z2, z3, z4, z5, z6, z7, z8, Z, w⟩ := res
    refine ⟨z1, z2, z3, z4, z5, z6, z7, z8, Z, fun post hp => ?_⟩
    unfold wpY_datum
    dsimp only
    exact yk_skip (i := q0) H (by omega) (nm_e (nm_r (ni_m (show 1 ≤ sk_f (tk_K ytk n) n q0 by omega)) ⟨sk_f (tk_K ytk n) n q0 - q0 + 1, w post hp⟩))
  · rw [show sk_f (tk_K ytk n) n q0 - 1 + 1 = sk_f (tk_K ytk n) n q0 from by omega]
    have := I0.2.1
    omega
  · have k0 : k = 0 := by omega
    subst k0
    have := I0.2.1
    exact ⟨by omega, by omega, fun m m1 m2 => by omega⟩
  · have k0 : k = 0 := by omega
    subst k0
    exact ⟨0, pk_us, Or.inl ⟨kend, rfl⟩⟩
theorem yq_quote (H : tk_ok ytk n) {e : Int32} {q s F vp : Nat} (hq : q < n) (hk : tk_K ytk n q = 1) (hk1 : tk_K ytk n (q + 1) = 6) (hs : s < F) (hF : F ≤ 400) {Q : Int32 → SY → Prop}
    (h : wpY_datum (fun r u => match u with | (yli, yn, ypr, ygs, ypo, yhp, yfs, yvp, yfu, ysp, ymd, yac, yst, yrt, ycu, yhv, ytk, ytv, yus, ygk, yga, ygb, yck, yca, ycb, ycc, yfp, yfe, yfS, yfn, yfb, yvs, yds, ynk, yna, ynb, ync) => wpY_push Q (yli, yn, ypr, ygs, ypo, yhp, yfs, yvp, yfu, ysp, ymd, yac, yst, yrt, ycu, yhv, ytk, ytv, yus, ygk, yga, ygb, yck, yca, ycb, ycc, yfp, yfe, yfS, yfn, yfb, yvs, yds, ynk, yna, ynb, ync) r) (yli, nI n, ypr, ygs, ypo, yhp, yfs, nI vp, nI F, nI (s + 1), ymd, yac, yst, yrt, ycu, yhv, ytk, ytv, yus, ygk, yga, ygb, yck, yca, ycb, ycc, yfp, yfe, yfS, yfn, yfb, yvs, yds, ynk, yna, ynb, ync) (nI (q + 2))) : wpY_req Q (yli, nI n, ypr, ygs, ypo, yhp, yfs, nI vp, nI F, nI s, ymd, yac, yst, yrt, ycu, yhv, ytk, ytv, yus, ygk, yga, ygb, yck, yca, ycb, ycc, yfp, yfe, yfS, yfn, yfb, yvs, yds, ynk, yna, ynb, ync) (nI q) e := by
  have H1 := H.1
  refine pk_eq s F (fun z => by omega) (fun _ => nm_r (nI_1 s) (yt_t (i := q) H (by omega) (yt_v (i := q) H hq (pk_eq (tk_K ytk n q) 3 (fun z => by omega) (fun _ => pk_eq (tk_K ytk n q) 5 (fun z => by omega) (fun _ => pk_eq (tk_K ytk n q) 4 (fun z => by omega) (fun _ => ?_)))))))
  rw [nI_1 q, ni_2 q]
  exact yt_t (i := q + 1) H (by omega) (pk_eq (tk_K ytk n (q + 1)) 6 (fun _ => h) (fun z => absurd hk1 z))
end
