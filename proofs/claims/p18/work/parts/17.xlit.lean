/-- a compiled program -/
def cp_P (tk tv : Nat → Int32) (n : Nat) (af ro sc ho vk vf vs : Nat → Int32) : Prop :=
  ∃ par : Nat → Nat, 0 < n ∧ dp_I (tk_K tk n) 0 n ∧ xb_A (tk_K tk n) n af ∧ rw_W (tk_K tk n) tv (sk_f (tk_K tk n) n) n n (xr_c n ro) par ∧
    (∀ j, tk_K tk n j = 1 → 7 ≤ tk_K tk n (j + 1) → tk_K tk n (j + 1) ≤ 9 → xr_c n ro j = 1) ∧ sc 0 = -1 ∧
    (∀ i, i < n → xr_c n ro i = 1 → tk_K tk n i = 1 → sc_L (tk_K tk n) (sk_f (tk_K tk n) n) sc i) ∧
    (∀ i, i < n → xr_c n ro i = 1 → tk_K tk n i = 4 → xs_P n tv (xr_c n ro) par sc ho i ∧ sc_B (tk_K tk n) tv (sk_f (tk_K tk n) n) i (tv i)) ∧
    lt_L (tk_K tk n) tv (sk_f (tk_K tk n) n) (xr_c n ro) vk vf vs n
section
variable {xdl xtn xpp xvc xcc xfc xoc xag xan xex xen xfl xac xst xsp xmd xrt xcu : Int32} {xtk xtv xaf xro xsc xho xvk xvf xvs xcv xco xff xfp xfe xfb xop : Nat → Int32} {n : Nat}
theorem xv_set {v : Nat} (hv : v < 528) {k f s : Int32} {post : SX → Prop} (hp : post (xdl, xtn, xpp, xvc, xcc, xfc, xoc, xag, xan, xex, xen, xfl, xac, xst, xsp, xmd, xrt, xcu, xtk, xtv, xaf, xro, xsc, xho, upd xvk v k, upd xvf v f, upd xvs v s, xcv, xco, xff, xfp, xfe, xfb, xop)) : wpX_setValue post (xdl, xtn, xpp, xvc, xcc, xfc, xoc, xag, xan, xex, xen, xfl, xac, xst, xsp, xmd, xrt, xcu, xtk, xtv, xaf, xro, xsc, xho, xvk, xvf, xvs, xcv, xco, xff, xfp, xfe, xfb, xop) (nI v) k f s := by
  have hi : vp_in (nI v) 528 := vp_in_nI hv (by omega)
  have hc : (nI v).toNatClampNeg = v := nI_clamp (by omega)
  refine ⟨hi, nm_r (by rw [hc]) ⟨hi, nm_r (by rw [hc]) ⟨hi, nm_r (by rw [hc]) hp⟩⟩⟩
theorem xv_list (H : tk_ok xtk n) {v e : Nat} (hv : v < 528) (he : e < n) {post : SX → Prop}
    (hp : ∀ vk' vf' vs', lt_P (tk_K xtk n) vk' vf' vs' v e → (∀ q, q ≠ v → vk' q = xvk q ∧ vf' q = xvf q ∧ vs' q = xvs q) → post (xdl, xtn, xpp, xvc, xcc, xfc, xoc, xag, xan, xex, xen, xfl, xac, xst, xsp, xmd, xrt, xcu, xtk, xtv, xaf, xro, xsc, xho, vk', vf', vs', xcv, xco, xff, xfp, xfe, xfb, xop)) : wpX_placeList post (xdl, xtn, xpp, xvc, xcc, xfc, xoc, xag, xan, xex, xen, xfl, xac, xst, xsp, xmd, xrt, xcu, xtk, xtv, xaf, xro, xsc, xho, xvk, xvf, xvs, xcv, xco, xff, xfp, xfe, xfb, xop) (nI v) (nI e) := by
  refine ⟨tk_in H he, tk_b H he 2 (fun k => ?_) (fun k => ?_)⟩
  · exact xv_set hv (hp _ _ _ ⟨fun _ => pk_us, fun z => absurd k z⟩ (fun q hq => ⟨pk_un hq, pk_un hq, pk_un hq⟩))
  · refine xv_set hv (hp _ _ _ ⟨fun z => absurd z k, fun _ => ⟨pk_us, pk_us, ?_⟩⟩ (fun q hq => ⟨pk_un hq, pk_un hq, pk_un hq⟩))
    rw [pk_us]; exact nI_add 64 e
theorem lt_Pk {K : Nat → Nat} {vk vf vs vk' vf' vs' : Nat → Int32} {v e : Nat} (h : lt_P K vk vf vs v e) (hq : vk' v = vk v ∧ vf' v = vf v ∧ vs' v = vs v) : lt_P K vk' vf' vs' v e :=
  ⟨fun z => hq.1.trans (h.1 z), fun z => ⟨hq.1.trans (h.2 z).1, hq.2.1.trans (h.2 z).2.1, hq.2.2.trans (h.2 z).2.2⟩⟩
theorem lt_Lk {K : Nat → Nat} {V : Nat → Int32} {a : Nat → Nat} {r vk vf vs vk' vf' vs' : Nat → Int32} {m : Nat} (h : lt_L K V a r vk vf vs m) (hq : ∀ i, i < m → (vk' i = vk i ∧ vf' i = vf i ∧ vs' i = vs i) ∧ (vk' (64 + i) = vk (64 + i) ∧ vf' (64 + i) = vf (64 + i) ∧ vs' (64 + i) = vs (64 + i))) : lt_L K V a r vk' vf' vs' m := by
  intro i hi
  obtain ⟨a1, a2, a3, a4⟩ := h i hi
  have q := hq i hi
  exact ⟨fun z => ⟨q.1.1.trans (a1 z).1, q.1.2.1.trans (a1 z).2⟩, fun z => q.1.1.trans (a2 z), fun z z' => lt_Pk (a3 z z') q.1, fun z => lt_Pk (a4 z) q.2⟩
theorem xv_loop (H : tk_ok xtk n) (A : xb_A (tk_K xtk n) n xaf) {par : Nat → Nat} (W : rw_W (tk_K xtk n) xtv (sk_f (tk_K xtk n) n) n n (xr_c n xro) par) {post : SX → Prop}
    (hp : ∀ vk' vf' vs', lt_L (tk_K xtk n) xtv (sk_f (tk_K xtk n) n) (xr_c n xro) vk' vf' vs' n → post (xdl, nI n, xpp, xvc, xcc, xfc, xoc, xag, xan, xex, xen, xfl, xac, xst, xsp, xmd, xrt, xcu, xtk, xtv, xaf, xro, xsc, xho, vk', vf', vs', xcv, xco, xff, xfp, xfe, xfb, xop)) :
    ∀ d m (vk' vf' vs' : Nat → Int32), m + d = n → lt_L (tk_K xtk n) xtv (sk_f (tk_K xtk n) n) (xr_c n xro) vk' vf' vs' m → wX_placeLiterals_2 post (d + 1) (nI m) xdl (nI n) xpp xvc xcc xfc xoc xag xan xex xen xfl xac xst xsp xmd xrt xcu xtk xtv xaf xro xsc xho vk' vf' vs' xcv xco xff xfp xfe xfb xop := by
  have H1 := H.1
  have hB : ∀ i, i < n → tk_K xtk n i ≠ 2 → dp_I (tk_K xtk n) i (sk_f (tk_K xtk n) n i) := fun i hi hk => (A i hi hk).1
  have hn0 : ∀ i, n ≤ i → tk_K xtk n i = 0 := fun i => tk_0
  intro d
  induction d with
  | zero =>
    intro m vk' vf' vs' e L
    have em : m = n := by omega
    subst em
    exact pk_le m m (fun _ => hp vk' vf' vs' L) (fun z => by omega)
  | succ d ih =>
    intro m vk' vf' vs' e L
    have hm : m < n := by omega
    have hc : (nI m).toNatClampNeg = m := nI_clamp (by omega)
    -- a datum ends before the last token
    have dat : xro m = 2 → sk_f (tk_K xtk n) n m < n ∧ (tk_K xtk n m = 3 ∨ tk_K xtk n m = 5 ∨ tk_K xtk n m = 1) := by
      intro r2
      have R2 : xr_c n xro m = 2 := (xr_in hm).trans r2
      constructor
      · rcases W.2.2.2.1 m hm (by rw [R2]; decide) with z | ⟨z1, z2, z3, z4⟩
        · rw [z] at R2; rw [W.2.2.2.2] at R2; exact absurd R2 (by decide)
        · rcases z4 with ⟨a, ⟨b, _⟩ | ⟨_, b⟩ | ⟨b, _⟩⟩ | ⟨a, _, b⟩
          · rw [R2] at b; exact absurd b (by decide)
          · have k1 := b.1
            have hI := hB (par m) (by omega) (by omega)
            have := gr_in hI (W.2.1 (par m) z2 a).1 (Or.inr (Or.inl b))
            have := dp_le hn0 hI (by omega)
            omega
          · rw [R2] at b; exact absurd b (by decide)
          · have k1 := b.1
            have hI := hB (par m) (by omega) (by omega)
            have := ls_Min hI k1 (dp_L_r _) (dp_I_1 hI k1) b.2
            have := dp_le hn0 hI (by omega)
            omega
      · rcases (W.2.2.1 m hm R2).1 with w | w | w
        · exact Or.inl w
        · exact Or.inr (Or.inl w)
        · exact Or.inr (Or.inr w.1)
    have f75 : ∀ vk2 vf2 vs2, lt_L (tk_K xtk n) xtv (sk_f (tk_K xtk n) n) (xr_c n xro) vk2 vf2 vs2 m → (tk_K xtk n m = 3 → vk2 m = 1 ∧ vf2 m = xtv m) → (tk_K xtk n m = 5 → vk2 m = 2) → (xro m = 2 → tk_K xtk n m = 1 → lt_P (tk_K xtk n) vk2 vf2 vs2 m (m + 1)) → wX_placeLiterals_75 post (wX_placeLiterals_2 post (d + 1)) (nI m) xdl (nI n) xpp xvc xcc xfc xoc xag xan xex xen xfl xac xst xsp xmd xrt xcu xtk xtv xaf xro xsc xho vk2 vf2 vs2 xcv xco xff xfp xfe xfb xop := by
      intro vk2 vf2 vs2 L2 b1 b2 b3
      refine ⟨tk_in H hm, ?_⟩
      rw [hc]
      by_cases r2 : xro m = 2
      · have D := dat r2
        have ns : tk_K xtk n m ≠ 2 := by omega
        refine br_t r2 ⟨tk_in H hm, ?_⟩
        rw [(A m hm ns).2, show (64 : Int32) + nI m = nI (64 + m) from nI_add 64 m]
        refine xv_list (xtn := nI n) (xvk := vk2) (xvf := vf2) (xvs := vs2) H (by omega) D.1 (fun vk3 vf3 vs3 p1 p2 => nm_r (nI_1 m) (ih (m + 1) vk3 vf3 vs3 (by omega) (fun i hi => ?_)))
        have same : ∀ q, q ≠ 64 + m → vk3 q = vk2 q ∧ vf3 q = vf2 q ∧ vs3 q = vs2 q := p2
        by_cases z : i = m
        · subst z
          have s := same i (by omega)
          exact ⟨fun y => ⟨s.1.trans (b1 y).1, s.2.1.trans (b1 y).2⟩, fun y => s.1.trans (b2 y), fun _ y => lt_Pk (b3 r2 y) s, fun _ => p1⟩
        · exact lt_Lk L2 (fun j hj => ⟨same j (by omega), same (64 + j) (by omega)⟩) i (by omega)
      · refine br_f r2 (nm_r (nI_1 m) (ih (m + 1) vk2 vf2 vs2 (by omega) (fun i hi => ?_)))
        by_cases z : i = m
        · subst z
          rw [xr_in hm]
          exact ⟨b1, b2, fun y => absurd y r2, fun y => absurd y r2⟩
        · exact L2 i (by omega)
    have keep : ∀ vk2 vf2 vs2, (∀ q, q ≠ m → vk2 q = vk' q ∧ vf2 q = vf' q ∧ vs2 q = vs' q) → lt_L (tk_K xtk n) xtv (sk_f (tk_K xtk n) n) (xr_c n xro) vk2 vf2 vs2 m := fun vk2 vf2 vs2 hq => lt_Lk L (fun j hj => ⟨hq j (by omega), hq (64 + j) (by omega)⟩)
    refine pk_le n m (fun z => by omega) (fun _ => ⟨tk_in H hm, tk_b H hm 3 (fun k3 => ⟨tk_in H hm, ?_⟩) (fun k3 => ⟨tk_in H hm, tk_b H hm 5 (fun k5 => ?_) (fun k5 => ⟨tk_in H hm, ?_⟩)⟩)⟩)
    · rw [hc]
      exact xv_set (xtn := nI n) (xvk := vk') (xvf := vf') (xvs := vs') (by omega) (f75 _ _ _ (keep _ _ _ (fun q hq => ⟨pk_un hq, pk_un hq, pk_un hq⟩)) (fun _ => ⟨pk_us, pk_us⟩) (fun z => by omega) (fun _ z => by omega))
    · exact xv_set (xtn := nI n) (xvk := vk') (xvf := vf') (xvs := vs') (by omega) (f75 _ _ _ (keep _ _ _ (fun q hq => ⟨pk_un hq, pk_un hq, pk_un hq⟩)) (fun z => by omega) (fun _ => pk_us) (fun _ z => by omega))
    · rw [hc]
      by_cases r2 : xro m = 2
      · have D := dat r2
        have k1 : tk_K xtk n m = 1 := by omega
        obtain ⟨c0, lc0, p1, p2, p3⟩ := xl_cnt H A hm k1
        refine br_t r2 ?_
        rw [nI_1]
        exact xv_list (xtn := nI n) (xvk := vk') (xvf := vf') (xvs := vs') H (by omega) (by omega) (fun vk3 vf3 vs3 q1 q2 => f75 _ _ _ (keep _ _ _ q2) (fun z => by omega) (fun z => by omega) (fun _ _ => q1))
      · exact br_f r2 (f75 _ _ _ L (fun z => by omega) (fun z => by omega) (fun z => absurd z r2))
theorem xv_place (H : tk_ok xtk n) (A : xb_A (tk_K xtk n) n xaf) {par : Nat → Nat} (W : rw_W (tk_K xtk n) xtv (sk_f (tk_K xtk n) n) n n (xr_c n xro) par) {post : SX → Prop}
    (hp : ∀ vk' vf' vs', lt_L (tk_K xtk n) xtv (sk_f (tk_K xtk n) n) (xr_c n xro) vk' vf' vs' n → post (xdl, nI n, xpp, xvc, xcc, xfc, xoc, xag, xan, xex, xen, xfl, xac, xst, xsp, xmd, xrt, xcu, xtk, xtv, xaf, xro, xsc, xho, vk', vf', vs', xcv, xco, xff, xfp, xfe, xfb, xop)) : wpX_placeLiterals post (xdl, nI n, xpp, xvc, xcc, xfc, xoc, xag, xan, xex, xen, xfl, xac, xst, xsp, xmd, xrt, xcu, xtk, xtv, xaf, xro, xsc, xho, xvk, xvf, xvs, xcv, xco, xff, xfp, xfe, xfb, xop) :=
  ⟨n + 1, xv_loop H A W hp n 0 xvk xvf xvs (by omega) (fun i hi => by omega)⟩
theorem xs_bound (H : tk_ok xtk n) (A : xb_A (tk_K xtk n) n xaf) {par : Nat → Nat} (W : rw_W (tk_K xtk n) xtv (sk_f (tk_K xtk n) n) n n (xr_c n xro) par) (hC : ∀ j, tk_K xtk n j = 1 → 7 ≤ tk_K xtk n (j + 1) → tk_K xtk n (j + 1) ≤ 9 → xr_c n xro j = 1) {post : Int32 → SX → Prop}
    (h1 : ∀ sc' ho', sc' 0 = -1 → (∀ i, i < n → xr_c n xro i = 1 → tk_K xtk n i = 1 → sc_L (tk_K xtk n) (sk_f (tk_K xtk n) n) sc' i) → (∀ i, i < n → xr_c n xro i = 1 → tk_K xtk n i = 4 → xs_P n xtv (xr_c n xro) par sc' ho' i ∧ sc_B (tk_K xtk n) xtv (sk_f (tk_K xtk n) n) i (xtv i)) → post 1 (xdl, nI n, xpp, xvc, xcc, xfc, xoc, xag, xan, xex, xen, xfl, xac, xst, xsp, xmd, xrt, xcu, xtk, xtv, xaf, xro, sc', ho', xvk, xvf, xvs, xcv, xco, xff, xfp, xfe, xfb, xop))
    (h0 : ∀ sc' ho', (∃ i, i < n ∧ xr_c n xro i = 1 ∧ tk_K xtk n i = 4 ∧ ¬ sc_B (tk_K xtk n) xtv (sk_f (tk_K xtk n) n) i (xtv i)) → post 0 (xdl, nI n, xpp, xvc, xcc, xfc, xoc, xag, xan, xex, xen, xfl, xac, xst, xsp, xmd, xrt, xcu, xtk, xtv, xaf, xro, sc', ho', xvk, xvf, xvs, xcv, xco, xff, xfp, xfe, xfb, xop)) : wpX_namesAreBound post (xdl, nI n, xpp, xvc, xcc, xfc, xoc, xag, xan, xex, xen, xfl, xac, xst, xsp, xmd, xrt, xcu, xtk, xtv, xaf, xro, xsc, xho, xvk, xvf, xvs, xcv, xco, xff, xfp, xfe, xfb, xop) :=
  nm_e ⟨n + 1, xs_loop H A W hC h1 h0 n 0 (upd xsc 0 (-1)) xho (by omega) pk_us (fun i hi => by omega) (fun i hi => by omega)⟩
theorem xc_comp (H : tk_ok xtk n) {post : Int32 → SX → Prop}
    (h1 : ∀ af ro, (∀ k, ¬ (0 < n ∧ sk_f (tk_K xtk n) n 0 = n ∧ gr_X (tk_K xtk n) xtv (sk_f (tk_K xtk n) n) k true 0)) → post 1 (xdl, nI n, 0, xvc, xcc, xfc, xoc, xag, xan, xex, xen, xfl, xac, -1, 0, 0, -1, -1, xtk, xtv, af, ro, xsc, xho, xvk, xvf, xvs, xcv, xco, xff, xfp, xfe, xfb, xop))
    (h2 : ∀ af ro sc ho par, 0 < n → dp_I (tk_K xtk n) 0 n → xb_A (tk_K xtk n) n af → rw_W (tk_K xtk n) xtv (sk_f (tk_K xtk n) n) n n (xr_c n ro) par → (∀ j, tk_K xtk n j = 1 → 7 ≤ tk_K xtk n (j + 1) → tk_K xtk n (j + 1) ≤ 9 → xr_c n ro j = 1) → (∃ i, i < n ∧ xr_c n ro i = 1 ∧ tk_K xtk n i = 4 ∧ ¬ sc_B (tk_K xtk n) xtv (sk_f (tk_K xtk n) n) i (xtv i)) → post 2 (xdl, nI n, 0, xvc, xcc, xfc, xoc, xag, xan, xex, xen, xfl, xac, -1, 0, 0, -1, -1, xtk, xtv, af, ro, sc, ho, xvk, xvf, xvs, xcv, xco, xff, xfp, xfe, xfb, xop))
    (h3 : ∀ af ro sc ho vk vf vs, cp_P xtk xtv n af ro sc ho vk vf vs → post 0 (xdl, nI n, 1, xvc, xcc, xfc, xoc, xag, xan, xex, xen, xfl, xac, -1, 0, 0, -1, -1, xtk, xtv, af, ro, sc, ho, vk, vf, vs, xcv, xco, xff, xfp, xfe, xfb, xop)) :
    wpX_compile post (xdl, nI n, xpp, xvc, xcc, xfc, xoc, xag, xan, xex, xen, xfl, xac, xst, xsp, xmd, xrt, xcu, xtk, xtv, xaf, xro, xsc, xho, xvk, xvf, xvs, xcv, xco, xff, xfp, xfe, xfb, xop) := by
  have H1 := H.1
  have hn0 : ∀ i, n ≤ i → tk_K xtk n i = 0 := fun i => tk_0
  unfold wpX_compile wpX_forgetResult
  dsimp only
  refine xo_parens H (fun af A hK0 => br_f (by decide) ?_) (fun af w => br_t rfl (h1 af xro (fun k z => w ?_)))
  · refine xw_gram (xaf := af) H A hK0 (fun ro par n0 I0 W => br_f (by decide) ?_) (fun ro w => br_t rfl (h1 af ro w))
    have hrn : ∀ c, xr_c n ro c ≠ 0 → c < n := fun c hc => by
      rcases Nat.lt_or_ge c n with z | z
      · exact z
      · exact absurd (xr_out z) hc
    have hC := pm_kc (fun i hi hk => (A i hi hk).1) hn0 hrn (fun c hc => by
      have := (rw_K W (hrn c (by rcases hc with hc | hc <;> rw [hc] <;> decide)) (by rcases hc with hc | hc <;> rw [hc] <;> decide)).1
      omega) W _ [(1, 0, 0)] 0 (Nat.le_refl _) (by omega) (pm_C1.mpr ⟨W.2.2.2.2, sk_I I0⟩) (fun t ht => by omega)
    refine xs_bound (xaf := af) (xro := ro) H A W hC (fun sc ho s0 s1 s2 => br_f (by decide) ?_) (fun sc ho w => br_t rfl (h2 af ro sc ho par n0 I0 A W hC w))
    exact xv_place (xaf := af) (xro := ro) (xsc := sc) (xho := ho) H A W (fun vk vf vs L => h3 af ro sc ho vk vf vs ⟨par, n0, I0, A, W, hC, s0, s1, s2, L⟩)
  · have := gr_XI k true 0 z.2.2
    rw [z.2.1] at this
    exact this
end
