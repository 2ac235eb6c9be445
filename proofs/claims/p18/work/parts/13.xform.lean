section
variable {xdl xtn xpp xvc xcc xfc xoc xag xan xex xen xfl xac xst xsp xmd xrt xcu : Int32} {xtk xtv xaf xro xsc xho xvk xvf xvs xcv xco xff xfp xfe xfb xop : Nat → Int32} {n : Nat}
theorem xf_form (H : tk_ok xtk n) (A : xb_A (tk_K xtk n) n xaf) {i : Nat} (hi : i < n) (k1 : tk_K xtk n i = 1) (hz : ∀ m, i < m → m < sk_f (tk_K xtk n) n i → xro m = 0) {post : Int32 → SX → Prop}
    (h1 : ∀ r', gr_SH (tk_K xtk n) xtv (sk_f (tk_K xtk n) n) i → (∀ c, gr_E (tk_K xtk n) (sk_f (tk_K xtk n) n) i c → r' c = 1) → (∀ c, gr_D (tk_K xtk n) (sk_f (tk_K xtk n) n) i c → r' c = 2) → (∀ c, gr_N (tk_K xtk n) (sk_f (tk_K xtk n) n) i c → r' c = 3) → (∀ c, ¬ gr_Ch (tk_K xtk n) (sk_f (tk_K xtk n) n) i c → r' c = xro c) → post 1 (xdl, xtn, xpp, xvc, xcc, xfc, xoc, xag, xan, xex, xen, xfl, xac, xst, xsp, xmd, xrt, xcu, xtk, xtv, xaf, r', xsc, xho, xvk, xvf, xvs, xcv, xco, xff, xfp, xfe, xfb, xop))
    (h0 : ∀ r', ¬ gr_SH (tk_K xtk n) xtv (sk_f (tk_K xtk n) n) i → post 0 (xdl, xtn, xpp, xvc, xcc, xfc, xoc, xag, xan, xex, xen, xfl, xac, xst, xsp, xmd, xrt, xcu, xtk, xtv, xaf, r', xsc, xho, xvk, xvf, xvs, xcv, xco, xff, xfp, xfe, xfb, xop)) : wpX_formFits post (xdl, xtn, xpp, xvc, xcc, xfc, xoc, xag, xan, xex, xen, xfl, xac, xst, xsp, xmd, xrt, xcu, xtk, xtv, xaf, xro, xsc, xho, xvk, xvf, xvs, xcv, xco, xff, xfp, xfe, xfb, xop) (nI i) := by
  have H1 := H.1
  obtain ⟨c0, lc0, p1, p2, p3⟩ := xl_cnt H A hi k1
  have i1 : i + 1 < n := by omega
  have k20 := tk_20 H (i + 1)
  have noS : (gr_FS (tk_K xtk n) xtv (sk_f (tk_K xtk n) n) i (tk_K xtk n (i + 1)) → False) → ¬ gr_SH (tk_K xtk n) xtv (sk_f (tk_K xtk n) n) i := fun w S => w (gr_FSof S k1)
  -- an application
  have app : tk_K xtk n (i + 1) < 6 → ∀ r', (∀ q, ls_M (tk_K xtk n) (sk_f (tk_K xtk n) n) (i + 1) q → r' q = 1) → (∀ q, ¬ ls_M (tk_K xtk n) (sk_f (tk_K xtk n) n) (i + 1) q → r' q = xro q) → ((1 ≤ c0 ∧ c0 ≤ 5) → post 1 (xdl, xtn, xpp, xvc, xcc, xfc, xoc, xag, xan, xex, xen, xfl, xac, xst, xsp, xmd, xrt, xcu, xtk, xtv, xaf, r', xsc, xho, xvk, xvf, xvs, xcv, xco, xff, xfp, xfe, xfb, xop)) ∧ (¬ (1 ≤ c0 ∧ c0 ≤ 5) → post 0 (xdl, xtn, xpp, xvc, xcc, xfc, xoc, xag, xan, xex, xen, xfl, xac, xst, xsp, xmd, xrt, xcu, xtk, xtv, xaf, r', xsc, xho, xvk, xvf, xvs, xcv, xco, xff, xfp, xfe, xfb, xop)) := by
    intro k r' e1 e2
    refine ⟨fun z => h1 r' ?_ (fun q hq => ?_) (fun q hq => ?_) (fun q hq => ?_) (fun q hq => e2 q (fun w => hq (Or.inl ⟨k1, Or.inr (Or.inl ⟨k, w⟩)⟩))), fun z => h0 r' (noS (fun F => ?_))⟩
    · refine Or.inr (Or.inr (Or.inr ⟨k1, Or.inr (Or.inr (Or.inr (Or.inr ⟨k, c0 - 1, by omega, ?_⟩)))⟩))
      rw [show c0 - 1 + 1 = c0 from by omega]; exact lc0
    · rcases hq.2 with ⟨w, _⟩ | ⟨_, w⟩ | ⟨w, _⟩ | ⟨w, _⟩
      · omega
      · exact e1 q w
      · omega
      · omega
    · have := hq.2.1; omega
    · rcases hq.2 with ⟨w, _⟩ | ⟨w, _⟩ <;> omega
    · rcases F with ⟨w, _⟩ | ⟨w, _⟩ | ⟨w, _⟩ | ⟨w, _⟩ | ⟨_, c, c4, lc⟩
      · omega
      · omega
      · omega
      · omega
      · have := ls_C_u lc0 lc; omega
  -- the forms with a keyword: their items behind it
  have kw : 6 ≤ tk_K xtk n (i + 1) → ∃ c, c0 = c + 1 ∧ ls_C (tk_K xtk n) (sk_f (tk_K xtk n) n) (i + 2) c := by
    intro k
    cases c0 with
    | zero => have := ls_C_z lc0; omega
    | succ c =>
      have t := (ls_C_t lc0).2
      rw [sk_at (K := (tk_K xtk n)) (n := n) (i := i + 1) (by omega)] at t
      exact ⟨c, rfl, t⟩
  have ops : 10 ≤ tk_K xtk n (i + 1) → ∀ m, gr_n (tk_K xtk n (i + 1)) = m → ∀ c, ls_C (tk_K xtk n) (sk_f (tk_K xtk n) n) (i + 2) c → ∀ r', (∀ q, ls_M (tk_K xtk n) (sk_f (tk_K xtk n) n) (i + 2) q → r' q = 1) → (∀ q, ¬ ls_M (tk_K xtk n) (sk_f (tk_K xtk n) n) (i + 2) q → r' q = xro q) → (c = m → post 1 (xdl, xtn, xpp, xvc, xcc, xfc, xoc, xag, xan, xex, xen, xfl, xac, xst, xsp, xmd, xrt, xcu, xtk, xtv, xaf, r', xsc, xho, xvk, xvf, xvs, xcv, xco, xff, xfp, xfe, xfb, xop)) ∧ (c ≠ m → post 0 (xdl, xtn, xpp, xvc, xcc, xfc, xoc, xag, xan, xex, xen, xfl, xac, xst, xsp, xmd, xrt, xcu, xtk, xtv, xaf, r', xsc, xho, xvk, xvf, xvs, xcv, xco, xff, xfp, xfe, xfb, xop)) := by
    intro k m em c lc r' e1 e2
    refine ⟨fun z => h1 r' ?_ (fun q hq => ?_) (fun q hq => ?_) (fun q hq => ?_) (fun q hq => e2 q (fun w => hq (Or.inl ⟨k1, Or.inl ⟨k, w⟩⟩))), fun z => h0 r' (noS (fun F => ?_))⟩
    · refine Or.inr (Or.inr (Or.inr ⟨k1, Or.inr (Or.inr (Or.inr (Or.inl ⟨k, ?_⟩)))⟩))
      rw [em, ← z]; exact lc
    · rcases hq.2 with ⟨_, w⟩ | ⟨w, _⟩ | ⟨_, w, _⟩ | ⟨w, _⟩
      · exact e1 q w
      · omega
      · omega
      · omega
    · have := hq.2.1; omega
    · rcases hq.2 with ⟨w, _⟩ | ⟨w, _⟩ <;> omega
    · rcases F with ⟨w, _⟩ | ⟨w, _⟩ | ⟨w, _⟩ | ⟨_, l⟩ | ⟨w, _⟩
      · omega
      · omega
      · omega
      · rw [em] at l
        exact z (ls_C_u lc l)
      · omega
  have f183 : 10 ≤ tk_K xtk n (i + 1) → gr_n (tk_K xtk n (i + 1)) = 2 → wX_formFits_183 post (nI i) (nI c0) xdl xtn xpp xvc xcc xfc xoc xag xan xex xen xfl xac xst xsp xmd xrt xcu xtk xtv xaf xro xsc xho xvk xvf xvs xcv xco xff xfp xfe xfb xop := by
    intro k em
    obtain ⟨c, ec, lc⟩ := kw (by omega)
    have : wpX_giveRole (fun u => match u with | (xdl, xtn, xpp, xvc, xcc, xfc, xoc, xag, xan, xex, xen, xfl, xac, xst, xsp, xmd, xrt, xcu, xtk, xtv, xaf, xro, xsc, xho, xvk, xvf, xvs, xcv, xco, xff, xfp, xfe, xfb, xop) => ((nI c0 = 3 → post 1 (xdl, xtn, xpp, xvc, xcc, xfc, xoc, xag, xan, xex, xen, xfl, xac, xst, xsp, xmd, xrt, xcu, xtk, xtv, xaf, xro, xsc, xho, xvk, xvf, xvs, xcv, xco, xff, xfp, xfe, xfb, xop)) ∧ (¬ nI c0 = 3 → post 0 (xdl, xtn, xpp, xvc, xcc, xfc, xoc, xag, xan, xex, xen, xfl, xac, xst, xsp, xmd, xrt, xcu, xtk, xtv, xaf, xro, xsc, xho, xvk, xvf, xvs, xcv, xco, xff, xfp, xfe, xfb, xop)))) (xdl, xtn, xpp, xvc, xcc, xfc, xoc, xag, xan, xex, xen, xfl, xac, xst, xsp, xmd, xrt, xcu, xtk, xtv, xaf, xro, xsc, xho, xvk, xvf, xvs, xcv, xco, xff, xfp, xfe, xfb, xop) (nI (i + 2)) 1 :=
      xg_give H A lc (fun r' e1 e2 => pk_eq c0 3 (fun z => (ops k 2 em c lc r' e1 e2).1 (by omega)) (fun z => (ops k 2 em c lc r' e1 e2).2 (by omega)))
    rw [← ni_2 i] at this
    exact this
  have f164 : 10 ≤ tk_K xtk n (i + 1) → gr_n (tk_K xtk n (i + 1)) = 1 → wX_formFits_164 post (nI i) (nI c0) xdl xtn xpp xvc xcc xfc xoc xag xan xex xen xfl xac xst xsp xmd xrt xcu xtk xtv xaf xro xsc xho xvk xvf xvs xcv xco xff xfp xfe xfb xop := by
    intro k em
    obtain ⟨c, ec, lc⟩ := kw (by omega)
    have : wpX_giveRole (fun u => match u with | (xdl, xtn, xpp, xvc, xcc, xfc, xoc, xag, xan, xex, xen, xfl, xac, xst, xsp, xmd, xrt, xcu, xtk, xtv, xaf, xro, xsc, xho, xvk, xvf, xvs, xcv, xco, xff, xfp, xfe, xfb, xop) => ((nI c0 = 2 → post 1 (xdl, xtn, xpp, xvc, xcc, xfc, xoc, xag, xan, xex, xen, xfl, xac, xst, xsp, xmd, xrt, xcu, xtk, xtv, xaf, xro, xsc, xho, xvk, xvf, xvs, xcv, xco, xff, xfp, xfe, xfb, xop)) ∧ (¬ nI c0 = 2 → post 0 (xdl, xtn, xpp, xvc, xcc, xfc, xoc, xag, xan, xex, xen, xfl, xac, xst, xsp, xmd, xrt, xcu, xtk, xtv, xaf, xro, xsc, xho, xvk, xvf, xvs, xcv, xco, xff, xfp, xfe, xfb, xop)))) (xdl, xtn, xpp, xvc, xcc, xfc, xoc, xag, xan, xex, xen, xfl, xac, xst, xsp, xmd, xrt, xcu, xtk, xtv, xaf, xro, xsc, xho, xvk, xvf, xvs, xcv, xco, xff, xfp, xfe, xfb, xop) (nI (i + 2)) 1 :=
      xg_give H A lc (fun r' e1 e2 => pk_eq c0 2 (fun z => (ops k 1 em c lc r' e1 e2).1 (by omega)) (fun z => (ops k 1 em c lc r' e1 e2).2 (by omega)))
    rw [← ni_2 i] at this
    exact this
  have f126 : (tk_K xtk n (i + 1) = 8 ∨ tk_K xtk n (i + 1) = 9) → wX_formFits_126 post (nI i) (nI c0) xdl xtn xpp xvc xcc xfc xoc xag xan xex xen xfl xac xst xsp xmd xrt xcu xtk xtv xaf xro xsc xho xvk xvf xvs xcv xco xff xfp xfe xfb xop := by
    intro k
    obtain ⟨c, ec, lc⟩ := kw (by omega)
    refine pk_eq c0 3 (fun z => ?_) (fun z => h0 xro (noS (fun F => ?_)))
    · have : c = 2 := by omega
      subst this
      refine xl_let H A hi k1 k lc hz (fun r' F e1 e3 e4 => br_f (by decide) (h1 r' (Or.inr (Or.inr (Or.inr ⟨k1, F⟩))) e1 (fun q hq => by have := hq.2.1; omega) e3 e4)) (fun r' F => br_t rfl (h0 r' (noS F)))
    · rcases F with ⟨w, _⟩ | ⟨w, _⟩ | ⟨_, l, _⟩ | ⟨w, _⟩ | ⟨w, _⟩
      · omega
      · omega
      · have := ls_C_u lc l; omega
      · omega
      · omega
  refine xi_items H A lc0 ⟨by rw [nI_1]; exact tk_in H i1, nm_r (show xtk (nI i + 1).toNatClampNeg = nI (tk_K xtk n (i + 1)) from by rw [nI_1]; exact tk_c H i1) (pk_lt (tk_K xtk n (i + 1)) 6 (fun k => ?_) (fun k => pk_lt 20 (tk_K xtk n (i + 1)) (fun z => by omega) (fun _ => ?_)))⟩
  · rw [nI_1]
    exact xg_give H A lc0 (fun r' e1 e2 => pk_lt c0 1 (fun z => (app k r' e1 e2).2 (by omega)) (fun z => pk_lt 5 c0 (fun z2 => (app k r' e1 e2).2 (by omega)) (fun z2 => (app k r' e1 e2).1 (by omega))))
  · refine pk_eq (tk_K xtk n (i + 1)) 6 (fun k6 => ?_) (fun k6 => pk_eq (tk_K xtk n (i + 1)) 7 (fun k7 => ?_) (fun k7 => pk_eq (tk_K xtk n (i + 1)) 8 (fun k8 => f126 (Or.inl k8)) (fun k8 => pk_eq (tk_K xtk n (i + 1)) 9 (fun k9 => f126 (Or.inr k9)) (fun k9 => pk_eq (tk_K xtk n (i + 1)) 10 (fun k10 => ?_) (fun k10 => pk_eq (tk_K xtk n (i + 1)) 11 (fun z => f183 (by omega) (by rw [z]; rfl)) (fun k11 => pk_eq (tk_K xtk n (i + 1)) 12 (fun z => f164 (by omega) (by rw [z]; rfl)) (fun k12 => pk_eq (tk_K xtk n (i + 1)) 13 (fun z => f164 (by omega) (by rw [z]; rfl)) (fun k13 => pk_eq (tk_K xtk n (i + 1)) 14 (fun z => f164 (by omega) (by rw [z]; rfl)) (fun k14 => pk_eq (tk_K xtk n (i + 1)) 15 (fun z => f183 (by omega) (by rw [z]; rfl)) (fun k15 => pk_eq (tk_K xtk n (i + 1)) 16 (fun z => f183 (by omega) (by rw [z]; rfl)) (fun k16 => pk_eq (tk_K xtk n (i + 1)) 17 (fun z => f183 (by omega) (by rw [z]; rfl)) (fun k17 => pk_eq (tk_K xtk n (i + 1)) 18 (fun z => f183 (by omega) (by rw [z]; rfl)) (fun k18 => pk_eq (tk_K xtk n (i + 1)) 19 (fun z => f183 (by omega) (by rw [z]; rfl)) (fun k19 => pk_eq (tk_K xtk n (i + 1)) 20 (fun z => f183 (by omega) (by rw [z]; rfl)) (fun k20 => trivial)))))))))))))))
    · obtain ⟨c, ec, lc⟩ := kw (by omega)
      rw [ni_2]
      refine xg_give H A lc (fun r' e1 e2 => pk_eq c0 2 (fun z => h1 r' ?_ (fun q hq => ?_) (fun q hq => e1 q hq.2.2) (fun q hq => ?_) (fun q hq => e2 q (fun w => hq (Or.inr (Or.inl ⟨k1, k6, w⟩))))) (fun z => h0 r' (noS (fun F => ?_))))
      · have : c = 1 := by omega
        subst this
        exact Or.inr (Or.inr (Or.inr ⟨k1, Or.inl ⟨k6, lc⟩⟩))
      · rcases hq.2 with ⟨w, _⟩ | ⟨w, _⟩ | ⟨w, _⟩ | ⟨w, _⟩ <;> omega
      · rcases hq.2 with ⟨w, _⟩ | ⟨w, _⟩ <;> omega
      · rcases F with ⟨_, l⟩ | ⟨w, _⟩ | ⟨w, _⟩ | ⟨w, _⟩ | ⟨w, _⟩
        · have := ls_C_u lc l; omega
        · omega
        · omega
        · omega
        · omega
    · obtain ⟨c, ec, lc⟩ := kw (by omega)
      refine pk_eq c0 3 (fun z => ?_) (fun z => h0 xro (noS (fun F => ?_)))
      · have : c = 2 := by omega
        subst this
        refine xl_lam H A k1 k7 lc hz (fun r' F e1 e3 e4 => br_f (by decide) (h1 r' (Or.inr (Or.inr (Or.inr ⟨k1, by rw [k7]; exact F⟩))) e1 (fun q hq => by have := hq.2.1; omega) e3 e4)) (fun r' F => br_t rfl (h0 r' (noS (by rw [k7]; exact F))))
      · rcases F with ⟨w, _⟩ | ⟨_, l, _⟩ | ⟨w, _⟩ | ⟨w, _⟩ | ⟨w, _⟩
        · omega
        · have := ls_C_u lc l; omega
        · omega
        · omega
        · omega
    · obtain ⟨c, ec, lc⟩ := kw (by omega)
      rw [ni_2]
      exact xg_give H A lc (fun r' e1 e2 => pk_eq c0 4 (fun z => (ops (by omega) 3 (by rw [k10]; rfl) c lc r' e1 e2).1 (by omega)) (fun z => (ops (by omega) 3 (by rw [k10]; rfl) c lc r' e1 e2).2 (by omega)))
theorem xf_datum (H : tk_ok xtk n) (A : xb_A (tk_K xtk n) n xaf) {i : Nat} (hi : i < n) {post : Int32 → SX → Prop}
    (h1 : tk_K xtk n i = 3 ∨ tk_K xtk n i = 5 → post 1 (xdl, xtn, xpp, xvc, xcc, xfc, xoc, xag, xan, xex, xen, xfl, xac, xst, xsp, xmd, xrt, xcu, xtk, xtv, xaf, xro, xsc, xho, xvk, xvf, xvs, xcv, xco, xff, xfp, xfe, xfb, xop))
    (h2 : ∀ r' c, tk_K xtk n i = 1 → ls_C (tk_K xtk n) (sk_f (tk_K xtk n) n) (i + 1) c → (∀ c, gr_DM (tk_K xtk n) (sk_f (tk_K xtk n) n) i c → r' c = 2) → (∀ c, ¬ gr_DM (tk_K xtk n) (sk_f (tk_K xtk n) n) i c → r' c = xro c) → post 1 (xdl, xtn, xpp, xvc, xcc, xfc, xoc, xag, xan, xex, xen, xfl, xac, xst, xsp, xmd, xrt, xcu, xtk, xtv, xaf, r', xsc, xho, xvk, xvf, xvs, xcv, xco, xff, xfp, xfe, xfb, xop))
    (h0 : ¬ gr_DS (tk_K xtk n) (sk_f (tk_K xtk n) n) i → post 0 (xdl, xtn, xpp, xvc, xcc, xfc, xoc, xag, xan, xex, xen, xfl, xac, xst, xsp, xmd, xrt, xcu, xtk, xtv, xaf, xro, xsc, xho, xvk, xvf, xvs, xcv, xco, xff, xfp, xfe, xfb, xop)) : wpX_datumFits post (xdl, xtn, xpp, xvc, xcc, xfc, xoc, xag, xan, xex, xen, xfl, xac, xst, xsp, xmd, xrt, xcu, xtk, xtv, xaf, xro, xsc, xho, xvk, xvf, xvs, xcv, xco, xff, xfp, xfe, xfb, xop) (nI i) := by
  refine ⟨tk_in H hi, tk_b H hi 1 (fun k1 => ?_) (fun k1 => ⟨tk_in H hi, tk_b H hi 3 (fun k3 => h1 (Or.inl k3)) (fun k3 => ⟨tk_in H hi, tk_b H hi 5 (fun k5 => h1 (Or.inr k5)) (fun k5 => h0 (fun w => ?_))⟩)⟩)⟩
  · obtain ⟨c0, lc0, p1, p2, p3⟩ := xl_cnt H A hi k1
    rw [nI_1]
    exact xg_give H A lc0 (fun r' e1 e2 => h2 r' c0 k1 lc0 (fun c hc => e1 c hc.2) (fun c hc => e2 c (fun w => hc ⟨k1, w⟩)))
  · rcases w with w | w | ⟨w, _⟩
    · exact k3 w
    · exact k5 w
    · exact k1 w
def xr_c (n : Nat) (r : Nat → Int32) : Nat → Int32 := fun c => if c < n then r c else 0
theorem xr_in {n c : Nat} {r : Nat → Int32} (h : c < n) : xr_c n r c = r c := if_pos h
theorem xr_out {n c : Nat} {r : Nat → Int32} (h : n ≤ c) : xr_c n r c = 0 := if_neg (by omega)
theorem xw_loop (H : tk_ok xtk n) (A : xb_A (tk_K xtk n) n xaf) {post : Int32 → SX → Prop}
    (h1 : ∀ r' par, rw_W (tk_K xtk n) xtv (sk_f (tk_K xtk n) n) n n (xr_c n r') par → post 1 (xdl, nI n, xpp, xvc, xcc, xfc, xoc, xag, xan, xex, xen, xfl, xac, xst, xsp, xmd, xrt, xcu, xtk, xtv, xaf, r', xsc, xho, xvk, xvf, xvs, xcv, xco, xff, xfp, xfe, xfb, xop))
    (h0 : ∀ r', (∀ k, ¬ gr_X (tk_K xtk n) xtv (sk_f (tk_K xtk n) n) k true 0) → post 0 (xdl, nI n, xpp, xvc, xcc, xfc, xoc, xag, xan, xex, xen, xfl, xac, xst, xsp, xmd, xrt, xcu, xtk, xtv, xaf, r', xsc, xho, xvk, xvf, xvs, xcv, xco, xff, xfp, xfe, xfb, xop)) :
    ∀ d m (r' : Nat → Int32) (par : Nat → Nat), m + d = n → rw_W (tk_K xtk n) xtv (sk_f (tk_K xtk n) n) n m (xr_c n r') par → wX_grammarFits_54 post (d + 1) (nI m) xdl (nI n) xpp xvc xcc xfc xoc xag xan xex xen xfl xac xst xsp xmd xrt xcu xtk xtv xaf r' xsc xho xvk xvf xvs xcv xco xff xfp xfe xfb xop := by
  have H1 := H.1
  have hB : ∀ i, i < n → tk_K xtk n i ≠ 2 → dp_I (tk_K xtk n) i (sk_f (tk_K xtk n) n i) := fun i hi hk => (A i hi hk).1
  have hn0 : ∀ i, n ≤ i → tk_K xtk n i = 0 := fun i => tk_0
  intro d
  induction d with
  | zero =>
    intro m r' par e W
    have em : m = n := by omega
    subst em
    exact pk_le m m (fun _ => h1 r' par W) (fun z => by omega)
  | succ d ih =>
    intro m r' par e W
    have hm : m < n := by omega
    have hc : (nI m).toNatClampNeg = m := nI_clamp (by omega)
    have inn : ∀ q c, gr_Ch (tk_K xtk n) (sk_f (tk_K xtk n) n) q c → q < n → tk_K xtk n q = 1 → gr_SH (tk_K xtk n) xtv (sk_f (tk_K xtk n) n) q → c < n := fun q c hq hqn hk hS => by
      have g := gr_in (hB q hqn (by omega)) hS hq
      have g2 := g.2.1.1
      have := dp_le hn0 (hB q hqn (by omega)) hqn
      omega
    refine pk_le n m (fun z => by omega) (fun _ => ⟨tk_in H hm, ?_⟩)
    rw [hc]
    by_cases r2 : r' m = 2
    · have r2' : xr_c n r' m = 2 := (xr_in hm).trans r2
      refine br_t r2 (xf_datum (xro := r') (xtn := nI n) H A hm (fun k => ?_) (fun r3 c k1 lc e1 e4 => ?_) (fun w => ?_))
      · exact br_f (by decide) (nm_r (nI_1 m) (ih (m + 1) r' par (by omega) (rw_datom W r2' k)))
      · have ex : ∃ par', rw_W (tk_K xtk n) xtv (sk_f (tk_K xtk n) n) n (m + 1) (xr_c n r3) par' := by
          refine rw_dform hB hm W r2' k1 lc (fun c hc => ?_) (fun c hc => ?_)
          · have g := ls_Min (hB m hm (by omega)) k1 (dp_L_r _) (dp_I_1 (hB m hm (by omega)) k1) hc.2
            have g2 := g.2.1.1
            have := dp_le hn0 (hB m hm (by omega)) hm
            exact (xr_in (by omega)).trans (e1 c hc)
          · unfold xr_c
            rw [e4 c hc]
        obtain ⟨par', W'⟩ := ex
        exact br_f (by decide) (nm_r (nI_1 m) (ih (m + 1) r3 par' (by omega) W'))
      · exact br_t rfl (h0 r' (rw_no W hm (Or.inr ⟨r2', w⟩)))
    · refine br_f r2 ⟨tk_in H hm, ?_⟩
      by_cases r1 : r' m = 1
      · have r1' : xr_c n r' m = 1 := (xr_in hm).trans r1
        have r2' : xr_c n r' m ≠ 2 := by rw [r1']; decide
        refine br_t r1 ⟨tk_in H hm, ?_⟩
        have hb := tk_b H hm 1 (A := wpX_formFits (fun r_50 u => match u with | (xdl, xtn, xpp, xvc, xcc, xfc, xoc, xag, xan, xex, xen, xfl, xac, xst, xsp, xmd, xrt, xcu, xtk, xtv, xaf, xro, xsc, xho, xvk, xvf, xvs, xcv, xco, xff, xfp, xfe, xfb, xop) => (wX_grammarFits_116 post (wX_grammarFits_54 post (d + 1)) (nI m) r_50 xdl xtn xpp xvc xcc xfc xoc xag xan xex xen xfl xac xst xsp xmd xrt xcu xtk xtv xaf xro xsc xho xvk xvf xvs xcv xco xff xfp xfe xfb xop)) (xdl, nI n, xpp, xvc, xcc, xfc, xoc, xag, xan, xex, xen, xfl, xac, xst, xsp, xmd, xrt, xcu, xtk, xtv, xaf, r', xsc, xho, xvk, xvf, xvs, xcv, xco, xff, xfp, xfe, xfb, xop) (nI m)) (B := wpX_atomFits (fun r_15 => (wX_grammarFits_116 post (wX_grammarFits_54 post (d + 1)) (nI m) r_15 xdl (nI n) xpp xvc xcc xfc xoc xag xan xex xen xfl xac xst xsp xmd xrt xcu xtk xtv xaf r' xsc xho xvk xvf xvs xcv xco xff xfp xfe xfb xop)) (xdl, nI n, xpp, xvc, xcc, xfc, xoc, xag, xan, xex, xen, xfl, xac, xst, xsp, xmd, xrt, xcu, xtk, xtv, xaf, r', xsc, xho, xvk, xvf, xvs, xcv, xco, xff, xfp, xfe, xfb, xop) (nI m)) (fun k1 => ?_) (fun k1 => ?_)
        · rw [hc] at hb; exact hb
        · refine xf_form (xro := r') (xtn := nI n) H A hm k1 (fun q q1 q2 => ?_) (fun r3 hS e1 e2 e3 e4 => ?_) (fun r3 w => ?_)
          · have := W.1 m (Nat.le_refl _) hm (by rw [r1']; decide) q q1 q2
            have l := dp_le hn0 (hB m hm (by omega)) hm
            rw [xr_in (by omega)] at this
            exact this
          · have ex : ∃ par', rw_W (tk_K xtk n) xtv (sk_f (tk_K xtk n) n) n (m + 1) (xr_c n r3) par' := by
              refine rw_form hB hm W r1' k1 hS (fun c hc => ?_) (fun c hc => ?_) (fun c hc => ?_) (fun c hc => ?_)
              · exact (xr_in (inn m c (Or.inl hc) hm k1 hS)).trans (e1 c hc)
              · exact (xr_in (inn m c (Or.inr (Or.inl hc)) hm k1 hS)).trans (e2 c hc)
              · exact (xr_in (inn m c (Or.inr (Or.inr hc)) hm k1 hS)).trans (e3 c hc)
              · unfold xr_c
                rw [e4 c hc]
            obtain ⟨par', W'⟩ := ex
            exact br_f (by decide) (nm_r (nI_1 m) (ih (m + 1) r3 par' (by omega) W'))
          · exact br_t rfl (h0 r3 (rw_no W hm (Or.inl ⟨r1', w⟩)))
        · have atom : (tk_K xtk n m = 3 ∨ tk_K xtk n m = 4 ∨ tk_K xtk n m = 5) → wX_grammarFits_116 post (wX_grammarFits_54 post (d + 1)) (nI m) 1 xdl (nI n) xpp xvc xcc xfc xoc xag xan xex xen xfl xac xst xsp xmd xrt xcu xtk xtv xaf r' xsc xho xvk xvf xvs xcv xco xff xfp xfe xfb xop := fun k => br_f (by decide) (nm_r (nI_1 m) (ih (m + 1) r' par (by omega) (rw_atom W r1' k)))
          refine ⟨tk_in H hm, tk_b H hm 3 (fun k3 => atom (by omega)) (fun k3 => ⟨tk_in H hm, tk_b H hm 5 (fun k5 => atom (by omega)) (fun k5 => ⟨tk_in H hm, tk_b H hm 4 (fun k4 => atom (by omega)) (fun k4 => br_t rfl (h0 r' (rw_no W hm (Or.inl ⟨r1', fun w => ?_⟩))))⟩)⟩)⟩
          rcases w with w | w | w | w
          · exact k3 w
          · exact k4 w
          · exact k5 w
          · exact k1 w.1
      · exact br_f r1 (br_f (by decide) (nm_r (nI_1 m) (ih (m + 1) r' par (by omega) (rw_skip W (fun z => r1 ((xr_in hm).symm.trans z)) (fun z => r2 ((xr_in hm).symm.trans z))))))
theorem xw_init (H : tk_ok xtk n) (h0n : 0 < n) {post : Int32 → SX → Prop} (h : ∀ r', (∀ c, c < n → r' c = 0) → ∃ f, wX_grammarFits_54 post f 0 xdl (nI n) xpp xvc xcc xfc xoc xag xan xex xen xfl xac xst xsp xmd xrt xcu xtk xtv xaf (upd r' 0 1) xsc xho xvk xvf xvs xcv xco xff xfp xfe xfb xop) :
    ∀ d m (r' : Nat → Int32), m + d = n → (∀ c, c < m → r' c = 0) → wX_grammarFits_24 post xdl (nI n) xpp xvc xcc xfc xoc xag xan xex xen xfl xac xst xsp xmd xrt xcu (d + 1) (nI m) xtk xtv xaf r' xsc xho xvk xvf xvs xcv xco xff xfp xfe xfb xop := by
  have H1 := H.1
  intro d
  induction d with
  | zero =>
    intro m r' e hr
    have em : m = n := by omega
    subst em
    exact pk_le m m (fun _ => nm_e (h r' hr)) (fun z => by omega)
  | succ d ih =>
    intro m r' e hr
    have hm : m < n := by omega
    have hc : (nI m).toNatClampNeg = m := nI_clamp (by omega)
    refine pk_le n m (fun z => by omega) (fun _ => ⟨tk_in H hm, fun r1 e1 => nm_r (nI_1 m) (ih (m + 1) r1 (by omega) (fun c hc' => ?_))⟩)
    rw [e1, hc]
    by_cases z : c = m
    · rw [z]; exact pk_us
    · rw [pk_un z]; exact hr c (by omega)
theorem xw_gram (H : tk_ok xtk n) (A : xb_A (tk_K xtk n) n xaf) (hK0 : 0 < n → tk_K xtk n 0 ≠ 2) {post : Int32 → SX → Prop}
    (h1 : ∀ r' par, 0 < n → dp_I (tk_K xtk n) 0 n → rw_W (tk_K xtk n) xtv (sk_f (tk_K xtk n) n) n n (xr_c n r') par → post 1 (xdl, nI n, xpp, xvc, xcc, xfc, xoc, xag, xan, xex, xen, xfl, xac, xst, xsp, xmd, xrt, xcu, xtk, xtv, xaf, r', xsc, xho, xvk, xvf, xvs, xcv, xco, xff, xfp, xfe, xfb, xop))
    (h0 : ∀ r', (∀ k, ¬ (0 < n ∧ sk_f (tk_K xtk n) n 0 = n ∧ gr_X (tk_K xtk n) xtv (sk_f (tk_K xtk n) n) k true 0)) → post 0 (xdl, nI n, xpp, xvc, xcc, xfc, xoc, xag, xan, xex, xen, xfl, xac, xst, xsp, xmd, xrt, xcu, xtk, xtv, xaf, r', xsc, xho, xvk, xvf, xvs, xcv, xco, xff, xfp, xfe, xfb, xop)) : wpX_grammarFits post (xdl, nI n, xpp, xvc, xcc, xfc, xoc, xag, xan, xex, xen, xfl, xac, xst, xsp, xmd, xrt, xcu, xtk, xtv, xaf, xro, xsc, xho, xvk, xvf, xvs, xcv, xco, xff, xfp, xfe, xfb, xop) := by
  have H1 := H.1
  refine pk_eq n 0 (fun z => h0 xro (fun k w => by omega)) (fun z => ?_)
  have n0 : 0 < n := by omega
  have A0 := A 0 n0 (hK0 n0)
  have l0 := dp_le (K := (tk_K xtk n)) (n := n) (fun i => tk_0) A0.1 n0
  refine pk_eq (sk_f (tk_K xtk n) n 0) n (fun e => ?_) (fun e => h0 xro (fun k w => e w.2.1)) A0.2
  have I0 : dp_I (tk_K xtk n) 0 n := by have := A0.1; rw [e] at this; exact this
  refine ⟨n + 1, xw_init H n0 (fun r' hr => ⟨n + 1, ?_⟩) n 0 xro (by omega) (fun c hc => by omega)⟩
  refine xw_loop H A (fun r2 par W => h1 r2 par n0 I0 W) (fun r2 w => h0 r2 (fun k z => w k z.2.2)) n 0 (upd r' 0 1) (fun _ => 0) (by omega) ?_
  have r0 : ∀ c, c ≠ 0 → xr_c n (upd r' 0 1) c = 0 := fun c hc => by
    rcases Nat.lt_or_ge c n with y | y
    · rw [xr_in y, pk_un hc]; exact hr c y
    · exact xr_out y
  refine ⟨fun i _ hi hri m m1 m2 => r0 m (by omega), fun i hi => by omega, fun i hi => by omega, fun c hc hrc => ?_, (xr_in n0).trans pk_us⟩
  by_cases y : c = 0
  · exact Or.inl y
  · exact absurd (r0 c y) hrc
end
