/-! one theorem for all objects and all fuels: the picture decides -/
def sx_st (u : SX) : Int32 := match u with | (xdl, xtn, xpp, xvc, xcc, xfc, xoc, xag, xan, xex, xen, xfl, xac, xst, xsp, xmd, xrt, xcu, xtk, xtv, xaf, xro, xsc, xho, xvk, xvf, xvs, xcv, xco, xff, xfp, xfe, xfb, xop) => xst
def sx_sp (u : SX) : Int32 := match u with | (xdl, xtn, xpp, xvc, xcc, xfc, xoc, xag, xan, xex, xen, xfl, xac, xst, xsp, xmd, xrt, xcu, xtk, xtv, xaf, xro, xsc, xho, xvk, xvf, xvs, xcv, xco, xff, xfp, xfe, xfb, xop) => xsp
def sx_ag (u : SX) : Int32 := match u with | (xdl, xtn, xpp, xvc, xcc, xfc, xoc, xag, xan, xex, xen, xfl, xac, xst, xsp, xmd, xrt, xcu, xtk, xtv, xaf, xro, xsc, xho, xvk, xvf, xvs, xcv, xco, xff, xfp, xfe, xfb, xop) => xag
/-- an object that holds this program, compiled -/
def dq_OK (dl : Int32) (tk tv : Nat → Int32) (n : Nat) (u : SX) : Prop := ∃ (xvc xcc xfc xoc xag xan xex xen xfl xac xst xsp xmd xrt xcu : Int32) (xaf xro xsc xho xvk xvf xvs xcv xco xff xfp xfe xfb xop : Nat → Int32), u = (dl, nI n, 1, xvc, xcc, xfc, xoc, xag, xan, xex, xen, xfl, xac, xst, xsp, xmd, xrt, xcu, tk, tv, xaf, xro, xsc, xho, xvk, xvf, xvs, xcv, xco, xff, xfp, xfe, xfb, xop) ∧ cp_P tk tv n xaf xro xsc xho xvk xvf xvs
/-- the object's value agrees with the picture's -/
def ag_V (pvk pvf pvs xvk xvf xvs : Nat → Int32) (i : Nat) : Prop := xvk i = pvk i ∧ (pvk i ≠ 2 → xvf i = pvf i) ∧ (pvk i = 3 ∨ pvk i = 4 → xvs i = pvs i)
/-- after a run: status, steps, depth, root and cursor, and the values that can be seen -/
def fq_S (dl : Int32) (tk tv : Nat → Int32) (n : Nat) (r : Int32) (se : Nat) (md : Int32) (VP : Nat → Prop) (pvk pvf pvs : Nat → Int32) (wr wc : Int32) (u : SX) : Prop :=
  ∃ (xvc xcc xfc xoc xag xan xex xen xfl xac : Int32) (xaf xro xsc xho xvk xvf xvs xcv xco xff xfp xfe xfb xop : Nat → Int32), u = (dl, nI n, 1, xvc, xcc, xfc, xoc, xag, xan, xex, xen, xfl, xac, r, nI se, md, wr, wc, tk, tv, xaf, xro, xsc, xho, xvk, xvf, xvs, xcv, xco, xff, xfp, xfe, xfb, xop) ∧ cp_P tk tv n xaf xro xsc xho xvk xvf xvs ∧ ∀ i, VP i → ag_V pvk pvf pvs xvk xvf xvs i
/-- a closed set of values -/
def fq_G (K a : Nat → Nat) (n : Nat) (VP : Nat → Prop) (vk vf vs : Nat → Int32) : Prop :=
  ∀ i, VP i → i < 528 ∧ (vk i = 1 ∨ vk i = 2 ∨ (vk i = 3 ∧ ∃ a b, vf i = nI a ∧ vs i = nI b ∧ VP a ∧ VP b) ∨ (vk i = 4 ∧ ∃ q c, q + 3 < n ∧ vf i = nI q ∧ ls_C K a (q + 3) c ∧ c ≤ 4))
def sp_T (dl : Int32) (tk tv : Nat → Int32) (n t s : Nat) (P : Nat → SX → Prop) : Prop :=
  ∃ (se : Nat) (r md w : Int32) (VP : Nat → Prop) (vk vf vs : Nat → Int32), s ≤ se ∧ 1 ≤ se ∧ r ≠ 4 ∧ fq_G (tk_K tk n) (sk_f (tk_K tk n) n) n VP vk vf vs ∧ (w = -1 ∨ ∃ a, w = nI a ∧ VP a) ∧
    ∀ (F : Nat) (u : SX) (post : Int32 → SX → Prop) (fx : Nat), s ≤ F → F ≤ 400 → P F u → t + fx = 1000 →
      (F < se → (∀ u', dq_OK dl tk tv n u' → sx_sp u' = nI F → post 4 u') → rx_L post fx (nI t) u) ∧
      (se ≤ F → (∀ u', fq_S dl tk tv n r se md VP vk vf vs w w u' → post r u') → rx_L post fx (nI t) u)
section
variable {xdl xtn xpp xvc xcc xfc xoc xag xan xex xen xfl xac xst xsp xmd xrt xcu : Int32} {xtk xtv xaf xro xsc xho xvk xvf xvs xcv xco xff xfp xfe xfb xop : Nat → Int32} {t : Nat}
theorem sp_xend {post : Int32 → SX → Prop} {f : Nat} {r : Int32} {u : SX} (ht : t < 1600) (hr : ¬ r = -1) (hu : sx_st u = r) (h : post r u) : rx_L post (f + 1) (nI t) u := by
  obtain ⟨xdl, xtn, xpp, xvc, xcc, xfc, xoc, xag, xan, xex, xen, xfl, xac, xst, xsp, xmd, xrt, xcu, xtk, xtv, xaf, xro, xsc, xho, xvk, xvf, xvs, xcv, xco, xff, xfp, xfe, xfb, xop⟩ := u
  have e : xst = r := hu
  subst e
  exact xr_end ht hr h
theorem sp_xE {post : Int32 → SX → Prop} {f : Nat} {u : SX} (ht : t < 1600) (h1 : sx_ag u = 0) (h2 : sx_st u = -1) (h : ∀ Q : SX → Prop, (∀ u', rx_L post f (nI (t + 1)) u' → Q u') → wpX_startExpr Q u) : rx_L post (f + 1) (nI t) u := by
  obtain ⟨xdl, xtn, xpp, xvc, xcc, xfc, xoc, xag, xan, xex, xen, xfl, xac, xst, xsp, xmd, xrt, xcu, xtk, xtv, xaf, xro, xsc, xho, xvk, xvf, xvs, xcv, xco, xff, xfp, xfe, xfb, xop⟩ := u
  have e1 : xag = 0 := h1
  have e2 : xst = -1 := h2
  subst e1 e2
  exact xr_E ht h
theorem sp_xR {post : Int32 → SX → Prop} {f : Nat} {u : SX} (ht : t < 1600) (h1 : sx_ag u = 1) (h2 : sx_st u = -1) (h : ∀ Q : SX → Prop, (∀ u', rx_L post f (nI (t + 1)) u' → Q u') → wpX_handOverAnswer Q u) : rx_L post (f + 1) (nI t) u := by
  obtain ⟨xdl, xtn, xpp, xvc, xcc, xfc, xoc, xag, xan, xex, xen, xfl, xac, xst, xsp, xmd, xrt, xcu, xtk, xtv, xaf, xro, xsc, xho, xvk, xvf, xvs, xcv, xco, xff, xfp, xfe, xfb, xop⟩ := u
  have e1 : xag = 1 := h1
  have e2 : xst = -1 := h2
  subst e1 e2
  exact xr_R ht h
end
section
variable {dl : Int32} {tk tv : Nat → Int32} {n t s : Nat} {P P1 : Nat → SX → Prop}
theorem fq_st {r md wr wc : Int32} {se : Nat} {VP : Nat → Prop} {pvk pvf pvs : Nat → Int32} {u : SX} (h : fq_S dl tk tv n r se md VP pvk pvf pvs wr wc u) : sx_st u = r := by
  obtain ⟨xvc, xcc, xfc, xoc, xag, xan, xex, xen, xfl, xac, xaf, xro, xsc, xho, xvk, xvf, xvs, xcv, xco, xff, xfp, xfe, xfb, xop, e, _⟩ := h
  rw [e]; rfl
/-- a turn that evaluates -/
theorem sp_Es (ht : t < 990) (hP : ∀ F u, P F u → sx_ag u = 0 ∧ sx_st u = -1) (out : ∀ u Q, P s u → (∀ u', dq_OK dl tk tv n u' → sx_st u' = 4 → sx_sp u' = nI s → Q u') → wpX_startExpr Q u)
    (step : ∀ F u Q, s < F → F ≤ 400 → P F u → (∀ u1, P1 F u1 → Q u1) → wpX_startExpr Q u) (N : sp_T dl tk tv n (t + 1) (s + 1) P1) : sp_T dl tk tv n t s P := by
  obtain ⟨se, r, md, w, VP, vk, vf, vs, a1, a2, a3, a4, a5, N⟩ := N
  refine ⟨se, r, md, w, VP, vk, vf, vs, by omega, a2, a3, a4, a5, fun F u post fx h1 h2 hu hx => ?_⟩
  obtain ⟨f, rfl⟩ : ∃ f, fx = f + 1 + 1 := ⟨fx - 2, by omega⟩
  obtain ⟨p1, p2⟩ := hP F u hu
  by_cases z : s = F
  · subst z
    exact ⟨fun _ hp => sp_xE (by omega) p1 p2 (fun Q hQ => out u Q hu (fun u' b1 b2 b3 => hQ u' (sp_xend (r := 4) (by omega) (by decide) b2 (hp u' b1 b3)))), fun z => by omega⟩
  · have hs : s < F := by omega
    exact ⟨fun hl hp => sp_xE (by omega) p1 p2 (fun Q hQ => step F u Q hs h2 hu (fun u1 b => hQ u1 ((N F u1 post (f + 1) (by omega) h2 b (by omega)).1 hl hp))), fun hl hp => sp_xE (by omega) p1 p2 (fun Q hQ => step F u Q hs h2 hu (fun u1 b => hQ u1 ((N F u1 post (f + 1) (by omega) h2 b (by omega)).2 hl hp)))⟩
/-- at 400 steps there is no turn left that evaluates -/
theorem sp_E400 (ht : t < 990) (hP : ∀ F u, P F u → sx_ag u = 0 ∧ sx_st u = -1) (out : ∀ u Q, P s u → (∀ u', dq_OK dl tk tv n u' → sx_st u' = 4 → sx_sp u' = nI s → Q u') → wpX_startExpr Q u) (hs : s = 400) : sp_T dl tk tv n t s P := by
  refine ⟨401, 0, 0, -1, fun _ => False, fun _ => 0, fun _ => 0, fun _ => 0, by omega, by omega, by decide, fun i z => False.elim z, Or.inl rfl, fun F u post fx h1 h2 hu hx => ?_⟩
  obtain ⟨f, rfl⟩ : ∃ f, fx = f + 1 + 1 := ⟨fx - 2, by omega⟩
  obtain ⟨p1, p2⟩ := hP F u hu
  have z : s = F := by omega
  subst z
  exact ⟨fun _ hp => sp_xE (by omega) p1 p2 (fun Q hQ => out u Q hu (fun u' b1 b2 b3 => hQ u' (sp_xend (r := 4) (by omega) (by decide) b2 (hp u' b1 b3)))), fun z => by omega⟩
/-- a turn that answers -/
theorem sp_Rs (ht : t < 990) (hP : ∀ F u, P F u → sx_ag u = 1 ∧ sx_st u = -1) (step : ∀ F u Q, F ≤ 400 → P F u → (∀ u1, P1 F u1 → Q u1) → wpX_handOverAnswer Q u) (N : sp_T dl tk tv n (t + 1) s P1) : sp_T dl tk tv n t s P := by
  obtain ⟨se, r, md, w, VP, vk, vf, vs, a1, a2, a3, a4, a5, N⟩ := N
  refine ⟨se, r, md, w, VP, vk, vf, vs, a1, a2, a3, a4, a5, fun F u post fx h1 h2 hu hx => ?_⟩
  obtain ⟨f, rfl⟩ : ∃ f, fx = f + 1 := ⟨fx - 1, by omega⟩
  obtain ⟨p1, p2⟩ := hP F u hu
  exact ⟨fun hl hp => sp_xR (by omega) p1 p2 (fun Q hQ => step F u Q h2 hu (fun u1 b => hQ u1 ((N F u1 post f h1 h2 b (by omega)).1 hl hp))), fun hl hp => sp_xR (by omega) p1 p2 (fun Q hQ => step F u Q h2 hu (fun u1 b => hQ u1 ((N F u1 post f h1 h2 b (by omega)).2 hl hp)))⟩
/-- the turn that ends a run -/
theorem sp_Rf {r md w : Int32} {VP : Nat → Prop} {vk vf vs : Nat → Int32} (ht : t < 990) (hs : 1 ≤ s) (hr : r ≠ 4) (hr1 : ¬ r = -1) (G : fq_G (tk_K tk n) (sk_f (tk_K tk n) n) n VP vk vf vs) (hw : w = -1 ∨ ∃ a, w = nI a ∧ VP a)
    (hP : ∀ F u, P F u → sx_ag u = 1 ∧ sx_st u = -1) (fin : ∀ F u Q, F ≤ 400 → P F u → (∀ u', fq_S dl tk tv n r s md VP vk vf vs w w u' → Q u') → wpX_handOverAnswer Q u) : sp_T dl tk tv n t s P := by
  refine ⟨s, r, md, w, VP, vk, vf, vs, Nat.le_refl _, hs, hr, G, hw, fun F u post fx h1 h2 hu hx => ?_⟩
  obtain ⟨f, rfl⟩ : ∃ f, fx = f + 1 + 1 := ⟨fx - 2, by omega⟩
  obtain ⟨p1, p2⟩ := hP F u hu
  exact ⟨fun z => by omega, fun _ hp => sp_xR (by omega) p1 p2 (fun Q hQ => fin F u Q h2 hu (fun u' b => hQ u' (sp_xend (r := r) (by omega) hr1 (fq_st b) (hp u' b))))⟩
end
