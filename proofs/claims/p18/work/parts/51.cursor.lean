/-! the questions about the result: equal answers where the pictures are the same -/
section
variable {dl : Int32} {tk tv : Nat → Int32} {n : Nat} {r : Int32} {se : Nat} {md : Int32} {VP : Nat → Prop} {pvk pvf pvs : Nat → Int32} {wr wc : Int32}
def cu_W (VP : Nat → Prop) (w : Int32) : Prop := w = -1 ∨ ∃ a, w = nI a ∧ VP a
/-- what kind() answers -/
def cu_k (pvk : Nat → Int32) (w : Int32) : Int32 := if w = -1 then 0 else pvk w.toNatClampNeg
theorem cu_kind (G : fq_G (tk_K tk n) (sk_f (tk_K tk n) n) n VP pvk pvf pvs) (hw : cu_W VP wc) {u : SX} (hu : fq_S dl tk tv n r se md VP pvk pvf pvs wr wc u) {post : Int32 → Prop} (hp : post (cu_k pvk wc)) : wpX_kind post u := by
  obtain ⟨xvc, xcc, xfc, xoc, xag, xan, xex, xen, xfl, xac, xaf, xro, xsc, xho, xvk, xvf, xvs, xcv, xco, xff, xfp, xfe, xfb, xop, rfl, C, A⟩ := hu
  rcases hw with e | ⟨a, e, v⟩
  · subst e; exact br_t rfl hp
  · have h5 := (G a v).1
    have ne := ni_nm1 (a := a) (by omega)
    subst e
    unfold cu_k at hp
    rw [if_neg ne, nI_clamp (by omega), ← (A a v).1] at hp
    refine br_f ne ⟨vp_in_nI h5 (by omega), ?_⟩
    rw [nI_clamp (by omega)]; exact hp
/-- a cursor whose kind is not 0 stands on a value -/
theorem cu_a (hw : cu_W VP wc) {k : Int32} (hk : cu_k pvk wc = k) (h0 : ¬ k = 0) : ∃ a, wc = nI a ∧ VP a ∧ (a < 2 ^ 31 → pvk a = k) := by
  rcases hw with e | ⟨a, e, v⟩
  · rw [e] at hk
    exact absurd hk.symm h0
  · refine ⟨a, e, v, fun h => ?_⟩
    rw [e] at hk
    unfold cu_k at hk
    rw [if_neg (ni_nm1 h), nI_clamp h] at hk
    exact hk
theorem cu_Q1 (G : fq_G (tk_K tk n) (sk_f (tk_K tk n) n) n VP pvk pvf pvs) (hw : cu_W VP wc) : ∃ v : Int32, ∀ (u : SX) (post : Int32 → Prop), fq_S dl tk tv n r se md VP pvk pvf pvs wr wc u → post v → wpX_intValue post u := by
  by_cases k1 : cu_k pvk wc = 1
  · obtain ⟨a, e, v, ka⟩ := cu_a hw k1 (by decide)
    have h5 := (G a v).1
    refine ⟨pvf a, fun u post hu hp => ?_⟩
    have hu' := hu
    obtain ⟨xvc, xcc, xfc, xoc, xag, xan, xex, xen, xfl, xac, xaf, xro, xsc, xho, xvk, xvf, xvs, xcv, xco, xff, xfp, xfe, xfb, xop, rfl, C, A⟩ := hu
    unfold wpX_intValue
    dsimp only
    refine cu_kind G hw hu' ?_
    refine br_t k1 ?_
    rw [e]
    refine ⟨vp_in_nI h5 (by omega), ?_⟩
    rw [nI_clamp (by omega), (A a v).2.1 (by rw [ka (by omega)]; decide)]
    exact hp
  · refine ⟨0, fun u post hu hp => ?_⟩
    have hu' := hu
    obtain ⟨xvc, xcc, xfc, xoc, xag, xan, xex, xen, xfl, xac, xaf, xro, xsc, xho, xvk, xvf, xvs, xcv, xco, xff, xfp, xfe, xfb, xop, rfl, C, A⟩ := hu
    unfold wpX_intValue
    dsimp only
    refine cu_kind G hw hu' ?_
    exact br_f k1 hp
theorem cu_Q3 (G : fq_G (tk_K tk n) (sk_f (tk_K tk n) n) n VP pvk pvf pvs) (hw : cu_W VP wc) : ∃ v : Int32, ∀ (u : SX) (post : Int32 → Prop), fq_S dl tk tv n r se md VP pvk pvf pvs wr wc u → post v → wpX_closureSource post u := by
  by_cases k1 : cu_k pvk wc = 4
  · obtain ⟨a, e, v, ka⟩ := cu_a hw k1 (by decide)
    have h5 := (G a v).1
    refine ⟨pvf a, fun u post hu hp => ?_⟩
    have hu' := hu
    obtain ⟨xvc, xcc, xfc, xoc, xag, xan, xex, xen, xfl, xac, xaf, xro, xsc, xho, xvk, xvf, xvs, xcv, xco, xff, xfp, xfe, xfb, xop, rfl, C, A⟩ := hu
    unfold wpX_closureSource
    dsimp only
    refine cu_kind G hw hu' ?_
    refine br_t k1 ?_
    rw [e]
    refine ⟨vp_in_nI h5 (by omega), ?_⟩
    rw [nI_clamp (by omega), (A a v).2.1 (by rw [ka (by omega)]; decide)]
    exact hp
  · refine ⟨-1, fun u post hu hp => ?_⟩
    have hu' := hu
    obtain ⟨xvc, xcc, xfc, xoc, xag, xan, xex, xen, xfl, xac, xaf, xro, xsc, xho, xvk, xvf, xvs, xcv, xco, xff, xfp, xfe, xfb, xop, rfl, C, A⟩ := hu
    unfold wpX_closureSource
    dsimp only
    refine cu_kind G hw hu' ?_
    exact br_f k1 hp
theorem cu_Q2 (H : tk_ok tk n) (G : fq_G (tk_K tk n) (sk_f (tk_K tk n) n) n VP pvk pvf pvs) (hw : cu_W VP wc) : ∃ v : Int32, ∀ (u : SX) (post : Int32 → Prop), fq_S dl tk tv n r se md VP pvk pvf pvs wr wc u → post v → wpX_closureArity post u := by
  by_cases k1 : cu_k pvk wc = 4
  · obtain ⟨a, e, v, ka⟩ := cu_a hw k1 (by decide)
    obtain ⟨h5, hV⟩ := G a v
    have ka := ka (by omega)
    have pr : ∃ q c, q + 3 < n ∧ pvf a = nI q ∧ ls_C (tk_K tk n) (sk_f (tk_K tk n) n) (q + 3) c ∧ c ≤ 4 := by
      rcases hV with w | w | w | w
      · rw [ka] at w; exact absurd w (by decide)
      · rw [ka] at w; exact absurd w (by decide)
      · rw [ka] at w; exact absurd w.1 (by decide)
      · exact w.2
    obtain ⟨q, c, q1, q2, q3, q4⟩ := pr
    refine ⟨nI c, fun u post hu hp => ?_⟩
    have hu' := hu
    obtain ⟨xvc, xcc, xfc, xoc, xag, xan, xex, xen, xfl, xac, xaf, xro, xsc, xho, xvk, xvf, xvs, xcv, xco, xff, xfp, xfe, xfb, xop, rfl, C, A⟩ := hu
    obtain ⟨par, n0, I0, Af, _⟩ := C
    unfold wpX_closureArity
    dsimp only
    refine cu_kind G hw hu' ?_
    refine br_t k1 ?_
    rw [e]
    refine ⟨vp_in_nI h5 (by omega), ?_⟩
    rw [nI_clamp (by omega), (A a v).2.1 (by rw [ka]; decide), q2]
    unfold wpX_arity
    dsimp only
    rw [ni_2]
    exact xi_items (i := q + 2) H Af q3 hp
  · refine ⟨-1, fun u post hu hp => ?_⟩
    have hu' := hu
    obtain ⟨xvc, xcc, xfc, xoc, xag, xan, xex, xen, xfl, xac, xaf, xro, xsc, xho, xvk, xvf, xvs, xcv, xco, xff, xfp, xfe, xfb, xop, rfl, C, A⟩ := hu
    unfold wpX_closureArity
    dsimp only
    refine cu_kind G hw hu' ?_
    exact br_f k1 hp
theorem cu_Q4 (hw : cu_W VP wr) (hc : cu_W VP wc) : ∃ (v wc' : Int32), cu_W VP wc' ∧ ∀ (u : SX) (post : Int32 → SX → Prop), fq_S dl tk tv n r se md VP pvk pvf pvs wr wc u → (∀ u', fq_S dl tk tv n r se md VP pvk pvf pvs wr wc' u' → post v u') → wpX_goRoot post u := by
  by_cases e : wr = -1
  · refine ⟨0, wc, hc, fun u post hu hp => ?_⟩
    have hp := hp u hu
    obtain ⟨xvc, xcc, xfc, xoc, xag, xan, xex, xen, xfl, xac, xaf, xro, xsc, xho, xvk, xvf, xvs, xcv, xco, xff, xfp, xfe, xfb, xop, rfl, C, A⟩ := hu
    exact br_t e hp
  · refine ⟨1, wr, hw, fun u post hu hp => ?_⟩
    obtain ⟨xvc, xcc, xfc, xoc, xag, xan, xex, xen, xfl, xac, xaf, xro, xsc, xho, xvk, xvf, xvs, xcv, xco, xff, xfp, xfe, xfb, xop, rfl, C, A⟩ := hu
    exact br_f e (hp _ ⟨_, _, _, _, _, _, _, _, _, _,  _, _, _, _, _, _, _, _, _, _, _, _, _, _,  rfl, C, A⟩)
theorem cu_Q5 (G : fq_G (tk_K tk n) (sk_f (tk_K tk n) n) n VP pvk pvf pvs) (hc : cu_W VP wc) : ∃ (v wc' : Int32), cu_W VP wc' ∧ ∀ (u : SX) (post : Int32 → SX → Prop), fq_S dl tk tv n r se md VP pvk pvf pvs wr wc u → (∀ u', fq_S dl tk tv n r se md VP pvk pvf pvs wr wc' u' → post v u') → wpX_goCar post u := by
  by_cases k1 : cu_k pvk wc = 3
  · obtain ⟨a, e, v, ka⟩ := cu_a hc k1 (by decide)
    obtain ⟨h5, hV⟩ := G a v
    have ka := ka (by omega)
    have pr : ∃ a1 b1, pvf a = nI a1 ∧ pvs a = nI b1 ∧ VP a1 ∧ VP b1 := by
      rcases hV with w | w | w | w
      · rw [ka] at w; exact absurd w (by decide)
      · rw [ka] at w; exact absurd w (by decide)
      · exact w.2
      · rw [ka] at w; exact absurd w.1 (by decide)
    obtain ⟨a1, b1, q1, q2, q3, q4⟩ := pr
    refine ⟨1, nI a1, Or.inr ⟨a1, rfl, q3⟩, fun u post hu hp => ?_⟩
    have hu' := hu
    obtain ⟨xvc, xcc, xfc, xoc, xag, xan, xex, xen, xfl, xac, xaf, xro, xsc, xho, xvk, xvf, xvs, xcv, xco, xff, xfp, xfe, xfb, xop, rfl, C, A⟩ := hu
    unfold wpX_goCar
    dsimp only
    refine cu_kind G hc hu' ?_
    refine br_t k1 ?_
    rw [e]
    refine ⟨vp_in_nI h5 (by omega), nm_r (show xvf (nI a).toNatClampNeg = nI a1 from by rw [nI_clamp (by omega), (A a v).2.1 (by rw [ka]; decide), q1]) (hp _ ⟨_, _, _, _, _, _, _, _, _, _,  _, _, _, _, _, _, _, _, _, _, _, _, _, _,  rfl, C, A⟩)⟩
  · refine ⟨0, wc, hc, fun u post hu hp => ?_⟩
    have hu' := hu
    have hp := hp u hu
    obtain ⟨xvc, xcc, xfc, xoc, xag, xan, xex, xen, xfl, xac, xaf, xro, xsc, xho, xvk, xvf, xvs, xcv, xco, xff, xfp, xfe, xfb, xop, rfl, C, A⟩ := hu
    unfold wpX_goCar
    dsimp only
    refine cu_kind G hc hu' ?_
    exact br_f k1 hp
theorem cu_Q6 (G : fq_G (tk_K tk n) (sk_f (tk_K tk n) n) n VP pvk pvf pvs) (hc : cu_W VP wc) : ∃ (v wc' : Int32), cu_W VP wc' ∧ ∀ (u : SX) (post : Int32 → SX → Prop), fq_S dl tk tv n r se md VP pvk pvf pvs wr wc u → (∀ u', fq_S dl tk tv n r se md VP pvk pvf pvs wr wc' u' → post v u') → wpX_goCdr post u := by
  by_cases k1 : cu_k pvk wc = 3
  · obtain ⟨a, e, v, ka⟩ := cu_a hc k1 (by decide)
    obtain ⟨h5, hV⟩ := G a v
    have ka := ka (by omega)
    have pr : ∃ a1 b1, pvf a = nI a1 ∧ pvs a = nI b1 ∧ VP a1 ∧ VP b1 := by
      rcases hV with w | w | w | w
      · rw [ka] at w; exact absurd w (by decide)
      · rw [ka] at w; exact absurd w (by decide)
      · exact w.2
      · rw [ka] at w; exact absurd w.1 (by decide)
    obtain ⟨a1, b1, q1, q2, q3, q4⟩ := pr
    refine ⟨1, nI b1, Or.inr ⟨b1, rfl, q4⟩, fun u post hu hp => ?_⟩
    have hu' := hu
    obtain ⟨xvc, xcc, xfc, xoc, xag, xan, xex, xen, xfl, xac, xaf, xro, xsc, xho, xvk, xvf, xvs, xcv, xco, xff, xfp, xfe, xfb, xop, rfl, C, A⟩ := hu
    unfold wpX_goCdr
    dsimp only
    refine cu_kind G hc hu' ?_
    refine br_t k1 ?_
    rw [e]
    refine ⟨vp_in_nI h5 (by omega), nm_r (show xvs (nI a).toNatClampNeg = nI b1 from by rw [nI_clamp (by omega), (A a v).2.2 (Or.inl ka), q2]) (hp _ ⟨_, _, _, _, _, _, _, _, _, _,  _, _, _, _, _, _, _, _, _, _, _, _, _, _,  rfl, C, A⟩)⟩
  · refine ⟨0, wc, hc, fun u post hu hp => ?_⟩
    have hu' := hu
    have hp := hp u hu
    obtain ⟨xvc, xcc, xfc, xoc, xag, xan, xex, xen, xfl, xac, xaf, xro, xsc, xho, xvk, xvf, xvs, xcv, xco, xff, xfp, xfe, xfb, xop, rfl, C, A⟩ := hu
    unfold wpX_goCdr
    dsimp only
    refine cu_kind G hc hu' ?_
    exact br_f k1 hp
end
