/-- the walk of roles at a token: r the roles, par who gave them -/
def rw_W (K : Nat → Nat) (V : Nat → Int32) (a : Nat → Nat) (n at' : Nat) (r : Nat → Int32) (par : Nat → Nat) : Prop :=
  (∀ i, at' ≤ i → i < n → r i ≠ 0 → ∀ m, i < m → m < a i → r m = 0) ∧
  (∀ i, i < at' → r i = 1 → gr_SH K V a i ∧ (∀ c, gr_E K a i c → r c = 1 ∧ par c = i) ∧ (∀ c, gr_D K a i c → r c = 2 ∧ par c = i) ∧ (∀ c, gr_N K a i c → r c = 3 ∧ par c = i)) ∧
  (∀ i, i < at' → r i = 2 → gr_DS K a i ∧ ∀ c, gr_DM K a i c → r c = 2 ∧ par c = i) ∧
  (∀ c, c < n → r c ≠ 0 → c = 0 ∨ (par c < c ∧ par c < at' ∧ c < a (par c) ∧ ((r (par c) = 1 ∧ ((r c = 1 ∧ gr_E K a (par c) c) ∨ (r c = 2 ∧ gr_D K a (par c) c) ∨ (r c = 3 ∧ gr_N K a (par c) c))) ∨ (r (par c) = 2 ∧ r c = 2 ∧ gr_DM K a (par c) c)))) ∧
  r 0 = 1
section
variable {K : Nat → Nat} {V : Nat → Int32} {n : Nat}
theorem rw_gen {at' : Nat} {r r' : Nat → Int32} {par : Nat → Nat} {Ch : Nat → Prop} (hB : ∀ i, i < n → K i ≠ 2 → dp_I K i (sk_f K n i)) (hat : at' < n) (W : rw_W K V (sk_f K n) n at' r par) (h0 : r at' ≠ 0)
    (hin : ∀ c, Ch c → at' < c ∧ dp_I K c (sk_f K n c) ∧ sk_f K n c < sk_f K n at') (hsep : ∀ c c', Ch c → Ch c' → c < c' → sk_f K n c ≤ c') (hr : ∀ c, ¬ Ch c → r' c = r c) :
    (∀ c, c ≤ at' ∨ r c ≠ 0 → ¬ Ch c ∧ r' c = r c) ∧ (∀ i, at' + 1 ≤ i → i < n → r' i ≠ 0 → ∀ m, i < m → m < sk_f K n i → r' m = 0) := by
  have W1 := W.1
  have mono : ∀ c, c ≤ at' ∨ r c ≠ 0 → ¬ Ch c ∧ r' c = r c := by
    intro c hc
    have : ¬ Ch c := by
      intro z
      have i := hin c z
      have i2 := i.2.1.1
      rcases hc with hc | hc
      · omega
      · exact hc (W1 at' (Nat.le_refl _) hat h0 c i.1 (by omega))
    exact ⟨this, hr c this⟩
  refine ⟨mono, ?_⟩
  intro i hi hn hri m hm1 hm2
  by_cases ci : Ch i
  · have ii := hin i ci
    have hm0 : r m = 0 := W1 at' (Nat.le_refl _) hat h0 m (by omega) (by omega)
    have : ¬ Ch m := by
      intro z
      have := hsep i m ci z hm1
      omega
    rw [hr m this]; exact hm0
  · rw [hr i ci] at hri
    have hm0 := W1 i (by omega) hn hri m hm1 hm2
    have : ¬ Ch m := by
      intro z
      have im := hin m z
      have im2 := im.2.1.1
      exact hri (W1 at' (Nat.le_refl _) hat h0 i (by omega) (by omega))
    rw [hr m this]; exact hm0
theorem rw_skip {at' : Nat} {r : Nat → Int32} {par : Nat → Nat} (W : rw_W K V (sk_f K n) n at' r par) (h1 : r at' ≠ 1) (h2 : r at' ≠ 2) : rw_W K V (sk_f K n) n (at' + 1) r par := by
  obtain ⟨W1, W2, W3, W4, W5⟩ := W
  refine ⟨fun i hi => W1 i (by omega), fun i hi hr => ?_, fun i hi hr => ?_, fun c hc hr => ?_, W5⟩
  · by_cases z : i = at'
    · subst z; exact absurd hr h1
    · exact W2 i (by omega) hr
  · by_cases z : i = at'
    · subst z; exact absurd hr h2
    · exact W3 i (by omega) hr
  · rcases W4 c hc hr with z | ⟨z1, z2, z3⟩
    · exact Or.inl z
    · exact Or.inr ⟨z1, by omega, z3⟩
theorem rw_atom {at' : Nat} {r : Nat → Int32} {par : Nat → Nat} (W : rw_W K V (sk_f K n) n at' r par) (h1 : r at' = 1) (hk : K at' = 3 ∨ K at' = 4 ∨ K at' = 5) : rw_W K V (sk_f K n) n (at' + 1) r par := by
  obtain ⟨W1, W2, W3, W4, W5⟩ := W
  refine ⟨fun i hi => W1 i (by omega), fun i hi hr => ?_, fun i hi hr => ?_, fun c hc hr => ?_, W5⟩
  · by_cases z : i = at'
    · subst z
      refine ⟨by unfold gr_SH; omega, fun c hc => ?_, fun c hc => ?_, fun c hc => ?_⟩
      · have := hc.1; omega
      · have := hc.1; omega
      · have := hc.1; omega
    · exact W2 i (by omega) hr
  · by_cases z : i = at'
    · subst z; rw [h1] at hr; exact absurd hr (by decide)
    · exact W3 i (by omega) hr
  · rcases W4 c hc hr with z | ⟨z1, z2, z3⟩
    · exact Or.inl z
    · exact Or.inr ⟨z1, by omega, z3⟩
theorem rw_datom {at' : Nat} {r : Nat → Int32} {par : Nat → Nat} (W : rw_W K V (sk_f K n) n at' r par) (h1 : r at' = 2) (hk : K at' = 3 ∨ K at' = 5) : rw_W K V (sk_f K n) n (at' + 1) r par := by
  obtain ⟨W1, W2, W3, W4, W5⟩ := W
  refine ⟨fun i hi => W1 i (by omega), fun i hi hr => ?_, fun i hi hr => ?_, fun c hc hr => ?_, W5⟩
  · by_cases z : i = at'
    · subst z; rw [h1] at hr; exact absurd hr (by decide)
    · exact W2 i (by omega) hr
  · by_cases z : i = at'
    · subst z
      refine ⟨by unfold gr_DS; omega, fun c hc => ?_⟩
      have := hc.1; omega
    · exact W3 i (by omega) hr
  · rcases W4 c hc hr with z | ⟨z1, z2, z3⟩
    · exact Or.inl z
    · exact Or.inr ⟨z1, by omega, z3⟩
theorem rw_form {at' : Nat} {r r' : Nat → Int32} {par : Nat → Nat} (hB : ∀ i, i < n → K i ≠ 2 → dp_I K i (sk_f K n i)) (hat : at' < n) (W : rw_W K V (sk_f K n) n at' r par) (h1 : r at' = 1) (k1 : K at' = 1) (hS : gr_SH K V (sk_f K n) at')
    (e1 : ∀ c, gr_E K (sk_f K n) at' c → r' c = 1) (e2 : ∀ c, gr_D K (sk_f K n) at' c → r' c = 2) (e3 : ∀ c, gr_N K (sk_f K n) at' c → r' c = 3) (e4 : ∀ c, ¬ gr_Ch K (sk_f K n) at' c → r' c = r c) :
    ∃ par', rw_W K V (sk_f K n) n (at' + 1) r' par' := by
  have hI := hB at' hat (by omega)
  obtain ⟨mono, W1'⟩ := rw_gen (Ch := gr_Ch K (sk_f K n) at') hB hat W (by rw [h1]; decide) (fun c hc => gr_in hI hS hc) (fun c c' hc hc' => gr_sep hI hS hc hc') e4
  obtain ⟨W1, W2, W3, W4, W5⟩ := W
  refine ⟨fun c => @ite _ (gr_Ch K (sk_f K n) at' c) (Classical.propDecidable _) at' (par c), W1', fun i hi hr => ?_, fun i hi hr => ?_, fun c hc hr => ?_, ?_⟩
  · by_cases z : i = at'
    · subst z
      refine ⟨hS, fun c hc => ⟨e1 c hc, ?_⟩, fun c hc => ⟨e2 c hc, ?_⟩, fun c hc => ⟨e3 c hc, ?_⟩⟩
      · exact if_pos (Or.inl hc)
      · exact if_pos (Or.inr (Or.inl hc))
      · exact if_pos (Or.inr (Or.inr hc))
    · rw [(mono i (Or.inl (by omega))).2] at hr
      obtain ⟨a1, a2, a3, a4⟩ := W2 i (by omega) hr
      have key : ∀ c, r c ≠ 0 → r' c = r c ∧ (@ite _ (gr_Ch K (sk_f K n) at' c) (Classical.propDecidable _) at' (par c)) = par c := fun c hc => ⟨(mono c (Or.inr hc)).2, if_neg (mono c (Or.inr hc)).1⟩
      refine ⟨a1, fun c hc => ?_, fun c hc => ?_, fun c hc => ?_⟩
      · have q := a2 c hc
        have w := key c (by rw [q.1]; decide)
        exact ⟨w.1.trans q.1, w.2.trans q.2⟩
      · have q := a3 c hc
        have w := key c (by rw [q.1]; decide)
        exact ⟨w.1.trans q.1, w.2.trans q.2⟩
      · have q := a4 c hc
        have w := key c (by rw [q.1]; decide)
        exact ⟨w.1.trans q.1, w.2.trans q.2⟩
  · rw [(mono i (Or.inl (by omega))).2] at hr
    by_cases z : i = at'
    · subst z; rw [h1] at hr; exact absurd hr (by decide)
    · obtain ⟨a1, a2⟩ := W3 i (by omega) hr
      refine ⟨a1, fun c hc => ?_⟩
      have q := a2 c hc
      have w := mono c (Or.inr (by rw [q.1]; decide))
      exact ⟨w.2.trans q.1, (if_neg w.1).trans q.2⟩
  · by_cases z : gr_Ch K (sk_f K n) at' c
    · have gi := gr_in hI hS z
      have gi2 := gi.2.1.1
      refine Or.inr ?_
      dsimp only
      rw [if_pos z]
      refine ⟨gi.1, by omega, by omega, Or.inl ⟨(mono at' (Or.inl (Nat.le_refl _))).2.trans h1, ?_⟩⟩
      rcases z with z | z | z
      · exact Or.inl ⟨e1 c z, z⟩
      · exact Or.inr (Or.inl ⟨e2 c z, z⟩)
      · exact Or.inr (Or.inr ⟨e3 c z, z⟩)
    · rw [e4 c z] at hr ⊢
      dsimp only
      rw [if_neg z]
      rcases W4 c hc hr with y | ⟨y1, y2, y3, y4⟩
      · exact Or.inl y
      · rw [(mono (par c) (Or.inl (by omega))).2]
        exact Or.inr ⟨y1, by omega, y3, y4⟩
  · exact (mono 0 (Or.inl (by omega))).2.trans W5
theorem rw_dform {at' c0 : Nat} {r r' : Nat → Int32} {par : Nat → Nat} (hB : ∀ i, i < n → K i ≠ 2 → dp_I K i (sk_f K n i)) (hat : at' < n) (W : rw_W K V (sk_f K n) n at' r par) (h1 : r at' = 2) (k1 : K at' = 1) (hS : ls_C K (sk_f K n) (at' + 1) c0)
    (e1 : ∀ c, gr_DM K (sk_f K n) at' c → r' c = 2) (e4 : ∀ c, ¬ gr_DM K (sk_f K n) at' c → r' c = r c) :
    ∃ par', rw_W K V (sk_f K n) n (at' + 1) r' par' := by
  have hI := hB at' hat (by omega)
  have hM : ∀ c, gr_DM K (sk_f K n) at' c → at' + 1 ≤ c ∧ dp_I K c (sk_f K n c) ∧ sk_f K n c < sk_f K n at' ∧ dp_d K c = dp_d K at' + 1 := fun c hc => ls_Min hI k1 (dp_L_r _) (dp_I_1 hI k1) hc.2
  obtain ⟨mono, W1'⟩ := rw_gen (Ch := gr_DM K (sk_f K n) at') hB hat W (by rw [h1]; decide) (fun c hc => ⟨by have := hM c hc; omega, (hM c hc).2.1, (hM c hc).2.2.1⟩) (fun c c' hc hc' z => dp_aft (hM c hc).2.1 (by have := hM c hc; have := hM c' hc'; omega) z) e4
  obtain ⟨W1, W2, W3, W4, W5⟩ := W
  refine ⟨fun c => @ite _ (gr_DM K (sk_f K n) at' c) (Classical.propDecidable _) at' (par c), W1', fun i hi hr => ?_, fun i hi hr => ?_, fun c hc hr => ?_, ?_⟩
  · rw [(mono i (Or.inl (by omega))).2] at hr
    by_cases z : i = at'
    · subst z; rw [h1] at hr; exact absurd hr (by decide)
    · obtain ⟨a1, a2, a3, a4⟩ := W2 i (by omega) hr
      have key : ∀ c, r c ≠ 0 → r' c = r c ∧ (@ite _ (gr_DM K (sk_f K n) at' c) (Classical.propDecidable _) at' (par c)) = par c := fun c hc => ⟨(mono c (Or.inr hc)).2, if_neg (mono c (Or.inr hc)).1⟩
      refine ⟨a1, fun c hc => ?_, fun c hc => ?_, fun c hc => ?_⟩
      · have q := a2 c hc
        have w := key c (by rw [q.1]; decide)
        exact ⟨w.1.trans q.1, w.2.trans q.2⟩
      · have q := a3 c hc
        have w := key c (by rw [q.1]; decide)
        exact ⟨w.1.trans q.1, w.2.trans q.2⟩
      · have q := a4 c hc
        have w := key c (by rw [q.1]; decide)
        exact ⟨w.1.trans q.1, w.2.trans q.2⟩
  · by_cases z : i = at'
    · subst z
      exact ⟨Or.inr (Or.inr ⟨k1, c0, hS⟩), fun c hc => ⟨e1 c hc, if_pos hc⟩⟩
    · rw [(mono i (Or.inl (by omega))).2] at hr
      obtain ⟨a1, a2⟩ := W3 i (by omega) hr
      refine ⟨a1, fun c hc => ?_⟩
      have q := a2 c hc
      have w := mono c (Or.inr (by rw [q.1]; decide))
      exact ⟨w.2.trans q.1, (if_neg w.1).trans q.2⟩
  · by_cases z : gr_DM K (sk_f K n) at' c
    · have gi := hM c z
      have gi2 := gi.2.1.1
      refine Or.inr ?_
      dsimp only
      rw [if_pos z]
      exact ⟨by omega, by omega, by omega, Or.inr ⟨(mono at' (Or.inl (Nat.le_refl _))).2.trans h1, e1 c z, z⟩⟩
    · rw [e4 c z] at hr ⊢
      dsimp only
      rw [if_neg z]
      rcases W4 c hc hr with y | ⟨y1, y2, y3, y4⟩
      · exact Or.inl y
      · rw [(mono (par c) (Or.inl (by omega))).2]
        exact Or.inr ⟨y1, by omega, y3, y4⟩
  · exact (mono 0 (Or.inl (by omega))).2.trans W5
/-- what the grammar says of the root it says of every role -/
theorem rw_X {at' : Nat} {r : Nat → Int32} {par : Nat → Nat} (W : rw_W K V (sk_f K n) n at' r par) {k : Nat} (h : gr_X K V (sk_f K n) k true 0) :
    ∀ d c, c ≤ d → c < n → (r c = 1 → ∃ k', gr_X K V (sk_f K n) k' true c) ∧ (r c = 2 → ∃ k', gr_X K V (sk_f K n) k' false c) := by
  obtain ⟨W1, W2, W3, W4, W5⟩ := W
  have zero : (r 0 = 1 → ∃ k', gr_X K V (sk_f K n) k' true 0) ∧ (r 0 = 2 → ∃ k', gr_X K V (sk_f K n) k' false 0) :=
    ⟨fun _ => ⟨k, h⟩, fun z => by rw [W5] at z; exact absurd z (by decide)⟩
  intro d
  induction d with
  | zero => intro c hc hn; have : c = 0 := by omega
            subst this; exact zero
  | succ d ih =>
    intro c hc hn
    by_cases z : r c = 0
    · rw [z]; exact ⟨fun y => absurd y (by decide), fun y => absurd y (by decide)⟩
    · rcases W4 c hn z with y | ⟨y1, y2, y3, y4⟩
      · subst y; exact zero
      · have ihp := ih (par c) (by omega) (by omega)
        rcases y4 with ⟨p1, q⟩ | ⟨p1, q1, q2⟩
        · obtain ⟨k', hk⟩ := ihp.1 p1
          cases k' with
          | zero => exact False.elim hk
          | succ k' =>
            rcases q with ⟨a, b⟩ | ⟨a, b⟩ | ⟨a, b⟩
            · exact ⟨fun _ => ⟨k', hk.2.1 c b⟩, fun y => by rw [a] at y; exact absurd y (by decide)⟩
            · exact ⟨fun y => by rw [a] at y; exact absurd y (by decide), fun _ => ⟨k', hk.2.2 c b⟩⟩
            · exact ⟨fun y => by rw [a] at y; exact absurd y (by decide), fun y => by rw [a] at y; exact absurd y (by decide)⟩
        · obtain ⟨k', hk⟩ := ihp.2 p1
          cases k' with
          | zero => exact False.elim hk
          | succ k' => exact ⟨fun y => by rw [q1] at y; exact absurd y (by decide), fun _ => ⟨k', hk.2 c q2⟩⟩
theorem rw_no {at' : Nat} {r : Nat → Int32} {par : Nat → Nat} (W : rw_W K V (sk_f K n) n at' r par) (hat : at' < n) (h : (r at' = 1 ∧ ¬ gr_SH K V (sk_f K n) at') ∨ (r at' = 2 ∧ ¬ gr_DS K (sk_f K n) at')) (k : Nat) : ¬ gr_X K V (sk_f K n) k true 0 := by
  intro z
  have q := rw_X W z at' at' (Nat.le_refl _) hat
  rcases h with ⟨a, b⟩ | ⟨a, b⟩
  · obtain ⟨k', hk⟩ := q.1 a
    cases k' with
    | zero => exact hk
    | succ k' => exact b hk.1
  · obtain ⟨k', hk⟩ := q.2 a
    cases k' with
    | zero => exact hk
    | succ k' => exact b hk.1
end
