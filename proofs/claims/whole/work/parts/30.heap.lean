/-! the two heaps: values, environments -/
def hb_E (g nm : Nat → Nat) (cc : Nat) (c e s : Int32) : Prop := (c = -1 ∧ e = -1 ∧ s = -1) ∨ ∃ i, i < cc ∧ c = nI i ∧ e = nI (g i) ∧ s = nI (nm i)
def hb_V (K : Nat → Nat) (R sc : Nat → Int32) (n : Nat) (VR : Nat → Nat → Prop) (g nm : Nat → Nat) (cc : Nat) (vk vf vs ck ca cb : Nat → Int32) (i j : Nat) : Prop :=
  (vk i = 1 ∧ ck j = 1 ∧ vf i = ca j) ∨
  (vk i = 2 ∧ ck j = 2) ∨
  (vk i = 3 ∧ ck j = 3 ∧ ∃ a b a' b', vf i = nI a ∧ vs i = nI b ∧ ca j = nI a' ∧ cb j = nI b' ∧ VR a a' ∧ VR b b') ∨
  (vk i = 4 ∧ ck j = 4 ∧ ∃ q, q < n ∧ R q = 1 ∧ K q = 1 ∧ K (q + 1) = 7 ∧ vf i = nI q ∧ ca j = nI q ∧ hb_E g nm cc (vs i) (cb j) (sc q))
/-- a cell, filled if it lies below lo -/
def hb_C (V sc : Nat → Int32) (n : Nat) (VR : Nat → Nat → Prop) (g nm : Nat → Nat) (cc hp lo : Nat) (cv co ck ca cb cC : Nat → Int32) (c : Nat) : Prop :=
  g c < hp ∧ nm c < n ∧ ck (g c) = 5 ∧ ca (g c) = V (nm c) ∧ hb_E g nm cc (co c) (cC (g c)) (sc (nm c)) ∧ (c < lo → ∃ a b, cv c = nI a ∧ cb (g c) = nI b ∧ VR a b)
def hb_B (K : Nat → Nat) (V R sc : Nat → Int32) (n : Nat) (VR : Nat → Nat → Prop) (g nm : Nat → Nat) (vc cc hp lo : Nat) (vk vf vs cv co ck ca cb cC : Nat → Int32) : Prop :=
  (∀ i j, VR i j → i < vc ∧ j < hp ∧ hb_V K R sc n VR g nm cc vk vf vs ck ca cb i j) ∧
  (∀ c, c < cc → hb_C V sc n VR g nm cc hp lo cv co ck ca cb cC c) ∧
  (∀ c c', c < c' → c' < cc → g c < g c') ∧ 1 ≤ hp ∧ ck 0 = 2
def hb_u (f : Nat → Nat) (k v : Nat) : Nat → Nat := fun i => if i = k then v else f i
theorem hb_us {f : Nat → Nat} {k v : Nat} : hb_u f k v k = v := if_pos rfl
theorem hb_un {f : Nat → Nat} {k v i : Nat} (h : i ≠ k) : hb_u f k v i = f i := if_neg h
section
variable {K : Nat → Nat} {V R sc : Nat → Int32} {n : Nat} {VR VR' : Nat → Nat → Prop} {g nm g' nm' : Nat → Nat} {vc cc hp lo vc' cc' hp' : Nat} {vk vf vs cv co ck ca cb cC vk' vf' vs' cv' co' ck' ca' cb' cC' : Nat → Int32}
theorem hb_Em {c e s : Int32} (hc : cc ≤ cc') (hg : ∀ i, i < cc → g' i = g i ∧ nm' i = nm i) (h : hb_E g nm cc c e s) : hb_E g' nm' cc' c e s := by
  rcases h with h | ⟨i, hi, a, b, d⟩
  · exact Or.inl h
  · have q := hg i hi
    exact Or.inr ⟨i, by omega, a, by rw [q.1]; exact b, by rw [q.2]; exact d⟩
theorem hb_Vm {i j : Nat} (hVR : ∀ a b, VR a b → VR' a b) (hc : cc ≤ cc') (hg : ∀ i, i < cc → g' i = g i ∧ nm' i = nm i) (hx : vk' i = vk i ∧ vf' i = vf i ∧ vs' i = vs i) (hy : ck' j = ck j ∧ ca' j = ca j ∧ cb' j = cb j)
    (h : hb_V K R sc n VR g nm cc vk vf vs ck ca cb i j) : hb_V K R sc n VR' g' nm' cc' vk' vf' vs' ck' ca' cb' i j := by
  obtain ⟨x1, x2, x3⟩ := hx
  obtain ⟨y1, y2, y3⟩ := hy
  unfold hb_V
  rw [x1, x2, x3, y1, y2, y3]
  rcases h with h | h | ⟨h1, h2, a, b, a', b', h3, h4, h5, h6, h7, h8⟩ | ⟨h1, h2, q, h3, h4, h5, h6, h7, h8, h9⟩
  · exact Or.inl h
  · exact Or.inr (Or.inl h)
  · exact Or.inr (Or.inr (Or.inl ⟨h1, h2, a, b, a', b', h3, h4, h5, h6, hVR _ _ h7, hVR _ _ h8⟩))
  · exact Or.inr (Or.inr (Or.inr ⟨h1, h2, q, h3, h4, h5, h6, h7, h8, hb_Em hc hg h9⟩))
theorem hb_Cm {c : Nat} (hVR : ∀ a b, VR a b → VR' a b) (hc : cc ≤ cc') (hg : ∀ i, i < cc → g' i = g i ∧ nm' i = nm i) (hh : hp ≤ hp') (hcc : c < cc) (hx : cv' c = cv c ∧ co' c = co c) (hy : ∀ j, j < hp → ck' j = ck j ∧ ca' j = ca j ∧ cb' j = cb j ∧ cC' j = cC j)
    (h : hb_C V sc n VR g nm cc hp lo cv co ck ca cb cC c) : hb_C V sc n VR' g' nm' cc' hp' lo cv' co' ck' ca' cb' cC' c := by
  obtain ⟨h1, h2, h3, h4, h5, h6⟩ := h
  have q := hg c hcc
  have y := hy (g c) h1
  unfold hb_C
  rw [q.1, q.2, hx.1, hx.2, y.1, y.2.1, y.2.2.1, y.2.2.2]
  refine ⟨by omega, h2, h3, h4, hb_Em hc hg h5, fun z => ?_⟩
  obtain ⟨a, b, c1, c2, c3⟩ := h6 z
  exact ⟨a, b, c1, c2, hVR _ _ c3⟩
/-- values and pairs of values are added, no cell -/
theorem hb_add (hv : vc ≤ vc') (hh : hp ≤ hp') (hVR : ∀ a b, VR a b → VR' a b) (hx : ∀ i, i < vc → vk' i = vk i ∧ vf' i = vf i ∧ vs' i = vs i) (hy : ∀ j, j < hp → ck' j = ck j ∧ ca' j = ca j ∧ cb' j = cb j ∧ cC' j = cC j)
    (hcl : ∀ c, c < cc → cv' c = cv c ∧ co' c = co c)
    (hnew : ∀ i j, VR' i j → VR i j ∨ (i < vc' ∧ j < hp' ∧ hb_V K R sc n VR' g nm cc vk' vf' vs' ck' ca' cb' i j))
    (h : hb_B K V R sc n VR g nm vc cc hp lo vk vf vs cv co ck ca cb cC) : hb_B K V R sc n VR' g nm vc' cc hp' lo vk' vf' vs' cv' co' ck' ca' cb' cC' := by
  obtain ⟨b1, b2, b3, b4, b5⟩ := h
  refine ⟨fun i j hij => ?_, fun c hc => hb_Cm hVR (Nat.le_refl _) (fun _ _ => ⟨rfl, rfl⟩) hh hc (hcl c hc) hy (b2 c hc), b3, by omega, (hy 0 (by omega)).1.trans b5⟩
  rcases hnew i j hij with z | z
  · obtain ⟨q1, q2, q3⟩ := b1 i j z
    have y := hy j q2
    exact ⟨by omega, by omega, hb_Vm hVR (Nat.le_refl _) (fun _ _ => ⟨rfl, rfl⟩) (hx i q1) ⟨y.1, y.2.1, y.2.2.1⟩ q3⟩
  · exact z
/-- a cell is added on both sides, the arrays hold it already; e is its name's token -/
theorem hb_cell {e : Nat} (he : e < n) (hE : hb_E g nm cc (co cc) (cC hp) (sc e)) (hck : ck hp = 5) (hca : ca hp = V e) (lo' : Nat) (hlo : lo' = lo ∧ lo ≤ cc ∨ (lo' = cc + 1 ∧ lo = cc ∧ ∃ a b, cv cc = nI a ∧ cb hp = nI b ∧ VR a b))
    (h : hb_B K V R sc n VR g nm vc cc hp lo vk vf vs cv co ck ca cb cC) :
    hb_B K V R sc n VR (hb_u g cc hp) (hb_u nm cc e) vc (cc + 1) (hp + 1) lo' vk vf vs cv co ck ca cb cC := by
  obtain ⟨b1, b2, b3, b4, b5⟩ := h
  have hg : ∀ i, i < cc → hb_u g cc hp i = g i ∧ hb_u nm cc e i = nm i := fun i hi => ⟨hb_un (by omega), hb_un (by omega)⟩
  refine ⟨fun i j hij => ?_, fun c hc => ?_, fun c c' h1 h2 => ?_, by omega, b5⟩
  · obtain ⟨q1, q2, q3⟩ := b1 i j hij
    exact ⟨q1, by omega, hb_Vm (fun _ _ z => z) (by omega) hg ⟨rfl, rfl, rfl⟩ ⟨rfl, rfl, rfl⟩ q3⟩
  · by_cases z : c = cc
    · subst z
      unfold hb_C
      rw [hb_us, hb_us]
      refine ⟨by omega, he, hck, hca, hb_Em (by omega) hg hE, fun w => ?_⟩
      rcases hlo with w2 | ⟨_, _, w2⟩
      · omega
      · exact w2
    · have old := b2 c (by omega)
      have q : hb_C V sc n VR (hb_u g cc hp) (hb_u nm cc e) (cc + 1) (hp + 1) lo cv co ck ca cb cC c :=
        hb_Cm (fun _ _ z => z) (by omega) hg (by omega) (by omega) ⟨rfl, rfl⟩ (fun _ _ => ⟨rfl, rfl, rfl, rfl⟩) old
      rcases hlo with w | ⟨w1, w2, _⟩
      · rw [w.1]; exact q
      · exact ⟨q.1, q.2.1, q.2.2.1, q.2.2.2.1, q.2.2.2.2.1, fun _ => q.2.2.2.2.2 (by omega)⟩
  · by_cases z : c' = cc
    · subst z
      rw [hb_us, hb_un (by omega)]
      exact (b2 c (by omega)).1
    · rw [hb_un (by omega), hb_un z]
      exact b3 c c' h1 (by omega)
/-- the innermost cell when j are added to e0 at the place cc -/
def hb_e (e0 : Int32) (cc : Nat) : Nat → Int32
  | 0 => e0
  | j + 1 => nI (cc + j)
/-- the names so far, innermost first -/
def hb_s (s0 : Int32) (t : Nat → Nat) : Nat → Int32
  | 0 => s0
  | j + 1 => nI (t j)
/-- a cell gets its value -/
theorem hb_fill {c a b : Nat} (hc : c < cc) (hv : VR a b) (hx : cv' = upd cv c (nI a)) (hy : cb' = upd cb (g c) (nI b))
    (h : hb_B K V R sc n VR g nm vc cc hp lo vk vf vs cv co ck ca cb cC) (hl : lo ≤ c) :
    hb_B K V R sc n VR g nm vc cc hp lo vk vf vs cv' co ck ca cb' cC ∧ cv' c = nI a ∧ cb' (g c) = nI b ∧ (∀ c', c' < cc → c' ≠ c → cv' c' = cv c' ∧ cb' (g c') = cb (g c')) := by
  obtain ⟨b1, b2, b3, b4, b5⟩ := h
  have inj : ∀ c', c' < cc → c' ≠ c → g c' ≠ g c := fun c' h1 h2 e => by
    rcases Nat.lt_or_ge c' c with z | z
    · have := b3 c' c z hc; omega
    · have := b3 c c' (by omega) h1; omega
  have others : ∀ c', c' < cc → c' ≠ c → cv' c' = cv c' ∧ cb' (g c') = cb (g c') := fun c' h1 h2 => by
    rw [hx, hy]; exact ⟨pk_un h2, pk_un (inj c' h1 h2)⟩
  refine ⟨⟨fun i j hij => ?_, fun c' hc' => ?_, b3, b4, b5⟩, by rw [hx]; exact pk_us, by rw [hy]; exact pk_us, others⟩
  · obtain ⟨q1, q2, q3⟩ := b1 i j hij
    refine ⟨q1, q2, hb_Vm (fun _ _ z => z) (Nat.le_refl _) (fun _ _ => ⟨rfl, rfl⟩) ⟨rfl, rfl, rfl⟩ ⟨rfl, rfl, ?_⟩ q3⟩
    rw [hy]
    refine pk_un (fun e => ?_)
    have k5 := (b2 c hc).2.2.1
    rw [← e] at k5
    rcases q3 with w | w | w | w
    · rw [w.2.1] at k5; exact absurd k5 (by decide)
    · rw [w.2] at k5; exact absurd k5 (by decide)
    · rw [w.2.1] at k5; exact absurd k5 (by decide)
    · rw [w.2.1] at k5; exact absurd k5 (by decide)
  · obtain ⟨h1, h2, h3, h4, h5, h6⟩ := b2 c' hc'
    refine ⟨h1, h2, h3, h4, h5, fun z => ?_⟩
    have o := others c' hc' (by omega)
    rw [o.1, o.2]; exact h6 z
/-- k cells are added on both sides, filled or (fil = false) not -/
theorem hb_cells {c0 e0 s0 : Int32} {t : Nat → Nat} {k : Nat} {fil : Prop} (hE : hb_E g nm cc c0 e0 s0) (ht : ∀ j, j < k → t j < n ∧ sc (t j) = hb_s s0 t j)
    (hX : ∀ j, j < k → co (cc + j) = hb_e c0 cc j) (hY : ∀ j, j < k → ck (hp + j) = 5 ∧ ca (hp + j) = V (t j) ∧ cC (hp + j) = hb_e e0 hp j)
    (hf : fil → ∀ j, j < k → ∃ a b, cv (cc + j) = nI a ∧ cb (hp + j) = nI b ∧ VR a b)
    (h : hb_B K V R sc n VR g nm vc cc hp cc vk vf vs cv co ck ca cb cC) :
    ∃ g' nm', (∀ i, i < cc → g' i = g i ∧ nm' i = nm i) ∧ (∀ j, j < k → g' (cc + j) = hp + j ∧ nm' (cc + j) = t j) ∧ hb_E g' nm' (cc + k) (hb_e c0 cc k) (hb_e e0 hp k) (hb_s s0 t k) ∧
      hb_B K V R sc n VR g' nm' vc (cc + k) (hp + k) cc vk vf vs cv co ck ca cb cC ∧ (fil → hb_B K V R sc n VR g' nm' vc (cc + k) (hp + k) (cc + k) vk vf vs cv co ck ca cb cC) := by
  induction k with
  | zero => exact ⟨g, nm, fun _ _ => ⟨rfl, rfl⟩, fun j hj => by omega, hE, h, fun _ => h⟩
  | succ k ih =>
    obtain ⟨g', nm', a1, a2, a3, a4, a5⟩ := ih (fun j hj => ht j (by omega)) (fun j hj => hX j (by omega)) (fun j hj => hY j (by omega)) (fun z j hj => hf z j (by omega))
    have tk := ht k (by omega)
    have y := hY k (by omega)
    have x := hX k (by omega)
    have hEk : hb_E g' nm' (cc + k) (co (cc + k)) (cC (hp + k)) (sc (t k)) := by rw [x, y.2.2, tk.2]; exact a3
    refine ⟨hb_u g' (cc + k) (hp + k), hb_u nm' (cc + k) (t k), fun i hi => ?_, fun j hj => ?_, ?_, ?_, fun z => ?_⟩
    · rw [hb_un (by omega), hb_un (by omega)]; exact a1 i hi
    · by_cases z : j = k
      · subst z; rw [hb_us, hb_us]; exact ⟨rfl, rfl⟩
      · rw [hb_un (by omega), hb_un (by omega)]; exact a2 j (by omega)
    · refine Or.inr ⟨cc + k, by omega, rfl, ?_, ?_⟩
      · rw [hb_us]; rfl
      · rw [hb_us]; rfl
    · exact hb_cell tk.1 hEk y.1 y.2.1 cc (Or.inl ⟨rfl, by omega⟩) a4
    · exact hb_cell tk.1 hEk y.1 y.2.1 (cc + k + 1) (Or.inr ⟨rfl, rfl, hf z k (by omega)⟩) (a5 z)
/-- all cells filled: the bound goes up -/
theorem hb_full (h : hb_B K V R sc n VR g nm vc cc hp lo vk vf vs cv co ck ca cb cC) (hf : ∀ c, lo ≤ c → c < cc → ∃ a b, cv c = nI a ∧ cb (g c) = nI b ∧ VR a b) : hb_B K V R sc n VR g nm vc cc hp cc vk vf vs cv co ck ca cb cC := by
  obtain ⟨b1, b2, b3, b4, b5⟩ := h
  refine ⟨b1, fun c hc => ?_, b3, b4, b5⟩
  obtain ⟨h1, h2, h3, h4, h5, h6⟩ := b2 c hc
  refine ⟨h1, h2, h3, h4, h5, fun _ => ?_⟩
  rcases Nat.lt_or_ge c lo with z | z
  · exact h6 z
  · exact hf c z hc
end
