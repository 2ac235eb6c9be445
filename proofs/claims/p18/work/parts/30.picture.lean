/-! the picture of a run: values, cells, frames of one object, as far as they live -/
def hp_E (nm : Nat → Nat) (cc : Nat) (c s : Int32) : Prop := (c = -1 ∧ s = -1) ∨ ∃ i, i < cc ∧ c = nI i ∧ s = nI (nm i)
def hp_V (K : Nat → Nat) (R sc : Nat → Int32) (n : Nat) (VP : Nat → Prop) (nm : Nat → Nat) (cc : Nat) (vk vf vs : Nat → Int32) (i : Nat) : Prop :=
  vk i = 1 ∨ vk i = 2 ∨ (vk i = 3 ∧ ∃ a b, vf i = nI a ∧ vs i = nI b ∧ VP a ∧ VP b) ∨
  (vk i = 4 ∧ ∃ q, q < n ∧ R q = 1 ∧ K q = 1 ∧ K (q + 1) = 7 ∧ vf i = nI q ∧ hp_E nm cc (vs i) (sc q))
def hp_C (sc : Nat → Int32) (n : Nat) (VP : Nat → Prop) (nm : Nat → Nat) (cc lo : Nat) (cv co : Nat → Int32) (c : Nat) : Prop :=
  nm c < n ∧ hp_E nm cc (co c) (sc (nm c)) ∧ (c < lo → ∃ a, cv c = nI a ∧ VP a)
/-- the literals' places -/
def hp_L (K : Nat → Nat) (R : Nat → Int32) (n i : Nat) : Prop := (i < n ∧ (K i = 3 ∨ K i = 5 ∨ (R i = 2 ∧ K i = 1))) ∨ ∃ j, j < n ∧ R j = 2 ∧ i = 64 + j
def hp_B (K : Nat → Nat) (R sc : Nat → Int32) (n : Nat) (VP : Nat → Prop) (nm : Nat → Nat) (vc cc lo : Nat) (vk vf vs cv co : Nat → Int32) : Prop :=
  (∀ i, VP i → i < vc ∧ hp_V K R sc n VP nm cc vk vf vs i) ∧ (∀ c, c < cc → hp_C sc n VP nm cc lo cv co c) ∧ (∀ i, hp_L K R n i → VP i)
def hb_u (f : Nat → Nat) (k v : Nat) : Nat → Nat := fun i => if i = k then v else f i
theorem hb_us {f : Nat → Nat} {k v : Nat} : hb_u f k v k = v := if_pos rfl
theorem hb_un {f : Nat → Nat} {k v i : Nat} (h : i ≠ k) : hb_u f k v i = f i := if_neg h
section
variable {K : Nat → Nat} {R sc : Nat → Int32} {n : Nat} {VP VP' : Nat → Prop} {nm nm' : Nat → Nat} {vc cc lo vc' cc' : Nat} {vk vf vs cv co vk' vf' vs' cv' co' : Nat → Int32}
theorem hp_Em {c s : Int32} (hc : cc ≤ cc') (hg : ∀ i, i < cc → nm' i = nm i) (h : hp_E nm cc c s) : hp_E nm' cc' c s := by
  rcases h with h | ⟨i, hi, a, b⟩
  · exact Or.inl h
  · exact Or.inr ⟨i, by omega, a, by rw [hg i hi]; exact b⟩
theorem hp_Vm {i : Nat} (hVP : ∀ a, VP a → VP' a) (hc : cc ≤ cc') (hg : ∀ i, i < cc → nm' i = nm i) (hx : vk' i = vk i ∧ vf' i = vf i ∧ vs' i = vs i)
    (h : hp_V K R sc n VP nm cc vk vf vs i) : hp_V K R sc n VP' nm' cc' vk' vf' vs' i := by
  obtain ⟨x1, x2, x3⟩ := hx
  unfold hp_V
  rw [x1, x2, x3]
  rcases h with h | h | ⟨h1, a, b, h3, h4, h5, h6⟩ | ⟨h1, q, h3, h4, h5, h6, h7, h8⟩
  · exact Or.inl h
  · exact Or.inr (Or.inl h)
  · exact Or.inr (Or.inr (Or.inl ⟨h1, a, b, h3, h4, hVP _ h5, hVP _ h6⟩))
  · exact Or.inr (Or.inr (Or.inr ⟨h1, q, h3, h4, h5, h6, h7, hp_Em hc hg h8⟩))
theorem hp_Cm {c : Nat} (hVP : ∀ a, VP a → VP' a) (hc : cc ≤ cc') (hg : ∀ i, i < cc → nm' i = nm i) (hcc : c < cc) (hx : cv' c = cv c ∧ co' c = co c)
    (h : hp_C sc n VP nm cc lo cv co c) : hp_C sc n VP' nm' cc' lo cv' co' c := by
  obtain ⟨h1, h2, h3⟩ := h
  unfold hp_C
  rw [hg c hcc, hx.1, hx.2]
  refine ⟨h1, hp_Em hc hg h2, fun z => ?_⟩
  obtain ⟨a, c1, c2⟩ := h3 z
  exact ⟨a, c1, hVP _ c2⟩
/-- a value is added, no cell -/
theorem hp_add (hv : vc ≤ vc') (hVP : ∀ a, VP a → VP' a) (hx : ∀ i, i < vc → vk' i = vk i ∧ vf' i = vf i ∧ vs' i = vs i) (hcl : ∀ c, c < cc → cv' c = cv c ∧ co' c = co c)
    (hnew : ∀ i, VP' i → VP i ∨ (i < vc' ∧ hp_V K R sc n VP' nm cc vk' vf' vs' i))
    (h : hp_B K R sc n VP nm vc cc lo vk vf vs cv co) : hp_B K R sc n VP' nm vc' cc lo vk' vf' vs' cv' co' := by
  obtain ⟨b1, b2, b3⟩ := h
  refine ⟨fun i hi => ?_, fun c hc => hp_Cm hVP (Nat.le_refl _) (fun _ _ => rfl) hc (hcl c hc) (b2 c hc), fun i hi => hVP _ (b3 i hi)⟩
  rcases hnew i hi with z | z
  · obtain ⟨q1, q2⟩ := b1 i z
    exact ⟨by omega, hp_Vm hVP (Nat.le_refl _) (fun _ _ => rfl) (hx i q1) q2⟩
  · exact z
/-- the innermost cell when j are added to e0 at the place cc -/
def hb_e (e0 : Int32) (cc : Nat) : Nat → Int32
  | 0 => e0
  | j + 1 => nI (cc + j)
/-- the names so far, innermost first -/
def hb_s (s0 : Int32) (t : Nat → Nat) : Nat → Int32
  | 0 => s0
  | j + 1 => nI (t j)
/-- a cell is added, the arrays hold it already; e is its name's token -/
theorem hp_cell {e : Nat} (he : e < n) (hE : hp_E nm cc (co cc) (sc e)) (lo' : Nat) (hlo : (lo' = lo ∧ lo ≤ cc) ∨ (lo' = cc + 1 ∧ lo = cc ∧ ∃ a, cv cc = nI a ∧ VP a))
    (h : hp_B K R sc n VP nm vc cc lo vk vf vs cv co) : hp_B K R sc n VP (hb_u nm cc e) vc (cc + 1) lo' vk vf vs cv co := by
  obtain ⟨b1, b2, b3⟩ := h
  have hg : ∀ i, i < cc → hb_u nm cc e i = nm i := fun i hi => hb_un (by omega)
  refine ⟨fun i hi => ?_, fun c hc => ?_, b3⟩
  · obtain ⟨q1, q2⟩ := b1 i hi
    exact ⟨q1, hp_Vm (fun _ z => z) (by omega) hg ⟨rfl, rfl, rfl⟩ q2⟩
  · by_cases z : c = cc
    · subst z
      unfold hp_C
      rw [hb_us]
      refine ⟨he, hp_Em (by omega) hg hE, fun w => ?_⟩
      rcases hlo with w2 | ⟨_, _, w2⟩
      · omega
      · exact w2
    · have q : hp_C sc n VP (hb_u nm cc e) (cc + 1) lo cv co c := hp_Cm (fun _ z => z) (by omega) hg (by omega) ⟨rfl, rfl⟩ (b2 c (by omega))
      rcases hlo with w | ⟨w1, w2, _⟩
      · rw [w.1]; exact q
      · exact ⟨q.1, q.2.1, fun _ => q.2.2 (by omega)⟩
/-- k cells are added, filled or not -/
theorem hp_cells {c0 s0 : Int32} {t : Nat → Nat} {k : Nat} {fil : Prop} (hE : hp_E nm cc c0 s0) (ht : ∀ j, j < k → t j < n ∧ sc (t j) = hb_s s0 t j)
    (hX : ∀ j, j < k → co (cc + j) = hb_e c0 cc j) (hf : fil → ∀ j, j < k → ∃ a, cv (cc + j) = nI a ∧ VP a)
    (h : hp_B K R sc n VP nm vc cc cc vk vf vs cv co) :
    ∃ nm', (∀ i, i < cc → nm' i = nm i) ∧ hp_E nm' (cc + k) (hb_e c0 cc k) (hb_s s0 t k) ∧
      hp_B K R sc n VP nm' vc (cc + k) cc vk vf vs cv co ∧ (fil → hp_B K R sc n VP nm' vc (cc + k) (cc + k) vk vf vs cv co) := by
  induction k with
  | zero => exact ⟨nm, fun _ _ => rfl, hE, h, fun _ => h⟩
  | succ k ih =>
    obtain ⟨nm', a1, a3, a4, a5⟩ := ih (fun j hj => ht j (by omega)) (fun j hj => hX j (by omega)) (fun z j hj => hf z j (by omega))
    have tk := ht k (by omega)
    have x := hX k (by omega)
    have hEk : hp_E nm' (cc + k) (co (cc + k)) (sc (t k)) := by rw [x, tk.2]; exact a3
    refine ⟨hb_u nm' (cc + k) (t k), fun i hi => ?_, ?_, ?_, fun z => ?_⟩
    · rw [hb_un (by omega)]; exact a1 i hi
    · refine Or.inr ⟨cc + k, by omega, rfl, ?_⟩
      rw [hb_us]; rfl
    · exact hp_cell tk.1 hEk cc (Or.inl ⟨rfl, by omega⟩) a4
    · exact hp_cell tk.1 hEk (cc + k + 1) (Or.inr ⟨rfl, rfl, hf z k (by omega)⟩) (a5 z)
/-- all cells filled -/
theorem hp_fills (B : hp_B K R sc n VP nm vc cc lo vk vf vs cv co) (h1 : ∀ c, c < lo → cv' c = cv c) (h3 : ∀ c, lo ≤ c → c < cc → ∃ a, cv' c = nI a ∧ VP a) :
    hp_B K R sc n VP nm vc cc cc vk vf vs cv' co := by
  obtain ⟨b1, b2, b3⟩ := B
  refine ⟨b1, fun c hc => ?_, b3⟩
  obtain ⟨g1, g2, g3⟩ := b2 c hc
  refine ⟨g1, g2, fun _ => ?_⟩
  rcases Nat.lt_or_ge c lo with z | z
  · obtain ⟨a, e1, v⟩ := g3 z
    exact ⟨a, (h1 c z).trans e1, v⟩
  · exact h3 c z hc
end
