/-! scope, purely -/
def sc_nm (K a : Nat → Nat) (i j : Nat) : Nat := if K (i + 1) = 7 then i + 3 + j else it_f a j (i + 3) + 1
def sc_ls (K a : Nat → Nat) (sc : Nat → Int32) (i : Nat) : Nat → Int32
  | 0 => sc i
  | j + 1 => nI (sc_nm K a i j)
def sc_L (K a : Nat → Nat) (sc : Nat → Int32) (i : Nat) : Prop :=
  (K (i + 1) ≤ 6 ∨ 10 ≤ K (i + 1) → ∀ c, gr_E K a i c → sc c = sc i) ∧
  (7 ≤ K (i + 1) → K (i + 1) ≤ 9 → ∀ c, ls_C K a (i + 3) c → (∀ j, j < c → sc (sc_nm K a i j) = sc_ls K a sc i j) ∧ sc (a (i + 2)) = sc_ls K a sc i c ∧ (K (i + 1) ≠ 7 → ∀ j, j < c → sc (it_f a j (i + 3) + 2) = if K (i + 1) = 9 then sc_ls K a sc i c else sc i))
def sc_H (n : Nat) (sc : Nat → Int32) : List Nat → Int32 → Prop
  | [], s => s = -1
  | m :: l, s => s = nI m ∧ m < n ∧ sc_H n sc l (sc m)
def sc_B (K : Nat → Nat) (V : Nat → Int32) (a : Nat → Nat) (i : Nat) (x : Int32) : Prop :=
  ∃ j, j < i ∧ K j = 1 ∧ 7 ≤ K (j + 1) ∧ K (j + 1) ≤ 9 ∧ i < a j ∧ (∃ m, gr_N K a j m ∧ V m = x) ∧ (K (j + 1) = 9 ∨ a (j + 2) ≤ i)
def sc_nl (K a : Nat → Nat) (i : Nat) (l : List Nat) : Nat → List Nat
  | 0 => l
  | j + 1 => sc_nm K a i j :: sc_nl K a i l j
/-- the place of a name in a chain -/
def sc_F (V : Nat → Int32) (x : Int32) : List Nat → Nat → Prop
  | [], _ => False
  | m :: l, h => (V m = x ∧ h = 0) ∨ (V m ≠ x ∧ ∃ h', h = h' + 1 ∧ sc_F V x l h')
section
variable {K : Nat → Nat} {V : Nat → Int32} {n : Nat}
theorem sc_nl_len {i : Nat} {l : List Nat} : ∀ c, (sc_nl K (sk_f K n) i l c).length = l.length + c
  | 0 => rfl
  | c + 1 => by simp [sc_nl, sc_nl_len c]; omega
theorem sc_nl_mem {i : Nat} {l : List Nat} {x : Int32} : ∀ c, (∃ m, m ∈ sc_nl K (sk_f K n) i l c ∧ V m = x) ↔ ((∃ j, j < c ∧ V (sc_nm K (sk_f K n) i j) = x) ∨ ∃ m, m ∈ l ∧ V m = x)
  | 0 => by
    constructor
    · intro h; exact Or.inr h
    · rintro (⟨j, hj, _⟩ | h)
      · omega
      · exact h
  | c + 1 => by
    have ih := sc_nl_mem (i := i) (l := l) (x := x) c
    constructor
    · rintro ⟨m, hm, hv⟩
      rcases List.mem_cons.mp hm with e | e
      · exact Or.inl ⟨c, by omega, by rw [← e]; exact hv⟩
      · rcases ih.mp ⟨m, e, hv⟩ with ⟨j, hj, h⟩ | h
        · exact Or.inl ⟨j, by omega, h⟩
        · exact Or.inr h
    · rintro (⟨j, hj, hv⟩ | h)
      · by_cases z : j = c
        · subst z; exact ⟨_, List.mem_cons_self, hv⟩
        · obtain ⟨m, hm, h⟩ := ih.mpr (Or.inl ⟨j, by omega, hv⟩)
          exact ⟨m, List.mem_cons_of_mem _ hm, h⟩
      · obtain ⟨m, hm, h⟩ := ih.mpr (Or.inr h)
        exact ⟨m, List.mem_cons_of_mem _ hm, h⟩
theorem sc_nl_m {i : Nat} {l : List Nat} : ∀ (c m : Nat), m ∈ sc_nl K (sk_f K n) i l c → (∃ j, j < c ∧ m = sc_nm K (sk_f K n) i j) ∨ m ∈ l
  | 0, m, h => Or.inr h
  | c + 1, m, h => by
    rcases List.mem_cons.mp h with e | e
    · exact Or.inl ⟨c, by omega, e⟩
    · rcases sc_nl_m c m e with ⟨j, hj, e⟩ | e
      · exact Or.inl ⟨j, by omega, e⟩
      · exact Or.inr e
theorem sc_nl_H {sc : Nat → Int32} {i : Nat} {l : List Nat} {c : Nat} (hl : sc_H n sc l (sc i)) (hs : ∀ j, j < c → sc (sc_nm K (sk_f K n) i j) = sc_ls K (sk_f K n) sc i j) (hn : ∀ j, j < c → sc_nm K (sk_f K n) i j < n) :
    ∀ d, d ≤ c → sc_H n sc (sc_nl K (sk_f K n) i l d) (sc_ls K (sk_f K n) sc i d)
  | 0, _ => hl
  | d + 1, hd => ⟨rfl, hn d (by omega), by rw [hs d (by omega)]; exact sc_nl_H hl hs hn d (by omega)⟩
theorem sc_Hc {sc sc' : Nat → Int32} : ∀ {l : List Nat} {s : Int32}, (∀ m, m ∈ l → sc' m = sc m) → sc_H n sc l s → sc_H n sc' l s
  | [], _, _, h => h
  | m :: l, _, hm, h => ⟨h.1, h.2.1, by rw [hm m List.mem_cons_self]; exact sc_Hc (fun x hx => hm x (List.mem_cons_of_mem _ hx)) h.2.2⟩
/-- the names of a binding form -/
theorem sc_N {i : Nat} (h1 : K i = 1) (h7 : 7 ≤ K (i + 1)) (h9 : K (i + 1) ≤ 9) (hS : gr_SH K V (sk_f K n) i) :
    ∃ c, c ≤ 4 ∧ ls_C K (sk_f K n) (i + 3) c ∧ (∀ m, gr_N K (sk_f K n) i m ↔ ∃ j, j < c ∧ m = sc_nm K (sk_f K n) i j) ∧ (K (i + 1) = 7 → gr_P K V (i + 2) c) ∧ (K (i + 1) ≠ 7 → 1 ≤ c) := by
  rcases gr_FSof hS h1 with ⟨k, l⟩ | ⟨k, l, k2, c, q⟩ | ⟨k, l, k2, c, c1, c4, lc, bb⟩ | ⟨k, l⟩ | ⟨k, c', c4, l⟩
  · omega
  · have lc : ls_C K (sk_f K n) (i + 3) c := gr_PC (n := n) q
    refine ⟨c, q.1, lc, fun m => ?_, fun _ => q, fun z => absurd k z⟩
    have e : ∀ j, j ≤ c → it_f (sk_f K n) j (i + 3) = i + 3 + j := fun j hj => gr_Pi q hj
    have en : ∀ j, sc_nm K (sk_f K n) i j = i + 3 + j := fun j => if_pos k
    unfold gr_N
    simp only [en]
    constructor
    · rintro ⟨_, ⟨_, hm⟩ | ⟨z, _⟩⟩
      · obtain ⟨j, hj, em⟩ := (ls_CM lc).mp hm
        exact ⟨j, hj, by rw [em, e j (by omega)]⟩
      · omega
    · rintro ⟨j, hj, em⟩
      exact ⟨h1, Or.inl ⟨k, (ls_CM lc).mpr ⟨j, hj, by rw [em, e j (by omega)]⟩⟩⟩
  · refine ⟨c, c4, lc, fun m => ?_, fun z => by omega, fun _ => c1⟩
    have en : ∀ j, sc_nm K (sk_f K n) i j = it_f (sk_f K n) j (i + 3) + 1 := fun j => if_neg (by omega)
    unfold gr_N
    simp only [en]
    constructor
    · rintro ⟨_, ⟨z, _⟩ | ⟨_, b, hb, em⟩⟩
      · omega
      · obtain ⟨j, hj, eb⟩ := (ls_CM lc).mp hb
        exact ⟨j, hj, by rw [em, eb]⟩
    · rintro ⟨j, hj, em⟩
      exact ⟨h1, Or.inr ⟨k, _, (ls_CM lc).mpr ⟨j, hj, rfl⟩, em⟩⟩
  · omega
  · omega
theorem sc_par {r : Nat → Int32} {par : Nat → Nat} (hB : ∀ i, i < n → K i ≠ 2 → dp_I K i (sk_f K n i)) (hn : ∀ i, n ≤ i → K i = 0) (W : rw_W K V (sk_f K n) n n r par) (hC : ∀ j, K j = 1 → 7 ≤ K (j + 1) → K (j + 1) ≤ 9 → r j = 1)
    {f i : Nat} (hf : r f = 1) (hfn : f < n) (hE : gr_E K (sk_f K n) f i) (hin : i < n) (x : Int32) :
    sc_B K V (sk_f K n) i x ↔ sc_B K V (sk_f K n) f x ∨ (7 ≤ K (f + 1) ∧ K (f + 1) ≤ 9 ∧ (∃ m, gr_N K (sk_f K n) f m ∧ V m = x) ∧ (K (f + 1) = 9 ∨ sk_f K n (f + 2) ≤ i)) := by
  have kn : ∀ j, K j ≠ 0 → j < n := fun j hj => by
    rcases Nat.lt_or_ge j n with z | z
    · exact z
    · exact absurd (hn j z) hj
  have hS := (W.2.1 f hfn hf).1
  have k1 := hE.1
  have hI := hB f hfn (by omega)
  have gi := gr_in hI hS (Or.inl hE)
  have gi1 := gi.2.1.1
  constructor
  · rintro ⟨j, hj, kj, k7, k9, hij, hm, hv⟩
    have jn := kn j (by omega)
    have hIj := hB j jn (by omega)
    have rj := hC j kj k7 k9
    have hSj := (W.2.1 j jn rj).1
    have g := gr_bind hIj kj k7 k9 hSj
    rcases Nat.lt_trichotomy j f with z | z | z
    · refine Or.inl ⟨j, z, kj, k7, k9, by omega, hm, ?_⟩
      rcases hv with hv | hv
      · exact Or.inl hv
      · refine Or.inr ?_
        rcases Nat.lt_or_ge f (sk_f K n (j + 2)) with y | y
        · exfalso
          by_cases y1 : f = j + 1
          · rw [← y1] at k7; omega
          · by_cases y2 : f = j + 2
            · rw [← y2] at hv; omega
            · have := dp_nest g.2.1 (show j + 2 < f by omega) y hI
              omega
        · exact y
    · subst z
      exact Or.inr ⟨k7, k9, hm, hv⟩
    · exfalso
      have d1 := hI.2.2 j z (by omega)
      have d2 := hIj.2.2 i hj hij
      obtain ⟨_, hE⟩ := hE
      rcases hE with ⟨q, hM⟩ | ⟨q, hM⟩ | ⟨q, q', e⟩ | ⟨q, b, hb, e⟩
      · have s2 := gr_s2 hI k1 (by omega)
        have := (ls_Min hI k1 s2.2 s2.1 hM).2.2.2
        omega
      · have := (ls_Min hI k1 (dp_L_r _) (dp_I_1 hI k1) hM).2.2.2
        omega
      · have gf := gr_bind hI k1 q q' hS
        have := gf.2.2.2.2
        rw [← e] at this
        omega
      · obtain ⟨m1, m2, m3, m4, m5, m6, m7, m8, m9⟩ := gr_bnd hI k1 q hS hb
        have gf := gr_bind hI k1 (by omega) (by omega) hS
        have b3 : K (f + 3) = 1 := by
          have := gr_bnd hI k1 q hS (ls_M_0 (ls_M_c hb).1)
          exact this.2.1
        by_cases y1 : j = f + 1
        · subst y1; omega
        · by_cases y2 : j = f + 2
          · subst y2
            rw [show f + 2 + 1 = f + 3 from rfl] at k7
            omega
          · by_cases y3 : j = b
            · subst y3; omega
            · by_cases y4 : j = b + 1
              · subst y4; omega
              · have e1 := gf.2.1.2.2 j (by omega) (by have := m4.1; omega)
                have e2 := hIj.2.2 b (by omega) (by omega)
                have e3 := dp_1 k1
                have e4 : dp_d K (f + 1 + 1) = dp_d K (f + 1) := dp_0 (by omega) (by omega)
                rw [show f + 1 + 1 = f + 2 from rfl] at e4
                omega
  · rintro (⟨j, hj, kj, k7, k9, hij, hm, hv⟩ | ⟨k7, k9, hm, hv⟩)
    · have jn := kn j (by omega)
      have hIj := hB j jn (by omega)
      have := dp_nest hIj hj hij hI
      exact ⟨j, by omega, kj, k7, k9, by omega, hm, by omega⟩
    · exact ⟨f, by omega, k1, k7, k9, by omega, hm, hv⟩
theorem sc_ch {at' : Nat} {r sc : Nat → Int32} {par : Nat → Nat} (hB : ∀ i, i < n → K i ≠ 2 → dp_I K i (sk_f K n i)) (hn : ∀ i, n ≤ i → K i = 0) (W : rw_W K V (sk_f K n) n n r par) (hC : ∀ j, K j = 1 → 7 ≤ K (j + 1) → K (j + 1) ≤ 9 → r j = 1)
    (h0 : sc 0 = -1) (hS : ∀ i, i < at' → i < n → r i = 1 → K i = 1 → sc_L K (sk_f K n) sc i) :
    ∀ d i, i ≤ d → i < n → i ≤ at' → r i = 1 → ∃ l, sc_H n sc l (sc i) ∧ l.length ≤ i ∧ (∀ m, m ∈ l → r m = 3 ∧ par m < i) ∧ ∀ x, (∃ m, m ∈ l ∧ V m = x) ↔ sc_B K V (sk_f K n) i x := by
  have zero : ∃ l, sc_H n sc l (sc 0) ∧ l.length ≤ 0 ∧ (∀ m, m ∈ l → r m = 3 ∧ par m < 0) ∧ ∀ x, (∃ m, m ∈ l ∧ V m = x) ↔ sc_B K V (sk_f K n) 0 x := by
    refine ⟨[], h0, Nat.le_refl _, fun m hm => absurd hm List.not_mem_nil, fun x => ⟨?_, ?_⟩⟩
    · rintro ⟨m, hm, _⟩; exact absurd hm List.not_mem_nil
    · rintro ⟨j, hj, _⟩; omega
  intro d
  induction d with
  | zero => intro i hi _ _ _; have : i = 0 := by omega
            subst this; exact zero
  | succ d ih =>
    intro i hi hin hat hr
    rcases W.2.2.2.1 i hin (by rw [hr]; decide) with z | ⟨z1, z2, z3, z4⟩
    · subst z; exact zero
    · have hE : r (par i) = 1 ∧ gr_E K (sk_f K n) (par i) i := by
        rcases z4 with ⟨a, ⟨_, b⟩ | ⟨b, _⟩ | ⟨b, _⟩⟩ | ⟨a, b, _⟩
        · exact ⟨a, b⟩
        · rw [hr] at b; exact absurd b (by decide)
        · rw [hr] at b; exact absurd b (by decide)
        · rw [hr] at b; exact absurd b (by decide)
      generalize hf : par i = f at *
      obtain ⟨l, hl, hlen, hrl, hmem⟩ := ih f (by omega) (by omega) (by omega) hE.1
      have hSf := (W.2.1 f (by omega) hE.1).1
      have k1 := hE.2.1
      have hI := hB f (by omega) (by omega)
      have L := hS f (by omega) (by omega) hE.1 k1
      have key := sc_par hB hn W hC hE.1 (by omega) hE.2 hin
      have bindc : 7 ≤ K (f + 1) → K (f + 1) ≤ 9 → (K (f + 1) = 9 ∨ sk_f K n (f + 2) ≤ i) → (∀ c, ls_C K (sk_f K n) (f + 3) c → sc i = sc_ls K (sk_f K n) sc f c) → ∃ l, sc_H n sc l (sc i) ∧ l.length ≤ i ∧ (∀ m, m ∈ l → r m = 3 ∧ par m < i) ∧ ∀ x, (∃ m, m ∈ l ∧ V m = x) ↔ sc_B K V (sk_f K n) i x := by
        intro k7 k9 hv hsc
        obtain ⟨c, c4, lc, hN, hP, hc1⟩ := sc_N k1 k7 k9 hSf
        have L2 := L.2 k7 k9 c lc
        have gb := gr_bind hI k1 k7 k9 hSf
        have hnm : ∀ j, j < c → sc_nm K (sk_f K n) f j < n := fun j hj => by
          have := gr_in hI hSf (Or.inr (Or.inr ((hN _).mpr ⟨j, hj, rfl⟩)))
          have t := this.2.1.1
          have := dp_le hn hI (by omega)
          omega
        refine ⟨sc_nl K (sk_f K n) f l c, ?_, ?_, fun m hm => ?_, fun x => ?_⟩
        · rw [hsc c lc]
          exact sc_nl_H hl L2.1 hnm c (Nat.le_refl _)
        · rw [sc_nl_len]
          by_cases y : K (f + 1) = 7
          · have q := hP y
            have := gr_Pa (n := n) gb.1 q
            rcases hv with hv | hv <;> omega
          · have : f + 5 ≤ i := by
              have b0 : ls_M K (sk_f K n) (f + 3) (f + 3) := (ls_CM lc).mpr ⟨0, hc1 y, rfl⟩
              obtain ⟨m1, m2, m3, m4, m5, m6, m7, m8, m9⟩ := gr_bnd hI k1 (by omega) hSf b0
              have := m5.1
              obtain ⟨_, q⟩ := hE.2
              rcases q with ⟨q, _⟩ | ⟨q, _⟩ | ⟨q, q', e⟩ | ⟨q, b, hb, e⟩
              · omega
              · omega
              · omega
              · have := (gr_bnd hI k1 q hSf hb).1
                omega
            omega
        · rcases sc_nl_m c m hm with ⟨j, hj, e⟩ | e
          · have q := (W.2.1 f (by omega) hE.1).2.2.2 m (e ▸ (hN _).mpr ⟨j, hj, rfl⟩)
            exact ⟨q.1, by omega⟩
          · have := hrl m e; exact ⟨this.1, by omega⟩
        · rw [sc_nl_mem, key x, hmem x]
          constructor
          · rintro (⟨j, hj, h⟩ | h)
            · exact Or.inr ⟨k7, k9, ⟨_, (hN _).mpr ⟨j, hj, rfl⟩, h⟩, hv⟩
            · exact Or.inl h
          · rintro (h | ⟨_, _, ⟨m, hm, h⟩, _⟩)
            · exact Or.inr h
            · obtain ⟨j, hj, e⟩ := (hN m).mp hm
              exact Or.inl ⟨j, hj, by rw [← e]; exact h⟩
      have same : sc i = sc f → (7 ≤ K (f + 1) → K (f + 1) ≤ 9 → ¬ (K (f + 1) = 9 ∨ sk_f K n (f + 2) ≤ i)) → ∃ l, sc_H n sc l (sc i) ∧ l.length ≤ i ∧ (∀ m, m ∈ l → r m = 3 ∧ par m < i) ∧ ∀ x, (∃ m, m ∈ l ∧ V m = x) ↔ sc_B K V (sk_f K n) i x := by
        intro e no
        refine ⟨l, by rw [e]; exact hl, by omega, fun m hm => ⟨(hrl m hm).1, by have := (hrl m hm).2; omega⟩, fun x => ?_⟩
        rw [key x, hmem x]
        exact ⟨Or.inl, fun h => h.elim id (fun h => absurd h.2.2.2 (no h.1 h.2.1))⟩
      have hE2 := hE.2
      obtain ⟨_, q⟩ := hE.2
      rcases q with ⟨q, _⟩ | ⟨q, _⟩ | ⟨q, q', e⟩ | ⟨q, b, hb, e⟩
      · exact same (L.1 (by omega) i hE2) (fun _ _ => by omega)
      · exact same (L.1 (by omega) i hE2) (fun _ _ => by omega)
      · exact bindc q q' (Or.inr (by omega)) (fun c lc => by rw [e]; exact (L.2 q q' c lc).2.1)
      · obtain ⟨c, c4, lc, hN, hP, hc1⟩ := sc_N k1 (by omega) (by omega) hSf
        have L2 := (L.2 (by omega) (by omega) c lc).2.2 (by omega)
        obtain ⟨j, hj, eb⟩ := (ls_CM lc).mp hb
        have L3 := L2 j hj
        rw [← eb, ← e] at L3
        by_cases y : K (f + 1) = 9
        · rw [if_pos y] at L3
          exact bindc (by omega) (by omega) (Or.inl y) (fun c' lc' => by rw [ls_C_u lc' lc]; exact L3)
        · rw [if_neg y] at L3
          refine same L3 (fun _ _ => ?_)
          obtain ⟨m1, m2, m3, m4, m5, m6, m7, m8, m9⟩ := gr_bnd hI k1 q hSf hb
          have := m5.1
          omega
end
