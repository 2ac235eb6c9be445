/-! the frames of a run, and what is counted -/
def fp_W (K a : Nat → Nat) (R sc : Nat → Int32) (n : Nat) (nm : Nat → Nat) (cc : Nat) (ff fp fe fb : Nat → Int32) (x b k q : Nat) : Prop :=
  q < n ∧ R q = 1 ∧ K q = 1 ∧ ff x = nI q ∧ fb x = nI b ∧ hp_E nm cc (fe x) (sc q) ∧
   ((K (q + 1) = 10 ∧ k = 0 ∧ fp x = nI (q + 2)) ∨
    (11 ≤ K (q + 1) ∧ k < gr_n (K (q + 1)) ∧ fp x = nI (it_f a k (q + 2))) ∨
    (K (q + 1) = 8 ∧ (∃ c, ls_C K a (q + 3) c ∧ k < c) ∧ fp x = nI (it_f a k (q + 3) + 2)) ∨
    (K (q + 1) < 6 ∧ ∃ c, ls_C K a (q + 1) (c + 1) ∧ ((k < c ∧ fp x = nI (it_f a (k + 1) (q + 1))) ∨ (k = c ∧ fp x = nI (q + 1)))))
def fp_R (K a : Nat → Nat) (R sc : Nat → Int32) (n : Nat) (nm : Nat → Nat) (cc : Nat) (ff fp fe fb : Nat → Int32) : Nat → Nat → Nat → Prop
  | 0, o, u => o = 0 ∧ u = 0
  | x + 1, o, u => (fp x = -1 ∧ fp_R K a R sc n nm cc ff fp fe fb x o u) ∨
    (∃ b k u' q, u = u' + 1 ∧ o = b + k ∧ fp_W K a R sc n nm cc ff fp fe fb x b k q ∧ fp_R K a R sc n nm cc ff fp fe fb x b u')
section
variable {K a : Nat → Nat} {R sc : Nat → Int32} {n : Nat} {nm nm' : Nat → Nat} {cc cc' : Nat} {ff fp fe fb ff' fp' fe' fb' : Nat → Int32}
theorem fp_Wk {x b k q : Nat} (hc : cc ≤ cc') (hg : ∀ i, i < cc → nm' i = nm i) (hx : ff' x = ff x ∧ fp' x = fp x ∧ fe' x = fe x ∧ fb' x = fb x)
    (h : fp_W K a R sc n nm cc ff fp fe fb x b k q) : fp_W K a R sc n nm' cc' ff' fp' fe' fb' x b k q := by
  unfold fp_W at h ⊢
  rw [hx.1, hx.2.1, hx.2.2.1, hx.2.2.2]
  obtain ⟨h1, h2, h3, h4, h6, h8, h9⟩ := h
  exact ⟨h1, h2, h3, h4, h6, hp_Em hc hg h8, h9⟩
theorem fp_k (hc : cc ≤ cc') (hg : ∀ i, i < cc → nm' i = nm i) : ∀ {x o u : Nat}, (∀ i, i < x → ff' i = ff i ∧ fp' i = fp i ∧ fe' i = fe i ∧ fb' i = fb i) →
    fp_R K a R sc n nm cc ff fp fe fb x o u → fp_R K a R sc n nm' cc' ff' fp' fe' fb' x o u
  | 0, _, _, _, h => h
  | x + 1, o, u, hx, h => by
    rcases h with ⟨h1, h2⟩ | ⟨b, k, u', q', e2, e3, h1, h2⟩
    · exact Or.inl ⟨(hx x (by omega)).2.1.trans h1, fp_k hc hg (fun i hi => hx i (by omega)) h2⟩
    · exact Or.inr ⟨b, k, u', q', e2, e3, fp_Wk hc hg (hx x (by omega)) h1, fp_k hc hg (fun i hi => hx i (by omega)) h2⟩
end
def vo_R (VP : Nat → Prop) (op : Nat → Int32) (oc : Nat) : Prop := ∀ k, k < oc → ∃ a, op k = nI a ∧ VP a
theorem vo_m {VP VP' : Nat → Prop} {op op' : Nat → Int32} {oc : Nat} (hV : ∀ a, VP a → VP' a) (h1 : ∀ k, k < oc → op' k = op k) (h : vo_R VP op oc) : vo_R VP' op' oc := fun k hk => by
  obtain ⟨a, e1, v⟩ := h k hk
  exact ⟨a, (h1 k hk).trans e1, hV _ v⟩
theorem vo_s {VP VP' : Nat → Prop} {op : Nat → Int32} {oc a : Nat} (hV : ∀ a, VP a → VP' a) (v : VP' a) (h : vo_R VP op oc) : vo_R VP' (upd op oc (nI a)) (oc + 1) := fun k hk => by
  by_cases z : k = oc
  · subst z; exact ⟨a, pk_us, v⟩
  · obtain ⟨a', e1, v'⟩ := h k (by omega)
    exact ⟨a', (pk_un z).trans e1, hV _ v'⟩
theorem vo_l {VP : Nat → Prop} {op : Nat → Int32} {oc oc' : Nat} (hl : oc' ≤ oc) (h : vo_R VP op oc) : vo_R VP op oc' := fun k hk => h k (by omega)
def sn_N (vc cc fc oc u s t ans : Nat) : Prop := vc + u ≤ 128 + s ∧ 128 ≤ vc ∧ cc + oc + fc + ans ≤ s ∧ t + ans + fc ≤ 2 * s ∧ s ≤ 400 ∧ ans ≤ 1
/-- the walk to a name's cell -/
theorem hp_walk {K : Nat → Nat} {R sc : Nat → Int32} {n : Nat} {VP : Nat → Prop} {nm : Nat → Nat} {vc cc lo : Nat} {vk vf vs cv co : Nat → Int32} (hn : n ≤ 64) (hcc : cc ≤ 404) (B : hp_B K R sc n VP nm vc cc lo vk vf vs cv co) :
    ∀ (l : List Nat) (h : Nat) (c s' : Int32), sc_H n sc l s' → h < l.length → hp_E nm cc c s' → ∃ i, i < cc ∧ ∀ co' : Nat → Int32, (∀ c, c < cc → co' c = co c) → xh_W co' h c i
  | [], _, _, _, _, hF, _ => absurd hF (by simp)
  | m :: l, h, c, s', hH, hF, hE => by
    obtain ⟨e1, hm, hH⟩ := hH
    rcases hE with ⟨_, z⟩ | ⟨i, hi, ec, es⟩
    · rw [e1] at z
      exact absurd z (ni_nm1 (by omega))
    · have hC := B.2.1 i hi
      have h2 := hC.1
      have emi : m = nm i := by
        rw [e1] at es
        exact (nI_eq (by omega) (by omega)).mp es
      cases h with
      | zero => exact ⟨i, hi, fun _ _ => ec⟩
      | succ h' =>
        have hE2 := hC.2.1
        rw [← emi] at hE2
        obtain ⟨i', hi', w1⟩ := hp_walk hn hcc B l h' (co i) (sc m) hH (by simp only [List.length_cons] at hF; omega) hE2
        exact ⟨i', hi', fun co' hco => ⟨i, ec, by omega, by rw [hco i hi]; exact w1 co' hco⟩⟩
