section
variable {yli yn ypr ygs ypo yhp yfs yvp yfu ysp ymd yac yst yrt ycu yhv : Int32} {ytk ytv yus ygk yga ygb yck yca ycb ycc yfp yfe yfS yfn yfb yvs yds : Nat → Int32} {ynk yna ynb ync : Nat} {n : Nat}
/-! the reference's small readers -/
theorem yt_t (H : tk_ok ytk n) {i : Nat} (hi : i < 2 ^ 31) {post : Int32 → Prop} (hp : post (nI (tk_K ytk n i))) : wpY_t post (yli, nI n, ypr, ygs, ypo, yhp, yfs, yvp, yfu, ysp, ymd, yac, yst, yrt, ycu, yhv, ytk, ytv, yus, ygk, yga, ygb, yck, yca, ycb, ycc, yfp, yfe, yfS, yfn, yfb, yvs, yds, ynk, yna, ynb, ync) (nI i) := by
  have H1 := H.1
  refine br_f (nI_pos hi) (pk_le n i (fun z => ?_) (fun z => ⟨tk_in H z, ?_⟩))
  · rw [tk_0 z] at hp; exact hp
  · rw [tk_c H z]; exact hp
theorem yt_v (H : tk_ok ytk n) {i : Nat} (hi : i < n) {post : Int32 → Prop} (hp : post (ytv i)) : wpY_v post (yli, nI n, ypr, ygs, ypo, yhp, yfs, yvp, yfu, ysp, ymd, yac, yst, yrt, ycu, yhv, ytk, ytv, yus, ygk, yga, ygb, yck, yca, ycb, ycc, yfp, yfe, yfS, yfn, yfb, yvs, yds, ynk, yna, ynb, ync) (nI i) := by
  have H1 := H.1
  refine br_f (nI_pos (by omega)) (pk_le n i (fun z => by omega) (fun z => ⟨tk_in H z, ?_⟩))
  rw [nI_clamp (by omega)]; exact hp
/-- a value read past the end is 0 -/
theorem yt_vv (H : tk_ok ytk n) {i : Nat} (hi : i < 2 ^ 31) {post : Int32 → Prop} (hp : ∀ x, (i < n → x = ytv i) → post x) : wpY_v post (yli, nI n, ypr, ygs, ypo, yhp, yfs, yvp, yfu, ysp, ymd, yac, yst, yrt, ycu, yhv, ytk, ytv, yus, ygk, yga, ygb, yck, yca, ycb, ycc, yfp, yfe, yfS, yfn, yfb, yvs, yds, ynk, yna, ynb, ync) (nI i) := by
  have H1 := H.1
  refine br_f (nI_pos (by omega)) (pk_le n i (fun z => hp 0 (fun w => by omega)) (fun z => ⟨tk_in H z, ?_⟩))
  rw [nI_clamp (by omega)]; exact hp _ (fun _ => rfl)
theorem yk_loop (H : tk_ok ytk n) {i : Nat} (hi : i < n) (k1 : tk_K ytk n i = 1) {post : Int32 → Prop} (hp : post (nI (sk_f (tk_K ytk n) n i))) :
    ∀ (d j e : Nat), j + d = n → i ≤ j → (e : Int) = dp_d (tk_K ytk n) j - dp_d (tk_K ytk n) i → (∀ m, i < m → m ≤ j → dp_d (tk_K ytk n) i < dp_d (tk_K ytk n) m) → wY_skip_17 post yli (nI n) ypr ygs ypo yhp yfs yvp yfu ysp ymd yac yst yrt ycu yhv ytk ytv yus ygk yga ygb yck yca ycb ycc yfp yfe yfS yfn yfb yvs yds ynk yna ynb ync (d + 1) (nI e) (nI j) := by
  have H1 := H.1
  intro d
  induction d with
  | zero =>
    intro j e ej hij he hm
    have en : j = n := by omega
    subst en
    refine pk_le j j (fun _ => ?_) (fun z => by omega)
    have no : ¬ ∃ j', dp_I (tk_K ytk j) i j' := by
      rintro ⟨j', h⟩
      have l := dp_le (K := tk_K ytk j) (n := j) (fun i => tk_0) h hi
      have := hm j' h.1 l
      have := h.2.1
      omega
    rw [sk_no no k1] at hp
    exact hp
  | succ d ih =>
    intro j e ej hij he hm
    have hj : j < n := by omega
    refine pk_le n j (fun z => by omega) (fun _ => ⟨tk_in H hj, tk_b H hj 1 (fun k => nm_r (nI_1 e) ⟨tk_in H hj, tk_b H hj 2 (fun z => by omega) (fun _ => nm_r (nI_1 j) (ih (j + 1) (e + 1) (by omega) (by omega) ?_ ?_))⟩) (fun k => ⟨tk_in H hj, tk_b H hj 2 (fun k2 => ?_) (fun k2 => nm_r (nI_1 j) (ih (j + 1) e (by omega) (by omega) ?_ ?_))⟩)⟩)
    · have := dp_1 k; omega
    · intro m m1 m2
      by_cases z : m = j + 1
      · have := dp_1 k; subst z; omega
      · exact hm m m1 (by omega)
    · have d2 := dp_2 k2
      have ne : i ≠ j := fun z => by subst z; omega
      have hjj := hm j (by omega) (by omega)
      cases e with
      | zero => omega
      | succ e =>
        refine nm_r (pk_m1 e) (pk_eq e 0 (fun z => ?_) (fun z => nm_r (nI_1 j) (ih (j + 1) e (by omega) (by omega) (by omega) (fun m m1 m2 => ?_))) rfl rfl ?_)
        · rw [nI_1]
          have I : dp_I (tk_K ytk n) i (j + 1) := ⟨by omega, by omega, fun m m1 m2 => hm m m1 (by omega)⟩
          rw [sk_I I] at hp
          exact hp
        · by_cases y : m = j + 1
          · subst y; omega
          · exact hm m m1 (by omega)
        · have b : ∀ j, dp_d (tk_K ytk n) j ≤ j := by
            intro j
            induction j with
            | zero => exact Int.le_refl _
            | succ j ih => have := (dp_s (K := (tk_K ytk n)) j).2; omega
          have b2 : ∀ j : Nat, -(j : Int) ≤ dp_d (tk_K ytk n) j := by
            intro j
            induction j with
            | zero => exact Int.le_refl _
            | succ j ih => have := (dp_s (K := (tk_K ytk n)) j).1; omega
          have := b j
          have := b2 i
          omega
    · have := dp_0 k k2; omega
    · intro m m1 m2
      by_cases z : m = j + 1
      · have := dp_0 k k2
        subst z
        by_cases y : j = i
        · subst y; omega
        · have := hm j (by omega) (by omega); omega
      · exact hm m m1 (by omega)
theorem yk_skip (H : tk_ok ytk n) {i : Nat} (hi : i < 2 ^ 30) {post : Int32 → Prop} (hp : post (nI (sk_f (tk_K ytk n) n i))) : wpY_skip post (yli, nI n, ypr, ygs, ypo, yhp, yfs, yvp, yfu, ysp, ymd, yac, yst, yrt, ycu, yhv, ytk, ytv, yus, ygk, yga, ygb, yck, yca, ycb, ycc, yfp, yfe, yfS, yfn, yfb, yvs, yds, ynk, yna, ynb, ync) (nI i) := by
  have H1 := H.1
  have k20 := tk_20 H i
  unfold wpY_skip
  dsimp only
  refine yt_t (i := i) H (by omega) (pk_eq (tk_K ytk n i) 1 (fun k => ?_) (fun k => ?_))
  · have hn : i < n := tk_lt (tk := ytk) (by omega)
    exact ⟨_, yk_loop H hn k hp (n - i) i 0 (by omega) (Nat.le_refl _) (by omega) (fun m m1 m2 => by omega)⟩
  · rw [nI_1]
    rw [sk_at k] at hp
    exact hp
theorem yd_loop (H : tk_ok ytk n) {st s : Nat} (hs : s < n) (hs0 : 1 ≤ s) (hst : st < 2 ^ 20) {post : Int32 → Prop} (h1 : gr_dup ytv (sk_f (tk_K ytk n) n) st s → post 1) (h0 : ¬ gr_dup ytv (sk_f (tk_K ytk n) n) st s → post 0) :
    ∀ d k, k + d = 4 → (∀ k', k' < k → it_f (sk_f (tk_K ytk n) n) k' (st + 1) < s - 1 ∧ ytv (it_f (sk_f (tk_K ytk n) n) k' (st + 1) + 1) ≠ ytv s) → it_f (sk_f (tk_K ytk n) n) k (st + 1) < 2 ^ 25 → wY_dupBind_7 post (nI s) yli (nI n) ypr ygs ypo yhp yfs yvp yfu ysp ymd yac yst yrt ycu yhv ytk ytv yus ygk yga ygb yck yca ycb ycc yfp yfe yfS yfn yfb yvs yds ynk yna ynb ync (d + 1) (nI (it_f (sk_f (tk_K ytk n) n) k (st + 1))) (nI k) := by
  have H1 := H.1
  intro d
  induction d with
  | zero =>
    intro k e hk hb
    refine pk_le 4 k (fun _ => h0 ?_) (fun z => by omega)
    rintro ⟨k0, a, b, c⟩
    exact (hk k0 (by omega)).2 c
  | succ d ih =>
    intro k e hk hb
    refine pk_le 4 k (fun z => by omega) (fun _ => ?_)
    rw [ni_m hs0]
    refine pk_le (s - 1) (it_f (sk_f (tk_K ytk n) n) k (st + 1)) (fun z => h0 ?_) (fun z => ?_)
    · rintro ⟨k0, a, b, c⟩
      rcases Nat.lt_or_ge k0 k with y | y
      · exact (hk k0 y).2 c
      · have := b k y; omega
    · rw [nI_1 (it_f (sk_f (tk_K ytk n) n) k (st + 1))]
      refine yt_v (i := it_f (sk_f (tk_K ytk n) n) k (st + 1) + 1) H (by omega) (yt_v (i := s) H hs ?_)
      by_cases ev : ytv (it_f (sk_f (tk_K ytk n) n) k (st + 1) + 1) = ytv s
      · refine br_t ev (h1 ⟨k, by omega, fun k' h' => ?_, ev⟩)
        by_cases y : k' = k
        · subst y; exact z
        · exact (hk k' (by omega)).1
      · refine br_f ev (yk_skip (i := it_f (sk_f (tk_K ytk n) n) k (st + 1)) H (by omega) (nm_r (nI_1 k) ?_))
        have nx : sk_f (tk_K ytk n) n (it_f (sk_f (tk_K ytk n) n) k (st + 1)) < 2 ^ 25 := by
          by_cases ex : ∃ j, dp_I (tk_K ytk n) (it_f (sk_f (tk_K ytk n) n) k (st + 1)) j
          · obtain ⟨j, hj⟩ := ex
            rw [sk_I hj]
            have := dp_le (K := (tk_K ytk n)) (n := n) (fun i => tk_0) hj (by omega)
            omega
          · by_cases k1 : tk_K ytk n (it_f (sk_f (tk_K ytk n) n) k (st + 1)) = 1
            · rw [sk_no ex k1]; omega
            · rw [sk_at k1]; omega
        have := ih (k + 1) (by omega) (fun k' h' => ?_) (by rw [it_s]; exact nx)
        · rw [it_s] at this; exact this
        · by_cases y : k' = k
          · subst y; exact ⟨z, ev⟩
          · exact hk k' (by omega)
theorem yd_dup (H : tk_ok ytk n) {st s : Nat} (hs : s < n) (hs0 : 1 ≤ s) (hst : st < 2 ^ 20) {post : Int32 → Prop} (h1 : gr_dup ytv (sk_f (tk_K ytk n) n) st s → post 1) (h0 : ¬ gr_dup ytv (sk_f (tk_K ytk n) n) st s → post 0) : wpY_dupBind post (yli, nI n, ypr, ygs, ypo, yhp, yfs, yvp, yfu, ysp, ymd, yac, yst, yrt, ycu, yhv, ytk, ytv, yus, ygk, yga, ygb, yck, yca, ycb, ycc, yfp, yfe, yfS, yfn, yfb, yvs, yds, ynk, yna, ynb, ync) (nI st) (nI s) :=
  nm_r (nI_1 st) ⟨5, yd_loop H hs hs0 hst h1 h0 4 0 (by omega) (fun k hk => by omega) (show st + 1 < 2 ^ 25 by omega)⟩
theorem yq_in (H : tk_ok ytk n) {q x : Nat} (hx : q + 1 + x < n) {post : Int32 → Prop} {J : Int32 → Prop} (hJ : (∀ j, j < x → ytv (q + 1 + j) ≠ ytv (q + 1 + x)) → J (nI (q + 1 + x + 1))) (h0 : (∃ j, j < x ∧ ytv (q + 1 + j) = ytv (q + 1 + x)) → post (-1)) :
    ∀ d m, m + d = x → (∀ j, j < m → ytv (q + 1 + j) ≠ ytv (q + 1 + x)) → wY_params_50 post J (nI q) (nI (q + 1 + x)) yli (nI n) ypr ygs ypo yhp yfs yvp yfu ysp ymd yac yst yrt ycu yhv ytk ytv yus ygk yga ygb yck yca ycb ycc yfp yfe yfS yfn yfb yvs yds ynk yna ynb ync (d + 1) (nI (q + 1 + m)) := by
  have H1 := H.1
  intro d
  induction d with
  | zero =>
    intro m e hm
    have ex : m = x := by omega
    subst ex
    exact pk_le (q + 1 + m) (q + 1 + m) (fun _ => nm_r (nI_1 _) (hJ hm)) (fun z => by omega)
  | succ d ih =>
    intro m e hm
    refine pk_le (q + 1 + x) (q + 1 + m) (fun z => by omega) (fun _ => ⟨tk_in H (by omega), tk_in H hx, ?_⟩)
    rw [nI_clamp (by omega), nI_clamp (by omega)]
    by_cases ev : ytv (q + 1 + m) = ytv (q + 1 + x)
    · exact br_t ev (h0 ⟨m, by omega, ev⟩)
    · refine br_f ev (nm_r (nI_1 _) (ih (m + 1) (by omega) (fun j hj => ?_)))
      by_cases z : j = m
      · subst z; exact ev
      · exact hm j (by omega)
theorem yq_loop (H : tk_ok ytk n) {q : Nat} (hq : q < 2 ^ 20) {post : Int32 → Prop} (h1 : ∀ c, gr_P (tk_K ytk n) ytv q c → post (nI (q + 2 + c))) (h0 : (¬ ∃ c, gr_P (tk_K ytk n) ytv q c) → post (-1)) :
    ∀ d x, x + d = 5 → (∀ j, j < x → tk_K ytk n (q + 1 + j) = 4) → (∀ j j', j < j' → j' < x → ytv (q + 1 + j) ≠ ytv (q + 1 + j')) → wY_params_15 post (nI q) yli (nI n) ypr ygs ypo yhp yfs yvp yfu ysp ymd yac yst yrt ycu yhv ytk ytv yus ygk yga ygb yck yca ycb ycc yfp yfe yfS yfn yfb yvs yds ynk yna ynb ync (d + 1) (nI (q + 1 + x)) := by
  have H1 := H.1
  intro d
  induction d with
  | zero =>
    intro x e hk hd
    refine pk_lt (q + 5) (q + 1 + x) (fun _ => h0 ?_) (fun z => by omega) (ni_5 q)
    rintro ⟨c, P⟩
    have := P.1
    have := hk c (by omega)
    have := P.2.2.1
    omega
  | succ d ih =>
    intro x e hk hd
    have k20 := tk_20 H (q + 1 + x)
    have ge : ∀ c, gr_P (tk_K ytk n) ytv q c → x ≤ c := fun c P => by
      rcases Nat.lt_or_ge c x with z | z
      · have := hk c z; have := P.2.2.1; omega
      · exact z
    refine pk_lt (q + 5) (q + 1 + x) (fun z => by omega) (fun _ => yt_t (i := q + 1 + x) H (by omega) (pk_eq (tk_K ytk n (q + 1 + x)) 2 (fun k2 => ?_) (fun k2 => yt_t (i := q + 1 + x) H (by omega) (pk_eq (tk_K ytk n (q + 1 + x)) 4 (fun k4 => nm_r (nI_1 q) ⟨x + 1, ?_⟩) (fun k4 => h0 ?_))))) (ni_5 q)
    · rw [nI_1]
      have := h1 x ⟨by omega, hk, k2, hd⟩
      rw [show q + 2 + x = q + 1 + x + 1 from by omega] at this
      exact this
    · have hx : q + 1 + x < n := tk_lt (tk := ytk) (by omega)
      refine yq_in H hx (fun w => ih (x + 1) (by omega) (fun j hj => ?_) (fun j j' a b => ?_)) (fun w => h0 ?_) x 0 (by omega) (fun j hj => by omega)
      · by_cases z : j = x
        · subst z; exact k4
        · exact hk j (by omega)
      · by_cases z : j' = x
        · subst z; exact w j a
        · exact hd j j' a (by omega)
      · rintro ⟨c, P⟩
        obtain ⟨j, hj, ev⟩ := w
        have := ge c P
        have hc : x < c := by
          rcases Nat.lt_or_ge x c with y | y
          · exact y
          · have : c = x := by omega
            subst this; exact absurd P.2.2.1 k2
        exact P.2.2.2 j x hj hc ev
    · rintro ⟨c, P⟩
      have := ge c P
      have hc : x < c := by
        rcases Nat.lt_or_ge x c with y | y
        · exact y
        · have : c = x := by omega
          subst this; exact absurd P.2.2.1 k2
      exact k4 (P.2.1 x hc)
theorem yq_params (H : tk_ok ytk n) {q : Nat} (hq : q < 2 ^ 20) {post : Int32 → Prop} (h1 : ∀ c, tk_K ytk n q = 1 → gr_P (tk_K ytk n) ytv q c → post (nI (q + 2 + c))) (h0 : (¬ (tk_K ytk n q = 1 ∧ ∃ c, gr_P (tk_K ytk n) ytv q c)) → post (-1)) : wpY_params post (yli, nI n, ypr, ygs, ypo, yhp, yfs, yvp, yfu, ysp, ymd, yac, yst, yrt, ycu, yhv, ytk, ytv, yus, ygk, yga, ygb, yck, yca, ycb, ycc, yfp, yfe, yfS, yfn, yfb, yvs, yds, ynk, yna, ynb, ync) (nI q) := by
  have k20 := tk_20 H q
  unfold wpY_params
  dsimp only
  refine yt_t (i := q) H (by omega) (pk_eq (tk_K ytk n q) 1 (fun k => nm_r (nI_1 q) ⟨6, ?_⟩) (fun k => h0 (fun w => k w.1)))
  exact yq_loop H hq (fun c P => h1 c k P) (fun w => h0 (fun z => w z.2)) 5 0 (by omega) (fun j hj => by omega) (fun j j' _ hj => by omega)
end
