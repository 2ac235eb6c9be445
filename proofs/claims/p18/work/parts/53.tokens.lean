/-! the tokens that the law hands over, the last first: kind and value -/
def tq_k : List (Nat × Int32) → Nat → Int32
  | [] => fun _ => 0
  | (k, _) :: l => upd (tq_k l) l.length (nI k)
def tq_v : List (Nat × Int32) → Nat → Int32
  | [] => fun _ => 0
  | (_, v) :: l => upd (tq_v l) l.length v
/-- kinds, and names where they are names -/
def tq_M : List (Nat × Int32) → List (Nat × Nat) → Prop
  | [], [] => True
  | (k, v) :: l, (k', v') :: c => k = k' ∧ (k' = 4 → v = nI v') ∧ tq_M l c
  | _, _ => False
theorem tq_MS : ∀ {l : List (Nat × Int32)} {c : List (Nat × Nat)}, tq_M l c → ∀ i, i < l.length → tq_k l i = nI (ck_g c (l.length - 1 - i)).1 ∧ ((ck_g c (l.length - 1 - i)).1 = 4 → tq_v l i = nI (ck_g c (l.length - 1 - i)).2)
  | [], _, _, i, hi => by simp at hi
  | (k, v) :: l, [], h, i, hi => False.elim h
  | (k, v) :: l, (k', v') :: c, h, i, hi => by
    obtain ⟨e, hv, h⟩ := h
    subst e
    have ih := tq_MS h
    simp only [List.length_cons] at hi ⊢
    by_cases z : i = l.length
    · subst z
      rw [show l.length + 1 - 1 - l.length = 0 from by omega]
      exact ⟨pk_us, fun w => pk_us.trans (hv w)⟩
    · rw [show l.length + 1 - 1 - i = l.length - 1 - i + 1 from by omega]
      have q := ih i (by omega)
      exact ⟨(pk_un z).trans q.1, fun w => (pk_un z).trans (q.2 w)⟩
section
variable {xdl xtn xpp xvc xcc xfc xoc xag xan xex xen xfl xac xst xsp xmd xrt xcu : Int32} {xtk xtv xaf xro xsc xho xvk xvf xvs xcv xco xff xfp xfe xfb xop : Nat → Int32} {n : Nat}
theorem tq_55 {z0 : Int32} (hn : n < 64) {post : Int32 → SX → Prop} (h : post 1 (xdl, nI (n + 1), 0, xvc, xcc, xfc, xoc, xag, xan, xex, xen, xfl, xac, -1, 0, 0, -1, -1, xtk, upd xtv n z0, xaf, xro, xsc, xho, xvk, xvf, xvs, xcv, xco, xff, xfp, xfe, xfb, xop)) : wX_token_55 post z0 (nI n) xdl (nI n) xpp xvc xcc xfc xoc xag xan xex xen xfl xac xst xsp xmd xrt xcu xtk xtv xaf xro xsc xho xvk xvf xvs xcv xco xff xfp xfe xfb xop := by
  have hc : (nI n).toNatClampNeg = n := nI_clamp (by omega)
  exact ⟨vp_in_nI hn (by omega), nm_r (show upd xtv (nI n).toNatClampNeg z0 = upd xtv n z0 from by rw [hc]) (nm_r (nI_1 n) h)⟩
theorem tq_tok {k : Nat} {v1 v2 z : Int32} (hn : n < 64) (hk : v1 = nI k) (k1 : 1 ≤ k) (k20 : k ≤ 20) (hz : ((k = 3 ∨ k = 4) ∧ z = v2) ∨ (¬ (k = 3 ∨ k = 4) ∧ z = 0)) {post : Int32 → SX → Prop}
    (h : post 1 (xdl, nI (n + 1), 0, xvc, xcc, xfc, xoc, xag, xan, xex, xen, xfl, xac, -1, 0, 0, -1, -1, upd xtk n v1, upd xtv n z, xaf, xro, xsc, xho, xvk, xvf, xvs, xcv, xco, xff, xfp, xfe, xfb, xop)) : wpX_token post (xdl, nI n, xpp, xvc, xcc, xfc, xoc, xag, xan, xex, xen, xfl, xac, xst, xsp, xmd, xrt, xcu, xtk, xtv, xaf, xro, xsc, xho, xvk, xvf, xvs, xcv, xco, xff, xfp, xfe, xfb, xop) v1 v2 := by
  have a : ¬ v1 < 1 := by
    rw [hk]
    exact fun w => absurd ((nI_ltI (b := 1) (by omega) (by omega)).mp w) (by omega)
  have b : ¬ 20 < v1 := by
    rw [hk]
    exact fun w => absurd ((nI_ltI (a := 20) (by omega) (by omega)).mp w) (by omega)
  have hlt : nI n < 64 := (nI_ltI (b := 64) (by omega) (by omega)).mpr hn
  have hc : (nI n).toNatClampNeg = n := nI_clamp (by omega)
  refine br_f a (br_f b (br_t hlt ⟨vp_in_nI hn (by omega), nm_r (show upd xtk (nI n).toNatClampNeg v1 = upd xtk n v1 from by rw [hc]) ?_⟩))
  have e3 : v1 = 3 → k = 3 := fun e => by
    rw [hk] at e
    exact (nI_eq (b := 3) (by omega) (by omega)).mp e
  have e4 : v1 = 4 → k = 4 := fun e => by
    rw [hk] at e
    exact (nI_eq (b := 4) (by omega) (by omega)).mp e
  rcases hz with ⟨k34, hz⟩ | ⟨k34, hz⟩
  · subst hz
    by_cases k3 : v1 = 3
    · exact br_t k3 (tq_55 (xtk := upd xtk n v1) hn h)
    · have k4 : v1 = 4 := by
        rcases k34 with k34 | k34
        · rw [k34] at hk; exact absurd hk k3
        · rw [k34] at hk; exact hk
      exact br_f k3 (br_t k4 (tq_55 (xtk := upd xtk n v1) hn h))
  · subst hz
    exact br_f (fun e => k34 (Or.inl (e3 e))) (br_f (fun e => k34 (Or.inr (e4 e))) (tq_55 (xtk := upd xtk n v1) hn h))
/-- one token more -/
theorem tq_a {l : List (Nat × Int32)} (k : Nat) (z : Int32) {v1 v2 : Int32} (hl : l.length = n) (hn : n < 64) (hk : v1 = nI k) (k1 : 1 ≤ k) (k20 : k ≤ 20) (hz : ((k = 3 ∨ k = 4) ∧ z = v2) ∨ (¬ (k = 3 ∨ k = 4) ∧ z = 0)) {post : Int32 → SX → Prop}
    (h : post 1 (xdl, nI (n + 1), 0, xvc, xcc, xfc, xoc, xag, xan, xex, xen, xfl, xac, -1, 0, 0, -1, -1, tq_k ((k, z) :: l), tq_v ((k, z) :: l), xaf, xro, xsc, xho, xvk, xvf, xvs, xcv, xco, xff, xfp, xfe, xfb, xop)) : wpX_token post (xdl, nI n, xpp, xvc, xcc, xfc, xoc, xag, xan, xex, xen, xfl, xac, xst, xsp, xmd, xrt, xcu, tq_k l, tq_v l, xaf, xro, xsc, xho, xvk, xvf, xvs, xcv, xco, xff, xfp, xfe, xfb, xop) v1 v2 := by
  subst hl
  subst hk
  exact tq_tok hn rfl k1 k20 hz h
/-- a paren, a keyword -/
theorem tq_p {l : List (Nat × Int32)} (k : Nat) {v1 v2 : Int32} (hl : l.length = n) (hn : n < 64) (hk : v1 = nI k) (k1 : 1 ≤ k) (k20 : k ≤ 20) (hz : ¬ (k = 3 ∨ k = 4)) {post : Int32 → SX → Prop}
    (h : post 1 (xdl, nI (n + 1), 0, xvc, xcc, xfc, xoc, xag, xan, xex, xen, xfl, xac, -1, 0, 0, -1, -1, tq_k ((k, 0) :: l), tq_v ((k, 0) :: l), xaf, xro, xsc, xho, xvk, xvf, xvs, xcv, xco, xff, xfp, xfe, xfb, xop)) : wpX_token post (xdl, nI n, xpp, xvc, xcc, xfc, xoc, xag, xan, xex, xen, xfl, xac, xst, xsp, xmd, xrt, xcu, tq_k l, tq_v l, xaf, xro, xsc, xho, xvk, xvf, xvs, xcv, xco, xff, xfp, xfe, xfb, xop) v1 v2 :=
  tq_a k 0 hl hn hk k1 k20 (Or.inr ⟨hz, rfl⟩) h
theorem tq_n {l : List (Nat × Int32)} {v2 : Int32} (hl : l.length = n) (hn : n < 64) {post : Int32 → SX → Prop}
    (h : post 1 (xdl, nI (n + 1), 0, xvc, xcc, xfc, xoc, xag, xan, xex, xen, xfl, xac, -1, 0, 0, -1, -1, tq_k ((3, v2) :: l), tq_v ((3, v2) :: l), xaf, xro, xsc, xho, xvk, xvf, xvs, xcv, xco, xff, xfp, xfe, xfb, xop)) : wpX_token post (xdl, nI n, xpp, xvc, xcc, xfc, xoc, xag, xan, xex, xen, xfl, xac, xst, xsp, xmd, xrt, xcu, tq_k l, tq_v l, xaf, xro, xsc, xho, xvk, xvf, xvs, xcv, xco, xff, xfp, xfe, xfb, xop) 3 v2 :=
  tq_a 3 v2 hl hn rfl (by omega) (by omega) (Or.inl ⟨Or.inl rfl, rfl⟩) h
theorem tq_s {l : List (Nat × Int32)} {v2 : Int32} (hl : l.length = n) (hn : n < 64) {post : Int32 → SX → Prop}
    (h : post 1 (xdl, nI (n + 1), 0, xvc, xcc, xfc, xoc, xag, xan, xex, xen, xfl, xac, -1, 0, 0, -1, -1, tq_k ((4, v2) :: l), tq_v ((4, v2) :: l), xaf, xro, xsc, xho, xvk, xvf, xvs, xcv, xco, xff, xfp, xfe, xfb, xop)) : wpX_token post (xdl, nI n, xpp, xvc, xcc, xfc, xoc, xag, xan, xex, xen, xfl, xac, xst, xsp, xmd, xrt, xcu, tq_k l, tq_v l, xaf, xro, xsc, xho, xvk, xvf, xvs, xcv, xco, xff, xfp, xfe, xfb, xop) 4 v2 :=
  tq_a 4 v2 hl hn rfl (by omega) (by omega) (Or.inl ⟨Or.inr rfl, rfl⟩) h
/-- they compile -/
theorem tq_comp {l : List (Nat × Int32)} {c : List (Nat × Nat)} {t : List Nat} (M : tq_M l c) (hl : l.length = n) (hT : ck_T c t n = true) {post : Int32 → SX → Prop}
    (h : ∀ u', dq_OK xdl (tq_k l) (tq_v l) n u' → post 0 u') : wpX_compile post (xdl, nI n, xpp, xvc, xcc, xfc, xoc, xag, xan, xex, xen, xfl, xac, xst, xsp, xmd, xrt, xcu, tq_k l, tq_v l, xaf, xro, xsc, xho, xvk, xvf, xvs, xcv, xco, xff, xfp, xfe, xfb, xop) := by
  have S := tq_MS M
  rw [hl] at S
  have e : ∀ i, i < n → ck_k c n i = (ck_g c (n - 1 - i)).1 := fun i hi => if_pos hi
  refine cq_comp hT (fun i hi => by rw [e i hi]; exact (S i hi).1) (fun i hi h4 => (S i hi).2 (by rw [← e i hi]; exact h4)) (fun af ro sc ho vk vf vs C => h _ ⟨_, _, _, _, _, _, _, _, _, _, _, _, _, _, _,  _, _, _, _, _, _, _, _, _, _, _, _, _, _,  rfl, C⟩)
theorem tq_ok {l : List (Nat × Int32)} {c : List (Nat × Nat)} {t : List Nat} (M : tq_M l c) (hl : l.length = n) (hT : ck_T c t n = true) : tk_ok (tq_k l) n := by
  have S := tq_MS M
  rw [hl] at S
  have e : ∀ i, i < n → ck_k c n i = (ck_g c (n - 1 - i)).1 := fun i hi => if_pos hi
  exact (ck_TS hT (tv := tq_v l) (fun i hi => by rw [e i hi]; exact (S i hi).1) (fun i hi h4 => (S i hi).2 (by rw [← e i hi]; exact h4))).1
end
def tp_O (o : Nat) : Prop := o = 11 ∨ o = 15 ∨ o = 16 ∨ o = 17 ∨ o = 18 ∨ o = 19 ∨ o = 20
def tp_0 (o zz : Nat) : List (Nat × Nat) := [(2, 0), (2, 0), (3, 0), (4, 101), (1, 0), (2, 0), (2, 0), (2, 0), (2, 0), (2, 0), (2, 0), (2, 0), (3, 0), (4, 102), (16, 0), (1, 0), (4, 101), (1, 0), (4, 102), (o, 0), (1, 0), (zz, 0), (2, 0), (3, 0), (4, 102), (20, 0), (1, 0), (10, 0), (1, 0), (2, 0), (4, 102), (1, 0), (7, 0), (1, 0), (4, 101), (1, 0), (1, 0), (9, 0), (1, 0)]
def tp_e0 : List Nat := [39, 2, 34, 33, 5, 32, 7, 10, 9, 10, 31, 12, 17, 14, 15, 16, 17, 18, 30, 20, 21, 29, 23, 28, 25, 26, 27, 28, 29, 30, 31, 32, 33, 34, 38, 36, 37, 38, 39]
theorem tp_c0 {o zz : Nat} (ho : tp_O o) (hz : zz = 3 ∨ zz = 5) : ck_T (tp_0 o zz) tp_e0 39 = true := by
  rcases hz with rfl | rfl
  · rcases ho with rfl | rfl | rfl | rfl | rfl | rfl | rfl <;> decide +kernel
  · rcases ho with rfl | rfl | rfl | rfl | rfl | rfl | rfl <;> decide +kernel
def tp_1 (o : Nat) : List (Nat × Nat) := [(2, 0), (2, 0), (3, 0), (3, 0), (4, 101), (1, 0), (2, 0), (2, 0), (2, 0), (2, 0), (2, 0), (2, 0), (4, 102), (4, 103), (o, 0), (1, 0), (2, 0), (3, 0), (4, 102), (16, 0), (1, 0), (4, 101), (1, 0), (4, 103), (2, 0), (3, 0), (4, 102), (19, 0), (1, 0), (10, 0), (1, 0), (2, 0), (4, 103), (4, 102), (1, 0), (7, 0), (1, 0), (4, 101), (1, 0), (1, 0), (9, 0), (1, 0)]
def tp_e1 : List Nat := [42, 2, 36, 35, 5, 34, 7, 11, 9, 10, 11, 33, 13, 18, 15, 16, 17, 18, 19, 32, 21, 26, 23, 24, 25, 26, 31, 28, 29, 30, 31, 32, 33, 34, 35, 36, 41, 38, 39, 40, 41, 42]
theorem tp_c1 {o : Nat} (ho : tp_O o) : ck_T (tp_1 o) tp_e1 42 = true := by
  rcases ho with rfl | rfl | rfl | rfl | rfl | rfl | rfl <;> decide +kernel
def tp_2 (o : Nat) : List (Nat × Nat) := [(2, 0), (2, 0), (2, 0), (2, 0), (2, 0), (3, 0), (2, 0), (1, 0), (3, 0), (1, 0), (6, 0), (1, 0), (2, 0), (4, 105), (4, 104), (o, 0), (1, 0), (11, 0), (1, 0), (2, 0), (2, 0), (4, 106), (4, 104), (o, 0), (1, 0), (2, 0), (4, 106), (1, 0), (7, 0), (1, 0), (11, 0), (1, 0), (2, 0), (2, 0), (3, 0), (4, 105), (1, 0), (2, 0), (3, 0), (4, 104), (1, 0), (1, 0), (8, 0), (1, 0)]
def tp_e2 : List Nat := [44, 2, 12, 7, 5, 6, 7, 11, 9, 10, 11, 12, 43, 14, 25, 16, 19, 18, 19, 24, 21, 22, 23, 24, 25, 42, 27, 32, 29, 30, 31, 32, 41, 34, 40, 36, 38, 38, 39, 40, 41, 42, 43, 44]
theorem tp_c2 {o : Nat} (ho : tp_O o) : ck_T (tp_2 o) tp_e2 44 = true := by
  rcases ho with rfl | rfl | rfl | rfl | rfl | rfl | rfl <;> decide +kernel
def tp_n0 : List (Nat × Nat) := [(2, 0), (3, 0), (1, 0)]
def tp_en0 : List Nat := [3, 2, 3]
theorem tp_cn0 : ck_T tp_n0 tp_en0 3 = true := by decide +kernel
def tp_n1 : List (Nat × Nat) := [(2, 0), (3, 0), (3, 0), (1, 0)]
def tp_en1 : List Nat := [4, 2, 3, 4]
theorem tp_cn1 : ck_T tp_n1 tp_en1 4 = true := by decide +kernel
def tp_n2 : List (Nat × Nat) := [(2, 0), (3, 0), (3, 0), (3, 0), (1, 0)]
def tp_en2 : List Nat := [5, 2, 3, 4, 5]
theorem tp_cn2 : ck_T tp_n2 tp_en2 5 = true := by decide +kernel
def tp_n3 : List (Nat × Nat) := [(2, 0), (3, 0), (3, 0), (3, 0), (3, 0), (1, 0)]
def tp_en3 : List Nat := [6, 2, 3, 4, 5, 6]
theorem tp_cn3 : ck_T tp_n3 tp_en3 6 = true := by decide +kernel
def tp_l0 (o : Nat) : List (Nat × Nat) := [(2, 0), (2, 0), (2, 0), (4, 105), (4, 104), (o, 0), (1, 0), (2, 0), (4, 105), (4, 104), (1, 0), (7, 0), (1, 0), (1, 0)]
def tp_el0 : List Nat := [14, 13, 3, 7, 5, 6, 7, 12, 9, 10, 11, 12, 13, 14]
theorem tp_cl0 {o : Nat} (ho : tp_O o) : ck_T (tp_l0 o) tp_el0 14 = true := by
  rcases ho with rfl | rfl | rfl | rfl | rfl | rfl | rfl <;> decide +kernel
def tp_l1 (o : Nat) : List (Nat × Nat) := [(2, 0), (3, 0), (2, 0), (2, 0), (4, 105), (4, 104), (o, 0), (1, 0), (2, 0), (4, 105), (4, 104), (1, 0), (7, 0), (1, 0), (1, 0)]
def tp_el1 : List Nat := [15, 13, 3, 7, 5, 6, 7, 12, 9, 10, 11, 12, 13, 14, 15]
theorem tp_cl1 {o : Nat} (ho : tp_O o) : ck_T (tp_l1 o) tp_el1 15 = true := by
  rcases ho with rfl | rfl | rfl | rfl | rfl | rfl | rfl <;> decide +kernel
def tp_l2 (o : Nat) : List (Nat × Nat) := [(2, 0), (3, 0), (3, 0), (2, 0), (2, 0), (4, 105), (4, 104), (o, 0), (1, 0), (2, 0), (4, 105), (4, 104), (1, 0), (7, 0), (1, 0), (1, 0)]
def tp_el2 : List Nat := [16, 13, 3, 7, 5, 6, 7, 12, 9, 10, 11, 12, 13, 14, 15, 16]
theorem tp_cl2 {o : Nat} (ho : tp_O o) : ck_T (tp_l2 o) tp_el2 16 = true := by
  rcases ho with rfl | rfl | rfl | rfl | rfl | rfl | rfl <;> decide +kernel
def tp_l3 (o : Nat) : List (Nat × Nat) := [(2, 0), (3, 0), (3, 0), (3, 0), (2, 0), (2, 0), (4, 105), (4, 104), (o, 0), (1, 0), (2, 0), (4, 105), (4, 104), (1, 0), (7, 0), (1, 0), (1, 0)]
def tp_el3 : List Nat := [17, 13, 3, 7, 5, 6, 7, 12, 9, 10, 11, 12, 13, 14, 15, 16, 17]
theorem tp_cl3 {o : Nat} (ho : tp_O o) : ck_T (tp_l3 o) tp_el3 17 = true := by
  rcases ho with rfl | rfl | rfl | rfl | rfl | rfl | rfl <;> decide +kernel

