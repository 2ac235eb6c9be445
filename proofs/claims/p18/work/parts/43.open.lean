theorem up_c {f g : Nat → Int32} {m k : Nat} {v : Int32} (h : ∀ i, i < m → f i = g i) (i : Nat) (hi : i < m) : upd f k v i = upd g k v i := by
  by_cases z : i = k
  · subst z; rw [pk_us, pk_us]
  · rw [pk_un z, pk_un z]; exact h i hi
theorem up_s {f g : Nat → Int32} {m : Nat} {v : Int32} (h : ∀ i, i < m → f i = g i) (i : Nat) (hi : i < m + 1) : upd f m v i = upd g m v i := by
  by_cases z : i = m
  · subst z; rw [pk_us, pk_us]
  · rw [pk_un z, pk_un z]; exact h i (by omega)
/-- cells: on the object as in the picture -/
theorem up_v {f g val val' : Nat → Int32} {cc k : Nat} (h : ∀ i, i < cc → f i = g i) (hv : ∀ i, i < k → val i = val' i) (c : Nat) (hc : c < cc + k) : xc_v f val cc k c = xc_v g val' cc k c := by
  rcases Nat.lt_or_ge c cc with z | z
  · rw [xc_vn z, xc_vn z]; exact h c z
  · obtain ⟨i, rfl⟩ : ∃ i, c = cc + i := ⟨c - cc, by omega⟩
    rw [xc_vs (by omega), xc_vs (by omega)]; exact hv i (by omega)
section
variable {dl : Int32} {xtk xtv : Nat → Int32} {n : Nat} {R sc : Nat → Int32} {h : Nat → Nat} {par : Nat → Nat} {VP : Nat → Prop} {nm : Nat → Nat} {vc cc fc oc u s t q d : Nat} {pen pac pmd : Int32} {pvk pvf pvs pcv pco pff pfp pfe pfb pop : Nat → Int32}
theorem te_open {p : Nat} (PG : pq_F xtk xtv n R sc h par) (I : (pi_I (tk_K xtk n) (sk_f (tk_K xtk n) n) R sc n 0 VP nm vc cc fc oc u s t pvk pvf pvs pcv pco pff pfp pfe pfb pop)) (hq : q < n) (k1 : tk_K xtk n q = 1) (k9 : tk_K xtk n (q + 1) ≠ 9) (hp : xp_1 (tk_K xtk n) (sk_f (tk_K xtk n) n) n q p) (hpn : p < n) (rp : R p = 1) (sp : sc p = sc q) (hE : hp_E nm cc pen (sc q))
    (hW : fp_W (tk_K xtk n) (sk_f (tk_K xtk n) n) R sc n nm cc (upd pff fc (nI q)) (upd pfp fc (nI p)) (upd pfe fc pen) (upd pfb fc (nI oc)) fc oc 0 q) (ht : t + (d + 1) = 900) (hs4 : s < 400) (IH : sp_ET dl xtk xtv n R sc h d) : sp_T dl xtk xtv n t s (sg_E dl xtk xtv n R h VP vc cc fc oc s q pen pac pmd pvk pvf pvs pcv pco pff pfp pfe pfb pop) := by
  obtain ⟨B, O, Rf, N⟩ := I
  have H := PG.1
  have H1 := H.1
  unfold sn_N at N
  have hq1 : q + 1 < n := by
    rcases hp with ⟨k, _⟩ | ⟨k, _⟩ | ⟨k, k2, l, _⟩
    · exact tk_lt (tk := xtk) (by omega)
    · exact tk_lt (tk := xtk) (by omega)
    · have := sk_gt (K := (tk_K xtk n)) (n := n) (fun i => tk_0) (q + 1)
      omega
  refine sp_Es (by omega) sg_Eh sg_out (fun F u Q hs hF hu hQ => ?_) (IH VP nm vc cc (fc + 1) oc (u + 1) (s + 1) (t + 1) p pen pac pmd pvk pvf pvs pcv pco (upd pff fc (nI q)) (upd pfp fc (nI p)) (upd pfe fc pen) (upd pfb fc (nI oc)) pop (by omega) ⟨B, O, Or.inr ⟨oc, 0, u, q, rfl, rfl, hW, fp_k (Nat.le_refl _) (fun _ _ => rfl) (fun i hi => ⟨pk_un (by omega), pk_un (by omega), pk_un (by omega), pk_un (by omega)⟩) Rf⟩, by unfold sn_N; omega⟩ hpn rp (by rw [sp]; exact hE))
  obtain ⟨xan, xaf, xro, xsc, xho, xvk, xvf, xvs, xcv, xco, xff, xfp, xfe, xfb, xop, rfl, A⟩ := hu
  have Af := A.2.2.2.2.1
  exact xr_form H hq k1 hs hF (xr_open H A.1.1 hq1 hp k9 (by omega) (hQ _ ⟨_, _, _, _, _, _, _, _, _, _, _, _, _, _, _,  rfl, A.1, A.2.1, A.2.2.1, A.2.2.2.1, fun i hi => ⟨up_s (fun j hj => (Af j hj).1) i hi, up_s (fun j hj => (Af j hj).2.1) i hi, up_s (fun j hj => (Af j hj).2.2.1) i hi, up_s (fun j hj => (Af j hj).2.2.2) i hi⟩, A.2.2.2.2.2⟩))
theorem te_if (PG : pq_F xtk xtv n R sc h par) (I : (pi_I (tk_K xtk n) (sk_f (tk_K xtk n) n) R sc n 0 VP nm vc cc fc oc u s t pvk pvf pvs pcv pco pff pfp pfe pfb pop)) (hq : q < n) (rq : R q = 1) (k1 : tk_K xtk n q = 1) (k10 : tk_K xtk n (q + 1) = 10) (hE : hp_E nm cc pen (sc q)) (ht : t + (d + 1) = 900) (hs4 : s < 400) (IH : sp_ET dl xtk xtv n R sc h d) : sp_T dl xtk xtv n t s (sg_E dl xtk xtv n R h VP vc cc fc oc s q pen pac pmd pvk pvf pvs pcv pco pff pfp pfe pfb pop) := by
  obtain ⟨lc, st, _⟩ := st_op (K := (tk_K xtk n)) (n := n) (fun i => tk_0) PG.2.1 PG.2.2.1 PG.2.2.2.1 hq rq k1 (by omega)
  have st0 := st 0 (by rw [k10]; decide)
  have st5 : sc (q + 2) = sc q := st0.2.2.2.2
  exact te_open PG I hq k1 (by omega) (Or.inr (Or.inl ⟨by omega, rfl⟩)) st0.1 st0.2.1 st5 hE ⟨hq, rq, k1, pk_us, pk_us, by rw [pk_us]; exact hE, Or.inl ⟨k10, rfl, pk_us⟩⟩ ht hs4 IH
theorem te_op (PG : pq_F xtk xtv n R sc h par) (I : (pi_I (tk_K xtk n) (sk_f (tk_K xtk n) n) R sc n 0 VP nm vc cc fc oc u s t pvk pvf pvs pcv pco pff pfp pfe pfb pop)) (hq : q < n) (rq : R q = 1) (k1 : tk_K xtk n q = 1) (k11 : 11 ≤ tk_K xtk n (q + 1)) (hE : hp_E nm cc pen (sc q)) (ht : t + (d + 1) = 900) (hs4 : s < 400) (IH : sp_ET dl xtk xtv n R sc h d) : sp_T dl xtk xtv n t s (sg_E dl xtk xtv n R h VP vc cc fc oc s q pen pac pmd pvk pvf pvs pcv pco pff pfp pfe pfb pop) := by
  obtain ⟨lc, st, _⟩ := st_op (K := (tk_K xtk n)) (n := n) (fun i => tk_0) PG.2.1 PG.2.2.1 PG.2.2.2.1 hq rq k1 (by omega)
  have g13 := gr_n13 (tk_K xtk n (q + 1))
  have st0 := st 0 (by omega)
  have st5 : sc (q + 2) = sc q := st0.2.2.2.2
  exact te_open PG I hq k1 (by omega) (Or.inr (Or.inl ⟨by omega, rfl⟩)) st0.1 st0.2.1 st5 hE ⟨hq, rq, k1, pk_us, pk_us, by rw [pk_us]; exact hE, Or.inr (Or.inl ⟨k11, by omega, pk_us⟩)⟩ ht hs4 IH
theorem te_let (PG : pq_F xtk xtv n R sc h par) (I : (pi_I (tk_K xtk n) (sk_f (tk_K xtk n) n) R sc n 0 VP nm vc cc fc oc u s t pvk pvf pvs pcv pco pff pfp pfe pfb pop)) (hq : q < n) (rq : R q = 1) (k1 : tk_K xtk n q = 1) (k8 : tk_K xtk n (q + 1) = 8) (hE : hp_E nm cc pen (sc q)) (ht : t + (d + 1) = 900) (hs4 : s < 400) (IH : sp_ET dl xtk xtv n R sc h d) : sp_T dl xtk xtv n t s (sg_E dl xtk xtv n R h VP vc cc fc oc s q pen pac pmd pvk pvf pvs pcv pco pff pfp pfe pfb pop) := by
  obtain ⟨c, c1, c4, lc, st, _⟩ := st_let (K := (tk_K xtk n)) (n := n) (fun i => tk_0) PG.2.1 PG.2.2.1 PG.2.2.2.1 hq rq k1 (Or.inl k8)
  obtain ⟨b1, b2, b3, b4, b5, b6, b7, b8, b9, b10⟩ := st 0 (by omega)
  rw [if_neg (by omega)] at b8
  exact te_open (p := q + 5) PG I hq k1 (by omega) (Or.inl ⟨Or.inl k8, rfl⟩) b2 b3 b8 hE ⟨hq, rq, k1, pk_us, pk_us, by rw [pk_us]; exact hE, Or.inr (Or.inr (Or.inl ⟨k8, ⟨c, lc, by omega⟩, pk_us⟩))⟩ ht hs4 IH
theorem te_app (PG : pq_F xtk xtv n R sc h par) (I : (pi_I (tk_K xtk n) (sk_f (tk_K xtk n) n) R sc n 0 VP nm vc cc fc oc u s t pvk pvf pvs pcv pco pff pfp pfe pfb pop)) (hq : q < n) (rq : R q = 1) (k1 : tk_K xtk n q = 1) (k6 : tk_K xtk n (q + 1) < 6) (hE : hp_E nm cc pen (sc q)) (ht : t + (d + 1) = 900) (hs4 : s < 400) (IH : sp_ET dl xtk xtv n R sc h d) : sp_T dl xtk xtv n t s (sg_E dl xtk xtv n R h VP vc cc fc oc s q pen pac pmd pvk pvf pvs pcv pco pff pfp pfe pfb pop) := by
  obtain ⟨c, c4, lc, st, hend⟩ := st_app (K := (tk_K xtk n)) (n := n) (fun i => tk_0) PG.2.1 PG.2.2.1 PG.2.2.2.1 hq rq k1 k6
  obtain ⟨a1, a2, a3, a4, a5⟩ := st 0 (by omega)
  change q + 1 < n at a1
  change R (q + 1) = 1 at a2
  change tk_K xtk n (q + 1) ≠ 2 at a3
  change sc (q + 1) = sc q at a5
  by_cases c0 : c = 0
  · subst c0
    have ke : tk_K xtk n (sk_f (tk_K xtk n) n (q + 1)) = 2 := lc.2
    have hend : sk_f (tk_K xtk n) n (q + 1) < n := hend
    exact te_open (p := q + 1) PG I hq k1 (by omega) (Or.inr (Or.inr ⟨k6, a3, hend, Or.inl ⟨ke, rfl⟩⟩)) a1 a2 a5 hE ⟨hq, rq, k1, pk_us, pk_us, by rw [pk_us]; exact hE, Or.inr (Or.inr (Or.inr ⟨k6, 0, lc, Or.inr ⟨rfl, pk_us⟩⟩))⟩ ht hs4 IH
  · obtain ⟨b1, b2, b3, b4, b5⟩ := st 1 (by omega)
    change sk_f (tk_K xtk n) n (q + 1) < n at b1
    change R (sk_f (tk_K xtk n) n (q + 1)) = 1 at b2
    change tk_K xtk n (sk_f (tk_K xtk n) n (q + 1)) ≠ 2 at b3
    change sc (sk_f (tk_K xtk n) n (q + 1)) = sc q at b5
    exact te_open (p := sk_f (tk_K xtk n) n (q + 1)) PG I hq k1 (by omega) (Or.inr (Or.inr ⟨k6, a3, b1, Or.inr ⟨b3, rfl⟩⟩)) b1 b2 b5 hE ⟨hq, rq, k1, pk_us, pk_us, by rw [pk_us]; exact hE, Or.inr (Or.inr (Or.inr ⟨k6, c, lc, Or.inl ⟨by omega, pk_us⟩⟩))⟩ ht hs4 IH
end
