/-! the reference's iterations -/
def ry_L (post : Int32 → SY → Prop) (f : Nat) (r t : Int32) (u : SY) : Prop := match u with | (yli, yn, ypr, ygs, ypo, yhp, yfs, yvp, yfu, ysp, ymd, yac, yst, yrt, ycu, yhv, ytk, ytv, yus, ygk, yga, ygb, yck, yca, ycb, ycc, yfp, yfe, yfS, yfn, yfb, yvs, yds, ynk, yna, ynb, ync) => wY_run_80 post f r t yli yn ypr ygs ypo yhp yfs yvp yfu ysp ymd yac yst yrt ycu yhv ytk ytv yus ygk yga ygb yck yca ycb ycc yfp yfe yfS yfn yfb yvs yds ynk yna ynb ync
def yh_W (ca cC : Nat → Int32) (x : Int32) : Nat → Int32 → Nat → Prop
  | 0, e, c => e = nI c ∧ c < 50000 ∧ ca c = x
  | h + 1, e, c => ∃ c0, e = nI c0 ∧ c0 < 50000 ∧ ca c0 ≠ x ∧ yh_W ca cC x h (cC c0) c
def yc_S (ck ca cb cC nmv val : Nat → Int32) (e0 : Int32) (hp j : Nat) (ck' ca' cb' cC' : Nat → Int32) : Prop := ck' = xc_v ck (fun _ => 5) hp j ∧ ca' = xc_v ca nmv hp j ∧ cb' = xc_v cb val hp j ∧ cC' = xc_v cC (hb_e e0 hp) hp j
theorem yc_0 {ck ca cb cC nmv val : Nat → Int32} {e0 : Int32} {hp : Nat} : yc_S ck ca cb cC nmv val e0 hp 0 ck ca cb cC := ⟨rfl, rfl, rfl, rfl⟩
theorem yc_up {ck ca cb cC nmv val : Nat → Int32} {e0 a b : Int32} {hp j : Nat} {ck' ca' cb' cC' : Nat → Int32} (h : yc_S ck ca cb cC nmv val e0 hp j ck' ca' cb' cC') (ha : a = nmv j) (hb : b = val j) : yc_S ck ca cb cC nmv val e0 hp (j + 1) (upd ck' (hp + j) 5) (upd ca' (hp + j) a) (upd cb' (hp + j) b) (upd cC' (hp + j) (hb_e e0 hp j)) := by
  rw [h.1, h.2.1, h.2.2.1, h.2.2.2, ha, hb]
  exact ⟨rfl, rfl, rfl, rfl⟩
section
variable {yli yn ypr ygs ypo yhp yfs yvp yfu ysp ymd yac yst yrt ycu yhv : Int32} {ytk ytv yus ygk yga ygb yck yca ycb ycc yfp yfe yfS yfn yfb yvs yds : Nat → Int32} {ynk yna ynb ync : Nat} {n : Nat}
theorem yr_turn {post : Int32 → SY → Prop} {f it y : Nat} (ht : it < 100000) (hy : y < 512) (h : ∀ Q : Int32 → SY → Prop, (∀ r u', ry_L post f r (nI (it + 1)) u' → Q r u') → wpY_stepFrame Q (yli, yn, ypr, ygs, ypo, yhp, nI (y + 1), yvp, yfu, ysp, ymd, yac, yst, yrt, ycu, yhv, ytk, ytv, yus, ygk, yga, ygb, yck, yca, ycb, ycc, yfp, yfe, yfS, yfn, yfb, yvs, yds, ynk, yna, ynb, ync)) : wY_run_80 post (f + 1) 0 (nI it) yli yn ypr ygs ypo yhp (nI (y + 1)) yvp yfu ysp ymd yac yst yrt ycu yhv ytk ytv yus ygk yga ygb yck yca ycb ycc yfp yfe yfS yfn yfb yvs yds ynk yna ynb ync := by
  refine pk_le 100000 it (fun z => by omega) (fun _ => br_t rfl (pk_le (y + 1) 0 (fun z => by omega) (fun _ => h _ (fun r u' hu => ?_))))
  obtain ⟨yli, yn, ypr, ygs, ypo, yhp, yfs, yvp, yfu, ysp, ymd, yac, yst, yrt, ycu, yhv, ytk, ytv, yus, ygk, yga, ygb, yck, yca, ycb, ycc, yfp, yfe, yfS, yfn, yfb, yvs, yds, ynk, yna, ynb, ync⟩ := u'
  exact nm_r (nI_1 it) hu
theorem yr_err {post : Int32 → SY → Prop} {f it : Nat} {r : Int32} (ht : it < 100000) (hr : ¬ r = 0) (h : post r (yli, yn, ypr, ygs, ypo, yhp, yfs, yvp, yfu, ysp, ymd, yac, r, yrt, ycu, yhv, ytk, ytv, yus, ygk, yga, ygb, yck, yca, ycb, ycc, yfp, yfe, yfS, yfn, yfb, yvs, yds, ynk, yna, ynb, ync)) : wY_run_80 post (f + 1) r (nI it) yli yn ypr ygs ypo yhp yfs yvp yfu ysp ymd yac yst yrt ycu yhv ytk ytv yus ygk yga ygb yck yca ycb ycc yfp yfe yfS yfn yfb yvs yds ynk yna ynb ync :=
  pk_le 100000 it (fun z => by omega) (fun _ => br_f hr (br_f hr h))
theorem yr_vat {i : Nat} (hi : i < 1024) {post : Int32 → Prop} (h : post (yvs i)) : wpY_vat post (yli, yn, ypr, ygs, ypo, yhp, yfs, yvp, yfu, ysp, ymd, yac, yst, yrt, ycu, yhv, ytk, ytv, yus, ygk, yga, ygb, yck, yca, ycb, ycc, yfp, yfe, yfS, yfn, yfb, yvs, yds, ynk, yna, ynb, ync) (nI i) := by
  refine br_f (nI_pos (by omega)) (pk_le 1024 i (fun z => by omega) (fun _ => ⟨vp_in_nI hi (by omega), ?_⟩))
  rw [nI_clamp (by omega)]; exact h
theorem yr_ok {post : Int32 → SY → Prop} {f it : Nat} (ht : it < 100000) (h : post 0 (yli, yn, ypr, ygs, ypo, yhp, 0, yvp, yfu, ysp, ymd, yac, 0, yvs 0, yvs 0, 1, ytk, ytv, yus, ygk, yga, ygb, yck, yca, ycb, ycc, yfp, yfe, yfS, yfn, yfb, yvs, yds, ynk, yna, ynb, ync)) : wY_run_80 post (f + 1) 0 (nI it) yli yn ypr ygs ypo yhp 0 yvp yfu ysp ymd yac yst yrt ycu yhv ytk ytv yus ygk yga ygb yck yca ycb ycc yfp yfe yfS yfn yfb yvs yds ynk yna ynb ync := by
  refine pk_le 100000 it (fun z => by omega) (fun _ => br_t rfl (br_t (by decide) (br_t rfl ?_)))
  exact yr_vat (i := 0) (by omega) h
theorem yr_al {k a b c : Int32} {hp : Nat} (hh : hp < 50000) {Q : Int32 → SY → Prop} (h : Q (nI hp) (yli, yn, ypr, ygs, ypo, nI (hp + 1), yfs, yvp, yfu, ysp, ymd, yac, yst, yrt, ycu, yhv, ytk, ytv, yus, ygk, yga, ygb, upd yck hp k, upd yca hp a, upd ycb hp b, upd ycc hp c, yfp, yfe, yfS, yfn, yfb, yvs, yds, 50000, 50000, 50000, 50000)) : wpY_alloc Q (yli, yn, ypr, ygs, ypo, nI hp, yfs, yvp, yfu, ysp, ymd, yac, yst, yrt, ycu, yhv, ytk, ytv, yus, ygk, yga, ygb, yck, yca, ycb, ycc, yfp, yfe, yfS, yfn, yfb, yvs, yds, 50000, 50000, 50000, 50000) k a b c := by
  have hi : vp_in (nI hp) 50000 := vp_in_nI hh (by omega)
  have hc : (nI hp).toNatClampNeg = hp := nI_clamp (by omega)
  refine pk_lt hp 50000 (fun _ => ⟨hi, nm_r (by rw [hc]) ⟨hi, nm_r (by rw [hc]) ⟨hi, nm_r (by rw [hc]) ⟨hi, nm_r (by rw [hc]) (nm_r (nI_1 hp) ?_)⟩⟩⟩⟩) (fun z => by omega)
  rw [nI_pred hp]; exact h
theorem yr_push {x : Int32} {vp : Nat} (hv : vp < 1024) {Q : Int32 → SY → Prop} (h : Q 0 (yli, yn, ypr, ygs, ypo, yhp, yfs, nI (vp + 1), yfu, ysp, ymd, yac, yst, yrt, ycu, yhv, ytk, ytv, yus, ygk, yga, ygb, yck, yca, ycb, ycc, yfp, yfe, yfS, yfn, yfb, upd yvs vp x, yds, ynk, yna, ynb, ync)) : wpY_push Q (yli, yn, ypr, ygs, ypo, yhp, yfs, nI vp, yfu, ysp, ymd, yac, yst, yrt, ycu, yhv, ytk, ytv, yus, ygk, yga, ygb, yck, yca, ycb, ycc, yfp, yfe, yfS, yfn, yfb, yvs, yds, ynk, yna, ynb, ync) x := by
  have hi : vp_in (nI vp) 1024 := vp_in_nI hv (by omega)
  have hc : (nI vp).toNatClampNeg = vp := nI_clamp (by omega)
  exact pk_le 1024 vp (fun z => by omega) (fun _ => ⟨hi, nm_r (by rw [hc]) (nm_r (nI_1 vp) h)⟩)
theorem yr_done {x : Int32} {f b : Nat} (hf : f < 512) (hb : b < 1024) (hB : yfb f = nI b) {Q : Int32 → SY → Prop} (h : Q 0 (yli, yn, ypr, ygs, ypo, yhp, nI f, nI (b + 1), yfu, ysp, ymd, yac, yst, yrt, ycu, yhv, ytk, ytv, yus, ygk, yga, ygb, yck, yca, ycb, ycc, yfp, yfe, yfS, yfn, yfb, upd yvs b x, yds, ynk, yna, ynb, ync)) : wpY_done Q (yli, yn, ypr, ygs, ypo, yhp, yfs, yvp, yfu, ysp, ymd, yac, yst, yrt, ycu, yhv, ytk, ytv, yus, ygk, yga, ygb, yck, yca, ycb, ycc, yfp, yfe, yfS, yfn, yfb, yvs, yds, ynk, yna, ynb, ync) (nI f) x := by
  have hc : (nI f).toNatClampNeg = f := nI_clamp (by omega)
  exact ⟨vp_in_nI hf (by omega), nm_r (show yfb (nI f).toNatClampNeg = nI b from by rw [hc]; exact hB) (yr_push hb h)⟩
theorem yr_cellL {c : Nat} {x : Int32} {post : Int32 → Prop} (h : post (nI c)) : ∀ d e i, i + d < 50000 → yh_W yca ycc x d e c → wY_cellOf_2 post x yli yn ypr ygs ypo yhp yfs yvp yfu ysp ymd yac yst yrt ycu yhv ytk ytv yus ygk yga ygb yck yca ycb ycc yfp yfe yfS yfn yfb yvs yds ynk 50000 ynb 50000 (d + 1) e (nI i) := by
  intro d
  induction d with
  | zero =>
    intro e i hi w
    obtain ⟨w1, w2, w3⟩ := w
    subst w1
    refine pk_le 50000 i (fun z => by omega) (fun _ => br_f (nI_pos (by omega)) (pk_le 50000 c (fun z => by omega) (fun _ => ⟨vp_in_nI w2 (by omega), ?_⟩)))
    rw [nI_clamp (by omega)]
    exact br_t w3 h
  | succ d ih =>
    intro e i hi w
    obtain ⟨c0, w1, w2, w3, w4⟩ := w
    subst w1
    refine pk_le 50000 i (fun z => by omega) (fun _ => br_f (nI_pos (by omega)) (pk_le 50000 c0 (fun z => by omega) (fun _ => ⟨vp_in_nI w2 (by omega), ?_⟩)))
    rw [nI_clamp (by omega)]
    exact br_f w3 ⟨vp_in_nI w2 (by omega), nm_e (nm_r (nI_1 i) (ih (ycc c0) (i + 1) (by omega) w4))⟩
theorem yr_cell {c d : Nat} {e x : Int32} (hd : d < 50000) (w : yh_W yca ycc x d e c) {post : Int32 → Prop} (h : post (nI c)) : wpY_cellOf post (yli, yn, ypr, ygs, ypo, yhp, yfs, yvp, yfu, ysp, ymd, yac, yst, yrt, ycu, yhv, ytk, ytv, yus, ygk, yga, ygb, yck, yca, ycb, ycc, yfp, yfe, yfS, yfn, yfb, yvs, yds, ynk, 50000, ynb, 50000) e x :=
  ⟨d + 1, yr_cellL h d e 0 (by omega) w⟩
/-! a request, by form -/
theorem yq_fuel {e : Int32} {q : Int32} {Q : Int32 → SY → Prop} (hs : ysp = yfu) (h : Q 4 (yli, yn, ypr, ygs, ypo, yhp, yfs, yvp, yfu, ysp, ymd, yac, yst, yrt, ycu, yhv, ytk, ytv, yus, ygk, yga, ygb, yck, yca, ycb, ycc, yfp, yfe, yfS, yfn, yfb, yvs, yds, ynk, yna, ynb, ync)) : wpY_req Q (yli, yn, ypr, ygs, ypo, yhp, yfs, yvp, yfu, ysp, ymd, yac, yst, yrt, ycu, yhv, ytk, ytv, yus, ygk, yga, ygb, yck, yca, ycb, ycc, yfp, yfe, yfS, yfn, yfb, yvs, yds, ynk, yna, ynb, ync) q e := br_t hs h
theorem yq_num (H : tk_ok ytk n) {e : Int32} {q s F hp vp : Nat} (hq : q < n) (hk : tk_K ytk n q = 3) (hs : s < F) (hF : F ≤ 400) (hh : hp < 50000) (hv : vp < 1024) {Q : Int32 → SY → Prop}
    (h : Q 0 (yli, nI n, ypr, ygs, ypo, nI (hp + 1), yfs, nI (vp + 1), nI F, nI (s + 1), ymd, yac, yst, yrt, ycu, yhv, ytk, ytv, yus, ygk, yga, ygb, upd yck hp 1, upd yca hp (ytv q), upd ycb hp 0, upd ycc hp 0, yfp, yfe, yfS, yfn, yfb, upd yvs vp (nI hp), yds, 50000, 50000, 50000, 50000)) : wpY_req Q (yli, nI n, ypr, ygs, ypo, nI hp, yfs, nI vp, nI F, nI s, ymd, yac, yst, yrt, ycu, yhv, ytk, ytv, yus, ygk, yga, ygb, yck, yca, ycb, ycc, yfp, yfe, yfS, yfn, yfb, yvs, yds, 50000, 50000, 50000, 50000) (nI q) e := by
  have H1 := H.1
  refine pk_eq s F (fun z => by omega) (fun _ => nm_r (nI_1 s) (yt_t (i := q) H (by omega) (yt_v (i := q) H hq (pk_eq (tk_K ytk n q) 3 (fun _ => yr_al hh (yr_push hv h)) (fun z => absurd hk z)))))
theorem yq_nil (H : tk_ok ytk n) {e : Int32} {q s F vp : Nat} (hq : q < n) (hk : tk_K ytk n q = 5) (hs : s < F) (hF : F ≤ 400) (hv : vp < 1024) {Q : Int32 → SY → Prop}
    (h : Q 0 (yli, nI n, ypr, ygs, ypo, yhp, yfs, nI (vp + 1), nI F, nI (s + 1), ymd, yac, yst, yrt, ycu, yhv, ytk, ytv, yus, ygk, yga, ygb, yck, yca, ycb, ycc, yfp, yfe, yfS, yfn, yfb, upd yvs vp 0, yds, ynk, yna, ynb, ync)) : wpY_req Q (yli, nI n, ypr, ygs, ypo, yhp, yfs, nI vp, nI F, nI s, ymd, yac, yst, yrt, ycu, yhv, ytk, ytv, yus, ygk, yga, ygb, yck, yca, ycb, ycc, yfp, yfe, yfS, yfn, yfb, yvs, yds, ynk, yna, ynb, ync) (nI q) e := by
  have H1 := H.1
  refine pk_eq s F (fun z => by omega) (fun _ => nm_r (nI_1 s) (yt_t (i := q) H (by omega) (yt_v (i := q) H hq (pk_eq (tk_K ytk n q) 3 (fun z => by omega) (fun _ => pk_eq (tk_K ytk n q) 5 (fun _ => yr_push hv h) (fun z => absurd hk z))))))
theorem yq_sym (H : tk_ok ytk n) {e : Int32} {q s F vp c d : Nat} (hq : q < n) (hk : tk_K ytk n q = 4) (hs : s < F) (hF : F ≤ 400) (hv : vp < 1024) (hd : d < 50000) (hc : c < 50000) (w : yh_W yca ycc (ytv q) d e c) {Q : Int32 → SY → Prop}
    (h : Q 0 (yli, nI n, ypr, ygs, ypo, yhp, yfs, nI (vp + 1), nI F, nI (s + 1), ymd, yac, yst, yrt, ycu, yhv, ytk, ytv, yus, ygk, yga, ygb, yck, yca, ycb, ycc, yfp, yfe, yfS, yfn, yfb, upd yvs vp (ycb c), yds, ynk, 50000, 50000, 50000)) : wpY_req Q (yli, nI n, ypr, ygs, ypo, yhp, yfs, nI vp, nI F, nI s, ymd, yac, yst, yrt, ycu, yhv, ytk, ytv, yus, ygk, yga, ygb, yck, yca, ycb, ycc, yfp, yfe, yfS, yfn, yfb, yvs, yds, ynk, 50000, 50000, 50000) (nI q) e := by
  have H1 := H.1
  refine pk_eq s F (fun z => by omega) (fun _ => nm_r (nI_1 s) (yt_t (i := q) H (by omega) (yt_v (i := q) H hq (pk_eq (tk_K ytk n q) 3 (fun z => by omega) (fun _ => pk_eq (tk_K ytk n q) 5 (fun z => by omega) (fun _ => pk_eq (tk_K ytk n q) 4 (fun _ => ?_) (fun z => absurd hk z)))))))
  refine yr_cell hd w (br_f (nI_pos (by omega)) ⟨vp_in_nI hc (by omega), ?_⟩)
  rw [nI_clamp (by omega)]
  exact yr_push hv h
theorem yq_lam (H : tk_ok ytk n) {e : Int32} {q s F hp vp : Nat} (hq : q < n) (hk : tk_K ytk n q = 1) (hk1 : tk_K ytk n (q + 1) = 7) (hs : s < F) (hF : F ≤ 400) (hh : hp < 50000) (hv : vp < 1024) {Q : Int32 → SY → Prop}
    (h : Q 0 (yli, nI n, ypr, ygs, ypo, nI (hp + 1), yfs, nI (vp + 1), nI F, nI (s + 1), ymd, yac, yst, yrt, ycu, yhv, ytk, ytv, yus, ygk, yga, ygb, upd yck hp 4, upd yca hp (nI q), upd ycb hp e, upd ycc hp 0, yfp, yfe, yfS, yfn, yfb, upd yvs vp (nI hp), yds, 50000, 50000, 50000, 50000)) : wpY_req Q (yli, nI n, ypr, ygs, ypo, nI hp, yfs, nI vp, nI F, nI s, ymd, yac, yst, yrt, ycu, yhv, ytk, ytv, yus, ygk, yga, ygb, yck, yca, ycb, ycc, yfp, yfe, yfS, yfn, yfb, yvs, yds, 50000, 50000, 50000, 50000) (nI q) e := by
  have H1 := H.1
  refine pk_eq s F (fun z => by omega) (fun _ => nm_r (nI_1 s) (yt_t (i := q) H (by omega) (yt_v (i := q) H hq (pk_eq (tk_K ytk n q) 3 (fun z => by omega) (fun _ => pk_eq (tk_K ytk n q) 5 (fun z => by omega) (fun _ => pk_eq (tk_K ytk n q) 4 (fun z => by omega) (fun _ => ?_)))))))
  rw [nI_1 q]
  exact yt_t (i := q + 1) H (by omega) (pk_eq (tk_K ytk n (q + 1)) 6 (fun z => by omega) (fun _ => pk_eq (tk_K ytk n (q + 1)) 7 (fun _ => yr_al hh (yr_push hv h)) (fun z => absurd hk1 z)))
theorem yq_open (H : tk_ok ytk n) {e : Int32} {q s F y : Nat} (f : Nat) (hq : q < n) (hk : tk_K ytk n q = 1) (hk6 : tk_K ytk n (q + 1) ≠ 6) (hk7 : tk_K ytk n (q + 1) ≠ 7) (hs : s < F) (hF : F ≤ 400) (hy : y < 512)
    (hf : ((tk_K ytk n (q + 1) = 8 ∨ tk_K ytk n (q + 1) = 9) ∧ f = q + 3) ∨ (10 ≤ tk_K ytk n (q + 1) ∧ f = q + 2) ∨ (tk_K ytk n (q + 1) < 6 ∧ f = sk_f (tk_K ytk n) n (q + 1))) {Q : Int32 → SY → Prop}
    (h : Q 0 (yli, nI n, ypr, ygs, ypo, yhp, nI (y + 1), yvp, nI F, nI (s + 1), ymd, yac, yst, yrt, ycu, yhv, ytk, ytv, yus, ygk, yga, ygb, yck, yca, ycb, ycc, upd yfp y (nI q), upd yfe y e, upd yfS y 0, upd yfn y (nI f), upd yfb y yvp, yvs, yds, ynk, yna, ynb, ync)) : wpY_req Q (yli, nI n, ypr, ygs, ypo, yhp, nI y, yvp, nI F, nI s, ymd, yac, yst, yrt, ycu, yhv, ytk, ytv, yus, ygk, yga, ygb, yck, yca, ycb, ycc, yfp, yfe, yfS, yfn, yfb, yvs, yds, ynk, yna, ynb, ync) (nI q) e := by
  have H1 := H.1
  have k21 := tk_20 H (q + 1)
  have hi : vp_in (nI y) 512 := vp_in_nI hy (by omega)
  have hc : (nI y).toNatClampNeg = y := nI_clamp (by omega)
  refine pk_eq s F (fun z => by omega) (fun _ => nm_r (nI_1 s) (yt_t (i := q) H (by omega) (yt_v (i := q) H hq (pk_eq (tk_K ytk n q) 3 (fun z => by omega) (fun _ => pk_eq (tk_K ytk n q) 5 (fun z => by omega) (fun _ => pk_eq (tk_K ytk n q) 4 (fun z => by omega) (fun _ => ?_)))))))
  rw [nI_1 q, ni_2 q]
  refine yt_t (i := q + 1) H (by omega) (pk_eq (tk_K ytk n (q + 1)) 6 (fun z => absurd z hk6) (fun _ => pk_eq (tk_K ytk n (q + 1)) 7 (fun z => absurd z hk7) (fun _ => pk_lt y 512 (fun _ => ⟨hi, nm_r (by rw [hc]) ⟨hi, nm_r (by rw [hc]) ⟨hi, nm_r (by rw [hc]) ⟨hi, nm_r (by rw [hc]) ?_⟩⟩⟩⟩) (fun z => by omega))))
  have f264 : ∀ z, z = nI f → wY_req_264 Q z (nI y) yli (nI n) ypr ygs ypo yhp (nI y) yvp (nI F) (nI (s + 1)) ymd yac yst yrt ycu yhv ytk ytv yus ygk yga ygb yck yca ycb ycc (upd yfp y (nI q)) (upd yfe y e) (upd yfS y 0) yfn (upd yfb y yvp) yvs yds ynk yna ynb ync := fun z ez => by
    rw [ez]
    exact ⟨hi, nm_r (by rw [hc]) (nm_r (nI_1 y) h)⟩
  refine pk_eq (tk_K ytk n (q + 1)) 8 (fun k8 => f264 _ ?_) (fun k8 => pk_eq (tk_K ytk n (q + 1)) 9 (fun k9 => f264 _ ?_) (fun k9 => pk_lt (tk_K ytk n (q + 1)) 6 (fun k6 => yk_skip (i := q + 1) H (by omega) (f264 _ ?_)) (fun k6 => f264 _ ?_)))
  · rw [ni_3]
    rcases hf with ⟨_, e⟩ | ⟨z, _⟩ | ⟨z, _⟩
    · rw [e]
    · omega
    · omega
  · rw [ni_3]
    rcases hf with ⟨_, e⟩ | ⟨z, _⟩ | ⟨z, _⟩
    · rw [e]
    · omega
    · omega
  · rcases hf with ⟨z, e⟩ | ⟨z, _⟩ | ⟨z, e⟩
    · omega
    · omega
    · rw [e]
  · rcases hf with ⟨z, e⟩ | ⟨z, e⟩ | ⟨z, e⟩
    · omega
    · rw [e]
    · omega
end
