/-! the law -/
def lw_1 (post : Int32 → Prop) (L : Nat) (xs : Nat → Int32) (m : Nat) (x4 x5 x6 x7 x8 : Int32) (kc ks : Nat) (g0 g1 : SX) : Prop := match g0, g1 with
  | (xdl, xtn, xpp, xvc, xcc, xfc, xoc, xag, xan, xex, xen, xfl, xac, xst, xsp, xmd, xrt, xcu, xtk, xtv, xaf, xro, xsc, xho, xvk, xvf, xvs, xcv, xco, xff, xfp, xfe, xfb, xop), (zdl, ztn, zpp, zvc, zcc, zfc, zoc, zag, zan, zex, zen, zfl, zac, zst, zsp, zmd, zrt, zcu, ztk, ztv, zaf, zro, zsc, zho, zvk, zvf, zvs, zcv, zco, zff, zfp, zfe, zfb, zop) => wL_law_85 post L xs (wL_law_69 post L xs m) x4 x5 x6 x7 x8 kc ks xdl xtn xpp xvc xcc xfc xoc xag xan xex xen xfl xac xst xsp xmd xrt xcu xtk xtv xaf xro xsc xho xvk xvf xvs xcv xco xff xfp xfe xfb xop zdl ztn zpp zvc zcc zfc zoc zag zan zex zen zfl zac zst zsp zmd zrt zcu ztk ztv zaf zro zsc zho zvk zvf zvs zcv zco zff zfp zfe zfb zop
def lw_0 (post : Int32 → Prop) (L : Nat) (xs : Nat → Int32) (m : Nat) (x4 x5 x6 x7 x8 : Int32) (kc ks : Nat) (g0 g1 : SX) : Prop := match g0, g1 with
  | (xdl, xtn, xpp, xvc, xcc, xfc, xoc, xag, xan, xex, xen, xfl, xac, xst, xsp, xmd, xrt, xcu, xtk, xtv, xaf, xro, xsc, xho, xvk, xvf, xvs, xcv, xco, xff, xfp, xfe, xfb, xop), (zdl, ztn, zpp, zvc, zcc, zfc, zoc, zag, zan, zex, zen, zfl, zac, zst, zsp, zmd, zrt, zcu, ztk, ztv, zaf, zro, zsc, zho, zvk, zvf, zvs, zcv, zco, zff, zfp, zfe, zfb, zop) => wL_law_85_2 post L xs (wL_law_69 post L xs m) x4 x5 x6 x7 x8 kc ks xdl xtn xpp xvc xcc xfc xoc xag xan xex xen xfl xac xst xsp xmd xrt xcu xtk xtv xaf xro xsc xho xvk xvf xvs xcv xco xff xfp xfe xfb xop zdl ztn zpp zvc zcc zfc zoc zag zan zex zen zfl zac zst zsp zmd zrt zcu ztk ztv zaf zro zsc zho zvk zvf zvs zcv zco zff zfp zfe zfb zop
/-- both objects get the tokens l, and compile them -/
def lw_B (L : Nat) (xs : Nat → Int32) (x4 x5 x6 x7 : Int32) (l : List (Nat × Int32)) (n : Nat) : Prop := tk_ok (tq_k l) n ∧
  (∀ (post : Int32 → Prop) (m : Nat) (x8 : Int32) (kc ks : Nat) (dl : Int32) (g : SX), (∀ u', dq_OK dl (tq_k l) (tq_v l) n u' → lw_69 post L xs m x4 x5 x6 x7 (x8 + 1) kc ks g u') → lw_1 post L xs m x4 x5 x6 x7 x8 kc ks g (nw_S dl)) ∧
  (∀ (post : Int32 → Prop) (m : Nat) (x8 : Int32) (kc ks : Nat) (dl : Int32) (g : SX), (∀ u', dq_OK dl (tq_k l) (tq_v l) n u' → lw_69 post L xs m x4 x5 x6 x7 (x8 + 1) kc ks u' g) → lw_0 post L xs m x4 x5 x6 x7 x8 kc ks (nw_S dl) g)
section
variable {L : Nat} {xs : Nat → Int32} {x4 x5 x6 x7 : Int32} {o : Nat}
theorem lw_ex (hL : L ≤ 260) (ho : tp_O o) (e5 : x5 = nI o) : ∃ l n, lw_B L xs x4 x5 x6 x7 l n := by
  by_cases e0 : x4 = 0
  · have key : ∀ zz, (o = 11 ∧ zz = 5) ∨ (o ≠ 11 ∧ zz = 3) → ∃ l n, lw_B L xs x4 x5 x6 x7 l n := fun zz hz => by
      refine ⟨tl_0 o zz (md_f x6 15 - 3), 39, tq_ok tm_0 (by rfl) (tp_c0 ho (by omega)), fun post m x8 kc ks dl g h => ?_, fun post m x8 kc ks dl g h => ?_⟩
      · obtain ⟨zdl, ztn, zpp, zvc, zcc, zfc, zoc, zag, zan, zex, zen, zfl, zac, zst, zsp, zmd, zrt, zcu, ztk, ztv, zaf, zro, zsc, zho, zvk, zvf, zvs, zcv, zco, zff, zfp, zfe, zfb, zop⟩ := g
        exact l0_1 ho e5 e0 hz h
      · obtain ⟨zdl, ztn, zpp, zvc, zcc, zfc, zoc, zag, zan, zex, zen, zfl, zac, zst, zsp, zmd, zrt, zcu, ztk, ztv, zaf, zro, zsc, zho, zvk, zvf, zvs, zcv, zco, zff, zfp, zfe, zfb, zop⟩ := g
        exact l0_0 ho e5 e0 hz h
    by_cases z : o = 11
    · exact key 5 (Or.inl ⟨z, rfl⟩)
    · exact key 3 (Or.inr ⟨z, rfl⟩)
  · by_cases e1 : x4 = 1
    · refine ⟨tl_1 o (md_f x6 12 - 2) (md_f x7 7 - 3), 42, tq_ok tm_1 (by rfl) (tp_c1 ho), fun post m x8 kc ks dl g h => ?_, fun post m x8 kc ks dl g h => ?_⟩
      · obtain ⟨zdl, ztn, zpp, zvc, zcc, zfc, zoc, zag, zan, zex, zen, zfl, zac, zst, zsp, zmd, zrt, zcu, ztk, ztv, zaf, zro, zsc, zho, zvk, zvf, zvs, zcv, zco, zff, zfp, zfe, zfb, zop⟩ := g
        exact l1_1 ho e5 e1 h
      · obtain ⟨zdl, ztn, zpp, zvc, zcc, zfc, zoc, zag, zan, zex, zen, zfl, zac, zst, zsp, zmd, zrt, zcu, ztk, ztv, zaf, zro, zsc, zho, zvk, zvf, zvs, zcv, zco, zff, zfp, zfe, zfb, zop⟩ := g
        exact l1_0 ho e5 e1 h
    · by_cases e2 : x4 = 2
      · refine ⟨tl_2 o (md_f x6 9 - 4) (md_f x7 5 - 2) x6 x7, 44, tq_ok tm_2 (by rfl) (tp_c2 ho), fun post m x8 kc ks dl g h => ?_, fun post m x8 kc ks dl g h => ?_⟩
        · obtain ⟨zdl, ztn, zpp, zvc, zcc, zfc, zoc, zag, zan, zex, zen, zfl, zac, zst, zsp, zmd, zrt, zcu, ztk, ztv, zaf, zro, zsc, zho, zvk, zvf, zvs, zcv, zco, zff, zfp, zfe, zfb, zop⟩ := g
          exact l2_1 ho e5 e2 h
        · obtain ⟨zdl, ztn, zpp, zvc, zcc, zfc, zoc, zag, zan, zex, zen, zfl, zac, zst, zsp, zmd, zrt, zcu, ztk, ztv, zaf, zro, zsc, zho, zvk, zvf, zvs, zcv, zco, zff, zfp, zfe, zfb, zop⟩ := g
          exact l2_0 ho e5 e2 h
      · obtain ⟨k, hk, ek⟩ := md_j (ce_f L xs 6) (d := 4) (by omega) (by omega)
        by_cases ea : md_f x6 5 = 0
        · have k4 : k = 0 ∨ k = 1 ∨ k = 2 ∨ k = 3 := by omega
          rcases k4 with rfl | rfl | rfl | rfl
          · refine ⟨tl_n0 x6, 3, tq_ok tm_n0 (by rfl) tp_cn0, fun post m x8 kc ks dl g h => ?_, fun post m x8 kc ks dl g h => ?_⟩
            · obtain ⟨zdl, ztn, zpp, zvc, zcc, zfc, zoc, zag, zan, zex, zen, zfl, zac, zst, zsp, zmd, zrt, zcu, ztk, ztv, zaf, zro, zsc, zho, zvk, zvf, zvs, zcv, zco, zff, zfp, zfe, zfb, zop⟩ := g
              exact l3n_1 e0 e1 e2 ea (l3n0_1 hL ek h)
            · obtain ⟨zdl, ztn, zpp, zvc, zcc, zfc, zoc, zag, zan, zex, zen, zfl, zac, zst, zsp, zmd, zrt, zcu, ztk, ztv, zaf, zro, zsc, zho, zvk, zvf, zvs, zcv, zco, zff, zfp, zfe, zfb, zop⟩ := g
              exact l3n_0 e0 e1 e2 ea (l3n0_0 hL ek h)
          · refine ⟨tl_n1 x6 (md_f x7 11 - 5 - 0), 4, tq_ok tm_n1 (by rfl) tp_cn1, fun post m x8 kc ks dl g h => ?_, fun post m x8 kc ks dl g h => ?_⟩
            · obtain ⟨zdl, ztn, zpp, zvc, zcc, zfc, zoc, zag, zan, zex, zen, zfl, zac, zst, zsp, zmd, zrt, zcu, ztk, ztv, zaf, zro, zsc, zho, zvk, zvf, zvs, zcv, zco, zff, zfp, zfe, zfb, zop⟩ := g
              exact l3n_1 e0 e1 e2 ea (l3n1_1 hL ek h)
            · obtain ⟨zdl, ztn, zpp, zvc, zcc, zfc, zoc, zag, zan, zex, zen, zfl, zac, zst, zsp, zmd, zrt, zcu, ztk, ztv, zaf, zro, zsc, zho, zvk, zvf, zvs, zcv, zco, zff, zfp, zfe, zfb, zop⟩ := g
              exact l3n_0 e0 e1 e2 ea (l3n1_0 hL ek h)
          · refine ⟨tl_n2 x6 (md_f x7 11 - 5 - 0) (md_f x7 11 - 5 - (0 + 1)), 5, tq_ok tm_n2 (by rfl) tp_cn2, fun post m x8 kc ks dl g h => ?_, fun post m x8 kc ks dl g h => ?_⟩
            · obtain ⟨zdl, ztn, zpp, zvc, zcc, zfc, zoc, zag, zan, zex, zen, zfl, zac, zst, zsp, zmd, zrt, zcu, ztk, ztv, zaf, zro, zsc, zho, zvk, zvf, zvs, zcv, zco, zff, zfp, zfe, zfb, zop⟩ := g
              exact l3n_1 e0 e1 e2 ea (l3n2_1 hL ek h)
            · obtain ⟨zdl, ztn, zpp, zvc, zcc, zfc, zoc, zag, zan, zex, zen, zfl, zac, zst, zsp, zmd, zrt, zcu, ztk, ztv, zaf, zro, zsc, zho, zvk, zvf, zvs, zcv, zco, zff, zfp, zfe, zfb, zop⟩ := g
              exact l3n_0 e0 e1 e2 ea (l3n2_0 hL ek h)
          · refine ⟨tl_n3 x6 (md_f x7 11 - 5 - 0) (md_f x7 11 - 5 - (0 + 1)) (md_f x7 11 - 5 - (0 + 1 + 1)), 6, tq_ok tm_n3 (by rfl) tp_cn3, fun post m x8 kc ks dl g h => ?_, fun post m x8 kc ks dl g h => ?_⟩
            · obtain ⟨zdl, ztn, zpp, zvc, zcc, zfc, zoc, zag, zan, zex, zen, zfl, zac, zst, zsp, zmd, zrt, zcu, ztk, ztv, zaf, zro, zsc, zho, zvk, zvf, zvs, zcv, zco, zff, zfp, zfe, zfb, zop⟩ := g
              exact l3n_1 e0 e1 e2 ea (l3n3_1 hL ek h)
            · obtain ⟨zdl, ztn, zpp, zvc, zcc, zfc, zoc, zag, zan, zex, zen, zfl, zac, zst, zsp, zmd, zrt, zcu, ztk, ztv, zaf, zro, zsc, zho, zvk, zvf, zvs, zcv, zco, zff, zfp, zfe, zfb, zop⟩ := g
              exact l3n_0 e0 e1 e2 ea (l3n3_0 hL ek h)
        · have k4 : k = 0 ∨ k = 1 ∨ k = 2 ∨ k = 3 := by omega
          rcases k4 with rfl | rfl | rfl | rfl
          · refine ⟨tl_l0 o, 14, tq_ok tm_l0 (by rfl) (tp_cl0 ho), fun post m x8 kc ks dl g h => ?_, fun post m x8 kc ks dl g h => ?_⟩
            · obtain ⟨zdl, ztn, zpp, zvc, zcc, zfc, zoc, zag, zan, zex, zen, zfl, zac, zst, zsp, zmd, zrt, zcu, ztk, ztv, zaf, zro, zsc, zho, zvk, zvf, zvs, zcv, zco, zff, zfp, zfe, zfb, zop⟩ := g
              exact l3l_1 ho e5 e0 e1 e2 ea (l3l0_1 ho hL ek h)
            · obtain ⟨zdl, ztn, zpp, zvc, zcc, zfc, zoc, zag, zan, zex, zen, zfl, zac, zst, zsp, zmd, zrt, zcu, ztk, ztv, zaf, zro, zsc, zho, zvk, zvf, zvs, zcv, zco, zff, zfp, zfe, zfb, zop⟩ := g
              exact l3l_0 ho e5 e0 e1 e2 ea (l3l0_0 ho hL ek h)
          · refine ⟨tl_l1 o (md_f x7 11 - 5 - 0), 15, tq_ok tm_l1 (by rfl) (tp_cl1 ho), fun post m x8 kc ks dl g h => ?_, fun post m x8 kc ks dl g h => ?_⟩
            · obtain ⟨zdl, ztn, zpp, zvc, zcc, zfc, zoc, zag, zan, zex, zen, zfl, zac, zst, zsp, zmd, zrt, zcu, ztk, ztv, zaf, zro, zsc, zho, zvk, zvf, zvs, zcv, zco, zff, zfp, zfe, zfb, zop⟩ := g
              exact l3l_1 ho e5 e0 e1 e2 ea (l3l1_1 ho hL ek h)
            · obtain ⟨zdl, ztn, zpp, zvc, zcc, zfc, zoc, zag, zan, zex, zen, zfl, zac, zst, zsp, zmd, zrt, zcu, ztk, ztv, zaf, zro, zsc, zho, zvk, zvf, zvs, zcv, zco, zff, zfp, zfe, zfb, zop⟩ := g
              exact l3l_0 ho e5 e0 e1 e2 ea (l3l1_0 ho hL ek h)
          · refine ⟨tl_l2 o (md_f x7 11 - 5 - 0) (md_f x7 11 - 5 - (0 + 1)), 16, tq_ok tm_l2 (by rfl) (tp_cl2 ho), fun post m x8 kc ks dl g h => ?_, fun post m x8 kc ks dl g h => ?_⟩
            · obtain ⟨zdl, ztn, zpp, zvc, zcc, zfc, zoc, zag, zan, zex, zen, zfl, zac, zst, zsp, zmd, zrt, zcu, ztk, ztv, zaf, zro, zsc, zho, zvk, zvf, zvs, zcv, zco, zff, zfp, zfe, zfb, zop⟩ := g
              exact l3l_1 ho e5 e0 e1 e2 ea (l3l2_1 ho hL ek h)
            · obtain ⟨zdl, ztn, zpp, zvc, zcc, zfc, zoc, zag, zan, zex, zen, zfl, zac, zst, zsp, zmd, zrt, zcu, ztk, ztv, zaf, zro, zsc, zho, zvk, zvf, zvs, zcv, zco, zff, zfp, zfe, zfb, zop⟩ := g
              exact l3l_0 ho e5 e0 e1 e2 ea (l3l2_0 ho hL ek h)
          · refine ⟨tl_l3 o (md_f x7 11 - 5 - 0) (md_f x7 11 - 5 - (0 + 1)) (md_f x7 11 - 5 - (0 + 1 + 1)), 17, tq_ok tm_l3 (by rfl) (tp_cl3 ho), fun post m x8 kc ks dl g h => ?_, fun post m x8 kc ks dl g h => ?_⟩
            · obtain ⟨zdl, ztn, zpp, zvc, zcc, zfc, zoc, zag, zan, zex, zen, zfl, zac, zst, zsp, zmd, zrt, zcu, ztk, ztv, zaf, zro, zsc, zho, zvk, zvf, zvs, zcv, zco, zff, zfp, zfe, zfb, zop⟩ := g
              exact l3l_1 ho e5 e0 e1 e2 ea (l3l3_1 ho hL ek h)
            · obtain ⟨zdl, ztn, zpp, zvc, zcc, zfc, zoc, zag, zan, zex, zen, zfl, zac, zst, zsp, zmd, zrt, zcu, ztk, ztv, zaf, zro, zsc, zho, zvk, zvf, zvs, zcv, zco, zff, zfp, zfe, zfb, zop⟩ := g
              exact l3l_0 ho e5 e0 e1 e2 ea (l3l3_0 ho hL ek h)
end
theorem i_vc (xs : Nat → Int32) (L : Nat) (hL : L ≤ 260) : wpL_law (fun r => r = 1) L xs := by
  refine ce_d (j := 1) rfl (by decide) hL (md_w (by decide) (nm_e ⟨16, 4776, by decide, by decide, in_w ?_⟩))
  refine ⟨by decide, by decide, 16, 4776, by decide, by decide, in_w ?_⟩
  refine ce_d (j := 0) rfl (by decide) hL (md_w (by decide) (ce_d (j := 2) rfl (by decide) hL (lo_w (fun o ho => ce_d (j := 3) rfl (by decide) hL (ce_d (j := 4) rfl (by decide) hL ?_)))))
  obtain ⟨l, n, H, B1, B0⟩ := lw_ex (L := L) (xs := xs) (x4 := md_f (ce_f L xs 0) 4) (x5 := nI o) (x6 := ce_f L xs 3) (x7 := ce_f L xs 4) hL ho rfl
  refine ⟨2 + 1, br_f (by decide) (br_t rfl (B0 _ _ _ _ _ _ (nw_S _) (fun u0 h0 => ?_)))⟩
  obtain ⟨xdl, xtn, xpp, xvc, xcc, xfc, xoc, xag, xan, xex, xen, xfl, xac, xst, xsp, xmd, xrt, xcu, xtk, xtv, xaf, xro, xsc, xho, xvk, xvf, xvs, xcv, xco, xff, xfp, xfe, xfb, xop⟩ := u0
  refine br_f (by decide) (br_f (by decide) (B1 _ _ _ _ _ _ (xdl, xtn, xpp, xvc, xcc, xfc, xoc, xag, xan, xex, xen, xfl, xac, xst, xsp, xmd, xrt, xcu, xtk, xtv, xaf, xro, xsc, xho, xvk, xvf, xvs, xcv, xco, xff, xfp, xfe, xfb, xop) (fun u1 h1 => ?_)))
  obtain ⟨zdl, ztn, zpp, zvc, zcc, zfc, zoc, zag, zan, zex, zen, zfl, zac, zst, zsp, zmd, zrt, zcu, ztk, ztv, zaf, zro, zsc, zho, zvk, zvf, zvs, zcv, zco, zff, zfp, zfe, zfb, zop⟩ := u1
  refine br_t (by decide) (ce_d (j := 5) rfl (by decide) hL (md_w (by decide) (nm_e (fl_w (fun F F1 F4 hF => ⟨3 + 1, ?_⟩)))))
  exact lr_loop hL H h0 F1 F4 hF 3 0 _ _ (by omega) h0 h1
