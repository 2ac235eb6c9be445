/-! the tokens handed to the second object, and its compile -/
section
variable {post : Int32 → Prop} {L : Nat} {xs : Nat → Int32} {m : Nat} {x4 x5 x6 x7 x8 : Int32} {kc ks : Nat} {xdl xtn xpp xvc xcc xfc xoc xag xan xex xen xfl xac xst xsp xmd xrt xcu : Int32} {xtk xtv xaf xro xsc xho xvk xvf xvs xcv xco xff xfp xfe xfb xop : Nat → Int32} {zdl ztn zpp zvc zcc zfc zoc zag zan zex zen zfl zac zst zsp zmd zrt zcu : Int32} {ztk ztv zaf zro zsc zho zvk zvf zvs zcv zco zff zfp zfe zfb zop : Nat → Int32}
theorem lc_1 {l : List (Nat × Int32)} {c : List (Nat × Nat)} {t : List Nat} {n : Nat} (M : tq_M l c) (hl : l.length = n) (hT : ck_T c t n = true) (h : ∀ u', dq_OK xdl (tq_k (l)) (tq_v (l)) n u' → lw_69 post L xs m x4 x5 x6 x7 (x8 + 1) kc ks (zdl, ztn, zpp, zvc, zcc, zfc, zoc, zag, zan, zex, zen, zfl, zac, zst, zsp, zmd, zrt, zcu, ztk, ztv, zaf, zro, zsc, zho, zvk, zvf, zvs, zcv, zco, zff, zfp, zfe, zfb, zop) u') : wL_law_1336 post L xs (wL_law_69 post L xs m) x4 x5 x6 x7 x8 kc ks zdl ztn zpp zvc zcc zfc zoc zag zan zex zen zfl zac zst zsp zmd zrt zcu ztk ztv zaf zro zsc zho zvk zvf zvs zcv zco zff zfp zfe zfb zop xdl (nI n) xpp xvc xcc xfc xoc xag xan xex xen xfl xac xst xsp xmd xrt xcu (tq_k l) (tq_v l) xaf xro xsc xho xvk xvf xvs xcv xco xff xfp xfe xfb xop := by
  refine tq_comp M hl hT (fun u' hu' => ?_)
  have h' := h u' hu'
  obtain ⟨zdl, ztn, zpp, zvc, zcc, zfc, zoc, zag, zan, zex, zen, zfl, zac, zst, zsp, zmd, zrt, zcu, ztk, ztv, zaf, zro, zsc, zho, zvk, zvf, zvs, zcv, zco, zff, zfp, zfe, zfb, zop⟩ := u'
  exact br_t rfl (nm_e h')
theorem lz_1 {o zz : Nat} {z0 : Int32} (ho : tp_O o) (e5 : x5 = nI o) (hz : zz = 3 ∨ zz = 5) (ez : z0 = nI zz) (h : ∀ u', dq_OK xdl (tq_k (tl_0 o zz (md_f x6 15 - 3))) (tq_v (tl_0 o zz (md_f x6 15 - 3))) 39 u' → lw_69 post L xs m x4 x5 x6 x7 (x8 + 1) kc ks (zdl, ztn, zpp, zvc, zcc, zfc, zoc, zag, zan, zex, zen, zfl, zac, zst, zsp, zmd, zrt, zcu, ztk, ztv, zaf, zro, zsc, zho, zvk, zvf, zvs, zcv, zco, zff, zfp, zfe, zfb, zop) u') : wL_law_249 post L xs (wL_law_69 post L xs m) x4 x5 x6 x7 x8 z0 kc ks zdl ztn zpp zvc zcc zfc zoc zag zan zex zen zfl zac zst zsp zmd zrt zcu ztk ztv zaf zro zsc zho zvk zvf zvs zcv zco zff zfp zfe zfb zop xdl (nI 17) xpp xvc xcc xfc xoc xag xan xex xen xfl xac xst xsp xmd xrt xcu (tq_k [(2, 0), (3, 1), (4, 102), (20, 0), (1, 0), (10, 0), (1, 0), (2, 0), (4, 102), (1, 0), (7, 0), (1, 0), (4, 101), (1, 0), (1, 0), (9, 0), (1, 0)]) (tq_v [(2, 0), (3, 1), (4, 102), (20, 0), (1, 0), (10, 0), (1, 0), (2, 0), (4, 102), (1, 0), (7, 0), (1, 0), (4, 101), (1, 0), (1, 0), (9, 0), (1, 0)]) xaf xro xsc xho xvk xvf xvs xcv xco xff xfp xfe xfb xop := by
  have ob := tp_b ho
  refine tq_a (n := 17) zz 0 (by rfl) (by decide) ez (by omega) (by omega) (tp_z hz) ?_
  refine tq_p (n := 18) 1 (by rfl) (by decide) (by rfl) (by decide) (by decide) (by decide) ?_
  refine tq_p (n := 19) o (by rfl) (by decide) e5 ob.1 ob.2.1 ob.2.2 ?_
  refine tq_s (n := 20) (by rfl) (by decide) ?_
  refine tq_p (n := 21) 1 (by rfl) (by decide) (by rfl) (by decide) (by decide) (by decide) ?_
  refine tq_s (n := 22) (by rfl) (by decide) ?_
  refine tq_p (n := 23) 1 (by rfl) (by decide) (by rfl) (by decide) (by decide) (by decide) ?_
  refine tq_p (n := 24) 16 (by rfl) (by decide) (by rfl) (by decide) (by decide) (by decide) ?_
  refine tq_s (n := 25) (by rfl) (by decide) ?_
  refine tq_n (n := 26) (by rfl) (by decide) ?_
  refine ⟨7 + 1, ?_⟩
  refine br_f (by decide) ?_
  refine tq_p (n := 27) 2 (by rfl) (by decide) (by rfl) (by decide) (by decide) (by decide) ?_
  refine nm_e ?_
  refine br_f (by decide) ?_
  refine tq_p (n := 28) 2 (by rfl) (by decide) (by rfl) (by decide) (by decide) (by decide) ?_
  refine nm_e ?_
  refine br_f (by decide) ?_
  refine tq_p (n := 29) 2 (by rfl) (by decide) (by rfl) (by decide) (by decide) (by decide) ?_
  refine nm_e ?_
  refine br_f (by decide) ?_
  refine tq_p (n := 30) 2 (by rfl) (by decide) (by rfl) (by decide) (by decide) (by decide) ?_
  refine nm_e ?_
  refine br_f (by decide) ?_
  refine tq_p (n := 31) 2 (by rfl) (by decide) (by rfl) (by decide) (by decide) (by decide) ?_
  refine nm_e ?_
  refine br_f (by decide) ?_
  refine tq_p (n := 32) 2 (by rfl) (by decide) (by rfl) (by decide) (by decide) (by decide) ?_
  refine nm_e ?_
  refine br_f (by decide) ?_
  refine tq_p (n := 33) 2 (by rfl) (by decide) (by rfl) (by decide) (by decide) (by decide) ?_
  refine nm_e ?_
  refine br_t (by decide) ?_
  refine tq_p (n := 34) 1 (by rfl) (by decide) (by rfl) (by decide) (by decide) (by decide) ?_
  refine tq_s (n := 35) (by rfl) (by decide) ?_
  refine md_w (by decide) ?_
  refine tq_n (n := 36) (by rfl) (by decide) ?_
  refine tq_p (n := 37) 2 (by rfl) (by decide) (by rfl) (by decide) (by decide) (by decide) ?_
  refine tq_p (n := 38) 2 (by rfl) (by decide) (by rfl) (by decide) (by decide) (by decide) ?_
  exact lc_1 tm_0 (by rfl) (tp_c0 ho hz) h
theorem l0_1 {o zz : Nat} (ho : tp_O o) (e5 : x5 = nI o) (e4 : x4 = 0) (hz : (o = 11 ∧ zz = 5) ∨ (o ≠ 11 ∧ zz = 3)) (h : ∀ u', dq_OK xdl (tq_k (tl_0 o zz (md_f x6 15 - 3))) (tq_v (tl_0 o zz (md_f x6 15 - 3))) 39 u' → lw_69 post L xs m x4 x5 x6 x7 (x8 + 1) kc ks (zdl, ztn, zpp, zvc, zcc, zfc, zoc, zag, zan, zex, zen, zfl, zac, zst, zsp, zmd, zrt, zcu, ztk, ztv, zaf, zro, zsc, zho, zvk, zvf, zvs, zcv, zco, zff, zfp, zfe, zfb, zop) u') : wL_law_85 post L xs (wL_law_69 post L xs m) x4 x5 x6 x7 x8 kc ks zdl ztn zpp zvc zcc zfc zoc zag zan zex zen zfl zac zst zsp zmd zrt zcu ztk ztv zaf zro zsc zho zvk zvf zvs zcv zco zff zfp zfe zfb zop xdl (nI 0) xpp xvc xcc xfc xoc xag xan xex xen xfl xac xst xsp xmd xrt xcu (tq_k []) (tq_v []) xaf xro xsc xho xvk xvf xvs xcv xco xff xfp xfe xfb xop := by
  refine br_t e4 ?_
  refine tq_p (n := 0) 1 (by rfl) (by decide) (by rfl) (by decide) (by decide) (by decide) ?_
  refine tq_p (n := 1) 9 (by rfl) (by decide) (by rfl) (by decide) (by decide) (by decide) ?_
  refine tq_p (n := 2) 1 (by rfl) (by decide) (by rfl) (by decide) (by decide) (by decide) ?_
  refine tq_p (n := 3) 1 (by rfl) (by decide) (by rfl) (by decide) (by decide) (by decide) ?_
  refine tq_s (n := 4) (by rfl) (by decide) ?_
  refine tq_p (n := 5) 1 (by rfl) (by decide) (by rfl) (by decide) (by decide) (by decide) ?_
  refine tq_p (n := 6) 7 (by rfl) (by decide) (by rfl) (by decide) (by decide) (by decide) ?_
  refine tq_p (n := 7) 1 (by rfl) (by decide) (by rfl) (by decide) (by decide) (by decide) ?_
  refine tq_s (n := 8) (by rfl) (by decide) ?_
  refine tq_p (n := 9) 2 (by rfl) (by decide) (by rfl) (by decide) (by decide) (by decide) ?_
  refine tq_p (n := 10) 1 (by rfl) (by decide) (by rfl) (by decide) (by decide) (by decide) ?_
  refine tq_p (n := 11) 10 (by rfl) (by decide) (by rfl) (by decide) (by decide) (by decide) ?_
  refine tq_p (n := 12) 1 (by rfl) (by decide) (by rfl) (by decide) (by decide) (by decide) ?_
  refine tq_p (n := 13) 20 (by rfl) (by decide) (by rfl) (by decide) (by decide) (by decide) ?_
  refine tq_s (n := 14) (by rfl) (by decide) ?_
  refine tq_n (n := 15) (by rfl) (by decide) ?_
  refine tq_p (n := 16) 2 (by rfl) (by decide) (by rfl) (by decide) (by decide) (by decide) ?_
  rcases hz with ⟨z, rfl⟩ | ⟨z, rfl⟩
  · exact br_t (by rw [e5, z]; rfl) (lz_1 ho e5 (Or.inr rfl) rfl h)
  · exact br_f (fun e => z (tp_11 ho (e5.symm.trans e))) (lz_1 ho e5 (Or.inl rfl) rfl h)
theorem l1_1 {o : Nat} (ho : tp_O o) (e5 : x5 = nI o) (e4 : x4 = 1) (h : ∀ u', dq_OK xdl (tq_k (tl_1 o (md_f x6 12 - 2) (md_f x7 7 - 3))) (tq_v (tl_1 o (md_f x6 12 - 2) (md_f x7 7 - 3))) 42 u' → lw_69 post L xs m x4 x5 x6 x7 (x8 + 1) kc ks (zdl, ztn, zpp, zvc, zcc, zfc, zoc, zag, zan, zex, zen, zfl, zac, zst, zsp, zmd, zrt, zcu, ztk, ztv, zaf, zro, zsc, zho, zvk, zvf, zvs, zcv, zco, zff, zfp, zfe, zfb, zop) u') : wL_law_85 post L xs (wL_law_69 post L xs m) x4 x5 x6 x7 x8 kc ks zdl ztn zpp zvc zcc zfc zoc zag zan zex zen zfl zac zst zsp zmd zrt zcu ztk ztv zaf zro zsc zho zvk zvf zvs zcv zco zff zfp zfe zfb zop xdl (nI 0) xpp xvc xcc xfc xoc xag xan xex xen xfl xac xst xsp xmd xrt xcu (tq_k []) (tq_v []) xaf xro xsc xho xvk xvf xvs xcv xco xff xfp xfe xfb xop := by
  have ob := tp_b ho
  refine br_f (by rw [e4]; decide) (br_t e4 ?_)
  refine tq_p (n := 0) 1 (by rfl) (by decide) (by rfl) (by decide) (by decide) (by decide) ?_
  refine tq_p (n := 1) 9 (by rfl) (by decide) (by rfl) (by decide) (by decide) (by decide) ?_
  refine tq_p (n := 2) 1 (by rfl) (by decide) (by rfl) (by decide) (by decide) (by decide) ?_
  refine tq_p (n := 3) 1 (by rfl) (by decide) (by rfl) (by decide) (by decide) (by decide) ?_
  refine tq_s (n := 4) (by rfl) (by decide) ?_
  refine tq_p (n := 5) 1 (by rfl) (by decide) (by rfl) (by decide) (by decide) (by decide) ?_
  refine tq_p (n := 6) 7 (by rfl) (by decide) (by rfl) (by decide) (by decide) (by decide) ?_
  refine tq_p (n := 7) 1 (by rfl) (by decide) (by rfl) (by decide) (by decide) (by decide) ?_
  refine tq_s (n := 8) (by rfl) (by decide) ?_
  refine tq_s (n := 9) (by rfl) (by decide) ?_
  refine tq_p (n := 10) 2 (by rfl) (by decide) (by rfl) (by decide) (by decide) (by decide) ?_
  refine tq_p (n := 11) 1 (by rfl) (by decide) (by rfl) (by decide) (by decide) (by decide) ?_
  refine tq_p (n := 12) 10 (by rfl) (by decide) (by rfl) (by decide) (by decide) (by decide) ?_
  refine tq_p (n := 13) 1 (by rfl) (by decide) (by rfl) (by decide) (by decide) (by decide) ?_
  refine tq_p (n := 14) 19 (by rfl) (by decide) (by rfl) (by decide) (by decide) (by decide) ?_
  refine tq_s (n := 15) (by rfl) (by decide) ?_
  refine tq_n (n := 16) (by rfl) (by decide) ?_
  refine tq_p (n := 17) 2 (by rfl) (by decide) (by rfl) (by decide) (by decide) (by decide) ?_
  refine tq_s (n := 18) (by rfl) (by decide) ?_
  refine tq_p (n := 19) 1 (by rfl) (by decide) (by rfl) (by decide) (by decide) (by decide) ?_
  refine tq_s (n := 20) (by rfl) (by decide) ?_
  refine tq_p (n := 21) 1 (by rfl) (by decide) (by rfl) (by decide) (by decide) (by decide) ?_
  refine tq_p (n := 22) 16 (by rfl) (by decide) (by rfl) (by decide) (by decide) (by decide) ?_
  refine tq_s (n := 23) (by rfl) (by decide) ?_
  refine tq_n (n := 24) (by rfl) (by decide) ?_
  refine tq_p (n := 25) 2 (by rfl) (by decide) (by rfl) (by decide) (by decide) (by decide) ?_
  refine tq_p (n := 26) 1 (by rfl) (by decide) (by rfl) (by decide) (by decide) (by decide) ?_
  refine tq_p (n := 27) o (by rfl) (by decide) e5 ob.1 ob.2.1 ob.2.2 ?_
  refine tq_s (n := 28) (by rfl) (by decide) ?_
  refine tq_s (n := 29) (by rfl) (by decide) ?_
  refine tq_p (n := 30) 2 (by rfl) (by decide) (by rfl) (by decide) (by decide) (by decide) ?_
  refine ⟨5 + 1, ?_⟩
  refine br_f (by decide) ?_
  refine tq_p (n := 31) 2 (by rfl) (by decide) (by rfl) (by decide) (by decide) (by decide) ?_
  refine nm_e ?_
  refine br_f (by decide) ?_
  refine tq_p (n := 32) 2 (by rfl) (by decide) (by rfl) (by decide) (by decide) (by decide) ?_
  refine nm_e ?_
  refine br_f (by decide) ?_
  refine tq_p (n := 33) 2 (by rfl) (by decide) (by rfl) (by decide) (by decide) (by decide) ?_
  refine nm_e ?_
  refine br_f (by decide) ?_
  refine tq_p (n := 34) 2 (by rfl) (by decide) (by rfl) (by decide) (by decide) (by decide) ?_
  refine nm_e ?_
  refine br_f (by decide) ?_
  refine tq_p (n := 35) 2 (by rfl) (by decide) (by rfl) (by decide) (by decide) (by decide) ?_
  refine nm_e ?_
  refine br_t (by decide) ?_
  refine tq_p (n := 36) 1 (by rfl) (by decide) (by rfl) (by decide) (by decide) (by decide) ?_
  refine tq_s (n := 37) (by rfl) (by decide) ?_
  refine md_w (by decide) ?_
  refine tq_n (n := 38) (by rfl) (by decide) ?_
  refine md_w (by decide) ?_
  refine tq_n (n := 39) (by rfl) (by decide) ?_
  refine tq_p (n := 40) 2 (by rfl) (by decide) (by rfl) (by decide) (by decide) (by decide) ?_
  refine tq_p (n := 41) 2 (by rfl) (by decide) (by rfl) (by decide) (by decide) (by decide) ?_
  exact lc_1 tm_1 (by rfl) (tp_c1 ho) h
theorem l2_1 {o : Nat} (ho : tp_O o) (e5 : x5 = nI o) (e4 : x4 = 2) (h : ∀ u', dq_OK xdl (tq_k (tl_2 o (md_f x6 9 - 4) (md_f x7 5 - 2) x6 x7)) (tq_v (tl_2 o (md_f x6 9 - 4) (md_f x7 5 - 2) x6 x7)) 44 u' → lw_69 post L xs m x4 x5 x6 x7 (x8 + 1) kc ks (zdl, ztn, zpp, zvc, zcc, zfc, zoc, zag, zan, zex, zen, zfl, zac, zst, zsp, zmd, zrt, zcu, ztk, ztv, zaf, zro, zsc, zho, zvk, zvf, zvs, zcv, zco, zff, zfp, zfe, zfb, zop) u') : wL_law_85 post L xs (wL_law_69 post L xs m) x4 x5 x6 x7 x8 kc ks zdl ztn zpp zvc zcc zfc zoc zag zan zex zen zfl zac zst zsp zmd zrt zcu ztk ztv zaf zro zsc zho zvk zvf zvs zcv zco zff zfp zfe zfb zop xdl (nI 0) xpp xvc xcc xfc xoc xag xan xex xen xfl xac xst xsp xmd xrt xcu (tq_k []) (tq_v []) xaf xro xsc xho xvk xvf xvs xcv xco xff xfp xfe xfb xop := by
  have ob := tp_b ho
  refine br_f (by rw [e4]; decide) (br_f (by rw [e4]; decide) (br_t e4 ?_))
  refine tq_p (n := 0) 1 (by rfl) (by decide) (by rfl) (by decide) (by decide) (by decide) ?_
  refine tq_p (n := 1) 8 (by rfl) (by decide) (by rfl) (by decide) (by decide) (by decide) ?_
  refine tq_p (n := 2) 1 (by rfl) (by decide) (by rfl) (by decide) (by decide) (by decide) ?_
  refine tq_p (n := 3) 1 (by rfl) (by decide) (by rfl) (by decide) (by decide) (by decide) ?_
  refine tq_s (n := 4) (by rfl) (by decide) ?_
  refine md_w (by decide) ?_
  refine tq_n (n := 5) (by rfl) (by decide) ?_
  refine tq_p (n := 6) 2 (by rfl) (by decide) (by rfl) (by decide) (by decide) (by decide) ?_
  refine tq_p (n := 7) 1 (by rfl) (by decide) (by rfl) (by decide) (by decide) (by decide) ?_
  refine tq_s (n := 8) (by rfl) (by decide) ?_
  refine md_w (by decide) ?_
  refine tq_n (n := 9) (by rfl) (by decide) ?_
  refine tq_p (n := 10) 2 (by rfl) (by decide) (by rfl) (by decide) (by decide) (by decide) ?_
  refine tq_p (n := 11) 2 (by rfl) (by decide) (by rfl) (by decide) (by decide) (by decide) ?_
  refine tq_p (n := 12) 1 (by rfl) (by decide) (by rfl) (by decide) (by decide) (by decide) ?_
  refine tq_p (n := 13) 11 (by rfl) (by decide) (by rfl) (by decide) (by decide) (by decide) ?_
  refine tq_p (n := 14) 1 (by rfl) (by decide) (by rfl) (by decide) (by decide) (by decide) ?_
  refine tq_p (n := 15) 7 (by rfl) (by decide) (by rfl) (by decide) (by decide) (by decide) ?_
  refine tq_p (n := 16) 1 (by rfl) (by decide) (by rfl) (by decide) (by decide) (by decide) ?_
  refine tq_s (n := 17) (by rfl) (by decide) ?_
  refine tq_p (n := 18) 2 (by rfl) (by decide) (by rfl) (by decide) (by decide) (by decide) ?_
  refine tq_p (n := 19) 1 (by rfl) (by decide) (by rfl) (by decide) (by decide) (by decide) ?_
  refine tq_p (n := 20) o (by rfl) (by decide) e5 ob.1 ob.2.1 ob.2.2 ?_
  refine tq_s (n := 21) (by rfl) (by decide) ?_
  refine tq_s (n := 22) (by rfl) (by decide) ?_
  refine tq_p (n := 23) 2 (by rfl) (by decide) (by rfl) (by decide) (by decide) (by decide) ?_
  refine tq_p (n := 24) 2 (by rfl) (by decide) (by rfl) (by decide) (by decide) (by decide) ?_
  refine tq_p (n := 25) 1 (by rfl) (by decide) (by rfl) (by decide) (by decide) (by decide) ?_
  refine tq_p (n := 26) 11 (by rfl) (by decide) (by rfl) (by decide) (by decide) (by decide) ?_
  refine tq_p (n := 27) 1 (by rfl) (by decide) (by rfl) (by decide) (by decide) (by decide) ?_
  refine tq_p (n := 28) o (by rfl) (by decide) e5 ob.1 ob.2.1 ob.2.2 ?_
  refine tq_s (n := 29) (by rfl) (by decide) ?_
  refine tq_s (n := 30) (by rfl) (by decide) ?_
  refine tq_p (n := 31) 2 (by rfl) (by decide) (by rfl) (by decide) (by decide) (by decide) ?_
  refine tq_p (n := 32) 1 (by rfl) (by decide) (by rfl) (by decide) (by decide) (by decide) ?_
  refine tq_p (n := 33) 6 (by rfl) (by decide) (by rfl) (by decide) (by decide) (by decide) ?_
  refine tq_p (n := 34) 1 (by rfl) (by decide) (by rfl) (by decide) (by decide) (by decide) ?_
  refine tq_n (n := 35) (by rfl) (by decide) ?_
  refine tq_p (n := 36) 1 (by rfl) (by decide) (by rfl) (by decide) (by decide) (by decide) ?_
  refine tq_p (n := 37) 2 (by rfl) (by decide) (by rfl) (by decide) (by decide) (by decide) ?_
  refine tq_n (n := 38) (by rfl) (by decide) ?_
  refine tq_p (n := 39) 2 (by rfl) (by decide) (by rfl) (by decide) (by decide) (by decide) ?_
  refine ⟨4 + 1, ?_⟩
  refine br_f (by decide) ?_
  refine tq_p (n := 40) 2 (by rfl) (by decide) (by rfl) (by decide) (by decide) (by decide) ?_
  refine nm_e ?_
  refine br_f (by decide) ?_
  refine tq_p (n := 41) 2 (by rfl) (by decide) (by rfl) (by decide) (by decide) (by decide) ?_
  refine nm_e ?_
  refine br_f (by decide) ?_
  refine tq_p (n := 42) 2 (by rfl) (by decide) (by rfl) (by decide) (by decide) (by decide) ?_
  refine nm_e ?_
  refine br_f (by decide) ?_
  refine tq_p (n := 43) 2 (by rfl) (by decide) (by rfl) (by decide) (by decide) (by decide) ?_
  refine nm_e ?_
  refine br_t (by decide) ?_
  exact lc_1 tm_2 (by rfl) (tp_c2 ho) h
theorem l3n0_1 (hL : L ≤ 260) (ek : md_f (ce_f L xs 6) 4 = nI 0) (h : ∀ u', dq_OK xdl (tq_k (tl_n0 x6)) (tq_v (tl_n0 x6)) 3 u' → lw_69 post L xs m x4 x5 x6 x7 (x8 + 1) kc ks (zdl, ztn, zpp, zvc, zcc, zfc, zoc, zag, zan, zex, zen, zfl, zac, zst, zsp, zmd, zrt, zcu, ztk, ztv, zaf, zro, zsc, zho, zvk, zvf, zvs, zcv, zco, zff, zfp, zfe, zfb, zop) u') : wL_law_1281 post L xs (wL_law_69 post L xs m) x4 x5 x6 x7 x8 kc ks zdl ztn zpp zvc zcc zfc zoc zag zan zex zen zfl zac zst zsp zmd zrt zcu ztk ztv zaf zro zsc zho zvk zvf zvs zcv zco zff zfp zfe zfb zop xdl (nI 2) xpp xvc xcc xfc xoc xag xan xex xen xfl xac xst xsp xmd xrt xcu (tq_k [(3, x6), (1, 0)]) (tq_v [(3, x6), (1, 0)]) xaf xro xsc xho xvk xvf xvs xcv xco xff xfp xfe xfb xop := by
  refine ce_d (j := 6) rfl (by decide) hL (md_w (by decide) ?_)
  rw [ek]
  refine ⟨0 + 1, ?_⟩
  refine br_t (by decide) ?_
  refine tq_p (n := 2) 2 (by rfl) (by decide) (by rfl) (by decide) (by decide) (by decide) ?_
  exact lc_1 tm_n0 (by rfl) tp_cn0 h
theorem l3n1_1 (hL : L ≤ 260) (ek : md_f (ce_f L xs 6) 4 = nI 1) (h : ∀ u', dq_OK xdl (tq_k (tl_n1 x6 (md_f x7 11 - 5 - 0))) (tq_v (tl_n1 x6 (md_f x7 11 - 5 - 0))) 4 u' → lw_69 post L xs m x4 x5 x6 x7 (x8 + 1) kc ks (zdl, ztn, zpp, zvc, zcc, zfc, zoc, zag, zan, zex, zen, zfl, zac, zst, zsp, zmd, zrt, zcu, ztk, ztv, zaf, zro, zsc, zho, zvk, zvf, zvs, zcv, zco, zff, zfp, zfe, zfb, zop) u') : wL_law_1281 post L xs (wL_law_69 post L xs m) x4 x5 x6 x7 x8 kc ks zdl ztn zpp zvc zcc zfc zoc zag zan zex zen zfl zac zst zsp zmd zrt zcu ztk ztv zaf zro zsc zho zvk zvf zvs zcv zco zff zfp zfe zfb zop xdl (nI 2) xpp xvc xcc xfc xoc xag xan xex xen xfl xac xst xsp xmd xrt xcu (tq_k [(3, x6), (1, 0)]) (tq_v [(3, x6), (1, 0)]) xaf xro xsc xho xvk xvf xvs xcv xco xff xfp xfe xfb xop := by
  refine ce_d (j := 6) rfl (by decide) hL (md_w (by decide) ?_)
  rw [ek]
  refine ⟨1 + 1, ?_⟩
  refine br_f (by decide) (md_w (by decide) ?_)
  refine tq_n (n := 2) (by rfl) (by decide) ?_
  refine nm_e ?_
  refine br_t (by decide) ?_
  refine tq_p (n := 3) 2 (by rfl) (by decide) (by rfl) (by decide) (by decide) (by decide) ?_
  exact lc_1 tm_n1 (by rfl) tp_cn1 h
theorem l3n2_1 (hL : L ≤ 260) (ek : md_f (ce_f L xs 6) 4 = nI 2) (h : ∀ u', dq_OK xdl (tq_k (tl_n2 x6 (md_f x7 11 - 5 - 0) (md_f x7 11 - 5 - (0 + 1)))) (tq_v (tl_n2 x6 (md_f x7 11 - 5 - 0) (md_f x7 11 - 5 - (0 + 1)))) 5 u' → lw_69 post L xs m x4 x5 x6 x7 (x8 + 1) kc ks (zdl, ztn, zpp, zvc, zcc, zfc, zoc, zag, zan, zex, zen, zfl, zac, zst, zsp, zmd, zrt, zcu, ztk, ztv, zaf, zro, zsc, zho, zvk, zvf, zvs, zcv, zco, zff, zfp, zfe, zfb, zop) u') : wL_law_1281 post L xs (wL_law_69 post L xs m) x4 x5 x6 x7 x8 kc ks zdl ztn zpp zvc zcc zfc zoc zag zan zex zen zfl zac zst zsp zmd zrt zcu ztk ztv zaf zro zsc zho zvk zvf zvs zcv zco zff zfp zfe zfb zop xdl (nI 2) xpp xvc xcc xfc xoc xag xan xex xen xfl xac xst xsp xmd xrt xcu (tq_k [(3, x6), (1, 0)]) (tq_v [(3, x6), (1, 0)]) xaf xro xsc xho xvk xvf xvs xcv xco xff xfp xfe xfb xop := by
  refine ce_d (j := 6) rfl (by decide) hL (md_w (by decide) ?_)
  rw [ek]
  refine ⟨2 + 1, ?_⟩
  refine br_f (by decide) (md_w (by decide) ?_)
  refine tq_n (n := 2) (by rfl) (by decide) ?_
  refine nm_e ?_
  refine br_f (by decide) (md_w (by decide) ?_)
  refine tq_n (n := 3) (by rfl) (by decide) ?_
  refine nm_e ?_
  refine br_t (by decide) ?_
  refine tq_p (n := 4) 2 (by rfl) (by decide) (by rfl) (by decide) (by decide) (by decide) ?_
  exact lc_1 tm_n2 (by rfl) tp_cn2 h
theorem l3n3_1 (hL : L ≤ 260) (ek : md_f (ce_f L xs 6) 4 = nI 3) (h : ∀ u', dq_OK xdl (tq_k (tl_n3 x6 (md_f x7 11 - 5 - 0) (md_f x7 11 - 5 - (0 + 1)) (md_f x7 11 - 5 - (0 + 1 + 1)))) (tq_v (tl_n3 x6 (md_f x7 11 - 5 - 0) (md_f x7 11 - 5 - (0 + 1)) (md_f x7 11 - 5 - (0 + 1 + 1)))) 6 u' → lw_69 post L xs m x4 x5 x6 x7 (x8 + 1) kc ks (zdl, ztn, zpp, zvc, zcc, zfc, zoc, zag, zan, zex, zen, zfl, zac, zst, zsp, zmd, zrt, zcu, ztk, ztv, zaf, zro, zsc, zho, zvk, zvf, zvs, zcv, zco, zff, zfp, zfe, zfb, zop) u') : wL_law_1281 post L xs (wL_law_69 post L xs m) x4 x5 x6 x7 x8 kc ks zdl ztn zpp zvc zcc zfc zoc zag zan zex zen zfl zac zst zsp zmd zrt zcu ztk ztv zaf zro zsc zho zvk zvf zvs zcv zco zff zfp zfe zfb zop xdl (nI 2) xpp xvc xcc xfc xoc xag xan xex xen xfl xac xst xsp xmd xrt xcu (tq_k [(3, x6), (1, 0)]) (tq_v [(3, x6), (1, 0)]) xaf xro xsc xho xvk xvf xvs xcv xco xff xfp xfe xfb xop := by
  refine ce_d (j := 6) rfl (by decide) hL (md_w (by decide) ?_)
  rw [ek]
  refine ⟨3 + 1, ?_⟩
  refine br_f (by decide) (md_w (by decide) ?_)
  refine tq_n (n := 2) (by rfl) (by decide) ?_
  refine nm_e ?_
  refine br_f (by decide) (md_w (by decide) ?_)
  refine tq_n (n := 3) (by rfl) (by decide) ?_
  refine nm_e ?_
  refine br_f (by decide) (md_w (by decide) ?_)
  refine tq_n (n := 4) (by rfl) (by decide) ?_
  refine nm_e ?_
  refine br_t (by decide) ?_
  refine tq_p (n := 5) 2 (by rfl) (by decide) (by rfl) (by decide) (by decide) (by decide) ?_
  exact lc_1 tm_n3 (by rfl) tp_cn3 h
theorem l3l0_1 {o : Nat} (ho : tp_O o) (hL : L ≤ 260) (ek : md_f (ce_f L xs 6) 4 = nI 0) (h : ∀ u', dq_OK xdl (tq_k (tl_l0 o)) (tq_v (tl_l0 o)) 14 u' → lw_69 post L xs m x4 x5 x6 x7 (x8 + 1) kc ks (zdl, ztn, zpp, zvc, zcc, zfc, zoc, zag, zan, zex, zen, zfl, zac, zst, zsp, zmd, zrt, zcu, ztk, ztv, zaf, zro, zsc, zho, zvk, zvf, zvs, zcv, zco, zff, zfp, zfe, zfb, zop) u') : wL_law_1281 post L xs (wL_law_69 post L xs m) x4 x5 x6 x7 x8 kc ks zdl ztn zpp zvc zcc zfc zoc zag zan zex zen zfl zac zst zsp zmd zrt zcu ztk ztv zaf zro zsc zho zvk zvf zvs zcv zco zff zfp zfe zfb zop xdl (nI 13) xpp xvc xcc xfc xoc xag xan xex xen xfl xac xst xsp xmd xrt xcu (tq_k [(2, 0), (2, 0), (4, 105), (4, 104), (o, 0), (1, 0), (2, 0), (4, 105), (4, 104), (1, 0), (7, 0), (1, 0), (1, 0)]) (tq_v [(2, 0), (2, 0), (4, 105), (4, 104), (o, 0), (1, 0), (2, 0), (4, 105), (4, 104), (1, 0), (7, 0), (1, 0), (1, 0)]) xaf xro xsc xho xvk xvf xvs xcv xco xff xfp xfe xfb xop := by
  refine ce_d (j := 6) rfl (by decide) hL (md_w (by decide) ?_)
  rw [ek]
  refine ⟨0 + 1, ?_⟩
  refine br_t (by decide) ?_
  refine tq_p (n := 13) 2 (by rfl) (by decide) (by rfl) (by decide) (by decide) (by decide) ?_
  exact lc_1 tm_l0 (by rfl) (tp_cl0 ho) h
theorem l3l1_1 {o : Nat} (ho : tp_O o) (hL : L ≤ 260) (ek : md_f (ce_f L xs 6) 4 = nI 1) (h : ∀ u', dq_OK xdl (tq_k (tl_l1 o (md_f x7 11 - 5 - 0))) (tq_v (tl_l1 o (md_f x7 11 - 5 - 0))) 15 u' → lw_69 post L xs m x4 x5 x6 x7 (x8 + 1) kc ks (zdl, ztn, zpp, zvc, zcc, zfc, zoc, zag, zan, zex, zen, zfl, zac, zst, zsp, zmd, zrt, zcu, ztk, ztv, zaf, zro, zsc, zho, zvk, zvf, zvs, zcv, zco, zff, zfp, zfe, zfb, zop) u') : wL_law_1281 post L xs (wL_law_69 post L xs m) x4 x5 x6 x7 x8 kc ks zdl ztn zpp zvc zcc zfc zoc zag zan zex zen zfl zac zst zsp zmd zrt zcu ztk ztv zaf zro zsc zho zvk zvf zvs zcv zco zff zfp zfe zfb zop xdl (nI 13) xpp xvc xcc xfc xoc xag xan xex xen xfl xac xst xsp xmd xrt xcu (tq_k [(2, 0), (2, 0), (4, 105), (4, 104), (o, 0), (1, 0), (2, 0), (4, 105), (4, 104), (1, 0), (7, 0), (1, 0), (1, 0)]) (tq_v [(2, 0), (2, 0), (4, 105), (4, 104), (o, 0), (1, 0), (2, 0), (4, 105), (4, 104), (1, 0), (7, 0), (1, 0), (1, 0)]) xaf xro xsc xho xvk xvf xvs xcv xco xff xfp xfe xfb xop := by
  refine ce_d (j := 6) rfl (by decide) hL (md_w (by decide) ?_)
  rw [ek]
  refine ⟨1 + 1, ?_⟩
  refine br_f (by decide) (md_w (by decide) ?_)
  refine tq_n (n := 13) (by rfl) (by decide) ?_
  refine nm_e ?_
  refine br_t (by decide) ?_
  refine tq_p (n := 14) 2 (by rfl) (by decide) (by rfl) (by decide) (by decide) (by decide) ?_
  exact lc_1 tm_l1 (by rfl) (tp_cl1 ho) h
theorem l3l2_1 {o : Nat} (ho : tp_O o) (hL : L ≤ 260) (ek : md_f (ce_f L xs 6) 4 = nI 2) (h : ∀ u', dq_OK xdl (tq_k (tl_l2 o (md_f x7 11 - 5 - 0) (md_f x7 11 - 5 - (0 + 1)))) (tq_v (tl_l2 o (md_f x7 11 - 5 - 0) (md_f x7 11 - 5 - (0 + 1)))) 16 u' → lw_69 post L xs m x4 x5 x6 x7 (x8 + 1) kc ks (zdl, ztn, zpp, zvc, zcc, zfc, zoc, zag, zan, zex, zen, zfl, zac, zst, zsp, zmd, zrt, zcu, ztk, ztv, zaf, zro, zsc, zho, zvk, zvf, zvs, zcv, zco, zff, zfp, zfe, zfb, zop) u') : wL_law_1281 post L xs (wL_law_69 post L xs m) x4 x5 x6 x7 x8 kc ks zdl ztn zpp zvc zcc zfc zoc zag zan zex zen zfl zac zst zsp zmd zrt zcu ztk ztv zaf zro zsc zho zvk zvf zvs zcv zco zff zfp zfe zfb zop xdl (nI 13) xpp xvc xcc xfc xoc xag xan xex xen xfl xac xst xsp xmd xrt xcu (tq_k [(2, 0), (2, 0), (4, 105), (4, 104), (o, 0), (1, 0), (2, 0), (4, 105), (4, 104), (1, 0), (7, 0), (1, 0), (1, 0)]) (tq_v [(2, 0), (2, 0), (4, 105), (4, 104), (o, 0), (1, 0), (2, 0), (4, 105), (4, 104), (1, 0), (7, 0), (1, 0), (1, 0)]) xaf xro xsc xho xvk xvf xvs xcv xco xff xfp xfe xfb xop := by
  refine ce_d (j := 6) rfl (by decide) hL (md_w (by decide) ?_)
  rw [ek]
  refine ⟨2 + 1, ?_⟩
  refine br_f (by decide) (md_w (by decide) ?_)
  refine tq_n (n := 13) (by rfl) (by decide) ?_
  refine nm_e ?_
  refine br_f (by decide) (md_w (by decide) ?_)
  refine tq_n (n := 14) (by rfl) (by decide) ?_
  refine nm_e ?_
  refine br_t (by decide) ?_
  refine tq_p (n := 15) 2 (by rfl) (by decide) (by rfl) (by decide) (by decide) (by decide) ?_
  exact lc_1 tm_l2 (by rfl) (tp_cl2 ho) h
theorem l3l3_1 {o : Nat} (ho : tp_O o) (hL : L ≤ 260) (ek : md_f (ce_f L xs 6) 4 = nI 3) (h : ∀ u', dq_OK xdl (tq_k (tl_l3 o (md_f x7 11 - 5 - 0) (md_f x7 11 - 5 - (0 + 1)) (md_f x7 11 - 5 - (0 + 1 + 1)))) (tq_v (tl_l3 o (md_f x7 11 - 5 - 0) (md_f x7 11 - 5 - (0 + 1)) (md_f x7 11 - 5 - (0 + 1 + 1)))) 17 u' → lw_69 post L xs m x4 x5 x6 x7 (x8 + 1) kc ks (zdl, ztn, zpp, zvc, zcc, zfc, zoc, zag, zan, zex, zen, zfl, zac, zst, zsp, zmd, zrt, zcu, ztk, ztv, zaf, zro, zsc, zho, zvk, zvf, zvs, zcv, zco, zff, zfp, zfe, zfb, zop) u') : wL_law_1281 post L xs (wL_law_69 post L xs m) x4 x5 x6 x7 x8 kc ks zdl ztn zpp zvc zcc zfc zoc zag zan zex zen zfl zac zst zsp zmd zrt zcu ztk ztv zaf zro zsc zho zvk zvf zvs zcv zco zff zfp zfe zfb zop xdl (nI 13) xpp xvc xcc xfc xoc xag xan xex xen xfl xac xst xsp xmd xrt xcu (tq_k [(2, 0), (2, 0), (4, 105), (4, 104), (o, 0), (1, 0), (2, 0), (4, 105), (4, 104), (1, 0), (7, 0), (1, 0), (1, 0)]) (tq_v [(2, 0), (2, 0), (4, 105), (4, 104), (o, 0), (1, 0), (2, 0), (4, 105), (4, 104), (1, 0), (7, 0), (1, 0), (1, 0)]) xaf xro xsc xho xvk xvf xvs xcv xco xff xfp xfe xfb xop := by
  refine ce_d (j := 6) rfl (by decide) hL (md_w (by decide) ?_)
  rw [ek]
  refine ⟨3 + 1, ?_⟩
  refine br_f (by decide) (md_w (by decide) ?_)
  refine tq_n (n := 13) (by rfl) (by decide) ?_
  refine nm_e ?_
  refine br_f (by decide) (md_w (by decide) ?_)
  refine tq_n (n := 14) (by rfl) (by decide) ?_
  refine nm_e ?_
  refine br_f (by decide) (md_w (by decide) ?_)
  refine tq_n (n := 15) (by rfl) (by decide) ?_
  refine nm_e ?_
  refine br_t (by decide) ?_
  refine tq_p (n := 16) 2 (by rfl) (by decide) (by rfl) (by decide) (by decide) (by decide) ?_
  exact lc_1 tm_l3 (by rfl) (tp_cl3 ho) h
theorem l3n_1 (e0 : ¬ x4 = 0) (e1 : ¬ x4 = 1) (e2 : ¬ x4 = 2) (ea : md_f x6 5 = 0) (h : wL_law_1281 post L xs (wL_law_69 post L xs m) x4 x5 x6 x7 x8 kc ks zdl ztn zpp zvc zcc zfc zoc zag zan zex zen zfl zac zst zsp zmd zrt zcu ztk ztv zaf zro zsc zho zvk zvf zvs zcv zco zff zfp zfe zfb zop xdl (nI 2) 0 xvc xcc xfc xoc xag xan xex xen xfl xac (-1) 0 0 (-1) (-1) (tq_k [(3, x6), (1, 0)]) (tq_v [(3, x6), (1, 0)]) xaf xro xsc xho xvk xvf xvs xcv xco xff xfp xfe xfb xop) : wL_law_85 post L xs (wL_law_69 post L xs m) x4 x5 x6 x7 x8 kc ks zdl ztn zpp zvc zcc zfc zoc zag zan zex zen zfl zac zst zsp zmd zrt zcu ztk ztv zaf zro zsc zho zvk zvf zvs zcv zco zff zfp zfe zfb zop xdl (nI 0) xpp xvc xcc xfc xoc xag xan xex xen xfl xac xst xsp xmd xrt xcu (tq_k []) (tq_v []) xaf xro xsc xho xvk xvf xvs xcv xco xff xfp xfe xfb xop := by
  refine br_f e0 (br_f e1 (br_f e2 ?_))
  refine tq_p (n := 0) 1 (by rfl) (by decide) (by rfl) (by decide) (by decide) (by decide) ?_
  refine md_w (by decide) ?_
  refine br_t ea ?_
  refine tq_n (n := 1) (by rfl) (by decide) ?_
  exact h
theorem l3l_1 {o : Nat} (ho : tp_O o) (e5 : x5 = nI o) (e0 : ¬ x4 = 0) (e1 : ¬ x4 = 1) (e2 : ¬ x4 = 2) (ea : ¬ md_f x6 5 = 0) (h : wL_law_1281 post L xs (wL_law_69 post L xs m) x4 x5 x6 x7 x8 kc ks zdl ztn zpp zvc zcc zfc zoc zag zan zex zen zfl zac zst zsp zmd zrt zcu ztk ztv zaf zro zsc zho zvk zvf zvs zcv zco zff zfp zfe zfb zop xdl (nI 13) 0 xvc xcc xfc xoc xag xan xex xen xfl xac (-1) 0 0 (-1) (-1) (tq_k [(2, 0), (2, 0), (4, 105), (4, 104), (o, 0), (1, 0), (2, 0), (4, 105), (4, 104), (1, 0), (7, 0), (1, 0), (1, 0)]) (tq_v [(2, 0), (2, 0), (4, 105), (4, 104), (o, 0), (1, 0), (2, 0), (4, 105), (4, 104), (1, 0), (7, 0), (1, 0), (1, 0)]) xaf xro xsc xho xvk xvf xvs xcv xco xff xfp xfe xfb xop) : wL_law_85 post L xs (wL_law_69 post L xs m) x4 x5 x6 x7 x8 kc ks zdl ztn zpp zvc zcc zfc zoc zag zan zex zen zfl zac zst zsp zmd zrt zcu ztk ztv zaf zro zsc zho zvk zvf zvs zcv zco zff zfp zfe zfb zop xdl (nI 0) xpp xvc xcc xfc xoc xag xan xex xen xfl xac xst xsp xmd xrt xcu (tq_k []) (tq_v []) xaf xro xsc xho xvk xvf xvs xcv xco xff xfp xfe xfb xop := by
  have ob := tp_b ho
  refine br_f e0 (br_f e1 (br_f e2 ?_))
  refine tq_p (n := 0) 1 (by rfl) (by decide) (by rfl) (by decide) (by decide) (by decide) ?_
  refine md_w (by decide) ?_
  refine br_f ea ?_
  refine tq_p (n := 1) 1 (by rfl) (by decide) (by rfl) (by decide) (by decide) (by decide) ?_
  refine tq_p (n := 2) 7 (by rfl) (by decide) (by rfl) (by decide) (by decide) (by decide) ?_
  refine tq_p (n := 3) 1 (by rfl) (by decide) (by rfl) (by decide) (by decide) (by decide) ?_
  refine tq_s (n := 4) (by rfl) (by decide) ?_
  refine tq_s (n := 5) (by rfl) (by decide) ?_
  refine tq_p (n := 6) 2 (by rfl) (by decide) (by rfl) (by decide) (by decide) (by decide) ?_
  refine tq_p (n := 7) 1 (by rfl) (by decide) (by rfl) (by decide) (by decide) (by decide) ?_
  refine tq_p (n := 8) o (by rfl) (by decide) e5 ob.1 ob.2.1 ob.2.2 ?_
  refine tq_s (n := 9) (by rfl) (by decide) ?_
  refine tq_s (n := 10) (by rfl) (by decide) ?_
  refine tq_p (n := 11) 2 (by rfl) (by decide) (by rfl) (by decide) (by decide) (by decide) ?_
  refine tq_p (n := 12) 2 (by rfl) (by decide) (by rfl) (by decide) (by decide) (by decide) ?_
  exact h

end
