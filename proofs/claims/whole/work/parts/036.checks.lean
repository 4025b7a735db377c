/-! every table is right: by the kernel -/
def xZs : xiZ := ([("DrawBench$Slots", "LOWEST_FACT", "[I"), ("DrawBench$Slots", "HIGHEST_FACT", "[I")], [("DrawBench", 25, ⟨"DrawBench$Lots", "<init>", "()V"⟩, "DrawBench"), ("DrawBench$Fraction", 11, ⟨"DrawBench$Big", "<init>", "()V"⟩, "DrawBench"), ("DrawBench", 39, ⟨"DrawBench$Tally", "<init>", "()V"⟩, "DrawBench"), ("DrawBench$Tally", 9, ⟨"DrawBench$Big", "<init>", "()V"⟩, "DrawBench"), ("DrawBench", 46, ⟨"DrawBench$Sharing", "<init>", "()V"⟩, "DrawBench"), ("DrawBench", 53, ⟨"DrawBench$Cutting", "<init>", "()V"⟩, "DrawBench")])
def xG0 : xiG := xG 0 (fun _ => 0)
def xT : List Cond := k2_sels lw_privs ++ tables_1.filter goodWord
theorem xk_T : ∀ w ∈ xT, goodWord w = true := fun w hw => (List.mem_append.mp hw).elim (fun h => by obtain ⟨q, -, rfl⟩ := List.mem_map.mp h; rfl) (fun h => (List.mem_filter.mp h).2)
theorem xk_T2 : ∀ w ∈ xT, w ∈ lw_tbl := fun w hw => (List.mem_append.mp hw).elim (fun h => List.mem_append_left _ h) (fun h => List.mem_append_right _ (List.mem_filter.mp h).1)
theorem xk_c0 : ∀ w ∈ u_ws RX0 TX0 1, w ∈ xT := by decide +kernel
theorem xk_c1 : ∀ w ∈ u_ws RX1 TX1 5, w ∈ xT := by decide +kernel
theorem xk_c2 : ∀ w ∈ u_ws RX2 TX2 5, w ∈ xT := by decide +kernel
theorem xk_c3 : ∀ w ∈ u_ws RX3 TX3 4, w ∈ xT := by decide +kernel
theorem xk_c4 : ∀ w ∈ u_ws RX4 TX4 7, w ∈ xT := by decide +kernel
theorem xk_c5 : ∀ w ∈ u_ws RX5 TX5 5, w ∈ xT := by decide +kernel
theorem xk_c6 : ∀ w ∈ u_ws RX6 TX6 3, w ∈ xT := by decide +kernel
theorem xk_c7 : ∀ w ∈ u_ws RX7 TX7 2, w ∈ xT := by decide +kernel
theorem xk_c8 : ∀ w ∈ u_ws RX8 TX8 7, w ∈ xT := by decide +kernel
theorem xk_c9 : ∀ w ∈ u_ws RX9 TX9 22, w ∈ xT := by decide +kernel
def xi_okP (T : List Cond) (md : xiM) (p1 p2 p3 p4 : Nat) : Bool :=
  plainFor md.1.2.1 && decide (T[p1]? = some (Cond.code md.1.2.1 md.1.2.2 md.2.1.1 md.2.1.2.1)) && decide (T[p2]? = some (Cond.initialized md.1.2.1.cls)) && decide (md.1.2.1.cls ≠ "java/lang/invoke/MethodHandle") && decide (md.1.2.1.cls ≠ "java/lang/invoke/VarHandle") && decide ((parseMethodDescriptor md.1.2.1.desc).map (fun d => d.parameters.length) = some md.2.1.2.2) &&
  (match decide (md.1.1 = "static") with
  | true => decide (T[p3]? = some (Cond.static md.1.2.1))
  | false => match decide (md.1.1 = "virtual") with
    | true => decide (T[p3]? = some (Cond.instanceMethod md.1.2.1)) && decide (T[p4]? = some (Cond.selects md.1.2.1.cls md.1.2.1 md.1.2.1))
    | false => decide (md.1.1 = "init") && decide (T[p3]? = some (Cond.instanceMethod md.1.2.1)) && decide (md.1.2.1.name = "<init>") && decide (md.2.1.2.1 = none))
theorem xi_okM_P {T : List Cond} {md : xiM} (p1 p2 p3 p4 : Nat) (h : xi_okP T md p1 p2 p3 p4 = true) : xi_okM T md = true := by
  unfold xi_okP at h
  unfold xi_okM
  simp only [Bool.and_eq_true, decide_eq_true_eq] at h ⊢
  obtain ⟨⟨⟨⟨⟨⟨h1, h2⟩, h3⟩, h4⟩, h5⟩, h6⟩, h7⟩ := h
  refine ⟨⟨⟨⟨⟨⟨h1, List.mem_of_getElem? h2⟩, List.mem_of_getElem? h3⟩, h4⟩, h5⟩, h6⟩, ?_⟩
  revert h7
  cases decide (md.1.1 = "static") with
  | true => intro h7; exact decide_eq_true (List.mem_of_getElem? (of_decide_eq_true h7))
  | false =>
    cases decide (md.1.1 = "virtual") with
    | true =>
      intro h7
      simp only [Bool.and_eq_true, decide_eq_true_eq] at h7 ⊢
      exact ⟨List.mem_of_getElem? h7.1, List.mem_of_getElem? h7.2⟩
    | false =>
      intro h7
      simp only [Bool.and_eq_true, decide_eq_true_eq] at h7 ⊢
      exact ⟨⟨⟨h7.1.1.1, List.mem_of_getElem? h7.1.1.2⟩, h7.1.2⟩, h7.2⟩
theorem xk_m_Int_bitCount : xi_okM xT xm_Int_bitCount = true := xi_okM_P 367 78 366 0 (by decide +kernel)
set_option maxRecDepth 20000 in
theorem xk_e_Int_bitCount : xm_Int_bitCount.2.2.2.all (xi_okE xT xCl xZs xG0 xm_Int_bitCount) = true := by decide +kernel
theorem xk_m_Math_floorDivL : xi_okM xT xm_Math_floorDivL = true := xi_okM_P 462 77 461 0 (by decide +kernel)
set_option maxRecDepth 20000 in
theorem xk_e_Math_floorDivL : xm_Math_floorDivL.2.2.2.all (xi_okE xT xCl xZs xG0 xm_Math_floorDivL) = true := by decide +kernel
theorem xk_m_Math_floorModI : xi_okM xT xm_Math_floorModI = true := xi_okM_P 424 77 423 0 (by decide +kernel)
set_option maxRecDepth 20000 in
theorem xk_e_Math_floorModI : xm_Math_floorModI.2.2.2.all (xi_okE xT xCl xZs xG0 xm_Math_floorModI) = true := by decide +kernel
theorem xk_m_Math_floorModL : xi_okM xT xm_Math_floorModL = true := xi_okM_P 459 77 458 0 (by decide +kernel)
set_option maxRecDepth 20000 in
theorem xk_e_Math_floorModL : xm_Math_floorModL.2.2.2.all (xi_okE xT xCl xZs xG0 xm_Math_floorModL) = true := by decide +kernel
theorem xk_m_Math_max : xi_okM xT xm_Math_max = true := xi_okM_P 444 77 443 0 (by decide +kernel)
set_option maxRecDepth 20000 in
theorem xk_e_Math_max : xm_Math_max.2.2.2.all (xi_okE xT xCl xZs xG0 xm_Math_max) = true := by decide +kernel
theorem xk_m_Math_min : xi_okM xT xm_Math_min = true := xi_okM_P 447 77 446 0 (by decide +kernel)
set_option maxRecDepth 20000 in
theorem xk_e_Math_min : xm_Math_min.2.2.2.all (xi_okE xT xCl xZs xG0 xm_Math_min) = true := by decide +kernel
theorem xk_m_Arr_fillL : xi_okM xT xm_Arr_fillL = true := xi_okM_P 434 68 433 0 (by decide +kernel)
set_option maxRecDepth 20000 in
theorem xk_e_Arr_fillL : xm_Arr_fillL.2.2.2.all (xi_okE xT xCl xZs xG0 xm_Arr_fillL) = true := by decide +kernel
theorem xk_m_Arr_fillI : xi_okM xT xm_Arr_fillI = true := xi_okM_P 95 68 94 0 (by decide +kernel)
set_option maxRecDepth 20000 in
theorem xk_e_Arr_fillI : xm_Arr_fillI.2.2.2.all (xi_okE xT xCl xZs xG0 xm_Arr_fillI) = true := by decide +kernel
theorem xk_m_Big_init : xi_okM xT xm_Big_init = true := xi_okM_P 184 72 183 0 (by decide +kernel)
set_option maxRecDepth 20000 in
theorem xk_e_Big_init : xm_Big_init.2.2.2.all (xi_okE xT xCl xZs xG0 xm_Big_init) = true := by decide +kernel
theorem xk_m_Big_become : xi_okM xT xm_Big_become = true := xi_okM_P 455 72 453 454 (by decide +kernel)
set_option maxRecDepth 20000 in
theorem xk_e_Big_become : xm_Big_become.2.2.2.all (xi_okE xT xCl xZs xG0 xm_Big_become) = true := by decide +kernel
theorem xk_m_Big_multiply : xi_okM xT xm_Big_multiply = true := xi_okM_P 484 72 482 483 (by decide +kernel)
set_option maxRecDepth 20000 in
theorem xk_e_Big_multiply : xm_Big_multiply.2.2.2.all (xi_okE xT xCl xZs xG0 xm_Big_multiply) = true := by decide +kernel
theorem xk_m_Big_addProduct : xi_okM xT xm_Big_addProduct = true := xi_okM_P 547 72 545 546 (by decide +kernel)
set_option maxRecDepth 20000 in
theorem xk_e_Big_addProduct : xm_Big_addProduct.2.2.2.all (xi_okE xT xCl xZs xG0 xm_Big_addProduct) = true := by decide +kernel
theorem xk_m_Big_isBelowZero : xi_okM xT xm_Big_isBelowZero = true := xi_okM_P 478 72 476 477 (by decide +kernel)
set_option maxRecDepth 20000 in
theorem xk_e_Big_isBelowZero : xm_Big_isBelowZero.2.2.2.all (xi_okE xT xCl xZs xG0 xm_Big_isBelowZero) = true := by decide +kernel
theorem xk_m_Big_length : xi_okM xT xm_Big_length = true := xi_okM_P 474 72 472 473 (by decide +kernel)
set_option maxRecDepth 20000 in
theorem xk_e_Big_length : xm_Big_length.2.2.2.all (xi_okE xT xCl xZs xG0 xm_Big_length) = true := by decide +kernel
theorem xk_m_Big_isZero : xi_okM xT xm_Big_isZero = true := xi_okM_P 470 72 468 469 (by decide +kernel)
set_option maxRecDepth 20000 in
theorem xk_e_Big_isZero : xm_Big_isZero.2.2.2.all (xi_okE xT xCl xZs xG0 xm_Big_isZero) = true := by decide +kernel
theorem xk_m_Big_divide : xi_okM xT xm_Big_divide = true := xi_okM_P 492 72 490 491 (by decide +kernel)
set_option maxRecDepth 20000 in
theorem xk_e_Big_divide : xm_Big_divide.2.2.2.all (xi_okE xT xCl xZs xG0 xm_Big_divide) = true := by decide +kernel
theorem xk_m_Crowd_init : xi_okM xT xm_Crowd_init = true := xi_okM_P 113 69 112 0 (by decide +kernel)
set_option maxRecDepth 20000 in
theorem xk_e_Crowd_init : xm_Crowd_init.2.2.2.all (xi_okE xT xCl xZs xG0 xm_Crowd_init) = true := by decide +kernel
theorem xk_m_Crowd_take : xi_okM xT xm_Crowd_take = true := xi_okM_P 338 69 336 337 (by decide +kernel)
set_option maxRecDepth 20000 in
theorem xk_e_Crowd_take : xm_Crowd_take.2.2.2.all (xi_okE xT xCl xZs xG0 xm_Crowd_take) = true := by decide +kernel
theorem xk_m_Crowd_setCount : xi_okM xT xm_Crowd_setCount = true := xi_okM_P 401 69 399 400 (by decide +kernel)
set_option maxRecDepth 20000 in
theorem xk_e_Crowd_setCount : xm_Crowd_setCount.2.2.2.all (xi_okE xT xCl xZs xG0 xm_Crowd_setCount) = true := by decide +kernel
theorem xk_m_Crowd_heapNames : xi_okM xT xm_Crowd_heapNames = true := xi_okM_P 364 69 362 363 (by decide +kernel)
set_option maxRecDepth 20000 in
theorem xk_e_Crowd_heapNames : xm_Crowd_heapNames.2.2.2.all (xi_okE xT xCl xZs xG0 xm_Crowd_heapNames) = true := by decide +kernel
theorem xk_m_Crowd_heapsWithNames : xi_okM xT xm_Crowd_heapsWithNames = true := xi_okM_P 597 69 595 596 (by decide +kernel)
set_option maxRecDepth 20000 in
theorem xk_e_Crowd_heapsWithNames : xm_Crowd_heapsWithNames.2.2.2.all (xi_okE xT xCl xZs xG0 xm_Crowd_heapsWithNames) = true := by decide +kernel
theorem xk_m_Crowd_allSizes : xi_okM xT xm_Crowd_allSizes = true := xi_okM_P 382 69 380 381 (by decide +kernel)
set_option maxRecDepth 20000 in
theorem xk_e_Crowd_allSizes : xm_Crowd_allSizes.2.2.2.all (xi_okE xT xCl xZs xG0 xm_Crowd_allSizes) = true := by decide +kernel
theorem xk_m_Crowd_spreadTop : xi_okM xT xm_Crowd_spreadTop = true := xi_okM_P 580 69 578 579 (by decide +kernel)
set_option maxRecDepth 20000 in
theorem xk_e_Crowd_spreadTop : xm_Crowd_spreadTop.2.2.2.all (xi_okE xT xCl xZs xG0 xm_Crowd_spreadTop) = true := by decide +kernel
theorem xk_m_Crowd_spreadBottom : xi_okM xT xm_Crowd_spreadBottom = true := xi_okM_P 585 69 583 584 (by decide +kernel)
set_option maxRecDepth 20000 in
theorem xk_e_Crowd_spreadBottom : xm_Crowd_spreadBottom.2.2.2.all (xi_okE xT xCl xZs xG0 xm_Crowd_spreadBottom) = true := by decide +kernel
theorem xk_m_Cutting_init : xi_okM xT xm_Cutting_init = true := xi_okM_P 249 75 248 0 (by decide +kernel)
set_option maxRecDepth 20000 in
theorem xk_e_Cutting_init : xm_Cutting_init.2.2.2.all (xi_okE xT xCl xZs xG0 xm_Cutting_init) = true := by decide +kernel
theorem xk_m_Cutting_leastOf : xi_okM xT xm_Cutting_leastOf = true := xi_okM_P 645 75 643 644 (by decide +kernel)
set_option maxRecDepth 20000 in
theorem xk_e_Cutting_leastOf : xm_Cutting_leastOf.2.2.2.all (xi_okE xT xCl xZs xG0 xm_Cutting_leastOf) = true := by decide +kernel
theorem xk_m_Cutting_cut : xi_okM xT xm_Cutting_cut = true := xi_okM_P 629 75 627 628 (by decide +kernel)
set_option maxRecDepth 20000 in
theorem xk_e_Cutting_cut : xm_Cutting_cut.2.2.2.all (xi_okE xT xCl xZs xG0 xm_Cutting_cut) = true := by decide +kernel
theorem xk_m_Cutting_order : xi_okM xT xm_Cutting_order = true := xi_okM_P 632 75 631 23 (by decide +kernel)
set_option maxRecDepth 20000 in
theorem xk_e_Cutting_order : xm_Cutting_order.2.2.2.all (xi_okE xT xCl xZs xG0 xm_Cutting_order) = true := by decide +kernel
theorem xk_m_Cutting_cost : xi_okM xT xm_Cutting_cost = true := xi_okM_P 635 75 634 24 (by decide +kernel)
set_option maxRecDepth 20000 in
theorem xk_e_Cutting_cost : xm_Cutting_cost.2.2.2.all (xi_okE xT xCl xZs xG0 xm_Cutting_cost) = true := by decide +kernel
theorem xk_m_Cutting_cutFirst : xi_okM xT xm_Cutting_cutFirst = true := xi_okM_P 641 75 640 26 (by decide +kernel)
set_option maxRecDepth 20000 in
theorem xk_e_Cutting_cutFirst : xm_Cutting_cutFirst.2.2.2.all (xi_okE xT xCl xZs xG0 xm_Cutting_cutFirst) = true := by decide +kernel
theorem xk_m_Cutting_choose : xi_okM xT xm_Cutting_choose = true := xi_okM_P 638 75 637 25 (by decide +kernel)
set_option maxRecDepth 20000 in
theorem xk_e_Cutting_choose : xm_Cutting_choose.2.2.2.all (xi_okE xT xCl xZs xG0 xm_Cutting_choose) = true := by decide +kernel
theorem xk_m_Cutting_bandOf : xi_okM xT xm_Cutting_bandOf = true := xi_okM_P 654 75 652 653 (by decide +kernel)
set_option maxRecDepth 20000 in
theorem xk_e_Cutting_bandOf : xm_Cutting_bandOf.2.2.2.all (xi_okE xT xCl xZs xG0 xm_Cutting_bandOf) = true := by decide +kernel
theorem xk_m_Fraction_init : xi_okM xT xm_Fraction_init = true := xi_okM_P 179 71 178 0 (by decide +kernel)
set_option maxRecDepth 20000 in
theorem xk_e_Fraction_init : xm_Fraction_init.2.2.2.all (xi_okE xT xCl xZs xG0 xm_Fraction_init) = true := by decide +kernel
theorem xk_m_Fraction_put : xi_okM xT xm_Fraction_put = true := xi_okM_P 451 71 449 450 (by decide +kernel)
set_option maxRecDepth 20000 in
theorem xk_e_Fraction_put : xm_Fraction_put.2.2.2.all (xi_okE xT xCl xZs xG0 xm_Fraction_put) = true := by decide +kernel
theorem xk_m_Fraction_takeTop : xi_okM xT xm_Fraction_takeTop = true := xi_okM_P 466 71 464 465 (by decide +kernel)
set_option maxRecDepth 20000 in
theorem xk_e_Fraction_takeTop : xm_Fraction_takeTop.2.2.2.all (xi_okE xT xCl xZs xG0 xm_Fraction_takeTop) = true := by decide +kernel
theorem xk_m_Fraction_divide : xi_okM xT xm_Fraction_divide = true := xi_okM_P 488 71 486 487 (by decide +kernel)
set_option maxRecDepth 20000 in
theorem xk_e_Fraction_divide : xm_Fraction_divide.2.2.2.all (xi_okE xT xCl xZs xG0 xm_Fraction_divide) = true := by decide +kernel
theorem xk_m_Fraction_gcd : xi_okM xT xm_Fraction_gcd = true := xi_okM_P 497 71 496 0 (by decide +kernel)
set_option maxRecDepth 20000 in
theorem xk_e_Fraction_gcd : xm_Fraction_gcd.2.2.2.all (xi_okE xT xCl xZs xG0 xm_Fraction_gcd) = true := by decide +kernel
theorem xk_m_Lots_init : xi_okM xT xm_Lots_init = true := xi_okM_P 145 70 144 0 (by decide +kernel)
set_option maxRecDepth 20000 in
theorem xk_e_Lots_init : xm_Lots_init.2.2.2.all (xi_okE xT xCl xZs xG0 xm_Lots_init) = true := by decide +kernel
theorem xk_m_Lots_forget : xi_okM xT xm_Lots_forget = true := xi_okM_P 348 70 346 347 (by decide +kernel)
set_option maxRecDepth 20000 in
theorem xk_e_Lots_forget : xm_Lots_forget.2.2.2.all (xi_okE xT xCl xZs xG0 xm_Lots_forget) = true := by decide +kernel
theorem xk_m_Lots_choose : xi_okM xT xm_Lots_choose = true := xi_okM_P 353 70 351 352 (by decide +kernel)
set_option maxRecDepth 20000 in
theorem xk_e_Lots_choose : xm_Lots_choose.2.2.2.all (xi_okE xT xCl xZs xG0 xm_Lots_choose) = true := by decide +kernel
theorem xk_m_Lots_fromAllHeaps : xi_okM xT xm_Lots_fromAllHeaps = true := xi_okM_P 671 70 669 670 (by decide +kernel)
set_option maxRecDepth 20000 in
theorem xk_e_Lots_fromAllHeaps : xm_Lots_fromAllHeaps.2.2.2.all (xi_okE xT xCl xZs xG0 xm_Lots_fromAllHeaps) = true := by decide +kernel
theorem xk_m_Lots_weightOfName : xi_okM xT xm_Lots_weightOfName = true := xi_okM_P 526 70 524 525 (by decide +kernel)
set_option maxRecDepth 20000 in
theorem xk_e_Lots_weightOfName : xm_Lots_weightOfName.2.2.2.all (xi_okE xT xCl xZs xG0 xm_Lots_weightOfName) = true := by decide +kernel
theorem xk_m_Lots_weightOfPair : xi_okM xT xm_Lots_weightOfPair = true := xi_okM_P 441 70 439 440 (by decide +kernel)
set_option maxRecDepth 20000 in
theorem xk_e_Lots_weightOfPair : xm_Lots_weightOfPair.2.2.2.all (xi_okE xT xCl xZs xG0 xm_Lots_weightOfPair) = true := by decide +kernel
theorem xk_m_Lots_prepare : xi_okM xT xm_Lots_prepare = true := xi_okM_P 397 70 395 396 (by decide +kernel)
set_option maxRecDepth 20000 in
theorem xk_e_Lots_prepare : xm_Lots_prepare.2.2.2.all (xi_okE xT xCl xZs xG0 xm_Lots_prepare) = true := by decide +kernel
theorem xk_m_Lots_weigh : xi_okM xT xm_Lots_weigh = true := xi_okM_P 404 70 403 2 (by decide +kernel)
set_option maxRecDepth 20000 in
theorem xk_e_Lots_weigh : xm_Lots_weigh.2.2.2.all (xi_okE xT xCl xZs xG0 xm_Lots_weigh) = true := by decide +kernel
theorem xk_m_Lots_fitsHeaps : xi_okM xT xm_Lots_fitsHeaps = true := xi_okM_P 408 70 407 3 (by decide +kernel)
set_option maxRecDepth 20000 in
theorem xk_e_Lots_fitsHeaps : xm_Lots_fitsHeaps.2.2.2.all (xi_okE xT xCl xZs xG0 xm_Lots_fitsHeaps) = true := by decide +kernel
theorem xk_m_Lots_fitsShares : xi_okM xT xm_Lots_fitsShares = true := xi_okM_P 411 70 410 4 (by decide +kernel)
set_option maxRecDepth 20000 in
theorem xk_e_Lots_fitsShares : xm_Lots_fitsShares.2.2.2.all (xi_okE xT xCl xZs xG0 xm_Lots_fitsShares) = true := by decide +kernel
theorem xk_m_Lots_product : xi_okM xT xm_Lots_product = true := xi_okM_P 414 70 413 5 (by decide +kernel)
set_option maxRecDepth 20000 in
theorem xk_e_Lots_product : xm_Lots_product.2.2.2.all (xi_okE xT xCl xZs xG0 xm_Lots_product) = true := by decide +kernel
theorem xk_m_Lots_weighStarts : xi_okM xT xm_Lots_weighStarts = true := xi_okM_P 417 70 416 6 (by decide +kernel)
set_option maxRecDepth 20000 in
theorem xk_e_Lots_weighStarts : xm_Lots_weighStarts.2.2.2.all (xi_okE xT xCl xZs xG0 xm_Lots_weighStarts) = true := by decide +kernel
theorem xk_m_Lots_setFrom : xi_okM xT xm_Lots_setFrom = true := xi_okM_P 421 70 420 7 (by decide +kernel)
set_option maxRecDepth 20000 in
theorem xk_e_Lots_setFrom : xm_Lots_setFrom.2.2.2.all (xi_okE xT xCl xZs xG0 xm_Lots_setFrom) = true := by decide +kernel
theorem xk_m_Lots_pairOwn : xi_okM xT xm_Lots_pairOwn = true := xi_okM_P 427 70 426 8 (by decide +kernel)
set_option maxRecDepth 20000 in
theorem xk_e_Lots_pairOwn : xm_Lots_pairOwn.2.2.2.all (xi_okE xT xCl xZs xG0 xm_Lots_pairOwn) = true := by decide +kernel
theorem xk_m_Lots_pairByWeights : xi_okM xT xm_Lots_pairByWeights = true := xi_okM_P 431 70 430 9 (by decide +kernel)
set_option maxRecDepth 20000 in
theorem xk_e_Lots_pairByWeights : xm_Lots_pairByWeights.2.2.2.all (xi_okE xT xCl xZs xG0 xm_Lots_pairByWeights) = true := by decide +kernel
theorem xk_m_Lots_addToPairs : xi_okM xT xm_Lots_addToPairs = true := xi_okM_P 437 70 436 10 (by decide +kernel)
set_option maxRecDepth 20000 in
theorem xk_e_Lots_addToPairs : xm_Lots_addToPairs.2.2.2.all (xi_okE xT xCl xZs xG0 xm_Lots_addToPairs) = true := by decide +kernel
theorem xk_m_Sharing_init : xi_okM xT xm_Sharing_init = true := xi_okM_P 226 74 225 0 (by decide +kernel)
set_option maxRecDepth 20000 in
theorem xk_e_Sharing_init : xm_Sharing_init.2.2.2.all (xi_okE xT xCl xZs xG0 xm_Sharing_init) = true := by decide +kernel
theorem xk_m_Sharing_shareOut : xi_okM xT xm_Sharing_shareOut = true := xi_okM_P 601 74 599 600 (by decide +kernel)
set_option maxRecDepth 20000 in
theorem xk_e_Sharing_shareOut : xm_Sharing_shareOut.2.2.2.all (xi_okE xT xCl xZs xG0 xm_Sharing_shareOut) = true := by decide +kernel
theorem xk_m_Sharing_measure : xi_okM xT xm_Sharing_measure = true := xi_okM_P 604 74 603 20 (by decide +kernel)
set_option maxRecDepth 20000 in
theorem xk_e_Sharing_measure : xm_Sharing_measure.2.2.2.all (xi_okE xT xCl xZs xG0 xm_Sharing_measure) = true := by decide +kernel
theorem xk_m_Sharing_offer : xi_okM xT xm_Sharing_offer = true := xi_okM_P 613 74 612 21 (by decide +kernel)
set_option maxRecDepth 20000 in
theorem xk_e_Sharing_offer : xm_Sharing_offer.2.2.2.all (xi_okE xT xCl xZs xG0 xm_Sharing_offer) = true := by decide +kernel
theorem xk_m_Sharing_cost : xi_okM xT xm_Sharing_cost = true := xi_okM_P 616 74 615 22 (by decide +kernel)
set_option maxRecDepth 20000 in
theorem xk_e_Sharing_cost : xm_Sharing_cost.2.2.2.all (xi_okE xT xCl xZs xG0 xm_Sharing_cost) = true := by decide +kernel
theorem xk_m_Slots_init : xi_okM xT xm_Slots_init = true := xi_okM_P 91 67 90 0 (by decide +kernel)
set_option maxRecDepth 20000 in
theorem xk_e_Slots_init : xm_Slots_init.2.2.2.all (xi_okE xT xCl xZs xG0 xm_Slots_init) = true := by decide +kernel
theorem xk_m_Slots_isLaid : xi_okM xT xm_Slots_isLaid = true := xi_okM_P 307 67 305 306 (by decide +kernel)
set_option maxRecDepth 20000 in
theorem xk_e_Slots_isLaid : xm_Slots_isLaid.2.2.2.all (xi_okE xT xCl xZs xG0 xm_Slots_isLaid) = true := by decide +kernel
theorem xk_m_Slots_laid : xi_okM xT xm_Slots_laid = true := xi_okM_P 675 67 673 674 (by decide +kernel)
set_option maxRecDepth 20000 in
theorem xk_e_Slots_laid : xm_Slots_laid.2.2.2.all (xi_okE xT xCl xZs xG0 xm_Slots_laid) = true := by decide +kernel
theorem xk_m_Slots_lay : xi_okM xT xm_Slots_lay = true := xi_okM_P 299 67 297 298 (by decide +kernel)
set_option maxRecDepth 20000 in
theorem xk_e_Slots_lay : xm_Slots_lay.2.2.2.all (xi_okE xT xCl xZs xG0 xm_Slots_lay) = true := by decide +kernel
theorem xk_m_Slots_at : xi_okM xT xm_Slots_at = true := xi_okM_P 330 67 328 329 (by decide +kernel)
set_option maxRecDepth 20000 in
theorem xk_e_Slots_at : xm_Slots_at.2.2.2.all (xi_okE xT xCl xZs xG0 xm_Slots_at) = true := by decide +kernel
theorem xk_m_Slots_put : xi_okM xT xm_Slots_put = true := xi_okM_P 315 67 313 314 (by decide +kernel)
set_option maxRecDepth 20000 in
theorem xk_e_Slots_put : xm_Slots_put.2.2.2.all (xi_okE xT xCl xZs xG0 xm_Slots_put) = true := by decide +kernel
theorem xk_m_Slots_cutTo : xi_okM xT xm_Slots_cutTo = true := xi_okM_P 318 67 317 0 (by decide +kernel)
set_option maxRecDepth 20000 in
theorem xk_e_Slots_cutTo : xm_Slots_cutTo.2.2.2.all (xi_okE xT xCl xZs xG0 xm_Slots_cutTo) = true := by decide +kernel
theorem xk_m_Slots_tellsCrowd : xi_okM xT xm_Slots_tellsCrowd = true := xi_okM_P 326 67 324 325 (by decide +kernel)
set_option maxRecDepth 20000 in
theorem xk_e_Slots_tellsCrowd : xm_Slots_tellsCrowd.2.2.2.all (xi_okE xT xCl xZs xG0 xm_Slots_tellsCrowd) = true := by decide +kernel
theorem xk_m_Slots_fact : xi_okM xT xm_Slots_fact = true := xi_okM_P 344 67 342 343 (by decide +kernel)
set_option maxRecDepth 20000 in
theorem xk_e_Slots_fact : xm_Slots_fact.2.2.2.all (xi_okE xT xCl xZs xG0 xm_Slots_fact) = true := by decide +kernel
theorem xk_m_Tally_init : xi_okM xT xm_Tally_init = true := xi_okM_P 211 73 210 0 (by decide +kernel)
set_option maxRecDepth 20000 in
theorem xk_e_Tally_init : xm_Tally_init.2.2.2.all (xi_okE xT xCl xZs xG0 xm_Tally_init) = true := by decide +kernel
theorem xk_m_Tally_clear : xi_okM xT xm_Tally_clear = true := xi_okM_P 537 73 535 536 (by decide +kernel)
set_option maxRecDepth 20000 in
theorem xk_e_Tally_clear : xm_Tally_clear.2.2.2.all (xi_okE xT xCl xZs xG0 xm_Tally_clear) = true := by decide +kernel
theorem xk_m_Tally_add : xi_okM xT xm_Tally_add = true := xi_okM_P 542 73 540 541 (by decide +kernel)
set_option maxRecDepth 20000 in
theorem xk_e_Tally_add : xm_Tally_add.2.2.2.all (xi_okE xT xCl xZs xG0 xm_Tally_add) = true := by decide +kernel
theorem xk_m_D_init : xi_okM xT xm_D_init = true := xi_okM_P 83 66 82 0 (by decide +kernel)
set_option maxRecDepth 20000 in
theorem xk_e_D_init : xm_D_init.2.2.2.all (xi_okE xT xCl xZs xG0 xm_D_init) = true := by decide +kernel
theorem xk_m_D_row : xi_okM xT xm_D_row = true := xi_okM_P 292 66 290 291 (by decide +kernel)
set_option maxRecDepth 20000 in
theorem xk_e_D_row : xm_D_row.2.2.2.all (xi_okE xT xCl xZs xG0 xm_D_row) = true := by decide +kernel
theorem xk_m_D_tear : xi_okM xT xm_D_tear = true := xi_okM_P 303 66 301 302 (by decide +kernel)
set_option maxRecDepth 20000 in
theorem xk_e_D_tear : xm_D_tear.2.2.2.all (xi_okE xT xCl xZs xG0 xm_D_tear) = true := by decide +kernel
theorem xk_m_D_write : xi_okM xT xm_D_write = true := xi_okM_P 311 66 309 310 (by decide +kernel)
set_option maxRecDepth 20000 in
theorem xk_e_D_write : xm_D_write.2.2.2.all (xi_okE xT xCl xZs xG0 xm_D_write) = true := by decide +kernel
theorem xk_m_D_crowd : xi_okM xT xm_D_crowd = true := xi_okM_P 322 66 320 321 (by decide +kernel)
set_option maxRecDepth 20000 in
theorem xk_e_D_crowd : xm_D_crowd.2.2.2.all (xi_okE xT xCl xZs xG0 xm_D_crowd) = true := by decide +kernel
theorem xk_m_D_drawn : xi_okM xT xm_D_drawn = true := xi_okM_P 357 66 355 356 (by decide +kernel)
set_option maxRecDepth 20000 in
theorem xk_e_D_drawn : xm_D_drawn.2.2.2.all (xi_okE xT xCl xZs xG0 xm_D_drawn) = true := by decide +kernel
theorem xk_m_D_draw : xi_okM xT xm_D_draw = true := xi_okM_P 374 66 372 373 (by decide +kernel)
set_option maxRecDepth 20000 in
theorem xk_e_D_draw : xm_D_draw.2.2.2.all (xi_okE xT xCl xZs xG0 xm_D_draw) = true := by decide +kernel
theorem xk_m_D_chance : xi_okM xT xm_D_chance = true := xi_okM_P 386 66 384 385 (by decide +kernel)
set_option maxRecDepth 20000 in
theorem xk_e_D_chance : xm_D_chance.2.2.2.all (xi_okE xT xCl xZs xG0 xm_D_chance) = true := by decide +kernel
theorem xk_m_D_both : xi_okM xT xm_D_both = true := xi_okM_P 390 66 388 389 (by decide +kernel)
set_option maxRecDepth 20000 in
theorem xk_e_D_both : xm_D_both.2.2.2.all (xi_okE xT xCl xZs xG0 xm_D_both) = true := by decide +kernel
theorem xk_m_D_set : xi_okM xT xm_D_set = true := xi_okM_P 502 66 500 501 (by decide +kernel)
set_option maxRecDepth 20000 in
theorem xk_e_D_set : xm_D_set.2.2.2.all (xi_okE xT xCl xZs xG0 xm_D_set) = true := by decide +kernel
theorem xk_m_D_sets : xi_okM xT xm_D_sets = true := xi_okM_P 518 66 516 517 (by decide +kernel)
set_option maxRecDepth 20000 in
theorem xk_e_D_sets : xm_D_sets.2.2.2.all (xi_okE xT xCl xZs xG0 xm_D_sets) = true := by decide +kernel
theorem xk_m_D_many : xi_okM xT xm_D_many = true := xi_okM_P 522 66 520 521 (by decide +kernel)
set_option maxRecDepth 20000 in
theorem xk_e_D_many : xm_D_many.2.2.2.all (xi_okE xT xCl xZs xG0 xm_D_many) = true := by decide +kernel
theorem xk_m_D_sum : xi_okM xT xm_D_sum = true := xi_okM_P 530 66 528 529 (by decide +kernel)
set_option maxRecDepth 20000 in
theorem xk_e_D_sum : xm_D_sum.2.2.2.all (xi_okE xT xCl xZs xG0 xm_D_sum) = true := by decide +kernel
theorem xk_m_D_mean : xi_okM xT xm_D_mean = true := xi_okM_P 555 66 553 554 (by decide +kernel)
set_option maxRecDepth 20000 in
theorem xk_e_D_mean : xm_D_mean.2.2.2.all (xi_okE xT xCl xZs xG0 xm_D_mean) = true := by decide +kernel
theorem xk_m_D_spread : xi_okM xT xm_D_spread = true := xi_okM_P 562 66 560 561 (by decide +kernel)
set_option maxRecDepth 20000 in
theorem xk_e_D_spread : xm_D_spread.2.2.2.all (xi_okE xT xCl xZs xG0 xm_D_spread) = true := by decide +kernel
theorem xk_m_D_heap : xi_okM xT xm_D_heap = true := xi_okM_P 576 66 574 575 (by decide +kernel)
set_option maxRecDepth 20000 in
theorem xk_e_D_heap : xm_D_heap.2.2.2.all (xi_okE xT xCl xZs xG0 xm_D_heap) = true := by decide +kernel
theorem xk_m_D_share : xi_okM xT xm_D_share = true := xi_okM_P 590 66 588 589 (by decide +kernel)
set_option maxRecDepth 20000 in
theorem xk_e_D_share : xm_D_share.2.2.2.all (xi_okE xT xCl xZs xG0 xm_D_share) = true := by decide +kernel
theorem xk_m_D_least : xi_okM xT xm_D_least = true := xi_okM_P 620 66 618 619 (by decide +kernel)
set_option maxRecDepth 20000 in
theorem xk_e_D_least : xm_D_least.2.2.2.all (xi_okE xT xCl xZs xG0 xm_D_least) = true := by decide +kernel
theorem xk_m_D_bands : xi_okM xT xm_D_bands = true := xi_okM_P 625 66 623 624 (by decide +kernel)
set_option maxRecDepth 20000 in
theorem xk_e_D_bands : xm_D_bands.2.2.2.all (xi_okE xT xCl xZs xG0 xm_D_bands) = true := by decide +kernel
theorem xk_m_D_band : xi_okM xT xm_D_band = true := xi_okM_P 650 66 648 649 (by decide +kernel)
set_option maxRecDepth 20000 in
theorem xk_e_D_band : xm_D_band.2.2.2.all (xi_okE xT xCl xZs xG0 xm_D_band) = true := by decide +kernel
theorem xk_m_D_look : xi_okM xT xm_D_look = true := xi_okM_P 658 66 656 657 (by decide +kernel)
set_option maxRecDepth 20000 in
theorem xk_e_D_look : xm_D_look.2.2.2.all (xi_okE xT xCl xZs xG0 xm_D_look) = true := by decide +kernel
theorem xk_m_D_part : xi_okM xT xm_D_part = true := xi_okM_P 663 66 661 662 (by decide +kernel)
set_option maxRecDepth 20000 in
theorem xk_e_D_part : xm_D_part.2.2.2.all (xi_okE xT xCl xZs xG0 xm_D_part) = true := by decide +kernel
theorem xk_m_D_count : xi_okM xT xm_D_count = true := xi_okM_P 667 66 665 666 (by decide +kernel)
set_option maxRecDepth 20000 in
theorem xk_e_D_count : xm_D_count.2.2.2.all (xi_okE xT xCl xZs xG0 xm_D_count) = true := by decide +kernel
theorem xk_m_D_countOfHeap : xi_okM xT xm_D_countOfHeap = true := xi_okM_P 679 66 678 27 (by decide +kernel)
set_option maxRecDepth 20000 in
theorem xk_e_D_countOfHeap : xm_D_countOfHeap.2.2.2.all (xi_okE xT xCl xZs xG0 xm_D_countOfHeap) = true := by decide +kernel
theorem xk_m_D_isSlot : xi_okM xT xm_D_isSlot = true := xi_okM_P 295 66 294 0 (by decide +kernel)
set_option maxRecDepth 20000 in
theorem xk_e_D_isSlot : xm_D_isSlot.2.2.2.all (xi_okE xT xCl xZs xG0 xm_D_isSlot) = true := by decide +kernel
theorem xk_m_D_isHeap : xi_okM xT xm_D_isHeap = true := xi_okM_P 360 66 359 0 (by decide +kernel)
set_option maxRecDepth 20000 in
theorem xk_e_D_isHeap : xm_D_isHeap.2.2.2.all (xi_okE xT xCl xZs xG0 xm_D_isHeap) = true := by decide +kernel
theorem xk_m_D_isName : xi_okM xT xm_D_isName = true := xi_okM_P 393 66 392 1 (by decide +kernel)
set_option maxRecDepth 20000 in
theorem xk_e_D_isName : xm_D_isName.2.2.2.all (xi_okE xT xCl xZs xG0 xm_D_isName) = true := by decide +kernel
theorem xk_m_D_isSet : xi_okM xT xm_D_isSet = true := xi_okM_P 505 66 504 11 (by decide +kernel)
set_option maxRecDepth 20000 in
theorem xk_e_D_isSet : xm_D_isSet.2.2.2.all (xi_okE xT xCl xZs xG0 xm_D_isSet) = true := by decide +kernel
theorem xk_m_D_canStep : xi_okM xT xm_D_canStep = true := xi_okM_P 378 66 377 0 (by decide +kernel)
set_option maxRecDepth 20000 in
theorem xk_e_D_canStep : xm_D_canStep.2.2.2.all (xi_okE xT xCl xZs xG0 xm_D_canStep) = true := by decide +kernel
theorem xk_m_D_canShareOut : xi_okM xT xm_D_canShareOut = true := xi_okM_P 593 66 592 19 (by decide +kernel)
set_option maxRecDepth 20000 in
theorem xk_e_D_canShareOut : xm_D_canShareOut.2.2.2.all (xi_okE xT xCl xZs xG0 xm_D_canShareOut) = true := by decide +kernel
theorem xk_m_D_tellOwnChance : xi_okM xT xm_D_tellOwnChance = true := xi_okM_P 509 66 508 12 (by decide +kernel)
set_option maxRecDepth 20000 in
theorem xk_e_D_tellOwnChance : xm_D_tellOwnChance.2.2.2.all (xi_okE xT xCl xZs xG0 xm_D_tellOwnChance) = true := by decide +kernel
theorem xk_m_D_tellSum : xi_okM xT xm_D_tellSum = true := xi_okM_P 533 66 532 13 (by decide +kernel)
set_option maxRecDepth 20000 in
theorem xk_e_D_tellSum : xm_D_tellSum.2.2.2.all (xi_okE xT xCl xZs xG0 xm_D_tellSum) = true := by decide +kernel
theorem xk_m_D_divideByNames : xi_okM xT xm_D_divideByNames = true := xi_okM_P 551 66 550 14 (by decide +kernel)
set_option maxRecDepth 20000 in
theorem xk_e_D_divideByNames : xm_D_divideByNames.2.2.2.all (xi_okE xT xCl xZs xG0 xm_D_divideByNames) = true := by decide +kernel
theorem xk_m_D_worthThatMayBeDrawn : xi_okM xT xm_D_worthThatMayBeDrawn = true := xi_okM_P 558 66 557 15 (by decide +kernel)
set_option maxRecDepth 20000 in
theorem xk_e_D_worthThatMayBeDrawn : xm_D_worthThatMayBeDrawn.2.2.2.all (xi_okE xT xCl xZs xG0 xm_D_worthThatMayBeDrawn) = true := by decide +kernel
theorem xk_m_D_tellSpread : xi_okM xT xm_D_tellSpread = true := xi_okM_P 565 66 564 16 (by decide +kernel)
set_option maxRecDepth 20000 in
theorem xk_e_D_tellSpread : xm_D_tellSpread.2.2.2.all (xi_okE xT xCl xZs xG0 xm_D_tellSpread) = true := by decide +kernel
theorem xk_m_D_tallyPairsBefore : xi_okM xT xm_D_tallyPairsBefore = true := xi_okM_P 568 66 567 17 (by decide +kernel)
set_option maxRecDepth 20000 in
theorem xk_e_D_tallyPairsBefore : xm_D_tallyPairsBefore.2.2.2.all (xi_okE xT xCl xZs xG0 xm_D_tallyPairsBefore) = true := by decide +kernel
theorem xk_m_D_tallyMean : xi_okM xT xm_D_tallyMean = true := xi_okM_P 572 66 571 18 (by decide +kernel)
set_option maxRecDepth 20000 in
theorem xk_e_D_tallyMean : xm_D_tallyMean.2.2.2.all (xi_okE xT xCl xZs xG0 xm_D_tallyMean) = true := by decide +kernel
theorem xk_m_M_init : xi_okM xT xm_M_init = true := xi_okM_P 684 76 683 0 (by decide +kernel)
set_option maxRecDepth 20000 in
theorem xk_e_M_init : xm_M_init.2.2.2.all (xi_okE xT xCl xZs xG0 xm_M_init) = true := by decide +kernel
theorem xk_m_M_carry : xi_okM xT xm_M_carry = true := xi_okM_P 692 76 691 29 (by decide +kernel)
set_option maxRecDepth 20000 in
theorem xk_e_M_carry : xm_M_carry.2.2.2.all (xi_okE xT xCl xZs xG0 xm_M_carry) = true := by decide +kernel
theorem xk_m_M_put : xi_okM xT xm_M_put = true := xi_okM_P 689 76 688 28 (by decide +kernel)
set_option maxRecDepth 20000 in
theorem xk_e_M_put : xm_M_put.2.2.2.all (xi_okE xT xCl xZs xG0 xm_M_put) = true := by decide +kernel
theorem xk_m_M_copy : xi_okM xT xm_M_copy = true := xi_okM_P 853 76 852 43 (by decide +kernel)
set_option maxRecDepth 20000 in
theorem xk_e_M_copy : xm_M_copy.2.2.2.all (xi_okE xT xCl xZs xG0 xm_M_copy) = true := by decide +kernel
theorem xk_m_M_more : xi_okM xT xm_M_more = true := xi_okM_P 826 76 825 36 (by decide +kernel)
set_option maxRecDepth 20000 in
theorem xk_e_M_more : xm_M_more.2.2.2.all (xi_okE xT xCl xZs xG0 xm_M_more) = true := by decide +kernel
theorem xk_m_M_isBelow : xi_okM xT xm_M_isBelow = true := xi_okM_P 841 76 840 40 (by decide +kernel)
set_option maxRecDepth 20000 in
theorem xk_e_M_isBelow : xm_M_isBelow.2.2.2.all (xi_okE xT xCl xZs xG0 xm_M_isBelow) = true := by decide +kernel
theorem xk_m_M_isZero : xi_okM xT xm_M_isZero = true := xi_okM_P 862 76 861 46 (by decide +kernel)
set_option maxRecDepth 20000 in
theorem xk_e_M_isZero : xm_M_isZero.2.2.2.all (xi_okE xT xCl xZs xG0 xm_M_isZero) = true := by decide +kernel
theorem xk_m_M_turn : xi_okM xT xm_M_turn = true := xi_okM_P 847 76 846 42 (by decide +kernel)
set_option maxRecDepth 20000 in
theorem xk_e_M_turn : xm_M_turn.2.2.2.all (xi_okE xT xCl xZs xG0 xm_M_turn) = true := by decide +kernel
theorem xk_m_M_sign : xi_okM xT xm_M_sign = true := xi_okM_P 968 76 967 63 (by decide +kernel)
set_option maxRecDepth 20000 in
theorem xk_e_M_sign : xm_M_sign.2.2.2.all (xi_okE xT xCl xZs xG0 xm_M_sign) = true := by decide +kernel
theorem xk_m_M_bare : xi_okM xT xm_M_bare = true := xi_okM_P 844 76 843 41 (by decide +kernel)
set_option maxRecDepth 20000 in
theorem xk_e_M_bare : xm_M_bare.2.2.2.all (xi_okE xT xCl xZs xG0 xm_M_bare) = true := by decide +kernel
theorem xk_m_M_length : xi_okM xT xm_M_length = true := xi_okM_P 850 76 849 0 (by decide +kernel)
set_option maxRecDepth 20000 in
theorem xk_e_M_length : xm_M_length.2.2.2.all (xi_okE xT xCl xZs xG0 xm_M_length) = true := by decide +kernel
theorem xk_m_M_times : xi_okM xT xm_M_times = true := xi_okM_P 838 76 837 39 (by decide +kernel)
set_option maxRecDepth 20000 in
theorem xk_e_M_times : xm_M_times.2.2.2.all (xi_okE xT xCl xZs xG0 xm_M_times) = true := by decide +kernel
theorem xk_m_M_parts : xi_okM xT xm_M_parts = true := xi_okM_P 876 76 875 50 (by decide +kernel)
set_option maxRecDepth 20000 in
theorem xk_e_M_parts : xm_M_parts.2.2.2.all (xi_okE xT xCl xZs xG0 xm_M_parts) = true := by decide +kernel
theorem xk_m_M_goesInto : xi_okM xT xm_M_goesInto = true := xi_okM_P 880 76 879 51 (by decide +kernel)
set_option maxRecDepth 20000 in
theorem xk_e_M_goesInto : xm_M_goesInto.2.2.2.all (xi_okE xT xCl xZs xG0 xm_M_goesInto) = true := by decide +kernel
theorem xk_m_M_isEven : xi_okM xT xm_M_isEven = true := xi_okM_P 865 76 864 47 (by decide +kernel)
set_option maxRecDepth 20000 in
theorem xk_e_M_isEven : xm_M_isEven.2.2.2.all (xi_okE xT xCl xZs xG0 xm_M_isEven) = true := by decide +kernel
theorem xk_m_M_half : xi_okM xT xm_M_half = true := xi_okM_P 869 76 868 48 (by decide +kernel)
set_option maxRecDepth 20000 in
theorem xk_e_M_half : xm_M_half.2.2.2.all (xi_okE xT xCl xZs xG0 xm_M_half) = true := by decide +kernel
theorem xk_m_M_isLess : xi_okM xT xm_M_isLess = true := xi_okM_P 872 76 871 49 (by decide +kernel)
set_option maxRecDepth 20000 in
theorem xk_e_M_isLess : xm_M_isLess.2.2.2.all (xi_okE xT xCl xZs xG0 xm_M_isLess) = true := by decide +kernel
theorem xk_m_M_result : xi_okM xT xm_M_result = true := xi_okM_P 859 76 858 45 (by decide +kernel)
set_option maxRecDepth 20000 in
theorem xk_e_M_result : xm_M_result.2.2.2.all (xi_okE xT xCl xZs xG0 xm_M_result) = true := by decide +kernel
theorem xk_m_M_isSlot : xi_okM xT xm_M_isSlot = true := xi_okM_P 769 76 768 0 (by decide +kernel)
set_option maxRecDepth 20000 in
theorem xk_e_M_isSlot : xm_M_isSlot.2.2.2.all (xi_okE xT xCl xZs xG0 xm_M_isSlot) = true := by decide +kernel
theorem xk_m_M_row : xi_okM xT xm_M_row = true := xi_okM_P 766 76 764 765 (by decide +kernel)
set_option maxRecDepth 20000 in
theorem xk_e_M_row : xm_M_row.2.2.2.all (xi_okE xT xCl xZs xG0 xm_M_row) = true := by decide +kernel
theorem xk_m_M_tear : xi_okM xT xm_M_tear = true := xi_okM_P 773 76 771 772 (by decide +kernel)
set_option maxRecDepth 20000 in
theorem xk_e_M_tear : xm_M_tear.2.2.2.all (xi_okE xT xCl xZs xG0 xm_M_tear) = true := by decide +kernel
theorem xk_m_M_write : xi_okM xT xm_M_write = true := xi_okM_P 777 76 775 776 (by decide +kernel)
set_option maxRecDepth 20000 in
theorem xk_e_M_write : xm_M_write.2.2.2.all (xi_okE xT xCl xZs xG0 xm_M_write) = true := by decide +kernel
theorem xk_m_M_crowd : xi_okM xT xm_M_crowd = true := xi_okM_P 781 76 779 780 (by decide +kernel)
set_option maxRecDepth 20000 in
theorem xk_e_M_crowd : xm_M_crowd.2.2.2.all (xi_okE xT xCl xZs xG0 xm_M_crowd) = true := by decide +kernel
theorem xk_m_M_namesOf : xi_okM xT xm_M_namesOf = true := xi_okM_P 796 76 795 30 (by decide +kernel)
set_option maxRecDepth 20000 in
theorem xk_e_M_namesOf : xm_M_namesOf.2.2.2.all (xi_okE xT xCl xZs xG0 xm_M_namesOf) = true := by decide +kernel
theorem xk_m_M_isHeap : xi_okM xT xm_M_isHeap = true := xi_okM_P 793 76 792 0 (by decide +kernel)
set_option maxRecDepth 20000 in
theorem xk_e_M_isHeap : xm_M_isHeap.2.2.2.all (xi_okE xT xCl xZs xG0 xm_M_isHeap) = true := by decide +kernel
theorem xk_m_M_isName : xi_okM xT xm_M_isName = true := xi_okM_P 814 76 813 32 (by decide +kernel)
set_option maxRecDepth 20000 in
theorem xk_e_M_isName : xm_M_isName.2.2.2.all (xi_okE xT xCl xZs xG0 xm_M_isName) = true := by decide +kernel
theorem xk_m_M_drawn : xi_okM xT xm_M_drawn = true := xi_okM_P 790 76 788 789 (by decide +kernel)
set_option maxRecDepth 20000 in
theorem xk_e_M_drawn : xm_M_drawn.2.2.2.all (xi_okE xT xCl xZs xG0 xm_M_drawn) = true := by decide +kernel
theorem xk_m_M_sizes : xi_okM xT xm_M_sizes = true := xi_okM_P 803 76 802 31 (by decide +kernel)
set_option maxRecDepth 20000 in
theorem xk_e_M_sizes : xm_M_sizes.2.2.2.all (xi_okE xT xCl xZs xG0 xm_M_sizes) = true := by decide +kernel
theorem xk_m_M_draw : xi_okM xT xm_M_draw = true := xi_okM_P 800 76 798 799 (by decide +kernel)
set_option maxRecDepth 20000 in
theorem xk_e_M_draw : xm_M_draw.2.2.2.all (xi_okE xT xCl xZs xG0 xm_M_draw) = true := by decide +kernel
theorem xk_m_M_bits : xi_okM xT xm_M_bits = true := xi_okM_P 832 76 831 0 (by decide +kernel)
set_option maxRecDepth 20000 in
theorem xk_e_M_bits : xm_M_bits.2.2.2.all (xi_okE xT xCl xZs xG0 xm_M_bits) = true := by decide +kernel
theorem xk_m_M_isByHeaps : xi_okM xT xm_M_isByHeaps = true := xi_okM_P 835 76 834 38 (by decide +kernel)
set_option maxRecDepth 20000 in
theorem xk_e_M_isByHeaps : xm_M_isByHeaps.2.2.2.all (xi_okE xT xCl xZs xG0 xm_M_isByHeaps) = true := by decide +kernel
theorem xk_m_M_standsAt : xi_okM xT xm_M_standsAt = true := xi_okM_P 820 76 819 34 (by decide +kernel)
set_option maxRecDepth 20000 in
theorem xk_e_M_standsAt : xm_M_standsAt.2.2.2.all (xi_okE xT xCl xZs xG0 xm_M_standsAt) = true := by decide +kernel
theorem xk_m_M_one : xi_okM xT xm_M_one = true := xi_okM_P 823 76 822 35 (by decide +kernel)
set_option maxRecDepth 20000 in
theorem xk_e_M_one : xm_M_one.2.2.2.all (xi_okE xT xCl xZs xG0 xm_M_one) = true := by decide +kernel
theorem xk_m_M_weigh : xi_okM xT xm_M_weigh = true := xi_okM_P 829 76 828 37 (by decide +kernel)
set_option maxRecDepth 20000 in
theorem xk_e_M_weigh : xm_M_weigh.2.2.2.all (xi_okE xT xCl xZs xG0 xm_M_weigh) = true := by decide +kernel
theorem xk_m_M_know : xi_okM xT xm_M_know = true := xi_okM_P 817 76 816 33 (by decide +kernel)
set_option maxRecDepth 20000 in
theorem xk_e_M_know : xm_M_know.2.2.2.all (xi_okE xT xCl xZs xG0 xm_M_know) = true := by decide +kernel
theorem xk_m_M_reduce : xi_okM xT xm_M_reduce = true := xi_okM_P 856 76 855 44 (by decide +kernel)
set_option maxRecDepth 20000 in
theorem xk_e_M_reduce : xm_M_reduce.2.2.2.all (xi_okE xT xCl xZs xG0 xm_M_reduce) = true := by decide +kernel
theorem xk_m_M_chance : xi_okM xT xm_M_chance = true := xi_okM_P 807 76 805 806 (by decide +kernel)
set_option maxRecDepth 20000 in
theorem xk_e_M_chance : xm_M_chance.2.2.2.all (xi_okE xT xCl xZs xG0 xm_M_chance) = true := by decide +kernel
theorem xk_m_M_both : xi_okM xT xm_M_both = true := xi_okM_P 811 76 809 810 (by decide +kernel)
set_option maxRecDepth 20000 in
theorem xk_e_M_both : xm_M_both.2.2.2.all (xi_okE xT xCl xZs xG0 xm_M_both) = true := by decide +kernel
theorem xk_m_M_isSet : xi_okM xT xm_M_isSet = true := xi_okM_P 888 76 887 52 (by decide +kernel)
set_option maxRecDepth 20000 in
theorem xk_e_M_isSet : xm_M_isSet.2.2.2.all (xi_okE xT xCl xZs xG0 xm_M_isSet) = true := by decide +kernel
theorem xk_m_M_set : xi_okM xT xm_M_set = true := xi_okM_P 885 76 883 884 (by decide +kernel)
set_option maxRecDepth 20000 in
theorem xk_e_M_set : xm_M_set.2.2.2.all (xi_okE xT xCl xZs xG0 xm_M_set) = true := by decide +kernel
theorem xk_m_M_sets : xi_okM xT xm_M_sets = true := xi_okM_P 892 76 890 891 (by decide +kernel)
set_option maxRecDepth 20000 in
theorem xk_e_M_sets : xm_M_sets.2.2.2.all (xi_okE xT xCl xZs xG0 xm_M_sets) = true := by decide +kernel
theorem xk_m_M_many : xi_okM xT xm_M_many = true := xi_okM_P 896 76 894 895 (by decide +kernel)
set_option maxRecDepth 20000 in
theorem xk_e_M_many : xm_M_many.2.2.2.all (xi_okE xT xCl xZs xG0 xm_M_many) = true := by decide +kernel
theorem xk_m_M_toldSum : xi_okM xT xm_M_toldSum = true := xi_okM_P 903 76 902 53 (by decide +kernel)
set_option maxRecDepth 20000 in
theorem xk_e_M_toldSum : xm_M_toldSum.2.2.2.all (xi_okE xT xCl xZs xG0 xm_M_toldSum) = true := by decide +kernel
theorem xk_m_M_sum : xi_okM xT xm_M_sum = true := xi_okM_P 900 76 898 899 (by decide +kernel)
set_option maxRecDepth 20000 in
theorem xk_e_M_sum : xm_M_sum.2.2.2.all (xi_okE xT xCl xZs xG0 xm_M_sum) = true := by decide +kernel
theorem xk_m_M_sums : xi_okM xT xm_M_sums = true := xi_okM_P 910 76 909 54 (by decide +kernel)
set_option maxRecDepth 20000 in
theorem xk_e_M_sums : xm_M_sums.2.2.2.all (xi_okE xT xCl xZs xG0 xm_M_sums) = true := by decide +kernel
theorem xk_m_M_mean : xi_okM xT xm_M_mean = true := xi_okM_P 907 76 905 906 (by decide +kernel)
set_option maxRecDepth 20000 in
theorem xk_e_M_mean : xm_M_mean.2.2.2.all (xi_okE xT xCl xZs xG0 xm_M_mean) = true := by decide +kernel
theorem xk_m_M_spread : xi_okM xT xm_M_spread = true := xi_okM_P 914 76 912 913 (by decide +kernel)
set_option maxRecDepth 20000 in
theorem xk_e_M_spread : xm_M_spread.2.2.2.all (xi_okE xT xCl xZs xG0 xm_M_spread) = true := by decide +kernel
theorem xk_m_M_off : xi_okM xT xm_M_off = true := xi_okM_P 927 76 926 57 (by decide +kernel)
set_option maxRecDepth 20000 in
theorem xk_e_M_off : xm_M_off.2.2.2.all (xi_okE xT xCl xZs xG0 xm_M_off) = true := by decide +kernel
theorem xk_m_M_setOf : xi_okM xT xm_M_setOf = true := xi_okM_P 924 76 923 56 (by decide +kernel)
set_option maxRecDepth 20000 in
theorem xk_e_M_setOf : xm_M_setOf.2.2.2.all (xi_okE xT xCl xZs xG0 xm_M_setOf) = true := by decide +kernel
theorem xk_m_M_v : xi_okM xT xm_M_v = true := xi_okM_P 921 76 920 55 (by decide +kernel)
set_option maxRecDepth 20000 in
theorem xk_e_M_v : xm_M_v.2.2.2.all (xi_okE xT xCl xZs xG0 xm_M_v) = true := by decide +kernel
theorem xk_m_M_told : xi_okM xT xm_M_told = true := xi_okM_P 931 76 930 58 (by decide +kernel)
set_option maxRecDepth 20000 in
theorem xk_e_M_told : xm_M_told.2.2.2.all (xi_okE xT xCl xZs xG0 xm_M_told) = true := by decide +kernel
theorem xk_m_M_heap : xi_okM xT xm_M_heap = true := xi_okM_P 918 76 916 917 (by decide +kernel)
set_option maxRecDepth 20000 in
theorem xk_e_M_heap : xm_M_heap.2.2.2.all (xi_okE xT xCl xZs xG0 xm_M_heap) = true := by decide +kernel
theorem xk_m_M_adds : xi_okM xT xm_M_adds = true := xi_okM_P 944 76 943 60 (by decide +kernel)
set_option maxRecDepth 20000 in
theorem xk_e_M_adds : xm_M_adds.2.2.2.all (xi_okE xT xCl xZs xG0 xm_M_adds) = true := by decide +kernel
theorem xk_m_M_some : xi_okM xT xm_M_some = true := xi_okM_P 941 76 940 0 (by decide +kernel)
set_option maxRecDepth 20000 in
theorem xk_e_M_some : xm_M_some.2.2.2.all (xi_okE xT xCl xZs xG0 xm_M_some) = true := by decide +kernel
theorem xk_m_M_isShared : xi_okM xT xm_M_isShared = true := xi_okM_P 938 76 937 59 (by decide +kernel)
set_option maxRecDepth 20000 in
theorem xk_e_M_isShared : xm_M_isShared.2.2.2.all (xi_okE xT xCl xZs xG0 xm_M_isShared) = true := by decide +kernel
theorem xk_m_M_share : xi_okM xT xm_M_share = true := xi_okM_P 935 76 933 934 (by decide +kernel)
set_option maxRecDepth 20000 in
theorem xk_e_M_share : xm_M_share.2.2.2.all (xi_okE xT xCl xZs xG0 xm_M_share) = true := by decide +kernel
theorem xk_m_M_orders : xi_okM xT xm_M_orders = true := xi_okM_P 954 76 953 62 (by decide +kernel)
set_option maxRecDepth 20000 in
theorem xk_e_M_orders : xm_M_orders.2.2.2.all (xi_okE xT xCl xZs xG0 xm_M_orders) = true := by decide +kernel
theorem xk_m_M_isCut : xi_okM xT xm_M_isCut = true := xi_okM_P 951 76 950 61 (by decide +kernel)
set_option maxRecDepth 20000 in
theorem xk_e_M_isCut : xm_M_isCut.2.2.2.all (xi_okE xT xCl xZs xG0 xm_M_isCut) = true := by decide +kernel
theorem xk_m_M_isShorter : xi_okM xT xm_M_isShorter = true := xi_okM_P 957 76 956 0 (by decide +kernel)
set_option maxRecDepth 20000 in
theorem xk_e_M_isShorter : xm_M_isShorter.2.2.2.all (xi_okE xT xCl xZs xG0 xm_M_isShorter) = true := by decide +kernel
theorem xk_m_M_bands : xi_okM xT xm_M_bands = true := xi_okM_P 948 76 946 947 (by decide +kernel)
set_option maxRecDepth 20000 in
theorem xk_e_M_bands : xm_M_bands.2.2.2.all (xi_okE xT xCl xZs xG0 xm_M_bands) = true := by decide +kernel
theorem xk_m_M_band : xi_okM xT xm_M_band = true := xi_okM_P 961 76 959 960 (by decide +kernel)
set_option maxRecDepth 20000 in
theorem xk_e_M_band : xm_M_band.2.2.2.all (xi_okE xT xCl xZs xG0 xm_M_band) = true := by decide +kernel
theorem xk_m_M_manyParts : xi_okM xT xm_M_manyParts = true := xi_okM_P 971 76 970 64 (by decide +kernel)
set_option maxRecDepth 20000 in
theorem xk_e_M_manyParts : xm_M_manyParts.2.2.2.all (xi_okE xT xCl xZs xG0 xm_M_manyParts) = true := by decide +kernel
theorem xk_m_M_look : xi_okM xT xm_M_look = true := xi_okM_P 965 76 963 964 (by decide +kernel)
set_option maxRecDepth 20000 in
theorem xk_e_M_look : xm_M_look.2.2.2.all (xi_okE xT xCl xZs xG0 xm_M_look) = true := by decide +kernel
theorem xk_m_M_part : xi_okM xT xm_M_part = true := xi_okM_P 975 76 973 974 (by decide +kernel)
set_option maxRecDepth 20000 in
theorem xk_e_M_part : xm_M_part.2.2.2.all (xi_okE xT xCl xZs xG0 xm_M_part) = true := by decide +kernel
theorem xk_m_M_least : xi_okM xT xm_M_least = true := xi_okM_P 979 76 977 978 (by decide +kernel)
set_option maxRecDepth 20000 in
theorem xk_e_M_least : xm_M_least.2.2.2.all (xi_okE xT xCl xZs xG0 xm_M_least) = true := by decide +kernel
theorem xk_m_M_count : xi_okM xT xm_M_count = true := xi_okM_P 984 76 982 983 (by decide +kernel)
set_option maxRecDepth 20000 in
theorem xk_e_M_count : xm_M_count.2.2.2.all (xi_okE xT xCl xZs xG0 xm_M_count) = true := by decide +kernel
set_option maxRecDepth 20000 in
theorem xk_e_Law_law : xm_Law_law.2.2.2.all (xi_okE xT xCl xZs xG0 xm_Law_law) = true := by decide +kernel
