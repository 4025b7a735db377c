/-! all tables together, and the claim out of the abstract machine's promise for the law -/
theorem xi_okE_G {T : List Cond} {cl : List vw_C} {zs : xiZ} {G G2 : xiG} (h : G.1 = G2.1) : xi_okE T cl zs G = xi_okE T cl zs G2 := by
  funext md q
  unfold xi_okE
  rw [h]
def xTf : Nat → Nat → FieldType := fun ci => match ci with
  | 0 => tyX0
  | 1 => tyX1
  | 2 => tyX2
  | 3 => tyX3
  | 4 => tyX4
  | 5 => tyX5
  | 6 => tyX6
  | 7 => tyX7
  | 8 => tyX8
  | _ => tyX9
theorem xg_c (ci : Nat) (q : vw_C) (hq : xCl[ci]? = some q) : xi_okC xT xFk xTf ci q := by
  match ci, hq with
  | 0, hq => cases hq; exact ⟨xk_c0, rfl, nmX0, tyX0_ok, by decide +kernel⟩
  | 1, hq => cases hq; exact ⟨xk_c1, rfl, nmX1, tyX1_ok, by decide +kernel⟩
  | 2, hq => cases hq; exact ⟨xk_c2, rfl, nmX2, tyX2_ok, by decide +kernel⟩
  | 3, hq => cases hq; exact ⟨xk_c3, rfl, nmX3, tyX3_ok, by decide +kernel⟩
  | 4, hq => cases hq; exact ⟨xk_c4, rfl, nmX4, tyX4_ok, by decide +kernel⟩
  | 5, hq => cases hq; exact ⟨xk_c5, rfl, nmX5, tyX5_ok, by decide +kernel⟩
  | 6, hq => cases hq; exact ⟨xk_c6, rfl, nmX6, tyX6_ok, by decide +kernel⟩
  | 7, hq => cases hq; exact ⟨xk_c7, rfl, nmX7, tyX7_ok, by decide +kernel⟩
  | 8, hq => cases hq; exact ⟨xk_c8, rfl, nmX8, tyX8_ok, by decide +kernel⟩
  | 9, hq => cases hq; exact ⟨xk_c9, rfl, nmX9, tyX9_ok, by decide +kernel⟩
  | k + 10, hq => simp [xCl] at hq
def xg_P (md : xiM) : Prop := (md.1.1 ≠ "law" → xi_okM xT md = true) ∧ ∀ q ∈ md.2.2.2, xi_okE xT xCl xZs xG0 md q = true
theorem xg_Int_bitCount : xg_P xm_Int_bitCount := ⟨fun _ => xk_m_Int_bitCount, List.all_eq_true.mp xk_e_Int_bitCount⟩
theorem xg_Math_floorDivL : xg_P xm_Math_floorDivL := ⟨fun _ => xk_m_Math_floorDivL, List.all_eq_true.mp xk_e_Math_floorDivL⟩
theorem xg_Math_floorModI : xg_P xm_Math_floorModI := ⟨fun _ => xk_m_Math_floorModI, List.all_eq_true.mp xk_e_Math_floorModI⟩
theorem xg_Math_floorModL : xg_P xm_Math_floorModL := ⟨fun _ => xk_m_Math_floorModL, List.all_eq_true.mp xk_e_Math_floorModL⟩
theorem xg_Math_max : xg_P xm_Math_max := ⟨fun _ => xk_m_Math_max, List.all_eq_true.mp xk_e_Math_max⟩
theorem xg_Math_min : xg_P xm_Math_min := ⟨fun _ => xk_m_Math_min, List.all_eq_true.mp xk_e_Math_min⟩
theorem xg_Arr_fillL : xg_P xm_Arr_fillL := ⟨fun _ => xk_m_Arr_fillL, List.all_eq_true.mp xk_e_Arr_fillL⟩
theorem xg_Arr_fillI : xg_P xm_Arr_fillI := ⟨fun _ => xk_m_Arr_fillI, List.all_eq_true.mp xk_e_Arr_fillI⟩
theorem xg_Big_init : xg_P xm_Big_init := ⟨fun _ => xk_m_Big_init, List.all_eq_true.mp xk_e_Big_init⟩
theorem xg_Big_become : xg_P xm_Big_become := ⟨fun _ => xk_m_Big_become, List.all_eq_true.mp xk_e_Big_become⟩
theorem xg_Big_multiply : xg_P xm_Big_multiply := ⟨fun _ => xk_m_Big_multiply, List.all_eq_true.mp xk_e_Big_multiply⟩
theorem xg_Big_addProduct : xg_P xm_Big_addProduct := ⟨fun _ => xk_m_Big_addProduct, List.all_eq_true.mp xk_e_Big_addProduct⟩
theorem xg_Big_isBelowZero : xg_P xm_Big_isBelowZero := ⟨fun _ => xk_m_Big_isBelowZero, List.all_eq_true.mp xk_e_Big_isBelowZero⟩
theorem xg_Big_length : xg_P xm_Big_length := ⟨fun _ => xk_m_Big_length, List.all_eq_true.mp xk_e_Big_length⟩
theorem xg_Big_isZero : xg_P xm_Big_isZero := ⟨fun _ => xk_m_Big_isZero, List.all_eq_true.mp xk_e_Big_isZero⟩
theorem xg_Big_divide : xg_P xm_Big_divide := ⟨fun _ => xk_m_Big_divide, List.all_eq_true.mp xk_e_Big_divide⟩
theorem xg_Crowd_init : xg_P xm_Crowd_init := ⟨fun _ => xk_m_Crowd_init, List.all_eq_true.mp xk_e_Crowd_init⟩
theorem xg_Crowd_take : xg_P xm_Crowd_take := ⟨fun _ => xk_m_Crowd_take, List.all_eq_true.mp xk_e_Crowd_take⟩
theorem xg_Crowd_setCount : xg_P xm_Crowd_setCount := ⟨fun _ => xk_m_Crowd_setCount, List.all_eq_true.mp xk_e_Crowd_setCount⟩
theorem xg_Crowd_heapNames : xg_P xm_Crowd_heapNames := ⟨fun _ => xk_m_Crowd_heapNames, List.all_eq_true.mp xk_e_Crowd_heapNames⟩
theorem xg_Crowd_heapsWithNames : xg_P xm_Crowd_heapsWithNames := ⟨fun _ => xk_m_Crowd_heapsWithNames, List.all_eq_true.mp xk_e_Crowd_heapsWithNames⟩
theorem xg_Crowd_allSizes : xg_P xm_Crowd_allSizes := ⟨fun _ => xk_m_Crowd_allSizes, List.all_eq_true.mp xk_e_Crowd_allSizes⟩
theorem xg_Crowd_spreadTop : xg_P xm_Crowd_spreadTop := ⟨fun _ => xk_m_Crowd_spreadTop, List.all_eq_true.mp xk_e_Crowd_spreadTop⟩
theorem xg_Crowd_spreadBottom : xg_P xm_Crowd_spreadBottom := ⟨fun _ => xk_m_Crowd_spreadBottom, List.all_eq_true.mp xk_e_Crowd_spreadBottom⟩
theorem xg_Cutting_init : xg_P xm_Cutting_init := ⟨fun _ => xk_m_Cutting_init, List.all_eq_true.mp xk_e_Cutting_init⟩
theorem xg_Cutting_leastOf : xg_P xm_Cutting_leastOf := ⟨fun _ => xk_m_Cutting_leastOf, List.all_eq_true.mp xk_e_Cutting_leastOf⟩
theorem xg_Cutting_cut : xg_P xm_Cutting_cut := ⟨fun _ => xk_m_Cutting_cut, List.all_eq_true.mp xk_e_Cutting_cut⟩
theorem xg_Cutting_order : xg_P xm_Cutting_order := ⟨fun _ => xk_m_Cutting_order, List.all_eq_true.mp xk_e_Cutting_order⟩
theorem xg_Cutting_cost : xg_P xm_Cutting_cost := ⟨fun _ => xk_m_Cutting_cost, List.all_eq_true.mp xk_e_Cutting_cost⟩
theorem xg_Cutting_cutFirst : xg_P xm_Cutting_cutFirst := ⟨fun _ => xk_m_Cutting_cutFirst, List.all_eq_true.mp xk_e_Cutting_cutFirst⟩
theorem xg_Cutting_choose : xg_P xm_Cutting_choose := ⟨fun _ => xk_m_Cutting_choose, List.all_eq_true.mp xk_e_Cutting_choose⟩
theorem xg_Cutting_bandOf : xg_P xm_Cutting_bandOf := ⟨fun _ => xk_m_Cutting_bandOf, List.all_eq_true.mp xk_e_Cutting_bandOf⟩
theorem xg_Fraction_init : xg_P xm_Fraction_init := ⟨fun _ => xk_m_Fraction_init, List.all_eq_true.mp xk_e_Fraction_init⟩
theorem xg_Fraction_put : xg_P xm_Fraction_put := ⟨fun _ => xk_m_Fraction_put, List.all_eq_true.mp xk_e_Fraction_put⟩
theorem xg_Fraction_takeTop : xg_P xm_Fraction_takeTop := ⟨fun _ => xk_m_Fraction_takeTop, List.all_eq_true.mp xk_e_Fraction_takeTop⟩
theorem xg_Fraction_divide : xg_P xm_Fraction_divide := ⟨fun _ => xk_m_Fraction_divide, List.all_eq_true.mp xk_e_Fraction_divide⟩
theorem xg_Fraction_gcd : xg_P xm_Fraction_gcd := ⟨fun _ => xk_m_Fraction_gcd, List.all_eq_true.mp xk_e_Fraction_gcd⟩
theorem xg_Lots_init : xg_P xm_Lots_init := ⟨fun _ => xk_m_Lots_init, List.all_eq_true.mp xk_e_Lots_init⟩
theorem xg_Lots_forget : xg_P xm_Lots_forget := ⟨fun _ => xk_m_Lots_forget, List.all_eq_true.mp xk_e_Lots_forget⟩
theorem xg_Lots_choose : xg_P xm_Lots_choose := ⟨fun _ => xk_m_Lots_choose, List.all_eq_true.mp xk_e_Lots_choose⟩
theorem xg_Lots_fromAllHeaps : xg_P xm_Lots_fromAllHeaps := ⟨fun _ => xk_m_Lots_fromAllHeaps, List.all_eq_true.mp xk_e_Lots_fromAllHeaps⟩
theorem xg_Lots_weightOfName : xg_P xm_Lots_weightOfName := ⟨fun _ => xk_m_Lots_weightOfName, List.all_eq_true.mp xk_e_Lots_weightOfName⟩
theorem xg_Lots_weightOfPair : xg_P xm_Lots_weightOfPair := ⟨fun _ => xk_m_Lots_weightOfPair, List.all_eq_true.mp xk_e_Lots_weightOfPair⟩
theorem xg_Lots_prepare : xg_P xm_Lots_prepare := ⟨fun _ => xk_m_Lots_prepare, List.all_eq_true.mp xk_e_Lots_prepare⟩
theorem xg_Lots_weigh : xg_P xm_Lots_weigh := ⟨fun _ => xk_m_Lots_weigh, List.all_eq_true.mp xk_e_Lots_weigh⟩
theorem xg_Lots_fitsHeaps : xg_P xm_Lots_fitsHeaps := ⟨fun _ => xk_m_Lots_fitsHeaps, List.all_eq_true.mp xk_e_Lots_fitsHeaps⟩
theorem xg_Lots_fitsShares : xg_P xm_Lots_fitsShares := ⟨fun _ => xk_m_Lots_fitsShares, List.all_eq_true.mp xk_e_Lots_fitsShares⟩
theorem xg_Lots_product : xg_P xm_Lots_product := ⟨fun _ => xk_m_Lots_product, List.all_eq_true.mp xk_e_Lots_product⟩
theorem xg_Lots_weighStarts : xg_P xm_Lots_weighStarts := ⟨fun _ => xk_m_Lots_weighStarts, List.all_eq_true.mp xk_e_Lots_weighStarts⟩
theorem xg_Lots_setFrom : xg_P xm_Lots_setFrom := ⟨fun _ => xk_m_Lots_setFrom, List.all_eq_true.mp xk_e_Lots_setFrom⟩
theorem xg_Lots_pairOwn : xg_P xm_Lots_pairOwn := ⟨fun _ => xk_m_Lots_pairOwn, List.all_eq_true.mp xk_e_Lots_pairOwn⟩
theorem xg_Lots_pairByWeights : xg_P xm_Lots_pairByWeights := ⟨fun _ => xk_m_Lots_pairByWeights, List.all_eq_true.mp xk_e_Lots_pairByWeights⟩
theorem xg_Lots_addToPairs : xg_P xm_Lots_addToPairs := ⟨fun _ => xk_m_Lots_addToPairs, List.all_eq_true.mp xk_e_Lots_addToPairs⟩
theorem xg_Sharing_init : xg_P xm_Sharing_init := ⟨fun _ => xk_m_Sharing_init, List.all_eq_true.mp xk_e_Sharing_init⟩
theorem xg_Sharing_shareOut : xg_P xm_Sharing_shareOut := ⟨fun _ => xk_m_Sharing_shareOut, List.all_eq_true.mp xk_e_Sharing_shareOut⟩
theorem xg_Sharing_measure : xg_P xm_Sharing_measure := ⟨fun _ => xk_m_Sharing_measure, List.all_eq_true.mp xk_e_Sharing_measure⟩
theorem xg_Sharing_offer : xg_P xm_Sharing_offer := ⟨fun _ => xk_m_Sharing_offer, List.all_eq_true.mp xk_e_Sharing_offer⟩
theorem xg_Sharing_cost : xg_P xm_Sharing_cost := ⟨fun _ => xk_m_Sharing_cost, List.all_eq_true.mp xk_e_Sharing_cost⟩
theorem xg_Slots_init : xg_P xm_Slots_init := ⟨fun _ => xk_m_Slots_init, List.all_eq_true.mp xk_e_Slots_init⟩
theorem xg_Slots_isLaid : xg_P xm_Slots_isLaid := ⟨fun _ => xk_m_Slots_isLaid, List.all_eq_true.mp xk_e_Slots_isLaid⟩
theorem xg_Slots_laid : xg_P xm_Slots_laid := ⟨fun _ => xk_m_Slots_laid, List.all_eq_true.mp xk_e_Slots_laid⟩
theorem xg_Slots_lay : xg_P xm_Slots_lay := ⟨fun _ => xk_m_Slots_lay, List.all_eq_true.mp xk_e_Slots_lay⟩
theorem xg_Slots_at : xg_P xm_Slots_at := ⟨fun _ => xk_m_Slots_at, List.all_eq_true.mp xk_e_Slots_at⟩
theorem xg_Slots_put : xg_P xm_Slots_put := ⟨fun _ => xk_m_Slots_put, List.all_eq_true.mp xk_e_Slots_put⟩
theorem xg_Slots_cutTo : xg_P xm_Slots_cutTo := ⟨fun _ => xk_m_Slots_cutTo, List.all_eq_true.mp xk_e_Slots_cutTo⟩
theorem xg_Slots_tellsCrowd : xg_P xm_Slots_tellsCrowd := ⟨fun _ => xk_m_Slots_tellsCrowd, List.all_eq_true.mp xk_e_Slots_tellsCrowd⟩
theorem xg_Slots_fact : xg_P xm_Slots_fact := ⟨fun _ => xk_m_Slots_fact, List.all_eq_true.mp xk_e_Slots_fact⟩
theorem xg_Tally_init : xg_P xm_Tally_init := ⟨fun _ => xk_m_Tally_init, List.all_eq_true.mp xk_e_Tally_init⟩
theorem xg_Tally_clear : xg_P xm_Tally_clear := ⟨fun _ => xk_m_Tally_clear, List.all_eq_true.mp xk_e_Tally_clear⟩
theorem xg_Tally_add : xg_P xm_Tally_add := ⟨fun _ => xk_m_Tally_add, List.all_eq_true.mp xk_e_Tally_add⟩
theorem xg_D_init : xg_P xm_D_init := ⟨fun _ => xk_m_D_init, List.all_eq_true.mp xk_e_D_init⟩
theorem xg_D_row : xg_P xm_D_row := ⟨fun _ => xk_m_D_row, List.all_eq_true.mp xk_e_D_row⟩
theorem xg_D_tear : xg_P xm_D_tear := ⟨fun _ => xk_m_D_tear, List.all_eq_true.mp xk_e_D_tear⟩
theorem xg_D_write : xg_P xm_D_write := ⟨fun _ => xk_m_D_write, List.all_eq_true.mp xk_e_D_write⟩
theorem xg_D_crowd : xg_P xm_D_crowd := ⟨fun _ => xk_m_D_crowd, List.all_eq_true.mp xk_e_D_crowd⟩
theorem xg_D_drawn : xg_P xm_D_drawn := ⟨fun _ => xk_m_D_drawn, List.all_eq_true.mp xk_e_D_drawn⟩
theorem xg_D_draw : xg_P xm_D_draw := ⟨fun _ => xk_m_D_draw, List.all_eq_true.mp xk_e_D_draw⟩
theorem xg_D_chance : xg_P xm_D_chance := ⟨fun _ => xk_m_D_chance, List.all_eq_true.mp xk_e_D_chance⟩
theorem xg_D_both : xg_P xm_D_both := ⟨fun _ => xk_m_D_both, List.all_eq_true.mp xk_e_D_both⟩
theorem xg_D_set : xg_P xm_D_set := ⟨fun _ => xk_m_D_set, List.all_eq_true.mp xk_e_D_set⟩
theorem xg_D_sets : xg_P xm_D_sets := ⟨fun _ => xk_m_D_sets, List.all_eq_true.mp xk_e_D_sets⟩
theorem xg_D_many : xg_P xm_D_many := ⟨fun _ => xk_m_D_many, List.all_eq_true.mp xk_e_D_many⟩
theorem xg_D_sum : xg_P xm_D_sum := ⟨fun _ => xk_m_D_sum, List.all_eq_true.mp xk_e_D_sum⟩
theorem xg_D_mean : xg_P xm_D_mean := ⟨fun _ => xk_m_D_mean, List.all_eq_true.mp xk_e_D_mean⟩
theorem xg_D_spread : xg_P xm_D_spread := ⟨fun _ => xk_m_D_spread, List.all_eq_true.mp xk_e_D_spread⟩
theorem xg_D_heap : xg_P xm_D_heap := ⟨fun _ => xk_m_D_heap, List.all_eq_true.mp xk_e_D_heap⟩
theorem xg_D_share : xg_P xm_D_share := ⟨fun _ => xk_m_D_share, List.all_eq_true.mp xk_e_D_share⟩
theorem xg_D_least : xg_P xm_D_least := ⟨fun _ => xk_m_D_least, List.all_eq_true.mp xk_e_D_least⟩
theorem xg_D_bands : xg_P xm_D_bands := ⟨fun _ => xk_m_D_bands, List.all_eq_true.mp xk_e_D_bands⟩
theorem xg_D_band : xg_P xm_D_band := ⟨fun _ => xk_m_D_band, List.all_eq_true.mp xk_e_D_band⟩
theorem xg_D_look : xg_P xm_D_look := ⟨fun _ => xk_m_D_look, List.all_eq_true.mp xk_e_D_look⟩
theorem xg_D_part : xg_P xm_D_part := ⟨fun _ => xk_m_D_part, List.all_eq_true.mp xk_e_D_part⟩
theorem xg_D_count : xg_P xm_D_count := ⟨fun _ => xk_m_D_count, List.all_eq_true.mp xk_e_D_count⟩
theorem xg_D_countOfHeap : xg_P xm_D_countOfHeap := ⟨fun _ => xk_m_D_countOfHeap, List.all_eq_true.mp xk_e_D_countOfHeap⟩
theorem xg_D_isSlot : xg_P xm_D_isSlot := ⟨fun _ => xk_m_D_isSlot, List.all_eq_true.mp xk_e_D_isSlot⟩
theorem xg_D_isHeap : xg_P xm_D_isHeap := ⟨fun _ => xk_m_D_isHeap, List.all_eq_true.mp xk_e_D_isHeap⟩
theorem xg_D_isName : xg_P xm_D_isName := ⟨fun _ => xk_m_D_isName, List.all_eq_true.mp xk_e_D_isName⟩
theorem xg_D_isSet : xg_P xm_D_isSet := ⟨fun _ => xk_m_D_isSet, List.all_eq_true.mp xk_e_D_isSet⟩
theorem xg_D_canStep : xg_P xm_D_canStep := ⟨fun _ => xk_m_D_canStep, List.all_eq_true.mp xk_e_D_canStep⟩
theorem xg_D_canShareOut : xg_P xm_D_canShareOut := ⟨fun _ => xk_m_D_canShareOut, List.all_eq_true.mp xk_e_D_canShareOut⟩
theorem xg_D_tellOwnChance : xg_P xm_D_tellOwnChance := ⟨fun _ => xk_m_D_tellOwnChance, List.all_eq_true.mp xk_e_D_tellOwnChance⟩
theorem xg_D_tellSum : xg_P xm_D_tellSum := ⟨fun _ => xk_m_D_tellSum, List.all_eq_true.mp xk_e_D_tellSum⟩
theorem xg_D_divideByNames : xg_P xm_D_divideByNames := ⟨fun _ => xk_m_D_divideByNames, List.all_eq_true.mp xk_e_D_divideByNames⟩
theorem xg_D_worthThatMayBeDrawn : xg_P xm_D_worthThatMayBeDrawn := ⟨fun _ => xk_m_D_worthThatMayBeDrawn, List.all_eq_true.mp xk_e_D_worthThatMayBeDrawn⟩
theorem xg_D_tellSpread : xg_P xm_D_tellSpread := ⟨fun _ => xk_m_D_tellSpread, List.all_eq_true.mp xk_e_D_tellSpread⟩
theorem xg_D_tallyPairsBefore : xg_P xm_D_tallyPairsBefore := ⟨fun _ => xk_m_D_tallyPairsBefore, List.all_eq_true.mp xk_e_D_tallyPairsBefore⟩
theorem xg_D_tallyMean : xg_P xm_D_tallyMean := ⟨fun _ => xk_m_D_tallyMean, List.all_eq_true.mp xk_e_D_tallyMean⟩
theorem xg_M_init : xg_P xm_M_init := ⟨fun _ => xk_m_M_init, List.all_eq_true.mp xk_e_M_init⟩
theorem xg_M_carry : xg_P xm_M_carry := ⟨fun _ => xk_m_M_carry, List.all_eq_true.mp xk_e_M_carry⟩
theorem xg_M_put : xg_P xm_M_put := ⟨fun _ => xk_m_M_put, List.all_eq_true.mp xk_e_M_put⟩
theorem xg_M_copy : xg_P xm_M_copy := ⟨fun _ => xk_m_M_copy, List.all_eq_true.mp xk_e_M_copy⟩
theorem xg_M_more : xg_P xm_M_more := ⟨fun _ => xk_m_M_more, List.all_eq_true.mp xk_e_M_more⟩
theorem xg_M_isBelow : xg_P xm_M_isBelow := ⟨fun _ => xk_m_M_isBelow, List.all_eq_true.mp xk_e_M_isBelow⟩
theorem xg_M_isZero : xg_P xm_M_isZero := ⟨fun _ => xk_m_M_isZero, List.all_eq_true.mp xk_e_M_isZero⟩
theorem xg_M_turn : xg_P xm_M_turn := ⟨fun _ => xk_m_M_turn, List.all_eq_true.mp xk_e_M_turn⟩
theorem xg_M_sign : xg_P xm_M_sign := ⟨fun _ => xk_m_M_sign, List.all_eq_true.mp xk_e_M_sign⟩
theorem xg_M_bare : xg_P xm_M_bare := ⟨fun _ => xk_m_M_bare, List.all_eq_true.mp xk_e_M_bare⟩
theorem xg_M_length : xg_P xm_M_length := ⟨fun _ => xk_m_M_length, List.all_eq_true.mp xk_e_M_length⟩
theorem xg_M_times : xg_P xm_M_times := ⟨fun _ => xk_m_M_times, List.all_eq_true.mp xk_e_M_times⟩
theorem xg_M_parts : xg_P xm_M_parts := ⟨fun _ => xk_m_M_parts, List.all_eq_true.mp xk_e_M_parts⟩
theorem xg_M_goesInto : xg_P xm_M_goesInto := ⟨fun _ => xk_m_M_goesInto, List.all_eq_true.mp xk_e_M_goesInto⟩
theorem xg_M_isEven : xg_P xm_M_isEven := ⟨fun _ => xk_m_M_isEven, List.all_eq_true.mp xk_e_M_isEven⟩
theorem xg_M_half : xg_P xm_M_half := ⟨fun _ => xk_m_M_half, List.all_eq_true.mp xk_e_M_half⟩
theorem xg_M_isLess : xg_P xm_M_isLess := ⟨fun _ => xk_m_M_isLess, List.all_eq_true.mp xk_e_M_isLess⟩
theorem xg_M_result : xg_P xm_M_result := ⟨fun _ => xk_m_M_result, List.all_eq_true.mp xk_e_M_result⟩
theorem xg_M_isSlot : xg_P xm_M_isSlot := ⟨fun _ => xk_m_M_isSlot, List.all_eq_true.mp xk_e_M_isSlot⟩
theorem xg_M_row : xg_P xm_M_row := ⟨fun _ => xk_m_M_row, List.all_eq_true.mp xk_e_M_row⟩
theorem xg_M_tear : xg_P xm_M_tear := ⟨fun _ => xk_m_M_tear, List.all_eq_true.mp xk_e_M_tear⟩
theorem xg_M_write : xg_P xm_M_write := ⟨fun _ => xk_m_M_write, List.all_eq_true.mp xk_e_M_write⟩
theorem xg_M_crowd : xg_P xm_M_crowd := ⟨fun _ => xk_m_M_crowd, List.all_eq_true.mp xk_e_M_crowd⟩
theorem xg_M_namesOf : xg_P xm_M_namesOf := ⟨fun _ => xk_m_M_namesOf, List.all_eq_true.mp xk_e_M_namesOf⟩
theorem xg_M_isHeap : xg_P xm_M_isHeap := ⟨fun _ => xk_m_M_isHeap, List.all_eq_true.mp xk_e_M_isHeap⟩
theorem xg_M_isName : xg_P xm_M_isName := ⟨fun _ => xk_m_M_isName, List.all_eq_true.mp xk_e_M_isName⟩
theorem xg_M_drawn : xg_P xm_M_drawn := ⟨fun _ => xk_m_M_drawn, List.all_eq_true.mp xk_e_M_drawn⟩
theorem xg_M_sizes : xg_P xm_M_sizes := ⟨fun _ => xk_m_M_sizes, List.all_eq_true.mp xk_e_M_sizes⟩
theorem xg_M_draw : xg_P xm_M_draw := ⟨fun _ => xk_m_M_draw, List.all_eq_true.mp xk_e_M_draw⟩
theorem xg_M_bits : xg_P xm_M_bits := ⟨fun _ => xk_m_M_bits, List.all_eq_true.mp xk_e_M_bits⟩
theorem xg_M_isByHeaps : xg_P xm_M_isByHeaps := ⟨fun _ => xk_m_M_isByHeaps, List.all_eq_true.mp xk_e_M_isByHeaps⟩
theorem xg_M_standsAt : xg_P xm_M_standsAt := ⟨fun _ => xk_m_M_standsAt, List.all_eq_true.mp xk_e_M_standsAt⟩
theorem xg_M_one : xg_P xm_M_one := ⟨fun _ => xk_m_M_one, List.all_eq_true.mp xk_e_M_one⟩
theorem xg_M_weigh : xg_P xm_M_weigh := ⟨fun _ => xk_m_M_weigh, List.all_eq_true.mp xk_e_M_weigh⟩
theorem xg_M_know : xg_P xm_M_know := ⟨fun _ => xk_m_M_know, List.all_eq_true.mp xk_e_M_know⟩
theorem xg_M_reduce : xg_P xm_M_reduce := ⟨fun _ => xk_m_M_reduce, List.all_eq_true.mp xk_e_M_reduce⟩
theorem xg_M_chance : xg_P xm_M_chance := ⟨fun _ => xk_m_M_chance, List.all_eq_true.mp xk_e_M_chance⟩
theorem xg_M_both : xg_P xm_M_both := ⟨fun _ => xk_m_M_both, List.all_eq_true.mp xk_e_M_both⟩
theorem xg_M_isSet : xg_P xm_M_isSet := ⟨fun _ => xk_m_M_isSet, List.all_eq_true.mp xk_e_M_isSet⟩
theorem xg_M_set : xg_P xm_M_set := ⟨fun _ => xk_m_M_set, List.all_eq_true.mp xk_e_M_set⟩
theorem xg_M_sets : xg_P xm_M_sets := ⟨fun _ => xk_m_M_sets, List.all_eq_true.mp xk_e_M_sets⟩
theorem xg_M_many : xg_P xm_M_many := ⟨fun _ => xk_m_M_many, List.all_eq_true.mp xk_e_M_many⟩
theorem xg_M_toldSum : xg_P xm_M_toldSum := ⟨fun _ => xk_m_M_toldSum, List.all_eq_true.mp xk_e_M_toldSum⟩
theorem xg_M_sum : xg_P xm_M_sum := ⟨fun _ => xk_m_M_sum, List.all_eq_true.mp xk_e_M_sum⟩
theorem xg_M_sums : xg_P xm_M_sums := ⟨fun _ => xk_m_M_sums, List.all_eq_true.mp xk_e_M_sums⟩
theorem xg_M_mean : xg_P xm_M_mean := ⟨fun _ => xk_m_M_mean, List.all_eq_true.mp xk_e_M_mean⟩
theorem xg_M_spread : xg_P xm_M_spread := ⟨fun _ => xk_m_M_spread, List.all_eq_true.mp xk_e_M_spread⟩
theorem xg_M_off : xg_P xm_M_off := ⟨fun _ => xk_m_M_off, List.all_eq_true.mp xk_e_M_off⟩
theorem xg_M_setOf : xg_P xm_M_setOf := ⟨fun _ => xk_m_M_setOf, List.all_eq_true.mp xk_e_M_setOf⟩
theorem xg_M_v : xg_P xm_M_v := ⟨fun _ => xk_m_M_v, List.all_eq_true.mp xk_e_M_v⟩
theorem xg_M_told : xg_P xm_M_told := ⟨fun _ => xk_m_M_told, List.all_eq_true.mp xk_e_M_told⟩
theorem xg_M_heap : xg_P xm_M_heap := ⟨fun _ => xk_m_M_heap, List.all_eq_true.mp xk_e_M_heap⟩
theorem xg_M_adds : xg_P xm_M_adds := ⟨fun _ => xk_m_M_adds, List.all_eq_true.mp xk_e_M_adds⟩
theorem xg_M_some : xg_P xm_M_some := ⟨fun _ => xk_m_M_some, List.all_eq_true.mp xk_e_M_some⟩
theorem xg_M_isShared : xg_P xm_M_isShared := ⟨fun _ => xk_m_M_isShared, List.all_eq_true.mp xk_e_M_isShared⟩
theorem xg_M_share : xg_P xm_M_share := ⟨fun _ => xk_m_M_share, List.all_eq_true.mp xk_e_M_share⟩
theorem xg_M_orders : xg_P xm_M_orders := ⟨fun _ => xk_m_M_orders, List.all_eq_true.mp xk_e_M_orders⟩
theorem xg_M_isCut : xg_P xm_M_isCut := ⟨fun _ => xk_m_M_isCut, List.all_eq_true.mp xk_e_M_isCut⟩
theorem xg_M_isShorter : xg_P xm_M_isShorter := ⟨fun _ => xk_m_M_isShorter, List.all_eq_true.mp xk_e_M_isShorter⟩
theorem xg_M_bands : xg_P xm_M_bands := ⟨fun _ => xk_m_M_bands, List.all_eq_true.mp xk_e_M_bands⟩
theorem xg_M_band : xg_P xm_M_band := ⟨fun _ => xk_m_M_band, List.all_eq_true.mp xk_e_M_band⟩
theorem xg_M_manyParts : xg_P xm_M_manyParts := ⟨fun _ => xk_m_M_manyParts, List.all_eq_true.mp xk_e_M_manyParts⟩
theorem xg_M_look : xg_P xm_M_look := ⟨fun _ => xk_m_M_look, List.all_eq_true.mp xk_e_M_look⟩
theorem xg_M_part : xg_P xm_M_part := ⟨fun _ => xk_m_M_part, List.all_eq_true.mp xk_e_M_part⟩
theorem xg_M_least : xg_P xm_M_least := ⟨fun _ => xk_m_M_least, List.all_eq_true.mp xk_e_M_least⟩
theorem xg_M_count : xg_P xm_M_count := ⟨fun _ => xk_m_M_count, List.all_eq_true.mp xk_e_M_count⟩
theorem xg_Law_law : xg_P xm_Law_law := ⟨fun h => absurd rfl h, List.all_eq_true.mp xk_e_Law_law⟩
theorem xg_ch0 : ∀ md ∈ ([xm_Int_bitCount, xm_Math_floorDivL, xm_Math_floorModI, xm_Math_floorModL, xm_Math_max, xm_Math_min, xm_Arr_fillL, xm_Arr_fillI, xm_Big_init, xm_Big_become, xm_Big_multiply, xm_Big_addProduct, xm_Big_isBelowZero, xm_Big_length, xm_Big_isZero, xm_Big_divide, xm_Crowd_init, xm_Crowd_take, xm_Crowd_setCount, xm_Crowd_heapNames, xm_Crowd_heapsWithNames, xm_Crowd_allSizes, xm_Crowd_spreadTop, xm_Crowd_spreadBottom, xm_Cutting_init, xm_Cutting_leastOf, xm_Cutting_cut, xm_Cutting_order, xm_Cutting_cost, xm_Cutting_cutFirst] : List xiM), xg_P md := by
  intro md h
  simp only [List.mem_cons, List.not_mem_nil, or_false] at h
  rcases h with rfl | rfl | rfl | rfl | rfl | rfl | rfl | rfl | rfl | rfl | rfl | rfl | rfl | rfl | rfl | rfl | rfl | rfl | rfl | rfl | rfl | rfl | rfl | rfl | rfl | rfl | rfl | rfl | rfl | rfl
  · exact xg_Int_bitCount
  · exact xg_Math_floorDivL
  · exact xg_Math_floorModI
  · exact xg_Math_floorModL
  · exact xg_Math_max
  · exact xg_Math_min
  · exact xg_Arr_fillL
  · exact xg_Arr_fillI
  · exact xg_Big_init
  · exact xg_Big_become
  · exact xg_Big_multiply
  · exact xg_Big_addProduct
  · exact xg_Big_isBelowZero
  · exact xg_Big_length
  · exact xg_Big_isZero
  · exact xg_Big_divide
  · exact xg_Crowd_init
  · exact xg_Crowd_take
  · exact xg_Crowd_setCount
  · exact xg_Crowd_heapNames
  · exact xg_Crowd_heapsWithNames
  · exact xg_Crowd_allSizes
  · exact xg_Crowd_spreadTop
  · exact xg_Crowd_spreadBottom
  · exact xg_Cutting_init
  · exact xg_Cutting_leastOf
  · exact xg_Cutting_cut
  · exact xg_Cutting_order
  · exact xg_Cutting_cost
  · exact xg_Cutting_cutFirst
theorem xg_ch1 : ∀ md ∈ ([xm_Cutting_choose, xm_Cutting_bandOf, xm_Fraction_init, xm_Fraction_put, xm_Fraction_takeTop, xm_Fraction_divide, xm_Fraction_gcd, xm_Lots_init, xm_Lots_forget, xm_Lots_choose, xm_Lots_fromAllHeaps, xm_Lots_weightOfName, xm_Lots_weightOfPair, xm_Lots_prepare, xm_Lots_weigh, xm_Lots_fitsHeaps, xm_Lots_fitsShares, xm_Lots_product, xm_Lots_weighStarts, xm_Lots_setFrom, xm_Lots_pairOwn, xm_Lots_pairByWeights, xm_Lots_addToPairs, xm_Sharing_init, xm_Sharing_shareOut, xm_Sharing_measure, xm_Sharing_offer, xm_Sharing_cost, xm_Slots_init, xm_Slots_isLaid] : List xiM), xg_P md := by
  intro md h
  simp only [List.mem_cons, List.not_mem_nil, or_false] at h
  rcases h with rfl | rfl | rfl | rfl | rfl | rfl | rfl | rfl | rfl | rfl | rfl | rfl | rfl | rfl | rfl | rfl | rfl | rfl | rfl | rfl | rfl | rfl | rfl | rfl | rfl | rfl | rfl | rfl | rfl | rfl
  · exact xg_Cutting_choose
  · exact xg_Cutting_bandOf
  · exact xg_Fraction_init
  · exact xg_Fraction_put
  · exact xg_Fraction_takeTop
  · exact xg_Fraction_divide
  · exact xg_Fraction_gcd
  · exact xg_Lots_init
  · exact xg_Lots_forget
  · exact xg_Lots_choose
  · exact xg_Lots_fromAllHeaps
  · exact xg_Lots_weightOfName
  · exact xg_Lots_weightOfPair
  · exact xg_Lots_prepare
  · exact xg_Lots_weigh
  · exact xg_Lots_fitsHeaps
  · exact xg_Lots_fitsShares
  · exact xg_Lots_product
  · exact xg_Lots_weighStarts
  · exact xg_Lots_setFrom
  · exact xg_Lots_pairOwn
  · exact xg_Lots_pairByWeights
  · exact xg_Lots_addToPairs
  · exact xg_Sharing_init
  · exact xg_Sharing_shareOut
  · exact xg_Sharing_measure
  · exact xg_Sharing_offer
  · exact xg_Sharing_cost
  · exact xg_Slots_init
  · exact xg_Slots_isLaid
theorem xg_ch2 : ∀ md ∈ ([xm_Slots_laid, xm_Slots_lay, xm_Slots_at, xm_Slots_put, xm_Slots_cutTo, xm_Slots_tellsCrowd, xm_Slots_fact, xm_Tally_init, xm_Tally_clear, xm_Tally_add, xm_D_init, xm_D_row, xm_D_tear, xm_D_write, xm_D_crowd, xm_D_drawn, xm_D_draw, xm_D_chance, xm_D_both, xm_D_set, xm_D_sets, xm_D_many, xm_D_sum, xm_D_mean, xm_D_spread, xm_D_heap, xm_D_share, xm_D_least, xm_D_bands, xm_D_band] : List xiM), xg_P md := by
  intro md h
  simp only [List.mem_cons, List.not_mem_nil, or_false] at h
  rcases h with rfl | rfl | rfl | rfl | rfl | rfl | rfl | rfl | rfl | rfl | rfl | rfl | rfl | rfl | rfl | rfl | rfl | rfl | rfl | rfl | rfl | rfl | rfl | rfl | rfl | rfl | rfl | rfl | rfl | rfl
  · exact xg_Slots_laid
  · exact xg_Slots_lay
  · exact xg_Slots_at
  · exact xg_Slots_put
  · exact xg_Slots_cutTo
  · exact xg_Slots_tellsCrowd
  · exact xg_Slots_fact
  · exact xg_Tally_init
  · exact xg_Tally_clear
  · exact xg_Tally_add
  · exact xg_D_init
  · exact xg_D_row
  · exact xg_D_tear
  · exact xg_D_write
  · exact xg_D_crowd
  · exact xg_D_drawn
  · exact xg_D_draw
  · exact xg_D_chance
  · exact xg_D_both
  · exact xg_D_set
  · exact xg_D_sets
  · exact xg_D_many
  · exact xg_D_sum
  · exact xg_D_mean
  · exact xg_D_spread
  · exact xg_D_heap
  · exact xg_D_share
  · exact xg_D_least
  · exact xg_D_bands
  · exact xg_D_band
theorem xg_ch3 : ∀ md ∈ ([xm_D_look, xm_D_part, xm_D_count, xm_D_countOfHeap, xm_D_isSlot, xm_D_isHeap, xm_D_isName, xm_D_isSet, xm_D_canStep, xm_D_canShareOut, xm_D_tellOwnChance, xm_D_tellSum, xm_D_divideByNames, xm_D_worthThatMayBeDrawn, xm_D_tellSpread, xm_D_tallyPairsBefore, xm_D_tallyMean, xm_M_init, xm_M_carry, xm_M_put, xm_M_copy, xm_M_more, xm_M_isBelow, xm_M_isZero, xm_M_turn, xm_M_sign, xm_M_bare, xm_M_length, xm_M_times, xm_M_parts] : List xiM), xg_P md := by
  intro md h
  simp only [List.mem_cons, List.not_mem_nil, or_false] at h
  rcases h with rfl | rfl | rfl | rfl | rfl | rfl | rfl | rfl | rfl | rfl | rfl | rfl | rfl | rfl | rfl | rfl | rfl | rfl | rfl | rfl | rfl | rfl | rfl | rfl | rfl | rfl | rfl | rfl | rfl | rfl
  · exact xg_D_look
  · exact xg_D_part
  · exact xg_D_count
  · exact xg_D_countOfHeap
  · exact xg_D_isSlot
  · exact xg_D_isHeap
  · exact xg_D_isName
  · exact xg_D_isSet
  · exact xg_D_canStep
  · exact xg_D_canShareOut
  · exact xg_D_tellOwnChance
  · exact xg_D_tellSum
  · exact xg_D_divideByNames
  · exact xg_D_worthThatMayBeDrawn
  · exact xg_D_tellSpread
  · exact xg_D_tallyPairsBefore
  · exact xg_D_tallyMean
  · exact xg_M_init
  · exact xg_M_carry
  · exact xg_M_put
  · exact xg_M_copy
  · exact xg_M_more
  · exact xg_M_isBelow
  · exact xg_M_isZero
  · exact xg_M_turn
  · exact xg_M_sign
  · exact xg_M_bare
  · exact xg_M_length
  · exact xg_M_times
  · exact xg_M_parts
theorem xg_ch4 : ∀ md ∈ ([xm_M_goesInto, xm_M_isEven, xm_M_half, xm_M_isLess, xm_M_result, xm_M_isSlot, xm_M_row, xm_M_tear, xm_M_write, xm_M_crowd, xm_M_namesOf, xm_M_isHeap, xm_M_isName, xm_M_drawn, xm_M_sizes, xm_M_draw, xm_M_bits, xm_M_isByHeaps, xm_M_standsAt, xm_M_one, xm_M_weigh, xm_M_know, xm_M_reduce, xm_M_chance, xm_M_both, xm_M_isSet, xm_M_set, xm_M_sets, xm_M_many, xm_M_toldSum] : List xiM), xg_P md := by
  intro md h
  simp only [List.mem_cons, List.not_mem_nil, or_false] at h
  rcases h with rfl | rfl | rfl | rfl | rfl | rfl | rfl | rfl | rfl | rfl | rfl | rfl | rfl | rfl | rfl | rfl | rfl | rfl | rfl | rfl | rfl | rfl | rfl | rfl | rfl | rfl | rfl | rfl | rfl | rfl
  · exact xg_M_goesInto
  · exact xg_M_isEven
  · exact xg_M_half
  · exact xg_M_isLess
  · exact xg_M_result
  · exact xg_M_isSlot
  · exact xg_M_row
  · exact xg_M_tear
  · exact xg_M_write
  · exact xg_M_crowd
  · exact xg_M_namesOf
  · exact xg_M_isHeap
  · exact xg_M_isName
  · exact xg_M_drawn
  · exact xg_M_sizes
  · exact xg_M_draw
  · exact xg_M_bits
  · exact xg_M_isByHeaps
  · exact xg_M_standsAt
  · exact xg_M_one
  · exact xg_M_weigh
  · exact xg_M_know
  · exact xg_M_reduce
  · exact xg_M_chance
  · exact xg_M_both
  · exact xg_M_isSet
  · exact xg_M_set
  · exact xg_M_sets
  · exact xg_M_many
  · exact xg_M_toldSum
theorem xg_ch5 : ∀ md ∈ ([xm_M_sum, xm_M_sums, xm_M_mean, xm_M_spread, xm_M_off, xm_M_setOf, xm_M_v, xm_M_told, xm_M_heap, xm_M_adds, xm_M_some, xm_M_isShared, xm_M_share, xm_M_orders, xm_M_isCut, xm_M_isShorter, xm_M_bands, xm_M_band, xm_M_manyParts, xm_M_look, xm_M_part, xm_M_least, xm_M_count, xm_Law_law] : List xiM), xg_P md := by
  intro md h
  simp only [List.mem_cons, List.not_mem_nil, or_false] at h
  rcases h with rfl | rfl | rfl | rfl | rfl | rfl | rfl | rfl | rfl | rfl | rfl | rfl | rfl | rfl | rfl | rfl | rfl | rfl | rfl | rfl | rfl | rfl | rfl | rfl
  · exact xg_M_sum
  · exact xg_M_sums
  · exact xg_M_mean
  · exact xg_M_spread
  · exact xg_M_off
  · exact xg_M_setOf
  · exact xg_M_v
  · exact xg_M_told
  · exact xg_M_heap
  · exact xg_M_adds
  · exact xg_M_some
  · exact xg_M_isShared
  · exact xg_M_share
  · exact xg_M_orders
  · exact xg_M_isCut
  · exact xg_M_isShorter
  · exact xg_M_bands
  · exact xg_M_band
  · exact xg_M_manyParts
  · exact xg_M_look
  · exact xg_M_part
  · exact xg_M_least
  · exact xg_M_count
  · exact xg_Law_law
theorem xg_all : ∀ md ∈ xMs, xg_P md := by
  intro md h
  have e : xMs = [xm_Int_bitCount, xm_Math_floorDivL, xm_Math_floorModI, xm_Math_floorModL, xm_Math_max, xm_Math_min, xm_Arr_fillL, xm_Arr_fillI, xm_Big_init, xm_Big_become, xm_Big_multiply, xm_Big_addProduct, xm_Big_isBelowZero, xm_Big_length, xm_Big_isZero, xm_Big_divide, xm_Crowd_init, xm_Crowd_take, xm_Crowd_setCount, xm_Crowd_heapNames, xm_Crowd_heapsWithNames, xm_Crowd_allSizes, xm_Crowd_spreadTop, xm_Crowd_spreadBottom, xm_Cutting_init, xm_Cutting_leastOf, xm_Cutting_cut, xm_Cutting_order, xm_Cutting_cost, xm_Cutting_cutFirst] ++ ([xm_Cutting_choose, xm_Cutting_bandOf, xm_Fraction_init, xm_Fraction_put, xm_Fraction_takeTop, xm_Fraction_divide, xm_Fraction_gcd, xm_Lots_init, xm_Lots_forget, xm_Lots_choose, xm_Lots_fromAllHeaps, xm_Lots_weightOfName, xm_Lots_weightOfPair, xm_Lots_prepare, xm_Lots_weigh, xm_Lots_fitsHeaps, xm_Lots_fitsShares, xm_Lots_product, xm_Lots_weighStarts, xm_Lots_setFrom, xm_Lots_pairOwn, xm_Lots_pairByWeights, xm_Lots_addToPairs, xm_Sharing_init, xm_Sharing_shareOut, xm_Sharing_measure, xm_Sharing_offer, xm_Sharing_cost, xm_Slots_init, xm_Slots_isLaid] ++ ([xm_Slots_laid, xm_Slots_lay, xm_Slots_at, xm_Slots_put, xm_Slots_cutTo, xm_Slots_tellsCrowd, xm_Slots_fact, xm_Tally_init, xm_Tally_clear, xm_Tally_add, xm_D_init, xm_D_row, xm_D_tear, xm_D_write, xm_D_crowd, xm_D_drawn, xm_D_draw, xm_D_chance, xm_D_both, xm_D_set, xm_D_sets, xm_D_many, xm_D_sum, xm_D_mean, xm_D_spread, xm_D_heap, xm_D_share, xm_D_least, xm_D_bands, xm_D_band] ++ ([xm_D_look, xm_D_part, xm_D_count, xm_D_countOfHeap, xm_D_isSlot, xm_D_isHeap, xm_D_isName, xm_D_isSet, xm_D_canStep, xm_D_canShareOut, xm_D_tellOwnChance, xm_D_tellSum, xm_D_divideByNames, xm_D_worthThatMayBeDrawn, xm_D_tellSpread, xm_D_tallyPairsBefore, xm_D_tallyMean, xm_M_init, xm_M_carry, xm_M_put, xm_M_copy, xm_M_more, xm_M_isBelow, xm_M_isZero, xm_M_turn, xm_M_sign, xm_M_bare, xm_M_length, xm_M_times, xm_M_parts] ++ ([xm_M_goesInto, xm_M_isEven, xm_M_half, xm_M_isLess, xm_M_result, xm_M_isSlot, xm_M_row, xm_M_tear, xm_M_write, xm_M_crowd, xm_M_namesOf, xm_M_isHeap, xm_M_isName, xm_M_drawn, xm_M_sizes, xm_M_draw, xm_M_bits, xm_M_isByHeaps, xm_M_standsAt, xm_M_one, xm_M_weigh, xm_M_know, xm_M_reduce, xm_M_chance, xm_M_both, xm_M_isSet, xm_M_set, xm_M_sets, xm_M_many, xm_M_toldSum] ++ ([xm_M_sum, xm_M_sums, xm_M_mean, xm_M_spread, xm_M_off, xm_M_setOf, xm_M_v, xm_M_told, xm_M_heap, xm_M_adds, xm_M_some, xm_M_isShared, xm_M_share, xm_M_orders, xm_M_isCut, xm_M_isShorter, xm_M_bands, xm_M_band, xm_M_manyParts, xm_M_look, xm_M_part, xm_M_least, xm_M_count, xm_Law_law]))))) := rfl
  rw [e] at h
  rcases List.mem_append.mp h with h | h
  · exact xg_ch0 md h
  rcases List.mem_append.mp h with h | h
  · exact xg_ch1 md h
  rcases List.mem_append.mp h with h | h
  · exact xg_ch2 md h
  rcases List.mem_append.mp h with h | h
  · exact xg_ch3 md h
  rcases List.mem_append.mp h with h | h
  · exact xg_ch4 md h
  exact xg_ch5 md h
theorem x_good (L : Nat) (xs : Nat → Int32) : xi_good xT xCl xZs xTf (xG L xs) := by
  refine ⟨xk_T, xg_c, fun μ md hmd => ?_⟩
  have h := xg_all md (List.mem_of_getElem? hmd)
  exact ⟨h.1, fun q hq => by rw [xi_okE_G (G := xG L xs) (G2 := xG0) rfl]; exact h.2 q hq⟩
theorem xk_nest : ∀ q ∈ xZs.2, Cond.methodLinkNest q.1 q.2.1 q.2.2.1 q.2.2.2 ∈ lw_tbl := by decide +kernel
/-! THE CLAIM OUT OF ONE WALK OF THE LAW'S BODY. Your part is whole_start (and what it stands on); all else here is the same for every law, but numbers. -/
def R_law : String := "DrawBenchLaw"
def lw_P (b : Addr) (xs : List Int32) (args : Array Value) (s : State) : Prop := args = #[.ref b] ∧ s.IntsAt b xs ∧ xs.length ≤ 2560 ∧ (Jvm.Cond.and given_1 narrow_1).before args s = true
def lw_Q (_ : Array Value) (s : State) (o : Outcome) (t : State) : Prop := o = .returned (some (.int 1)) ∧ Framed s o t [] 600000 7302250
def lw_Z (below : List Frame) (a : Array Value) (s : State) : State → Prop := fun t => ∃ o, t.status = .running ∧ Ended t below o ∧ lw_Q a s o t
/-- the law's own end, with 1 on the stack, nothing written that was there before, its room as the claim has it -/
theorem lw_ret {p : Program} {l : Launch} {e : Env} {s : State} {m : MethodId} {below : List Frame} {meth : Method} {c : Code} {b : Nat} (hx : p.tables.exec = Jvm.exec) (hb : c.code = code) (hr : meth.sig.returnType = ret) (hlocks : meth.locks = false) {pc : Nat} {H : Heap} {ls : Array Slot} (hdg : decode code pc = .ok (.ireturn, 1)) : W p l e room_1 s m #[Value.ref b] below meth c H [] 600000 7302250 (lw_Z below #[Value.ref b] s) (F0 m pc ls [.int 1]) := by
  intro T hT X
  obtain ⟨fs, hret, hrun, hended, hW, hframe⟩ := X.leave (v := some (.int 1)) (hlocks := hlocks) (fun h => by rw [hr] at h; cases h)
  have hmeth' : T.vm.method? m = some meth := X.method'
  refine ⟨T.setFrames fs, ?_, .returned (some (.int 1)), hrun, hended, rfl, ⟨_, rfl⟩, hW, hframe⟩
  jvm_step X.here [X.here.top, hx, hb, hdg, hmeth', hr, ret, narrow_b1]
  (try refine ⟨rfl, ?_⟩); (try refine ⟨rfl, ?_⟩)
  first | (intro acts; rw [hret _ acts rfl rfl rfl]) | rw [hret _ _ rfl rfl rfl]
  exact Steps.refl _
/-- what holds at the law's entry: the machine, the code, the tables' words (any of lw_tbl by 'hts w (by decide +kernel)'), the script of L ints xs at the cell b, what the Statement gives of the start (any of its parts by flat_of_before) -/
def lw_At (p : Program) (s : State) (m : MethodId) (meth : Method) (c : Code) (b L : Nat) (xs : Nat → Int32) : Prop :=
  p.tables.exec = Jvm.exec ∧ c.code = code ∧ meth.sig.returnType = ret ∧ c.maxLocals = 4 ∧ s.vm.findClass R_law = some m.cls ∧ (∀ w ∈ lw_tbl, w.before #[Value.ref b] s = true) ∧ va_X b L xs s s.heap ∧ b < s.heap.size ∧ meth.locks = false ∧ (Jvm.Cond.and given_1 narrow_1).before #[Value.ref b] s = true

set_option maxHeartbeats 4000000 in
set_option maxRecDepth 100000 in
/-- the law, from its entry, out of the abstract machine's promise -/
theorem whole_of {p : Program} {e : Env} {s : State} {m : MethodId} {below : List Frame} {meth : Method} {c : Code} (l : Launch) {b L : Nat} {xs : Nat → Int32} (hL : L ≤ 2560) (C0 : lw_At p s m meth c b L xs)
    (hV : xi_V (xG L xs) 173 0 [some (.ref 1000000), none, none, none] [] ([], fun _ _ => 0, fun _ _ => 0, fun _ _ => 0) 0 0 (fun r _ => r = some (.int 1))) : W p l e room_1 s m #[Value.ref b] below meth c s.heap [] 0 0 (lw_Z below #[Value.ref b] s) (entryFrame m ([Value.ref b] : List Value).toArray 4) := by
  obtain ⟨hx, hb, hr, hml, hown, hts, hX, hbl, hlocks, hgv⟩ := id C0
  have hs := flat_of_before _ hgv
  have hA0 : ∀ a : Nat, a < s.heap.size → ¬ (fun q : Nat => s.heap.size ≤ q) a := fun a h => Nat.not_le.mpr h
  obtain ⟨c0, iS0, hKn0⟩ := u_known (C := RX0) (T := TX0) (N := 1) (n := 1) hts (fun w h => xk_T2 w (xk_c0 w h)) (hts (.instantiable RX0 1) (by decide +kernel))
  obtain ⟨c1, iS1, hKn1⟩ := u_known (C := RX1) (T := TX1) (N := 5) (n := 5) hts (fun w h => xk_T2 w (xk_c1 w h)) (hts (.instantiable RX1 5) (by decide +kernel))
  obtain ⟨c2, iS2, hKn2⟩ := u_known (C := RX2) (T := TX2) (N := 5) (n := 5) hts (fun w h => xk_T2 w (xk_c2 w h)) (hts (.instantiable RX2 5) (by decide +kernel))
  obtain ⟨c3, iS3, hKn3⟩ := u_known (C := RX3) (T := TX3) (N := 4) (n := 4) hts (fun w h => xk_T2 w (xk_c3 w h)) (hts (.instantiable RX3 4) (by decide +kernel))
  obtain ⟨c4, iS4, hKn4⟩ := u_known (C := RX4) (T := TX4) (N := 7) (n := 7) hts (fun w h => xk_T2 w (xk_c4 w h)) (hts (.instantiable RX4 7) (by decide +kernel))
  obtain ⟨c5, iS5, hKn5⟩ := u_known (C := RX5) (T := TX5) (N := 5) (n := 5) hts (fun w h => xk_T2 w (xk_c5 w h)) (hts (.instantiable RX5 5) (by decide +kernel))
  obtain ⟨c6, iS6, hKn6⟩ := u_known (C := RX6) (T := TX6) (N := 3) (n := 3) hts (fun w h => xk_T2 w (xk_c6 w h)) (hts (.instantiable RX6 3) (by decide +kernel))
  obtain ⟨c7, iS7, hKn7⟩ := u_known (C := RX7) (T := TX7) (N := 2) (n := 2) hts (fun w h => xk_T2 w (xk_c7 w h)) (hts (.instantiable RX7 2) (by decide +kernel))
  obtain ⟨c8, iS8, hKn8⟩ := u_known (C := RX8) (T := TX8) (N := 7) (n := 7) hts (fun w h => xk_T2 w (xk_c8 w h)) (hts (.instantiable RX8 7) (by decide +kernel))
  obtain ⟨c9, iS9, hKn9⟩ := u_known (C := RX9) (T := TX9) (N := 22) (n := 22) hts (fun w h => xk_T2 w (xk_c9 w h)) (hts (.instantiable RX9 22) (by decide +kernel))
  obtain ⟨dC, dI, hKc⟩ : ∃ (dC : Nat → ClassId) (dI : Nat → Nat → Nat), ∀ (k : Nat) (q : vw_C), xCl[k]? = some q → u_Kn s q.1 q.2.1 q.2.2 (dC k) (dI k) := by
    refine ⟨fun k => if k = 0 then c0 else if k = 1 then c1 else if k = 2 then c2 else if k = 3 then c3 else if k = 4 then c4 else if k = 5 then c5 else if k = 6 then c6 else if k = 7 then c7 else if k = 8 then c8 else c9, fun k => if k = 0 then iS0 else if k = 1 then iS1 else if k = 2 then iS2 else if k = 3 then iS3 else if k = 4 then iS4 else if k = 5 then iS5 else if k = 6 then iS6 else if k = 7 then iS7 else if k = 8 then iS8 else iS9, ?_⟩
    intro k q hq
    match k, hq with
    | 0, hq => cases hq; exact hKn0
    | 1, hq => cases hq; exact hKn1
    | 2, hq => cases hq; exact hKn2
    | 3, hq => cases hq; exact hKn3
    | 4, hq => cases hq; exact hKn4
    | 5, hq => cases hq; exact hKn5
    | 6, hq => cases hq; exact hKn6
    | 7, hq => cases hq; exact hKn7
    | 8, hq => cases hq; exact hKn8
    | 9, hq => cases hq; exact hKn9
    | k + 10, hq => simp [xCl] at hq
  obtain ⟨t1, h1, hT1⟩ := va_Tof (tm := .static "DrawBench$Slots" "LOWEST_FACT" "[I") (ty := .int) (N := 4) (f := fun j => .int (xLow j)) (A := fun q : Nat => s.heap.size ≤ q) (by decide) (hs _ (by decide +kernel)) (va_eqt (hs (Cond.eq (Term.length (.static "DrawBench$Slots" "LOWEST_FACT" "[I")) (Term.int 4)) (by decide +kernel))) (fun j hj => by
    rcases (show j = 0 ∨ j = 1 ∨ j = 2 ∨ j = 3 by omega) with rfl | rfl | rfl | rfl
    · exact va_eqt (hs (Cond.eq (Term.elem (.static "DrawBench$Slots" "LOWEST_FACT" "[I") (Term.int 0)) (Term.int (-100))) (by decide +kernel))
    · exact va_eqt (hs (Cond.eq (Term.elem (.static "DrawBench$Slots" "LOWEST_FACT" "[I") (Term.int 1)) (Term.int 1)) (by decide +kernel))
    · exact va_eqt (hs (Cond.eq (Term.elem (.static "DrawBench$Slots" "LOWEST_FACT" "[I") (Term.int 2)) (Term.int 0)) (by decide +kernel))
    · exact va_eqt (hs (Cond.eq (Term.elem (.static "DrawBench$Slots" "LOWEST_FACT" "[I") (Term.int 3)) (Term.int 0)) (by decide +kernel))) hA0
  obtain ⟨t2, h2, hT2⟩ := va_Tof (tm := .static "DrawBench$Slots" "HIGHEST_FACT" "[I") (ty := .int) (N := 4) (f := fun j => .int (xHigh j)) (A := fun q : Nat => s.heap.size ≤ q) (by decide) (hs _ (by decide +kernel)) (va_eqt (hs (Cond.eq (Term.length (.static "DrawBench$Slots" "HIGHEST_FACT" "[I")) (Term.int 4)) (by decide +kernel))) (fun j hj => by
    rcases (show j = 0 ∨ j = 1 ∨ j = 2 ∨ j = 3 by omega) with rfl | rfl | rfl | rfl
    · exact va_eqt (hs (Cond.eq (Term.elem (.static "DrawBench$Slots" "HIGHEST_FACT" "[I") (Term.int 0)) (Term.int 100)) (by decide +kernel))
    · exact va_eqt (hs (Cond.eq (Term.elem (.static "DrawBench$Slots" "HIGHEST_FACT" "[I") (Term.int 1)) (Term.int 50)) (by decide +kernel))
    · exact va_eqt (hs (Cond.eq (Term.elem (.static "DrawBench$Slots" "HIGHEST_FACT" "[I") (Term.int 2)) (Term.int 3)) (by decide +kernel))
    · exact va_eqt (hs (Cond.eq (Term.elem (.static "DrawBench$Slots" "HIGHEST_FACT" "[I") (Term.int 3)) (Term.int 100)) (by decide +kernel))) hA0
  have hZ1 := va_Zref (A := fun q : Nat => s.heap.size ≤ q) (hts (.laysStatic "DrawBench$Slots" "LOWEST_FACT" "[I") (by decide +kernel)) (hts (.initialized "DrawBench$Slots") (by decide +kernel)) h1 hA0
  have hZ2 := va_Zref (A := fun q : Nat => s.heap.size ≤ q) (hts (.laysStatic "DrawBench$Slots" "HIGHEST_FACT" "[I") (by decide +kernel)) (hts (.initialized "DrawBench$Slots") (by decide +kernel)) h2 hA0
  have hT0 : va_T .int b L (fun t => .int (xs t)) (fun q : Nat => s.heap.size ≤ q) s s.heap := by
    obtain ⟨scr, x1, x2, x3, x4, x5⟩ := hX
    exact ⟨scr, x1, x2, x3, Nat.le_of_eq x4.symm, by rw [x4], x5, Nat.not_le.mpr hbl⟩
  have hl := lv_entry ([.ref b]) (n := 4) (Nat.le_of_ble_eq_true rfl)
  rw [lg_entry_eq]
  generalize (lg_sl ([.ref b]) ++ List.replicate (4 - (lg_sl ([.ref b])).length) Slot.unset).toArray = ls at hl ⊢
  obtain ⟨ad, had⟩ : ∃ ad : Nat → Nat, ad = fun k => if k = 1000000 then b else if k = 1000001 then t1 else t2 := ⟨_, rfl⟩
  have a0 : ad 1000000 = b := by rw [had]; rfl
  have a1 : ad 1000001 = t1 := by rw [had]; rfl
  have a2 : ad 1000002 = t2 := by rw [had]; rfl
  have hl2 : lv_has ls 4 (xi_l ad [some (.ref 1000000), none, none, none]) := by
    refine xi_has hl fun q hq => ?_
    obtain ⟨v, hv, hq2⟩ := xi_l_mem.mp hq
    match hk : q.1, hv with
    | 0, hv =>
      cases hv
      have : q = (0, .ref b) := by rw [← a0]; exact Prod.ext hk hq2
      rw [this]
      exact List.mem_cons_self
    | 1, hv => cases hv
    | 2, hv => cases hv
    | 3, hv => cases hv
    | k + 4, hv => simp at hv
  have hOK := hV (xi_OK xT xCl xZs l (xG L xs)) (xi_closed (x_good L xs))
  refine hOK xm_Law_law rfl p e s m #[Value.ref b] below meth c room_1 (lw_Z below #[Value.ref b] s) (dC, dI) (fun q => s.heap.size ≤ q) ad (fun _ => c0) s.heap [] ls ⟨hx, hb, hml, hown, fun w hw => hts w (xk_T2 w hw), fun q hq => hq, hKc, Nat.le_of_ble_eq_true rfl, Nat.le_of_ble_eq_true rfl, Nat.le_of_ble_eq_true rfl, Nat.le_of_ble_eq_true rfl, fun h => absurd h (by decide)⟩ ⟨?_, ?_, ?_⟩ ⟨?_, ?_, va_S.rf, ?_, ?_⟩ hl2 ?_
  · intro j q hq
    match j, hq with
    | 0, hq => cases hq; rw [show xi_o + 0 = 1000000 from rfl, a0]; exact hT0
    | 1, hq => cases hq; rw [show xi_o + 1 = 1000001 from rfl, a1]; exact hT1
    | 2, hq => cases hq; rw [show xi_o + 2 = 1000002 from rfl, a2]; exact hT2
    | k + 3, hq => simp [xG] at hq
  · intro j z hz
    match j, hz with
    | 0, hz => cases hz; rw [show xi_o + (0 + 1) = 1000001 from rfl, a1]; exact hZ1
    | 1, hz => cases hz; rw [show xi_o + (1 + 1) = 1000002 from rfl, a2]; exact hZ2
    | k + 2, hz => simp [xZs] at hz
  · intro q hq
    exact va_Nw.of rfl (hts _ (xk_nest q hq))
  · intro k q hk; cases hk
  · refine ⟨?_, ?_⟩
    · intro i j p q h; cases h
    · intro k q h; cases h
  · intro k d hk; cases hk
  · exact ⟨fun k j q hk => absurd hk (Nat.not_lt_zero _), by decide⟩
  · intro r σ' ad' ca' H' locs' nc' ns' pc' lsA' hQ hR hA hnc hns hre
    subst hQ
    refine W.widen hnc hns (va_forget (fun q hq => hR.2.2.1.2.2 q hq) ?_)
    exact lw_ret hx hb hr hlocks hre.1
