/-! rows of the memory, and the library's long floorMod and floorDiv by 10^9 -/
theorem m_neg {x : Int64} : x < 0 ↔ x.toBitVec.msb = true := by
  show x.toBitVec.slt 0#64 = true ↔ _
  exact BitVec.slt_zero_iff_msb_cond
theorem m_xor {x : Int64} : (x ^^^ 1000000000) < 0 ↔ x < 0 := by
  rw [m_neg, m_neg, Int64.toBitVec_xor, BitVec.msb_xor]
  have : (1000000000 : Int64).toBitVec.msb = false := by decide
  rw [this]
  simp
theorem m_cmp0 {x y : Int64} : (0 : Int32) ≤ lg_cmp x y ↔ ¬ x < y := by
  unfold lg_cmp
  by_cases h1 : y < x
  · have h2 : ¬ x < y := fun z => by rw [Int64.lt_iff_toInt_lt] at *; omega
    simp [h1, h2]
  · by_cases h2 : x = y
    · subst h2
      simp [h1]
    · have h3 : x < y := by
        rw [Int64.lt_iff_toInt_lt] at *
        have : x.toInt ≠ y.toInt := fun z => h2 (Int64.toInt_inj.mp z)
        omega
      simp [h1, h2, h3]
theorem m_cmpE {x y : Int64} : lg_cmp x y = (0 : Int32) ↔ x = y := by
  unfold lg_cmp
  by_cases h1 : y < x
  · have h2 : ¬ x = y := fun z => by subst z; rw [Int64.lt_iff_toInt_lt] at h1; omega
    simp [h1, h2]
  · by_cases h2 : x = y
    · simp [h1, h2]
    · simp [h1, h2]
theorem m_tmod_gt (z : Int) : -1000000000 < z.tmod 1000000000 := by
  have := Int.tmod_lt_of_pos (-z) (by decide : (0 : Int) < 1000000000)
  rw [Int.neg_tmod] at this
  omega
theorem m_B : (1000000000 : Int64).toInt = 1000000000 := by decide
theorem m_divB (x : Int64) : (x / 1000000000).toInt = x.toInt.tdiv 1000000000 := by
  rw [Int64.toInt_div_of_ne_right _ _ (by decide), m_B]
theorem m_mulB (x : Int64) : (x / 1000000000 * 1000000000).toInt = x.toInt.tdiv 1000000000 * 1000000000 := by
  have hr := fb_rngL x
  have e := Int.mul_tdiv_add_tmod x.toInt 1000000000
  have h1 := Int.tmod_lt_of_pos x.toInt (by decide : (0 : Int) < 1000000000)
  have h2 : -1000000000 < x.toInt.tmod 1000000000 := m_tmod_gt _
  rw [Int.mul_comm] at e
  rw [Int64.toInt_mul, m_divB, m_B]
  by_cases hs : 0 ≤ x.toInt
  · have h3 := Int.tmod_nonneg 1000000000 hs
    rw [fb_bmodL (by omega) (by omega)]
  · have h3 : x.toInt.tmod 1000000000 ≤ 0 := by
      have := Int.tmod_nonneg 1000000000 (show 0 ≤ -x.toInt by omega)
      rw [Int.neg_tmod] at this
      omega
    rw [fb_bmodL (by omega) (by omega)]
theorem m_remB (x : Int64) : (x - x / 1000000000 * 1000000000).toInt = x.toInt.tmod 1000000000 := by
  have hr := fb_rngL x
  have e := Int.mul_tdiv_add_tmod x.toInt 1000000000
  rw [Int.mul_comm] at e
  have h1 := Int.tmod_lt_of_pos x.toInt (by decide : (0 : Int) < 1000000000)
  have h2 : -1000000000 < x.toInt.tmod 1000000000 := m_tmod_gt _
  rw [Int64.toInt_sub, m_mulB, fb_bmodL (by omega) (by omega)]
  omega
/-- truncated and floored -/
theorem m_floor (z : Int) : (0 ≤ z → z / 1000000000 = z.tdiv 1000000000 ∧ z % 1000000000 = z.tmod 1000000000) ∧ (z < 0 → (z.tmod 1000000000 = 0 → z / 1000000000 = z.tdiv 1000000000 ∧ z % 1000000000 = 0) ∧ (¬ z.tmod 1000000000 = 0 → z / 1000000000 = z.tdiv 1000000000 - 1 ∧ z % 1000000000 = z.tmod 1000000000 + 1000000000)) := by
  have e := Int.mul_tdiv_add_tmod z 1000000000
  have e2 := Int.mul_ediv_add_emod z 1000000000
  have p1 := Int.emod_nonneg z (by decide : (1000000000 : Int) ≠ 0)
  have p2 := Int.emod_lt_of_pos z (by decide : (0 : Int) < 1000000000)
  have h1 := Int.tmod_lt_of_pos z (by decide : (0 : Int) < 1000000000)
  have h2 : -1000000000 < z.tmod 1000000000 := m_tmod_gt _
  refine ⟨fun hz => ?_, fun hz => ⟨fun h0 => ?_, fun h0 => ?_⟩⟩
  · have h3 := Int.tmod_nonneg 1000000000 hz
    omega
  · omega
  · have h3 : z.tmod 1000000000 ≤ 0 := by
      have := Int.tmod_nonneg 1000000000 (show 0 ≤ -z by omega)
      rw [Int.neg_tmod] at this
      omega
    omega
section CL
variable {L0 : Nat} {xs : Nat → Int32} {Q : xiQ} {I : Nat → Nat → Int32} {L : Nat → Nat → Int64}
theorem c_floorModL {x : Int64} (h : ∀ r : Int64, r.toInt = x.toInt % 1000000000 → Q (some (Value.long r)) (xSH, xRF, I, L)) :
    xi_V (xG L0 xs) 3 0 [some (Value.long x), none, some (Value.long (1000000000 : Int64)), none, none, none] [] (xSH, xRF, I, L) 0 0 Q := by
  have hf := m_floor x.toInt
  refine b_Math_floorModL_0 ⟨by decide, fun c => ?_, fun c => ⟨fun c2 => ?_, fun c2 => ?_⟩⟩
  · rw [m_cmp0, m_xor] at c
    refine h _ ?_
    rw [m_remB, (hf.1 (by rw [Int64.lt_iff_toInt_lt] at c; have : (0 : Int64).toInt = 0 := by decide
                          omega)).2]
  · rw [m_cmp0, m_xor] at c
    have c := Decidable.not_not.mp c
    rw [m_cmpE] at c2
    have c3 := congrArg Int64.toInt c2
    rw [m_remB] at c3
    have z0 : (0 : Int64).toInt = 0 := by decide
    rw [Int64.lt_iff_toInt_lt, z0] at c
    refine h _ ?_
    rw [m_remB, ((hf.2 c).1 (by rw [c3, z0])).2, c3, z0]
  · rw [m_cmp0, m_xor] at c
    have c := Decidable.not_not.mp c
    have z0 : (0 : Int64).toInt = 0 := by decide
    rw [Int64.lt_iff_toInt_lt, z0] at c
    have c3 : ¬ x.toInt.tmod 1000000000 = 0 := fun z => c2 (m_cmpE.mpr (Int64.toInt_inj.mp (by rw [m_remB, z, z0])))
    refine h _ ?_
    have h1 := Int.tmod_lt_of_pos x.toInt (by decide : (0 : Int) < 1000000000)
    have h2 : -1000000000 < x.toInt.tmod 1000000000 := m_tmod_gt _
    rw [fb_addL (by rw [m_remB, m_B]; omega) (by rw [m_remB, m_B]; omega), m_remB, m_B, ((hf.2 c).2 c3).2]
theorem c_floorDivL {x : Int64} (h : ∀ r : Int64, r.toInt = x.toInt / 1000000000 → Q (some (Value.long r)) (xSH, xRF, I, L)) :
    xi_V (xG L0 xs) 1 0 [some (Value.long x), none, some (Value.long (1000000000 : Int64)), none, none, none] [] (xSH, xRF, I, L) 0 0 Q := by
  have hf := m_floor x.toInt
  have hr := fb_rngL x
  have z0 : (0 : Int64).toInt = 0 := by decide
  have e := Int.mul_tdiv_add_tmod x.toInt 1000000000
  refine b_Math_floorDivL_0 ⟨by decide, fun c => ?_, fun c => ⟨fun c2 => ?_, fun c2 => ?_⟩⟩
  · rw [m_cmp0, m_xor, Int64.lt_iff_toInt_lt, z0] at c
    refine h _ ?_
    rw [m_divB, (hf.1 (by omega)).1]
  · rw [m_cmp0, m_xor] at c
    have c := Decidable.not_not.mp c
    rw [Int64.lt_iff_toInt_lt, z0] at c
    rw [m_cmpE] at c2
    have c3 := congrArg Int64.toInt c2
    rw [m_mulB] at c3
    refine h _ ?_
    rw [m_divB, ((hf.2 c).1 (by omega)).1]
  · rw [m_cmp0, m_xor] at c
    have c := Decidable.not_not.mp c
    rw [Int64.lt_iff_toInt_lt, z0] at c
    have c3 : ¬ x.toInt.tmod 1000000000 = 0 := fun z => c2 (m_cmpE.mpr (Int64.toInt_inj.mp (by rw [m_mulB]; omega)))
    refine h _ ?_
    have z1 : (1 : Int64).toInt = 1 := by decide
    rw [fb_subL (by rw [m_divB, z1]; omega) (by rw [m_divB, z1]; omega), m_divB, z1, ((hf.2 c).2 c3).1]
end CL
/-- one row of the long memory put in place of another -/
def m_r (L : Nat → Nat → Int64) (k : Nat) (f : Nat → Int64) : Nat → Nat → Int64 := fun a => if a = k then f else L a
def m_u (f : Nat → Int64) (j : Nat) (x : Int64) : Nat → Int64 := fun b => if b = j then x else f b
theorem m_ur {L : Nat → Nat → Int64} {k j : Nat} {x : Int64} : xi_u L k j x = m_r L k (m_u (L k) j x) := by
  funext a b
  simp only [xi_u, m_r, m_u]
  split <;> rfl
theorem m_rr {L : Nat → Nat → Int64} {k : Nat} {f g : Nat → Int64} : m_r (m_r L k f) k g = m_r L k g := by
  funext a
  simp only [m_r]
  split <;> rfl
theorem m_rs {L : Nat → Nat → Int64} {k : Nat} {f : Nat → Int64} : m_r L k f k = f := if_pos rfl
theorem m_rn {L : Nat → Nat → Int64} {k a : Nat} {f : Nat → Int64} (h : a ≠ k) : m_r L k f a = L a := if_neg h
theorem m_r0 {L : Nat → Nat → Int64} {k : Nat} : m_r L k (L k) = L := by
  funext a
  simp only [m_r]
  split
  · rename_i e; rw [e]
  · rfl
theorem m_us {f : Nat → Int64} {j : Nat} {x : Int64} : m_u f j x j = x := if_pos rfl
theorem m_un {f : Nat → Int64} {j b : Nat} {x : Int64} (h : b ≠ j) : m_u f j x b = f b := if_neg h
