/-! the order of the names (first three rows: from the kit's rows to paste) -/
theorem fb_holes : ∀ (m n : Nat) (f : Nat → Nat), (∀ i, i < n → f i < m) → (∀ i j, i < j → j < n → f i ≠ f j) → n ≤ m := by
  intro m
  induction m with
  | zero =>
    intro n f h1 _
    rcases Nat.eq_zero_or_pos n with h | h
    · omega
    · exact absurd (h1 0 h) (Nat.not_lt_zero _)
  | succ m ih =>
    intro n f h1 h2
    by_cases hx : ∃ i, i < n ∧ f i = m
    · obtain ⟨a, ha, hfa⟩ := hx
      have hg := ih (n - 1) (fun i => if i < a then f i else f (i + 1)) (by
        intro i hi
        by_cases q : i < a
        · simp only [if_pos q]
          have b1 := h1 i (by omega)
          have b2 := h2 i a q ha
          omega
        · simp only [if_neg q]
          have b1 := h1 (i + 1) (by omega)
          have b2 := h2 a (i + 1) (by omega) (by omega)
          omega) (by
        intro i j hij hj
        by_cases q : i < a
        · by_cases r : j < a
          · simp only [if_pos q, if_pos r]
            exact h2 i j hij (by omega)
          · simp only [if_pos q, if_neg r]
            exact h2 i (j + 1) (by omega) (by omega)
        · have r : ¬ j < a := by omega
          simp only [if_neg q, if_neg r]
          exact h2 (i + 1) (j + 1) (by omega) (by omega))
      omega
    · have hg := ih n f (fun i hi => by
        have b1 := h1 i hi
        have b2 : f i ≠ m := fun e => hx ⟨i, hi, e⟩
        omega) h2
      omega
/-- two of them in one place -/
theorem fb_twice {m n : Nat} {f : Nat → Nat} (h : ∀ i, i < n → f i < m) (hm : m < n) : ∃ i j, i < j ∧ j < n ∧ f i = f j := by
  refine Classical.byContradiction fun hx => ?_
  have := fb_holes m n f h (fun i j hij hj e => hx ⟨i, j, hij, hj, e⟩)
  omega
/-- as many as places, none twice: each place is taken -/
theorem fb_onto {n : Nat} {f : Nat → Nat} (h : ∀ i, i < n → f i < n) (h2 : ∀ i j, i < j → j < n → f i ≠ f j) {y : Nat} (hy : y < n) : ∃ i, i < n ∧ f i = y := by
  refine Classical.byContradiction fun hx => ?_
  have hne : ∀ i, i < n → f i ≠ y := fun i hi e => hx ⟨i, hi, e⟩
  have := fb_holes (n - 1) n (fun i => if f i < y then f i else f i - 1) (by
    intro i hi
    have b1 := h i hi
    have b2 := hne i hi
    by_cases q : f i < y
    · simp only [if_pos q]; omega
    · simp only [if_neg q]; omega) (by
    intro i j hij hj
    have b1 := hne i (by omega)
    have b2 := hne j hj
    have b3 := h2 i j hij hj
    by_cases q : f i < y
    · by_cases r : f j < y
      · simp only [if_pos q, if_pos r]; exact b3
      · simp only [if_pos q, if_neg r]; omega
    · by_cases r : f j < y
      · simp only [if_neg q, if_pos r]; omega
      · simp only [if_neg q, if_neg r]; omega)
  omega
abbrev lx (D : xD) (a b : Nat) : Prop := qZ D a < qZ D b ∨ (qZ D a = qZ D b ∧ a < b)
/-- how many of the first m names stand ahead of name i -/
def rkm (D : xD) (i : Nat) : Nat → Nat
  | 0 => 0
  | m + 1 => rkm D i m + (if lx D m i then 1 else 0)
def rk (D : xD) (i : Nat) : Nat := rkm D i (qN D)
theorem rkm_le (D : xD) (i : Nat) : ∀ m, rkm D i m ≤ m ∧ (i < m → rkm D i m < m)
  | 0 => ⟨Nat.le_refl 0, fun h => absurd h (Nat.not_lt_zero i)⟩
  | m + 1 => by
    have ih := rkm_le D i m
    rw [rkm]
    by_cases e : i = m
    · subst e
      rw [if_neg (by unfold lx; omega)]
      omega
    · split
      · exact ⟨by omega, fun h => by have := ih.2 (by omega); omega⟩
      · exact ⟨by omega, fun h => by omega⟩
theorem rkm_lt {D : xD} {i j : Nat} (h : lx D i j) : ∀ m, rkm D i m ≤ rkm D j m ∧ (i < m → rkm D i m < rkm D j m)
  | 0 => ⟨Nat.le_refl _, fun h => absurd h (Nat.not_lt_zero i)⟩
  | m + 1 => by
    have ih := rkm_lt h m
    rw [rkm, rkm]
    by_cases e : i = m
    · subst e
      rw [if_neg (by unfold lx; omega), if_pos h]
      omega
    · have : lx D m i → lx D m j := fun z => by unfold lx at *; omega
      by_cases c : lx D m i
      · rw [if_pos c, if_pos (this c)]
        exact ⟨by omega, fun z => by have := ih.2 (by omega); omega⟩
      · rw [if_neg c]
        split
        · exact ⟨by omega, fun z => by have := ih.2 (by omega); omega⟩
        · exact ⟨by omega, fun z => by have := ih.2 (by omega); omega⟩
theorem lx_tot (D : xD) {i j : Nat} (h : i ≠ j) : lx D i j ∨ lx D j i := by unfold lx; omega
theorem rkm_ne {D : xD} {i j m : Nat} (h : i ≠ j) (hi : i < m) (hj : j < m) : rkm D i m ≠ rkm D j m := by
  rcases lx_tot D h with z | z
  · have := (rkm_lt z m).2 hi; omega
  · have := (rkm_lt z m).2 hj; omega
theorem rkm_on (D : xD) {m p : Nat} (hp : p < m) : ∃ i, i < m ∧ rkm D i m = p :=
  fb_onto (f := fun i => rkm D i m) (fun i hi => (rkm_le D i m).2 hi) (fun i j hij hj => rkm_ne (by omega) (by omega) hj) hp
/-- a smaller rank, a smaller name -/
theorem rkm_lx {D : xD} {i j m : Nat} (hi : i < m) (hj : j < m) (h : rkm D i m < rkm D j m) : lx D i j := by
  by_cases e : i = j
  · subst e; omega
  · rcases lx_tot D e with z | z
    · exact z
    · have := (rkm_lt z m).2 hj; omega
def odm (D : xD) (p : Nat) : Nat → Nat
  | 0 => 0
  | m + 1 => if rk D m = p then m else odm D p m
/-- the name at place p -/
def odf (D : xD) (p : Nat) : Nat := odm D p (qN D)
theorem odm_is {D : xD} {p : Nat} : ∀ {m : Nat}, (∃ i, i < m ∧ rk D i = p) → odm D p m < m ∧ rk D (odm D p m) = p
  | 0, h => by obtain ⟨i, hi, -⟩ := h; exact absurd hi (Nat.not_lt_zero i)
  | m + 1, h => by
    rw [odm]
    by_cases e : rk D m = p
    · rw [if_pos e]; exact ⟨Nat.lt_succ_self m, e⟩
    · rw [if_neg e]
      obtain ⟨i, hi, ei⟩ := h
      have := odm_is (D := D) (p := p) (m := m) ⟨i, by
        rcases Nat.lt_succ_iff_lt_or_eq.mp hi with z | z
        · exact z
        · subst z; exact absurd ei e, ei⟩
      exact ⟨by omega, this.2⟩
theorem odf_is {D : xD} {p : Nat} (hp : p < qN D) : odf D p < qN D ∧ rk D (odf D p) = p := odm_is (rkm_on D hp)
theorem rk_lt {D : xD} {i : Nat} (hi : i < qN D) : rk D i < qN D := (rkm_le D i _).2 hi
theorem odf_rk {D : xD} {i : Nat} (hi : i < qN D) : odf D (rk D i) = i := by
  have h := odf_is (rk_lt hi)
  by_cases e : odf D (rk D i) = i
  · exact e
  · exact absurd h.2 (rkm_ne e h.1 hi)
theorem odf_ne {D : xD} {p q : Nat} (hp : p < qN D) (hq : q < qN D) (h : p ≠ q) : odf D p ≠ odf D q := fun e => h (by
  have h1 := (odf_is hp).2
  have h2 := (odf_is hq).2
  rw [e] at h1
  omega)
/-! bits of or -/
theorem bt_tb (s i : Nat) : bt s i = (s.testBit i).toNat := by
  rw [Nat.toNat_testBit]; rfl
theorem bt_set (s j i : Nat) : bt (s ||| 2 ^ j) i = if i = j then 1 else bt s i := by
  rw [bt_tb, bt_tb, Nat.testBit_or, Nat.testBit_two_pow]
  by_cases e : j = i
  · subst e; simp
  · simp [e, show ¬ i = j from fun z => e z.symm]
theorem sm_upd {f g : Nat → Int} {j : Nat} (ho : ∀ k, k ≠ j → g k = f k) : ∀ {n : Nat}, j < n → sm g n = sm f n + (g j - f j)
  | 0, h => absurd h (Nat.not_lt_zero j)
  | n + 1, h => by
    by_cases e : j = n
    · subst e
      rw [sm, sm, sm_cong (fun k hk => ho k (by omega))]
      omega
    · rw [sm, sm, sm_upd ho (show j < n by omega), ho n (fun z => e z.symm)]
      omega
theorem bc_sm (s : Nat) : ∀ n, (bc s n : Int) = sm (fun i => (bt s i : Int)) n
  | 0 => rfl
  | n + 1 => by rw [bc, sm, ← bc_sm s n, Int.natCast_add]
/-- the set of the names at d places from a on -/
def sg (D : xD) (a : Nat) : Nat → Nat
  | 0 => 0
  | d + 1 => sg D a d ||| 2 ^ odf D (a + d)
def wp (D : xD) (p : Nat) : Int := qW D (odf D p)
def s1 (D : xD) (b : Nat) : Int := sm (wp D) b
def s2 (D : xD) (b : Nat) : Int := sm (fun p => wp D p * wp D p) b
def cst (D : xD) (a b : Nat) : Int := ((b : Int) - (a : Int)) * (s2 D b - s2 D a) - (s1 D b - s1 D a) * (s1 D b - s1 D a)
theorem sg_lt {D : xD} {a : Nat} : ∀ {d : Nat}, a + d ≤ qN D → sg D a d < 2 ^ qN D
  | 0, _ => Nat.pow_pos (by decide)
  | d + 1, h => Nat.or_lt_two_pow (sg_lt (by omega)) (Nat.pow_lt_pow_right (by decide) (odf_is (show a + d < qN D by omega)).1)
theorem sg_new {D : xD} {a q : Nat} (hq : q < qN D) : ∀ {d : Nat}, a + d ≤ q → bt (sg D a d) (odf D q) = 0
  | 0, _ => bt_zero _
  | d + 1, h => by
    rw [sg, bt_set, if_neg (odf_ne hq (by omega) (by omega))]
    exact sg_new hq (by omega)
theorem sg_val {D : xD} (hC : okC D) {a : Nat} : ∀ {d : Nat}, a + d ≤ qN D → (bc (sg D a d) 10 : Int) = (d : Int) ∧ sqs D (sg D a d) (qN D) = s2 D (a + d) - s2 D a ∧ sws D (sg D a d) (qN D) = s1 D (a + d) - s1 D a
  | 0, h => by
    have z1 : bc (sg D a 0) 10 = 0 := by rw [show sg D a 0 = 0 from rfl]; decide
    refine ⟨by rw [z1], ?_, ?_⟩
    · unfold sqs
      rw [show sg D a 0 = 0 from rfl, sm_cong (g := fun _ => 0) (fun k _ => by rw [bt_zero]; simp), sm_zero]
      show (0 : Int) = s2 D a - s2 D a
      omega
    · unfold sws
      rw [show sg D a 0 = 0 from rfl, sm_cong (g := fun _ => 0) (fun k _ => by rw [bt_zero]; simp), sm_zero]
      show (0 : Int) = s1 D a - s1 D a
      omega
  | d + 1, h => by
    obtain ⟨i1, i2, i3⟩ := sg_val hC (a := a) (d := d) (by omega)
    have hj := (odf_is (show a + d < qN D by omega)).1
    have h0 := sg_new (D := D) (a := a) (show a + d < qN D by omega) (d := d) (by omega)
    have h10 := hC.1.2
    have hb : ∀ i, bt (sg D a (d + 1)) i = if i = odf D (a + d) then 1 else bt (sg D a d) i := fun i => bt_set _ _ _
    refine ⟨?_, ?_, ?_⟩
    · rw [bc_sm] at i1 ⊢
      rw [sm_upd (f := fun i => (bt (sg D a d) i : Int)) (j := odf D (a + d)) (fun k hk => by simp only [hb k, if_neg hk]) (show odf D (a + d) < 10 by omega), i1]
      simp only [hb, if_true, h0]
      omega
    · unfold sqs at i2 ⊢
      rw [sm_upd (f := fun i => (bt (sg D a d) i : Int) * (qW D i * qW D i)) (j := odf D (a + d)) (fun k hk => by simp only [hb k, if_neg hk]) hj, i2]
      simp only [hb, if_true, h0]
      show _ = s2 D (a + d) + wp D (a + d) * wp D (a + d) - s2 D a
      unfold wp
      simp
      omega
    · unfold sws at i3 ⊢
      rw [sm_upd (f := fun i => (bt (sg D a d) i : Int) * qW D i) (j := odf D (a + d)) (fun k hk => by simp only [hb k, if_neg hk]) hj, i3]
      simp only [hb, if_true, h0]
      show _ = s1 D (a + d) + wp D (a + d) - s1 D a
      unfold wp
      simp
      omega
theorem sg_off {D : xD} (hC : okC D) {a d : Nat} (h : a + d ≤ qN D) : offD D (sg D a d) = cst D a (a + d) := by
  obtain ⟨i1, i2, i3⟩ := sg_val hC h
  unfold offD cst
  rw [i1, i2, i3, Int.natCast_add]
  congr 2
  omega
theorem cst_b {D : xD} (hC : okC D) {a b : Nat} (h : a ≤ b) (hb : b ≤ qN D) : 0 ≤ cst D a b ∧ cst D a b ≤ 1000000 := by
  have := sg_off hC (a := a) (d := b - a) (by omega)
  rw [show a + (b - a) = b by omega] at this
  rw [← this]
  exact ⟨off_nn hC (sg_lt (by omega)), off_le hC _⟩
