/-! weights: of the class and of the reference, one chance -/
def fits (D : xD) (s : Nat) : Prop := ∀ i, i < qN D → qS D i ≠ (if bt s i = 1 then 0 else 100)
noncomputable def w3k (D : xD) (s : Nat) : Int := @ite Int (fits D s) (Classical.propDecidable _) 1 0
noncomputable def wk (D : xD) (s : Nat) : Int := if qK D = 0 then w0 D s else if qK D = 1 then w1 D s else if qK D = 2 then wS D s (qT D) else if qK D = 3 then w3k D s else if qn D = qN D then w0 D s else w4 D s (qN D)
noncomputable def Wk (D : xD) : Int := if qK D = 3 then 10000 else sm (wk D) (2 ^ qN D)
noncomputable def pk (D : xD) (i j : Nat) : Int := if qK D = 3 then (if i = j then (qS D i : Int) * 100 else (qS D i : Int) * (qS D j : Int)) else sm (fun s => ((bt s i * bt s j : Nat) : Int) * wk D s) (2 ^ qN D)
/-! products over bits -/
def pb (f : Nat → Nat → Int) (s : Nat) : Nat → Int
  | 0 => 1
  | n + 1 => pb f s n * f n (bt s n)
def pd (h : Nat → Int) : Nat → Int
  | 0 => 1
  | n + 1 => pd h n * h n
theorem pb_cong {f : Nat → Nat → Int} {s t : Nat} : ∀ {n : Nat}, (∀ k, k < n → bt s k = bt t k) → pb f s n = pb f t n
  | 0, _ => rfl
  | n + 1, h => by rw [pb, pb, pb_cong (fun k hk => h k (by omega)), h n (Nat.lt_succ_self n)]
theorem bt_lo2 {s n i : Nat} (hi : i < n) : bt (2 ^ n + s) i = bt s i := by rw [Nat.add_comm]; exact bt_lo hi
theorem bt_top2 {s n : Nat} (h : s < 2 ^ n) : bt (2 ^ n + s) n = 1 := by rw [Nat.add_comm]; exact bt_top h
theorem sm_2 (f : Nat → Int) (n : Nat) : sm f (2 ^ (n + 1)) = sm f (2 ^ n) + sm (fun s => f (2 ^ n + s)) (2 ^ n) := by
  rw [Nat.pow_succ, Nat.mul_two, sm_split]
theorem psum (f : Nat → Nat → Int) : ∀ n, sm (fun s => pb f s n) (2 ^ n) = pd (fun k => f k 0 + f k 1) n
  | 0 => by show (0 : Int) + 1 = 1; decide
  | n + 1 => by
    rw [sm_2, sm_cong (f := fun s => pb f s (n + 1)) (g := fun s => pb f s n * f n 0) (fun s hs => by
      show pb f s n * f n (bt s n) = _
      rw [bt_hi hs]), sm_cong (f := fun s => pb f (2 ^ n + s) (n + 1)) (g := fun s => pb f s n * f n 1) (fun s hs => by
      show pb f (2 ^ n + s) n * f n (bt (2 ^ n + s) n) = _
      rw [bt_top2 hs, pb_cong (fun k hk => bt_lo2 hk)]), sm_mul', sm_mul', psum f n, ← Int.mul_add]
    rfl
theorem pd_cong {g h : Nat → Int} : ∀ {n : Nat}, (∀ k, k < n → g k = h k) → pd g n = pd h n
  | 0, _ => rfl
  | n + 1, hh => by rw [pd, pd, pd_cong (fun k hk => hh k (by omega)), hh n (Nat.lt_succ_self n)]
theorem pd_100 : ∀ n, pd (fun _ => 100) n = 100 ^ n
  | 0 => rfl
  | n + 1 => by rw [pd, pd_100 n, Int.pow_succ]
/-- one factor another -/
theorem pd_upd {g h : Nat → Int} {i : Nat} (ho : ∀ k, k ≠ i → g k = h k) : ∀ {n : Nat}, i < n → pd g n * h i = pd h n * g i
  | 0, hi => absurd hi (Nat.not_lt_zero i)
  | n + 1, hi => by
    rw [pd, pd]
    by_cases e : i = n
    · subst e
      rw [pd_cong (fun k hk => ho k (by omega)), Int.mul_right_comm]
    · rw [ho n (fun z => e z.symm), Int.mul_right_comm, pd_upd ho (by omega), Int.mul_right_comm]
theorem pd_le {h : Nat → Int} {c : Int} (hc : 0 ≤ c) : ∀ {n : Nat}, (∀ k, k < n → 0 ≤ h k ∧ h k ≤ c) → 0 ≤ pd h n ∧ pd h n ≤ c ^ n
  | 0, _ => by rw [show pd h 0 = 1 from rfl, Int.pow_zero]; decide
  | n + 1, hh => by
    rw [pd, Int.pow_succ]
    exact mulb (pd_le hc (fun k hk => hh k (by omega))) (hh n (Nat.lt_succ_self n))
/-! binomials -/
def bin : Nat → Nat → Nat
  | 0, 0 => 1
  | 0, _ + 1 => 0
  | n + 1, 0 => bin n 0
  | n + 1, k + 1 => bin n (k + 1) + bin n k
theorem bc_hi {s n : Nat} (h : s < 2 ^ n) : bc s (n + 1) = bc s n := by rw [bc, bt_hi h]; rfl
theorem bc_add {s n : Nat} : ∀ m, m ≤ n → bc (2 ^ n + s) m = bc s m
  | 0, _ => rfl
  | m + 1, hm => by rw [bc, bc, bc_add m (by omega), bt_lo2 (by omega)]
theorem bin_is : ∀ n k, sm (fun s => if bc s n = k then 1 else 0) (2 ^ n) = (bin n k : Int)
  | 0, 0 => by show (0 : Int) + 1 = 1; decide
  | 0, k + 1 => by show (0 : Int) + 0 = 0; decide
  | n + 1, k => by
    have e1 : sm (fun s => if bc s (n + 1) = k then (1 : Int) else 0) (2 ^ n) = (bin n k : Int) := by
      rw [← bin_is n k]
      exact sm_cong (fun s hs => by rw [bc_hi hs])
    rw [sm_2, e1]
    cases k with
    | zero =>
      rw [sm_cong (g := fun _ => 0) (fun s hs => by rw [bc, bt_top2 hs, if_neg (by omega)]), sm_zero, Int.add_zero]
      rfl
    | succ k =>
      rw [sm_cong (f := fun s => if bc (2 ^ n + s) (n + 1) = k + 1 then (1 : Int) else 0) (g := fun s => if bc s n = k then 1 else 0) (fun s hs => by
        rw [bc, bt_top2 hs, bc_add n (Nat.le_refl n)]
        by_cases c : bc s n = k
        · rw [if_pos c, if_pos (by omega)]
        · rw [if_neg c, if_neg (by omega)]), bin_is n k]
      show _ = ((bin n (k + 1) + bin n k : Nat) : Int)
      rw [Int.natCast_add]
theorem bin_le : ∀ n : Fin 11, ∀ k : Fin 11, k.val < n.val → bin n.val k.val * 50 ^ k.val ≤ 19531250000000000 := by decide +kernel
theorem w0_sum {D : xD} (hC : okC D) : sm (w0 D) (2 ^ qN D) = (bin (qN D) (qn D) : Int) := by
  rw [← bin_is]
  exact sm_cong (fun s hs => by unfold w0; rw [bc_10 hs hC.1.2])
/-! weighed by sizes -/
def f4 (D : xD) (k b : Nat) : Int := if b = 1 then (qZ D k : Int) else 1
theorem w4_pb (D : xD) (s : Nat) : ∀ i, w4 D s i = w0 D s * pb (f4 D) s i
  | 0 => by rw [w4, pb, Int.mul_one]
  | i + 1 => by rw [w4, pb, w4_pb D s i, Int.mul_assoc]; rfl
theorem pb4_b {D : xD} (hC : okC D) (s : Nat) : ∀ i, i ≤ qN D → 1 ≤ pb (f4 D) s i ∧ pb (f4 D) s i ≤ 50 ^ bc s i
  | 0, _ => by show (1 : Int) ≤ 1 ∧ (1 : Int) ≤ 1; decide
  | i + 1, h => by
    have ih := pb4_b hC s i (by omega)
    have hZ := (hC.2 i (by omega)).2.1
    have ef : ∀ b, f4 D i b = if b = 1 then (qZ D i : Int) else 1 := fun _ => rfl
    rw [pb, bc, ef]
    rcases bt_01 s i with e | e
    · rw [e, if_neg (by decide), Int.mul_one]; exact ih
    · rw [e, if_pos rfl, Int.pow_succ]
      have h1 := mulb (x := pb (f4 D) s i) (y := (qZ D i : Int)) (A := 50 ^ bc s i) (B := 50) ⟨by omega, ih.2⟩ (by omega)
      refine ⟨?_, h1.2⟩
      have h2 : 1 * (qZ D i : Int) ≤ pb (f4 D) s i * (qZ D i : Int) := Int.mul_le_mul_of_nonneg_right ih.1 (by omega)
      omega
theorem w4_sum {D : xD} (hC : okC D) (hn : qn D < qN D) : sm (fun s => w4 D s (qN D)) (2 ^ qN D) ≤ 19531250000000000 := by
  have h10 := hC.1
  have h1 : sm (fun s => w4 D s (qN D)) (2 ^ qN D) ≤ sm (fun s => w0 D s * 50 ^ qn D) (2 ^ qN D) := sm_le (fun s hs => by
    show w4 D s (qN D) ≤ w0 D s * 50 ^ qn D
    rw [w4_pb]
    unfold w0
    by_cases c : bc s 10 = qn D
    · rw [if_pos c, Int.one_mul, Int.one_mul]
      have := (pb4_b hC s (qN D) (Nat.le_refl _)).2
      rw [← bc_10 hs h10.2, c] at this
      exact this
    · rw [if_neg c, Int.zero_mul, Int.zero_mul]; exact Int.le_refl 0)
  rw [sm_mul', w0_sum hC] at h1
  have h2 : bin (qN D) (qn D) * 50 ^ qn D ≤ 19531250000000000 := bin_le ⟨qN D, by omega⟩ ⟨qn D, by omega⟩ hn
  have h3 : (bin (qN D) (qn D) : Int) * 50 ^ qn D = ((bin (qN D) (qn D) * 50 ^ qn D : Nat) : Int) := by rw [Int.natCast_mul, Int.natCast_pow]; rfl
  rw [h3] at h1
  exact Int.le_trans h1 (Int.ofNat_le.mpr h2)
/-! all bits -/
theorem bc_all {s : Nat} : ∀ {n : Nat}, bc s n = n → ∀ k, k < n → bt s k = 1
  | 0, _, k, hk => absurd hk (Nat.not_lt_zero k)
  | n + 1, h, k, hk => by
    rw [bc] at h
    have h1 := bc_le s n
    have h2 := bt_le s n
    rcases Nat.lt_succ_iff_lt_or_eq.mp hk with z | z
    · exact bc_all (by omega) k z
    · rw [z]; omega
def pZ (D : xD) : Int := pd (fun k => (qZ D k : Int)) (qN D)
theorem pb_all {D : xD} {s : Nat} : ∀ n, (∀ k, k < n → bt s k = 1) → pb (f4 D) s n = pd (fun k => (qZ D k : Int)) n
  | 0, _ => rfl
  | n + 1, h => by rw [pb, pd, pb_all n (fun k hk => h k (by omega)), h n (Nat.lt_succ_self n)]; rfl
/-! by STEPS -/
theorem sm_one {j : Nat} : ∀ {n : Nat}, j < n → sm (fun s => if j = s then 1 else 0) n = 1
  | 0, h => absurd h (Nat.not_lt_zero j)
  | n + 1, h => by
    rw [sm]
    by_cases e : j = n
    · subst e
      rw [if_pos rfl, sm_cong (g := fun _ => 0) (fun k hk => if_neg (by omega)), sm_zero]; rfl
    · rw [if_neg e, sm_one (by omega)]; rfl
theorem wS_sum {D : xD} (h0 : 1 ≤ qN D) : ∀ r : Nat, r ≤ qT D → sm (fun s => wS D s r) (2 ^ qN D) = (r : Int)
  | 0, _ => sm_zero _
  | r + 1, h => by
    rw [sm_cong (f := fun s => wS D s (r + 1)) (g := fun s => wS D s r + (if stS D r (qn D) = s then 1 else 0)) (fun s _ => rfl), sm_add, wS_sum h0 r (by omega), sm_one (stS_lt h0 (by omega) (qn D) (Nat.le_refl _)), Int.natCast_succ]
/-! from HEAPS: one set that can be drawn -/
def gSt (D : xD) : Nat → Nat
  | 0 => 0
  | n + 1 => gSt D n + (if hn D (qH D n) n < qd D (qH D n) then 2 ^ n else 0)
theorem gSt_lt (D : xD) : ∀ n, gSt D n < 2 ^ n
  | 0 => by show 0 < 1; decide
  | n + 1 => by have := gSt_lt D n; rw [gSt, Nat.pow_succ]; split <;> omega
theorem gSt_bt (D : xD) : ∀ n i, i < n → bt (gSt D n) i = if hn D (qH D i) i < qd D (qH D i) then 1 else 0
  | 0, i, hi => absurd hi (Nat.not_lt_zero i)
  | n + 1, i, hi => by
    have hlt := gSt_lt D n
    rw [gSt]
    by_cases c : hn D (qH D n) n < qd D (qH D n)
    · rw [if_pos c]
      rcases Nat.lt_succ_iff_lt_or_eq.mp hi with z | z
      · rw [bt_lo z]; exact gSt_bt D n i z
      · subst z; rw [bt_top hlt, if_pos c]
    · rw [if_neg c, Nat.add_zero]
      rcases Nat.lt_succ_iff_lt_or_eq.mp hi with z | z
      · exact gSt_bt D n i z
      · subst z; rw [bt_hi hlt, if_neg c]
theorem gSt_hb {D : xD} (N h : Nat) : ∀ n, n ≤ N → hb D (gSt D N) h n = if hn D h n < qd D h then hn D h n else qd D h
  | 0, _ => by rw [hb, hn]; split <;> omega
  | n + 1, hN' => by
    rw [hb, hn, gSt_hb N h n (by omega), gSt_bt D N n (by omega)]
    by_cases c : qH D n = h
    · rw [if_pos c, if_pos c, c]
      by_cases c2 : hn D h n < qd D h
      · rw [if_pos c2, if_pos c2]
        by_cases c3 : hn D h n + 1 < qd D h
        · rw [if_pos c3]
        · rw [if_neg c3]; omega
      · rw [if_neg c2, if_neg c2, if_neg (by omega), Nat.add_zero]
    · rw [if_neg c, if_neg c, Nat.add_zero, Nat.add_zero]
theorem gSt_by {D : xD} (hD : okD D) : byH D (gSt D (qN D)) := by
  intro h hh
  rw [gSt_hb (qN D) h (qN D) (Nat.le_refl _)]
  have := hD.2.2.2.2.1 h hh
  have e : hN D h = hn D h (qN D) := rfl
  split <;> omega
/-! the first n names -/
theorem ones_bt {n i : Nat} : bt (2 ^ n - 1) i = if i < n then 1 else 0 := by
  rw [bt_tb, Nat.testBit_two_pow_sub_one]
  by_cases c : i < n <;> simp [c]
theorem ones_bc {n : Nat} : ∀ m, bc (2 ^ n - 1) m = if m < n then m else n
  | 0 => by rw [bc]; split <;> omega
  | m + 1 => by
    rw [bc, ones_bc m, ones_bt]
    by_cases c : m < n
    · rw [if_pos c, if_pos c]; split <;> omega
    · rw [if_neg c, if_neg c, if_neg (by omega), Nat.add_zero]
theorem ones_lt {n N : Nat} (h : n ≤ N) : 2 ^ n - 1 < 2 ^ N := by
  have h1 : 0 < 2 ^ n := Nat.pow_pos (by decide)
  have h2 : 2 ^ n ≤ 2 ^ N := Nat.pow_le_pow_right (by decide) h
  omega
theorem w0_ones {D : xD} (hD : okD D) : w0 D (2 ^ qn D - 1) = 1 := by
  have h10 := hD.1.1
  have hn := hD.2.2.1
  unfold w0
  rw [ones_bc, if_pos (by split <;> omega)]
/-! OWN -/
def f3 (D : xD) (k b : Nat) : Int := if b = 1 then (qS D k : Int) else 100 - (qS D k : Int)
theorem w3_pb (D : xD) (s : Nat) : ∀ i, w3 D s i = pb (f3 D) s i
  | 0 => rfl
  | i + 1 => by rw [w3, pb, w3_pb D s i]; rfl
theorem pb_ne {f : Nat → Nat → Int} {s : Nat} : ∀ {n : Nat}, pb f s n = 0 ↔ ∃ k, k < n ∧ f k (bt s k) = 0
  | 0 => ⟨fun h => absurd h (by show ¬ (1 : Int) = 0; decide), fun ⟨k, hk, _⟩ => absurd hk (Nat.not_lt_zero k)⟩
  | n + 1 => by
    rw [pb, Int.mul_eq_zero, pb_ne (n := n)]
    constructor
    · rintro (⟨k, hk, e⟩ | e)
      · exact ⟨k, by omega, e⟩
      · exact ⟨n, Nat.lt_succ_self n, e⟩
    · rintro ⟨k, hk, e⟩
      rcases Nat.lt_succ_iff_lt_or_eq.mp hk with z | z
      · exact Or.inl ⟨k, z, e⟩
      · subst z; exact Or.inr e
theorem w3_fits {D : xD} (s : Nat) : w3 D s (qN D) = 0 ↔ ¬ fits D s := by
  rw [w3_pb, pb_ne]
  constructor
  · rintro ⟨k, hk, e⟩ hf
    have := hf k hk
    unfold f3 at e
    rcases bt_01 s k with z | z
    · rw [z, if_neg (by decide)] at e this
      omega
    · rw [z, if_pos rfl] at e this
      omega
  · intro hf
    refine Classical.byContradiction fun hn => hf (fun i hi e => hn ⟨i, hi, ?_⟩)
    unfold f3
    rcases bt_01 s i with z | z
    · rw [z, if_neg (by decide)] at e ⊢
      omega
    · rw [z, if_pos rfl] at e ⊢
      omega
theorem pb_mul {f g : Nat → Nat → Int} {s : Nat} : ∀ n, pb f s n * pb g s n = pb (fun k b => f k b * g k b) s n
  | 0 => by show (1 : Int) * 1 = 1; decide
  | n + 1 => by
    rw [pb, pb, pb, ← pb_mul n]
    rw [Int.mul_assoc, Int.mul_left_comm (f n (bt s n)), ← Int.mul_assoc]
/-- bit i as a product -/
def fI (i : Nat) (k b : Nat) : Int := if k = i then (b : Int) else 1
theorem fI_pb {s i : Nat} : ∀ n, pb (fI i) s n = if i < n then (bt s i : Int) else 1
  | 0 => rfl
  | n + 1 => by
    rw [pb, fI_pb n]
    unfold fI
    by_cases e : n = i
    · subst e
      rw [if_neg (by omega), if_pos rfl, if_pos (by omega), Int.one_mul]
    · rw [if_neg e, Int.mul_one]
      by_cases c : i < n
      · rw [if_pos c, if_pos (by omega)]
      · rw [if_neg c, if_neg (by omega)]
theorem own_al {D : xD} (hK : qK D = 3) : al D = 100 ^ qN D := by
  unfold al
  rw [if_neg (by omega), sm_cong (g := fun s => pb (f3 D) s (qN D)) (fun s _ => by unfold wt; rw [hK, if_neg (by decide), if_neg (by decide), if_neg (by decide), if_pos rfl, w3_pb]), psum, ← pd_100]
  exact pd_cong (fun k _ => by unfold f3; rw [if_neg (by decide), if_pos rfl]; omega)
theorem own_c2 {D : xD} (hK : qK D = 3) {i j : Nat} (hi : i < qN D) (hj : j < qN D) : 10000 * c2 D i j = al D * pk D i j := by
  have e1 : c2 D i j = pd (fun k => (f3 D k 0 * fI i k 0 * fI j k 0) + (f3 D k 1 * fI i k 1 * fI j k 1)) (qN D) := by
    unfold c2
    rw [← psum (fun k b => f3 D k b * fI i k b * fI j k b)]
    refine sm_cong (fun s _ => ?_)
    rw [← pb_mul, ← pb_mul, fI_pb, fI_pb, if_pos hi, if_pos hj, ← w3_pb, Int.natCast_mul]
    unfold wt
    rw [hK, if_neg (by decide), if_neg (by decide), if_neg (by decide), if_pos rfl, Int.mul_comm, Int.mul_assoc]
  have eh : ∀ k, (f3 D k 0 * fI i k 0 * fI j k 0) + (f3 D k 1 * fI i k 1 * fI j k 1) = if k = i ∨ k = j then (qS D k : Int) else 100 := by
    intro k
    unfold f3 fI
    by_cases c1 : k = i
    · by_cases c2 : k = j
      · simp [c1, ← c2]
      · simp [c1]
    · by_cases c2 : k = j
      · simp [c1, c2]
      · simp [c1, c2]
  rw [e1, pd_cong (fun k _ => eh k), own_al hK]
  unfold pk
  rw [if_pos hK]
  have p1 := pd_upd (g := fun k => if k = i then (qS D k : Int) else 100) (h := fun _ => 100) (i := i) (fun k hk => if_neg hk) hi
  rw [pd_100] at p1
  simp only [if_true] at p1
  by_cases c : i = j
  · subst c
    rw [if_pos rfl, pd_cong (h := fun k => if k = i then (qS D k : Int) else 100) (fun k _ => by simp)]
    have e : 10000 * pd (fun k => if k = i then (qS D k : Int) else 100) (qN D) = (pd (fun k => if k = i then (qS D k : Int) else 100) (qN D) * 100) * 100 := by omega
    rw [e, p1, Int.mul_assoc]
  · rw [if_neg c]
    have p2 := pd_upd (g := fun k => if k = i ∨ k = j then (qS D k : Int) else 100) (h := fun k => if k = i then (qS D k : Int) else 100) (i := j) (fun k hk => by simp [hk]) hj
    simp only [or_true, if_true, if_neg (show ¬ j = i from fun z => c z.symm)] at p2
    have e : 10000 * pd (fun k => if k = i ∨ k = j then (qS D k : Int) else 100) (qN D) = (pd (fun k => if k = i ∨ k = j then (qS D k : Int) else 100) (qN D) * 100) * 100 := by omega
    rw [e, p2, Int.mul_right_comm, p1, Int.mul_assoc]
