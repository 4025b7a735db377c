/-! draw, count, look, part of the model -/
def isLen (v n : Nat) : Prop := 1 ≤ n ∧ v < 1000000000 ^ n ∧ (n = 1 ∨ 1000000000 ^ (n - 1) ≤ v)
theorem isLen_1 {v n m : Nat} (h : isLen v n) (h2 : isLen v m) : n = m := by
  have key : ∀ {n m : Nat}, isLen v n → isLen v m → ¬ n < m := by
    intro n m h h2 c
    rcases h2.2.2 with e | e
    · have := h.1; omega
    · have h3 : 1000000000 ^ n ≤ 1000000000 ^ (m - 1) := Nat.pow_le_pow_right (by decide) (by omega)
      have := h.2.1
      omega
  have a := key h h2
  have b := key h2 h
  omega
theorem nBn (n : Nat) : nB ^ n = ((1000000000 ^ n : Nat) : Int) := by rw [Int.natCast_pow]; rfl
def dg (v i : Nat) : Nat := v / 1000000000 ^ i % 1000000000
theorem nS_cast (z : Nat → Nat) : ∀ n, nS (fun k => (z k : Int)) n = ((nS (fun k => (z k : Int)) n).toNat : Int) := fun n => by
  have : 0 ≤ nS (fun k => (z k : Int)) n := by
    induction n with
    | zero => exact Int.le_refl 0
    | succ n ih =>
      show 0 ≤ nS (fun k => (z k : Int)) n + (z n : Int) * nB ^ n
      have := Int.mul_nonneg (Int.natCast_nonneg (z n)) (Int.le_of_lt (nB_pow n))
      omega
  omega
/-- the digits of a number in parts -/
theorem dg_of {z : Nat → Int} {n v k : Nat} (h : ∀ i, i < n → 0 ≤ z i ∧ z i < nB) (hv : nS z n = (v : Int)) (hk : k < n) : z k = (dg v k : Int) := by
  have h1 := nS_shift z k (n - k)
  rw [show k + (n - k) = n by omega, hv] at h1
  have h2 := nS_shift (fun i => z (k + i)) 1 (n - k - 1)
  rw [show 1 + (n - k - 1) = n - k by omega] at h2
  rw [show nS (fun i => z (k + i)) 1 = 0 + z (k + 0) * nB ^ 0 from rfl, show nB ^ 0 = 1 from rfl, Nat.add_zero, Int.mul_one, Int.zero_add] at h2
  have b := nS_bound (n := k) (z := z) (fun i hi => h i (by omega))
  have hz : 0 ≤ z k ∧ z k < 1000000000 := h k hk
  have hp := nB_pow k
  have e1 : (v : Int) / nB ^ k = nS (fun i => z (k + i)) (n - k) := by
    rw [h1, Int.mul_comm, Int.add_mul_ediv_right _ _ (Int.ne_of_gt hp), Int.ediv_eq_zero_of_lt b.1 b.2, Int.zero_add]
  have e2 : nS (fun i => z (k + i)) (n - k) % 1000000000 = z k := by
    rw [h2, show nB ^ 1 = 1000000000 from rfl]
    omega
  unfold dg
  rw [Int.natCast_emod, Int.natCast_ediv, ← nBn, e1]
  exact e2.symm
section MW
variable {L0 : Nat} {xs : Nat → Int32} {Q : xiQ} {I : Nat → Nat → Int32} {L : Nat → Nat → Int64}
variable {D : xD} {sl : xL} {x y A P : Int}
theorem mR_K {k n : Nat} (h : mR I L D sl x y) (ok : okD (setK D k n)) : mR (xi_u (xi_u (xi_u I 37 11 (nI k)) 37 12 (nI n)) 37 1 0) L (setK D k n) sl x y ∧ mFr I (xi_u (xi_u (xi_u I 37 11 (nI k)) 37 12 (nI n)) 37 1 0) L L := by
  have hI : ∀ a, a ≠ 37 → xi_u (xi_u (xi_u I 37 11 (nI k)) 37 12 (nI n)) 37 1 (0 : Int32) a = I a := fun a h1 => by rw [xi_un h1, xi_un h1, xi_un h1]
  refine ⟨⟨ok, ?_, ?_, mS_of (hI 39 (by decide)) (hI 40 (by decide)) rfl h.2.2.2.1, h.2.2.2.2.1, h.2.2.2.2.2.1, fun z => absurd xi_us z⟩, fun a ha => hI a (by omega), fun a ha => rfl⟩
  · have := h.2.1
    unfold mC at this ⊢
    rw [hI 42 (by decide), hI 43 (by decide), hI 44 (by decide), hI 45 (by decide), xi_uj (by decide), xi_uj (by decide), xi_uj (by decide)]
    exact this
  · have := h.2.2.1
    unfold mD at this ⊢
    rw [hI 46 (by decide), xi_uj (by decide), xi_uj (by decide), xi_us, xi_uj (by decide), xi_us]
    exact ⟨rfl, rfl, this.2.2⟩
theorem c_mDraw_lp (hC : okC D) (hI : mC I D) {n : Nat} {v3 : Int32} (hn : n ≤ 10)
    (hQ : ((∀ i, i < qN D → qZ D i * n ≤ qT D) → xi_V (xG L0 xs) 135 99 [some (Value.ref 37), some (Value.int (nI 2)), some (Value.int (nI n)), some (Value.int v3), some (Value.int (nI (qN D)))] [] (xSH, xRF, I, L) 0 0 Q) ∧ ((∃ i, i < qN D ∧ ¬ qZ D i * n ≤ qT D) → Q (some (Value.int (-4))) (xSH, xRF, I, L))) :
    ∀ m i : Nat, i + m = qN D → (∀ k, k < i → qZ D k * n ≤ qT D) → xi_V (xG L0 xs) 135 60 [some (Value.ref 37), some (Value.int (nI 2)), some (Value.int (nI n)), some (Value.int v3), some (Value.int (nI i))] [] (xSH, xRF, I, L) 0 0 Q := by
  have h10 := hC.1
  have hT := qT_le hC
  intro m
  induction m with
  | zero =>
    intro i hm hk
    refine b_M_draw_60 ?_
    rw [hI.1]
    refine pk_le (qN D) i (fun c => ?_) (fun c => absurd c (by omega))
    rw [show i = qN D by omega] at hk ⊢
    exact hQ.1 hk
  | succ m ih =>
    intro i hm hk
    refine b_M_draw_60 ?_
    rw [hI.1]
    refine pk_le (qN D) i (fun c => absurd c (by omega)) (fun c => ⟨fun e => absurd rfl e, fun _ => ⟨pk_in i 10 (by omega), ?_⟩⟩)
    have hZ := (hC.2 i c).2.1
    have hZn : qZ D i * n ≤ 50 * 10 := Nat.mul_le_mul hZ.2 hn
    rw [nI_clamp (by omega), (hI.2 i c).2.1, pk_mul]
    refine c_mSizes hC hI (b_M_draw_87 (pk_le (qZ D i * n) (qT D) (fun c2 => ?_) (fun c2 => hQ.2 ⟨i, c, by omega⟩)))
    rw [nI_1]
    refine ih (i + 1) (by omega) (fun k hk2 => ?_)
    by_cases e : k = i
    · subst e; exact c2
    · exact hk k (by omega)
theorem o_mDrawA (h : mR I L D sl x y) {k : Nat} {v : Int32} (hk : k = 1 ∨ k = 3)
    (hQ : ∀ I' L', mFr I I' L L' → mR I' L' (setK D k 0) sl x y → Q (some (Value.int 0)) (xSH, xRF, I', L')) : xi_V (xG L0 xs) 135 0 [some (Value.ref 37), some (Value.int (nI k)), some (Value.int v), none, none] [] (xSH, xRF, I, L) 0 0 Q := by
  have h10 := h.1.1.1
  have ok : okD (setK D k 0) := okD_K h.1 (by omega) (by omega) (fun z => by omega) (fun _ => rfl)
  have := mR_K h ok
  have go : xi_V (xG L0 xs) 135 26 [some (Value.ref 37), some (Value.int (nI k)), some (Value.int v), none, none] [] (xSH, xRF, I, L) 0 0 Q := by
    refine b_M_draw_26 (b_M_draw_27 ⟨fun _ => b_M_draw_60 ?_, fun c => absurd rfl c⟩)
    rw [h.2.1.1]
    refine pk_le (qN D) 0 (fun c => absurd c (by omega)) (fun c => ⟨fun _ => b_M_draw_99 ⟨fun _ => b_M_draw_114 ⟨by decide, hQ _ _ this.2 this.1⟩, fun c => absurd rfl c⟩, fun e => ?_⟩)
    exact absurd ((nI_eq (b := 2) (by omega) (by decide)).mp e) (by omega)
  refine b_M_draw_0 ⟨fun c => absurd c (nI_pos (by omega)), fun _ => pk_le k 4 (fun _ => ⟨fun _ => go, fun e1 => ⟨fun _ => go, fun e3 => ?_⟩⟩) (fun c => absurd c (by omega))⟩
  rcases hk with z | z <;> subst z
  · exact absurd rfl e1
  · exact absurd rfl e3
theorem o_mDrawB (h : mR I L D sl x y) {k n : Nat} (hk : k = 0 ∨ k = 2 ∨ k = 4) (hn : n ≤ qN D) (h2 : k = 2 → 1 ≤ n)
    (hQ : ((k = 2 → ∀ i, i < qN D → qZ D i * n ≤ qT D) → ∀ I' L', mFr I I' L L' → mR I' L' (setK D k n) sl x y → Q (some (Value.int 0)) (xSH, xRF, I', L')) ∧ ((k = 2 ∧ ∃ i, i < qN D ∧ ¬ qZ D i * n ≤ qT D) → Q (some (Value.int (-4))) (xSH, xRF, I, L))) : xi_V (xG L0 xs) 135 0 [some (Value.ref 37), some (Value.int (nI k)), some (Value.int (nI n)), none, none] [] (xSH, xRF, I, L) 0 0 Q := by
  have h10 := h.1.1.1
  have fin : ∀ i : Nat, (k = 2 → ∀ i, i < qN D → qZ D i * n ≤ qT D) → xi_V (xG L0 xs) 135 99 [some (Value.ref 37), some (Value.int (nI k)), some (Value.int (nI n)), some (Value.int ((1 : Int32))), some (Value.int (nI i))] [] (xSH, xRF, I, L) 0 0 Q := by
    intro i hz
    have ok : okD (setK D k n) := okD_K h.1 (by omega) hn (fun z => ⟨h2 z, hz z⟩) (fun z => by omega)
    have := mR_K h ok
    exact b_M_draw_99 ⟨fun c => absurd c (by decide), fun _ => b_M_draw_114 ⟨by decide, hQ.1 hz _ _ this.2 this.1⟩⟩
  have lp : xi_V (xG L0 xs) 135 60 [some (Value.ref 37), some (Value.int (nI k)), some (Value.int (nI n)), some (Value.int ((1 : Int32))), some (Value.int (nI 0))] [] (xSH, xRF, I, L) 0 0 Q := by
    by_cases e : k = 2
    · subst e
      exact c_mDraw_lp h.1.1 h.2.1 (by omega) ⟨fun z => fin _ (fun _ => z), fun z => hQ.2 ⟨rfl, z⟩⟩ (qN D) 0 (Nat.zero_add _) (fun k hk => absurd hk (Nat.not_lt_zero k))
    · refine b_M_draw_60 ?_
      rw [h.2.1.1]
      refine pk_le (qN D) 0 (fun c => absurd c (by omega)) (fun c => ⟨fun _ => fin 0 (fun z => absurd z e), fun e2 => ?_⟩)
      exact absurd ((nI_eq (b := 2) (by omega) (by decide)).mp e2) e
  have hN43 : ∀ m : Nat, m ≤ n → m ≤ 10 → xi_V (xG L0 xs) 135 43 [some (Value.ref 37), some (Value.int (nI k)), some (Value.int (nI n)), some (Value.int ((1 : Int32))), none] [Value.int (nI m), Value.int (nI n)] (xSH, xRF, I, L) 0 0 Q := by
    intro m hm hm1
    refine b_M_draw_43 (pk_lt n m (fun c => absurd c (by omega)) (fun _ => ?_))
    rw [h.2.1.1]
    exact pk_le n (qN D) (fun _ => lp) (fun c => absurd c (by omega))
  refine b_M_draw_0 ⟨fun c => absurd c (nI_pos (by omega)), fun _ => pk_le k 4 (fun _ => ⟨fun e => ?_, fun _ => ⟨fun e => ?_, fun _ => b_M_draw_27 ⟨fun c => absurd c (by decide), fun _ => ⟨fun e => hN43 0 (by omega) (by omega), fun e => hN43 1 (h2 ?_) (by omega)⟩⟩⟩⟩) (fun c => absurd c (by omega))⟩
  · exact absurd ((nI_eq (b := 1) (by omega) (by decide)).mp e) (by omega)
  · exact absurd ((nI_eq (b := 3) (by omega) (by decide)).mp e) (by omega)
  · exact (nI_eq (b := 2) (by omega) (by decide)).mp e
theorem o_mDraw2 {v w : Int32} (hv : v < 0 ∨ ¬ v ≤ 4) (hQ : Q (some (Value.int (-2))) (xSH, xRF, I, L)) : xi_V (xG L0 xs) 135 0 [some (Value.ref 37), some (Value.int v), some (Value.int w), none, none] [] (xSH, xRF, I, L) 0 0 Q :=
  b_M_draw_0 ⟨fun _ => hQ, fun c => ⟨fun c2 => absurd c2 (hv.resolve_left c), fun _ => hQ⟩⟩
theorem o_mDraw4 (h : mR I L D sl x y) {k : Nat} {w : Int32} (hk : k = 0 ∨ k = 2 ∨ k = 4) (hw : w < (if k = 2 then 1 else 0) ∨ ¬ w ≤ nI (qN D)) (hQ : Q (some (Value.int (-4))) (xSH, xRF, I, L)) : xi_V (xG L0 xs) 135 0 [some (Value.ref 37), some (Value.int (nI k)), some (Value.int w), none, none] [] (xSH, xRF, I, L) 0 0 Q := by
  have h43 : ∀ v : Int32, (w < v ∨ ¬ w ≤ nI (qN D)) → xi_V (xG L0 xs) 135 43 [some (Value.ref 37), some (Value.int (nI k)), some (Value.int w), some (Value.int ((1 : Int32))), none] [Value.int v, Value.int w] (xSH, xRF, I, L) 0 0 Q := by
    intro v hv
    refine b_M_draw_43 ?_
    rw [h.2.1.1]
    exact ⟨fun _ => hQ, fun c => ⟨fun c2 => absurd c2 (hv.resolve_left c), fun _ => hQ⟩⟩
  refine b_M_draw_0 ⟨fun c => absurd c (nI_pos (by omega)), fun _ => pk_le k 4 (fun _ => ⟨fun e => ?_, fun _ => ⟨fun e => ?_, fun _ => b_M_draw_27 ⟨fun c => absurd c (by decide), fun _ => ⟨fun e => h43 0 ?_, fun e => h43 1 ?_⟩⟩⟩⟩) (fun c => absurd c (by omega))⟩
  · exact absurd ((nI_eq (b := 1) (by omega) (by decide)).mp e) (by omega)
  · exact absurd ((nI_eq (b := 3) (by omega) (by decide)).mp e) (by omega)
  · rw [if_neg (fun z => e (by rw [z]; rfl))] at hw; exact hw
  · rw [if_pos ((nI_eq (b := 2) (by omega) (by decide)).mp e)] at hw; exact hw
/-- how many SLOTS have a ROW -/
def laidN (sl : xL) : Nat → Nat
  | 0 => 0
  | s + 1 => laidN sl s + (if (sl s).1 = 0 then 0 else 1)
theorem laidN_le (sl : xL) : ∀ s, laidN sl s ≤ s
  | 0 => Nat.le_refl 0
  | s + 1 => by have := laidN_le sl s; rw [laidN]; split <;> omega
/-- what count answers -/
def cntD (D : xD) (sl : xL) (v : Int32) : Int32 :=
  if v.toInt = 0 then nI (qN D) else if v.toInt = 1 then nI (qK D) else if v.toInt = 2 then (if qK D = 1 then nI (qd D 0 + qd D 1 + qd D 2 + qd D 3) else nI (qn D)) else if v.toInt = 3 then nI (laidN sl 8)
  else if 10 ≤ v.toInt ∧ v.toInt ≤ 13 then nI (hN D (v.toInt - 10).toNat) else if 20 ≤ v.toInt ∧ v.toInt ≤ 23 then nI (qd D (v.toInt - 20).toNat) else -1
theorem c_mCount_lp (hS : mS I L sl) {v : Int32} (hQ : Q (some (Value.int (nI (laidN sl 8)))) (xSH, xRF, I, L)) : ∀ m s : Nat, s + m = 8 → xi_V (xG L0 xs) 172 89 [some (Value.ref 37), some (Value.int v), some (Value.int (nI (laidN sl s))), some (Value.int (nI s))] [] (xSH, xRF, I, L) 0 0 Q
  | 0, s, hm => by
    refine b_M_count_89 (pk_le 8 s (fun c => ?_) (fun c => absurd c (by omega)))
    rw [show s = 8 by omega]
    exact hQ
  | m + 1, s, hm => by
    refine b_M_count_89 (pk_le 8 s (fun c => absurd c (by omega)) (fun c => ⟨pk_in s 8 c, ?_⟩))
    have hs := hS s c
    have ih := c_mCount_lp hS (v := v) hQ m (s + 1) (by omega)
    rw [laidN] at ih
    rw [nI_clamp (by omega), hs.2.1]
    refine ⟨fun e => ?_, fun e => ?_⟩
    · rw [if_neg (fun z => e (by rw [z]; rfl))] at ih
      rw [nI_1, nI_1]; exact ih
    · have e0 : (sl s).1 = 0 := by
        by_cases z : (sl s).1 = 0
        · exact z
        · exact absurd e (nI_ne0 (by omega) (by have := hs.1; omega))
      rw [if_pos e0] at ih
      rw [show (0 : Int32) = nI 0 from rfl, nI_add, nI_1]; exact ih
theorem nI_of_toInt {v : Int32} {n : Nat} (h : v.toInt = (n : Int)) : v = nI n := by
  rw [← fb_asI v, h]; rfl
theorem o_mCount (h : mR I L D sl x y) {v : Int32} (hQ : Q (some (Value.int (cntD D sl v))) (xSH, xRF, I, L)) : xi_V (xG L0 xs) 172 0 [some (Value.ref 37), some (Value.int v), none, none] [] (xSH, xRF, I, L) 0 0 Q := by
  have h10 := h.1.1.1
  have hD := h.2.2.1
  have t10 : (10 : Int32).toInt = 10 := by decide
  have t13 : (13 : Int32).toInt = 13 := by decide
  have t20 : (20 : Int32).toInt = 20 := by decide
  have t23 : (23 : Int32).toInt = 23 := by decide
  have hv := fb_rng v
  have go143 : (v.toInt < 10 ∨ 13 < v.toInt) → (v.toInt < 0 ∨ 3 < v.toInt) → xi_V (xG L0 xs) 172 143 [some (Value.ref 37), some (Value.int v), none, none] [] (xSH, xRF, I, L) 0 0 Q := by
    intro c1 c2
    refine b_M_count_143 ?_
    rw [Int32.lt_iff_toInt_lt, Int32.lt_iff_toInt_lt, t20, t23]
    unfold cntD at hQ
    rw [if_neg (by omega), if_neg (by omega), if_neg (by omega), if_neg (by omega), if_neg (by omega)] at hQ
    refine ⟨fun c => ?_, fun c => ⟨fun c' => ?_, fun c' => ?_⟩⟩
    · rw [if_neg (by omega)] at hQ; exact hQ
    · rw [if_neg (by omega)] at hQ; exact hQ
    · rw [if_pos (by omega)] at hQ
      obtain ⟨n, hn⟩ : ∃ n : Nat, v.toInt = ((20 + n : Nat) : Int) := ⟨(v.toInt - 20).toNat, by omega⟩
      have ev := nI_of_toInt hn
      rw [show (v.toInt - 20).toNat = n by omega] at hQ
      rw [ev, show (20 : Int32) = nI 20 from rfl, pk_sub (by omega), show 20 + n - 20 = n by omega, nI_clamp (by omega), hD.2.2 n (by omega)]
      exact ⟨pk_in n 4 (by omega), hQ⟩
  refine b_M_count_0 ⟨fun c => ?_, fun c => ?_, fun c => ?_, fun c => ?_, fun c => ?_, trivial⟩
  · rw [Int32.lt_iff_toInt_lt, Int32.lt_iff_toInt_lt, t10, t13]
    refine ⟨fun c2 => go143 (Or.inl c2) c, fun c2 => ⟨fun c3 => go143 (Or.inr c3) c, fun c3 => ?_⟩⟩
    obtain ⟨n, hn⟩ : ∃ n : Nat, v.toInt = ((10 + n : Nat) : Int) := ⟨(v.toInt - 10).toNat, by omega⟩
    have ev := nI_of_toInt hn
    unfold cntD at hQ
    rw [if_neg (by omega), if_neg (by omega), if_neg (by omega), if_neg (by omega), if_pos (by omega), show (v.toInt - 10).toNat = n by omega] at hQ
    rw [ev, show (10 : Int32) = nI 10 from rfl, pk_sub (by omega), show 10 + n - 10 = n by omega]
    exact c_mNamesOf h.1.1 h.2.1 (by omega) (b_M_count_140 hQ)
  · unfold cntD at hQ
    rw [if_pos c] at hQ
    rw [h.2.1.1]; exact hQ
  · unfold cntD at hQ
    rw [if_neg (by omega), if_pos c] at hQ
    rw [hD.1]; exact hQ
  · unfold cntD at hQ
    rw [if_neg (by omega), if_neg (by omega), if_pos c] at hQ
    rw [hD.1]
    refine ⟨fun e => ?_, fun e => ⟨pk_in 0 4 (by decide), pk_in 1 4 (by decide), pk_in 2 4 (by decide), pk_in 3 4 (by decide), ?_⟩⟩
    · rw [if_neg (fun z => e (by rw [z]; rfl))] at hQ
      rw [hD.2.1]; exact hQ
    · have hK := h.1.2.1
      rw [if_pos ((nI_eq (b := 1) (by omega) (by decide)).mp e)] at hQ
      rw [show (0 : Int32).toNatClampNeg = 0 from rfl, show (1 : Int32).toNatClampNeg = 1 from rfl, show (2 : Int32).toNatClampNeg = 2 from rfl, show (3 : Int32).toNatClampNeg = 3 from rfl, hD.2.2 0 (by decide), hD.2.2 1 (by decide), hD.2.2 2 (by decide), hD.2.2 3 (by decide), nI_add, nI_add, nI_add]
      exact hQ
  · unfold cntD at hQ
    rw [if_neg (by omega), if_neg (by omega), if_neg (by omega), if_pos c] at hQ
    exact c_mCount_lp h.2.2.2.1 hQ 8 0 rfl
theorem Np_len {p : Nat → Int64} {v n : Nat} (h : Np p v) (hn : n ≤ 44) (h1 : ∀ k, n ≤ k → k < 44 → p k = 0) (h2 : n = 0 ∨ ¬ p (n - 1) = 0) : isLen v (if n = 0 then 1 else n) := by
  obtain ⟨dp, ep⟩ := Np_dR h
  have hc := vS_cut (r := p) hn (fun k a b => by rw [h1 k a b, m_z0])
  rw [ep] at hc
  have hb := nS_bound (z := fun k => (p k).toInt) (n := n) (fun k hk => dp k (by omega))
  have hc2 : (v : Int) = nS (fun k => (p k).toInt) n := hc
  rw [← hc2, nBn] at hb
  by_cases e : n = 0
  · rw [if_pos e]
    subst e
    rw [show nS (fun k => (p k).toInt) 0 = 0 from rfl] at hc2
    exact ⟨by decide, by rw [Nat.pow_one]; omega, Or.inl rfl⟩
  · rw [if_neg e]
    refine ⟨by omega, Int.ofNat_lt.mp hb.2, Or.inr ?_⟩
    have hp : 0 < (p (n - 1)).toInt := by
      have := dp (n - 1) (by omega)
      have h3 : ¬ (p (n - 1)).toInt = 0 := fun z => (h2.resolve_left e) (m_eq0.mpr z)
      omega
    have h4 := nS_low (z := fun k => (p k).toInt) (n := n - 1) (fun k hk => (dp k (by omega)).1) hp
    rw [show n - 1 + 1 = n by omega, ← hc2, nBn] at h4
    exact Int.ofNat_le.mp h4
theorem o_mLook (h : mR I L D sl x y) {v : Int32} (hx : -(nB ^ 43) < x) (hy : -(nB ^ 43) < y)
    (hQ : (v = 0 → Q (some (Value.int (if x = 0 then 0 else if x < 0 then -1 else 1))) (xSH, xRF, I, L)) ∧ (∀ n L', v = 1 → mFr I I L L' → mR I L' D sl x y → isLen x.natAbs n → Q (some (Value.int (nI n))) (xSH, xRF, I, L')) ∧ (∀ n L', v = 2 → mFr I I L L' → mR I L' D sl x y → isLen y.natAbs n → Q (some (Value.int (nI n))) (xSH, xRF, I, L')) ∧ ((¬ v = 0 ∧ ¬ v = 1 ∧ ¬ v = 2) → Q (some (Value.int (-1))) (xSH, xRF, I, L))) : xi_V (xG L0 xs) 169 0 [some (Value.ref 37), some (Value.int v)] [] (xSH, xRF, I, L) 0 0 Q := by
  have eL := mL_0 (L := L)
  have back : ∀ (p' : Nat → Int64) (w : Nat), Np p' w → (∀ n L', mFr I I L L' → mR I L' D sl x y → isLen w n → Q (some (Value.int (nI n))) (xSH, xRF, I, L')) → xi_V (xG L0 xs) 169 40 [some (Value.ref 37), some (Value.int v)] [] (xSH, xRF, I, mL L (L 38) p' (L 48) (L 49)) 0 0 Q := by
    intro p' w hp hq
    refine b_M_look_40 (b_M_manyParts_0 rfl (c_length47 (fun n l1 l2 l3 => b_M_manyParts_4 rfl ?_)))
    have hl := Np_len hp l1 l2 l3
    have hr := mR_res2 (p' := p') (q' := L 48) (r' := L 49) h h.2.2.2.2.2.2 h.2.2.2.2.1 h.2.2.2.2.2.1
    have hq := hq _ _ hr.2 hr.1 hl
    refine ⟨fun c => b_M_look_48 ?_, fun c => b_M_look_48 ?_⟩
    · rw [if_neg (fun z => c (by rw [z]; rfl))] at hq; exact hq
    · have : n = 0 := by
        by_cases z : n = 0
        · exact z
        · exact absurd c (nI_ne0 (by omega) (by omega))
      rw [if_pos this] at hq; exact hq
  have n0 : Nm (L 38) 0 x := h.2.2.2.2.1
  have n1 : Nm (L 38) 1 y := h.2.2.2.2.2.1
  have g22 : (v = 1 ∨ v = 2) → xi_V (xG L0 xs) 169 22 [some (Value.ref 37), some (Value.int v)] [] (xSH, xRF, I, L) 0 0 Q := by
    intro hv
    refine b_M_look_22 ⟨fun c => ?_, fun c => ?_⟩
    · have e2 := hv.resolve_left c
      rw [← eL]
      exact c_bare47 (a := 1) (by decide) n1 hy (fun p' hp => back p' _ hp (fun n L' a b c => hQ.2.2.1 n L' e2 a b c))
    · rw [← eL]
      exact c_bare47 (a := 0) (by decide) n0 hx (fun p' hp => back p' _ hp (fun n L' a b d => hQ.2.1 n L' c a b d))
  refine b_M_look_0 ⟨fun c0 => ⟨fun c1 => g22 (Or.inl c1), fun c1 => ⟨fun c2 => g22 (Or.inr c2), fun c2 => hQ.2.2.2 ⟨c0, c1, c2⟩⟩⟩, fun c0 => ?_⟩
  rw [← eL]
  refine c_sign (a := 0) (by decide) n0 (b_M_look_9 ?_)
  rw [eL]
  exact hQ.1 c0
theorem o_mPart (h : mR I L D sl x y) {b v : Int32} (hx : -(nB ^ 43) < x) (hy : -(nB ^ 43) < y)
    (hQ : ∀ L', mFr I I L L' → mR I L' D sl x y → (v < 0 ∨ ¬ v < 44 → Q (some (Value.int 0)) (xSH, xRF, I, L')) ∧ (∀ i : Nat, i < 44 → v = nI i → Q (some (Value.int (nI (dg (if b = 0 then x.natAbs else y.natAbs) i)))) (xSH, xRF, I, L'))) : xi_V (xG L0 xs) 170 0 [some (Value.ref 37), some (Value.int b), some (Value.int v)] [] (xSH, xRF, I, L) 0 0 Q := by
  have eL := mL_0 (L := L)
  have n0 : Nm (L 38) 0 x := h.2.2.2.2.1
  have n1 : Nm (L 38) 1 y := h.2.2.2.2.2.1
  have back : ∀ (p' : Nat → Int64) (w : Nat), Np p' w → w = (if b = 0 then x.natAbs else y.natAbs) → xi_V (xG L0 xs) 170 17 [some (Value.ref 37), some (Value.int b), some (Value.int v)] [] (xSH, xRF, I, mL L (L 38) p' (L 48) (L 49)) 0 0 Q := by
    intro p' w hp hw
    have hr := mR_res2 (p' := p') (q' := L 48) (r' := L 49) h h.2.2.2.2.2.2 h.2.2.2.2.1 h.2.2.2.2.2.1
    have hq := hQ _ hr.2 hr.1
    refine b_M_part_17 ⟨fun c => hq.1 (Or.inl c), fun c => ⟨fun c2 => ?_, fun c2 => hq.1 (Or.inr c2)⟩⟩
    have t44 : (44 : Int32).toInt = 44 := by decide
    have t0 : (0 : Int32).toInt = 0 := by decide
    rw [Int32.lt_iff_toInt_lt, t0] at c
    rw [Int32.lt_iff_toInt_lt, t44] at c2
    obtain ⟨i, hi⟩ : ∃ i : Nat, v.toInt = (i : Int) := ⟨v.toInt.toNat, by omega⟩
    have ev := nI_of_toInt hi
    have hi44 : i < 44 := by omega
    have q1 := hq.2 i hi44 ev
    obtain ⟨dp, ep⟩ := Np_dR hp
    have hd := dg_of (z := fun k => (p' k).toInt) (n := 44) dp ep hi44
    have hd : (p' i).toInt = (dg w i : Int) := hd
    rw [ev, m_k hi44, mL_47]
    refine ⟨m_v hi44, ?_⟩
    have e : (p' i).toInt32 = nI (dg w i) := by
      have : p' i = zL (dg w i : Int) := by rw [← hd]; exact (Int64.ofInt_toInt _).symm
      rw [this]
      have hlt : dg w i < 1000000000 := Nat.mod_lt _ (by decide)
      apply Int32.toInt_inj.mp
      rw [Int64.toInt_toInt32, zL_t (by omega) (by omega), nI_toInt (by omega), fb_bmod (by omega) (by omega)]
    rw [e, hw]
    exact q1
  refine b_M_part_0 ⟨fun c => ?_, fun c => ?_⟩
  · rw [← eL]
    exact c_bare47 (a := 0) (by decide) n0 hx (fun p' hp => back p' _ hp (by rw [if_pos c]))
  · rw [← eL]
    exact c_bare47 (a := 1) (by decide) n1 hy (fun p' hp => back p' _ hp (by rw [if_neg c]))
end MW
