/-! what the class holds; its small methods -/
theorem lt7 {v : Int32} : 7 < v ↔ 8 ≤ v := by
  rw [Int32.lt_iff_toInt_lt, Int32.le_iff_toInt_le, show (7 : Int32).toInt = 7 by decide, show (8 : Int32).toInt = 8 by decide]; omega
theorem lt3 {v : Int32} : 3 < v ↔ 4 ≤ v := by
  rw [Int32.lt_iff_toInt_lt, Int32.le_iff_toInt_le, show (3 : Int32).toInt = 3 by decide, show (4 : Int32).toInt = 4 by decide]; omega
def kC (I : Nat → Nat → Int32) (D : xD) : Prop := I 5 0 = nI (qN D) ∧ (∀ i, i < qN D → I 6 i = zI (qW D i) ∧ I 7 i = nI (qZ D i) ∧ I 8 i = nI (qS D i)) ∧ ∀ h, h < 4 → I 9 h = nI (hS D h (qN D))
def kD (I : Nat → Nat → Int32) (D : xD) : Prop := I 10 0 = nI (qK D) ∧ I 10 1 = nI (qn D) ∧ ∀ h, h < 4 → I 11 h = nI (qd D h)
def kS1 (I : Nat → Nat → Int32) (L : Nat → Nat → Int64) (s : Nat) (q : Nat × Nat × (Nat → Int64)) : Prop := q.1 ≤ 61 ∧ I 4 s = zI ((q.1 : Int) - 1) ∧ (q.1 ≠ 0 → q.2.1 ≤ 3 ∧ I 3 s = nI q.2.1 ∧ ∀ i, i + 1 < q.1 → L 2 (60 * s + i) = q.2.2 i)
def kS (I : Nat → Nat → Int32) (L : Nat → Nat → Int64) (sl : xL) : Prop := ∀ s, s < 8 → kS1 I L s (sl s)
/-- the weights that the class has made -/
def kW (L : Nat → Nat → Int64) (D : xD) : Prop := ∃ (W : Int) (wc : Nat → Int) (pr : Nat → Nat → Int), L 10 6 = zL W ∧ (1 ≤ W ∧ W ≤ 19531250000000000) ∧
  (∀ i j, j ≤ i → i < qN D → L 13 (10 * i + j) = zL (pr i j) ∧ 0 ≤ pr i j ∧ pr i j ≤ W ∧ W * c2 D i j = al D * pr i j) ∧
  (∀ s, s < 2 ^ qN D → L 12 s = zL (wc s) ∧ 0 ≤ wc s ∧ wc s ≤ 19531250000000000 ∧ (wc s = 0 ↔ wt D s = 0) ∧ (qK D ≠ 3 → W * wt D s = al D * wc s))
def kR (I : Nat → Nat → Int32) (L : Nat → Nat → Int64) (D : xD) (sl : xL) (x y : Int) : Prop := okD D ∧ kC I D ∧ kD I D ∧ kS I L sl ∧ kRes I L x y ∧ (I 10 3 = 0 → kW L D)
def kFr (I I' : Nat → Nat → Int32) (L L' : Nat → Nat → Int64) : Prop := (∀ a, 37 ≤ a → I' a = I a) ∧ ∀ a, 37 ≤ a → L' a = L a
theorem kC_of {I I' : Nat → Nat → Int32} {D : xD} (h : ∀ a, 5 ≤ a → a ≤ 9 → I' a = I a) (hI : kC I D) : kC I' D := by
  unfold kC at *
  rw [h 5 (by decide) (by decide), h 6 (by decide) (by decide), h 7 (by decide) (by decide), h 8 (by decide) (by decide), h 9 (by decide) (by decide)]
  exact hI
theorem kD_of {I I' : Nat → Nat → Int32} {D : xD} (h : ∀ a, a = 10 ∨ a = 11 → I' a = I a) (hI : kD I D) : kD I' D := by
  unfold kD at *
  rw [h 10 (by decide), h 11 (by decide)]
  exact hI
theorem kS_of {I I' : Nat → Nat → Int32} {L L' : Nat → Nat → Int64} {sl : xL} (h1 : I' 3 = I 3) (h2 : I' 4 = I 4) (h3 : L' 2 = L 2) (h : kS I L sl) : kS I' L' sl := by
  unfold kS kS1 at *
  rw [h1, h2, h3]
  exact h
theorem kRes_of {I I' : Nat → Nat → Int32} {L L' : Nat → Nat → Int64} {x y : Int} (h1 : I' 14 = I 14) (h2 : L' 16 = L 16) (h3 : L' 18 = L 18) (h : kRes I L x y) : kRes I' L' x y := by
  unfold kRes at *
  rw [h1, h2, h3]
  exact h
theorem kW_of {L L' : Nat → Nat → Int64} {D : xD} (h1 : L' 10 = L 10) (h2 : L' 12 = L 12) (h3 : L' 13 = L 13) (h : kW L D) : kW L' D := by
  unfold kW at *
  rw [h1, h2, h3]
  exact h
/-- a new result -/
theorem kR_res {I I' : Nat → Nat → Int32} {L L' : Nat → Nat → Int64} {D : xD} {sl : xL} {x y x' y' : Int} (h : kR I L D sl x y) (f1 : ∀ a, a ≠ 14 → I' a = I a) (f2 : ∀ a, a ≠ 16 → a ≠ 18 → a ≠ 20 → a ≠ 23 → a ≠ 25 → L' a = L a) (r : kRes I' L' x' y') : kR I' L' D sl x' y' ∧ kFr I I' L L' := by
  refine ⟨⟨h.1, kC_of (fun a _ _ => f1 a (by omega)) h.2.1, kD_of (fun a ha => f1 a (by omega)) h.2.2.1, kS_of (f1 3 (by decide)) (f1 4 (by decide)) (f2 2 (by decide) (by decide) (by decide) (by decide) (by decide)) h.2.2.2.1, r, fun z => ?_⟩, fun a ha => f1 a (by omega), fun a ha => f2 a (by omega) (by omega) (by omega) (by omega) (by omega)⟩
  rw [f1 10 (by decide)] at z
  exact kW_of (f2 10 (by decide) (by decide) (by decide) (by decide) (by decide)) (f2 12 (by decide) (by decide) (by decide) (by decide) (by decide)) (f2 13 (by decide) (by decide) (by decide) (by decide) (by decide)) (h.2.2.2.2.2 z)
/-- bits of a heap's set -/
theorem bt_lo {a n i : Nat} (hi : i < n) : bt (a + 2 ^ n) i = bt a i := by
  unfold bt
  obtain ⟨d, hd⟩ : ∃ d, n = i + 1 + d := ⟨n - i - 1, by omega⟩
  have e : 2 ^ n = 2 ^ i * (2 * 2 ^ d) := by rw [hd, Nat.pow_add, Nat.pow_succ, Nat.mul_assoc]
  rw [e, Nat.add_mul_div_left _ _ (Nat.pow_pos (by decide))]
  omega
theorem bt_top {a n : Nat} (h : a < 2 ^ n) : bt (a + 2 ^ n) n = 1 := by
  unfold bt
  rw [Nat.add_div_right _ (Nat.pow_pos (by decide)), Nat.div_eq_of_lt h]
theorem hS_bt (D : xD) (h : Nat) : ∀ n i, i < n → bt (hS D h n) i = if qH D i = h then 1 else 0
  | 0, i, hi => absurd hi (Nat.not_lt_zero i)
  | n + 1, i, hi => by
    have hlt := hS_lt D h n
    rw [hS]
    by_cases c : qH D n = h
    · rw [if_pos c]
      rcases Nat.lt_succ_iff_lt_or_eq.mp hi with z | z
      · rw [bt_lo z]; exact hS_bt D h n i z
      · subst z; rw [bt_top hlt, if_pos c]
    · rw [if_neg c, Nat.add_zero]
      rcases Nat.lt_succ_iff_lt_or_eq.mp hi with z | z
      · exact hS_bt D h n i z
      · subst z; rw [bt_hi hlt, if_neg c]
theorem hS_bc (D : xD) (h : Nat) {n : Nat} : ∀ m, m ≤ n → bc (hS D h n) m = hn D h m
  | 0, _ => rfl
  | m + 1, hm => by rw [bc, hn, hS_bc D h m (by omega), hS_bt D h n m (by omega)]
theorem hS_N {D : xD} (hC : okC D) (h : Nat) : bc (hS D h (qN D)) 10 = hN D h := by
  rw [bc_10 (hS_lt D h (qN D)) hC.1.2, hS_bc D h _ (Nat.le_refl _)]; rfl
theorem hS_0 {D : xD} (hC : okC D) (h : Nat) : hS D h (qN D) = 0 ↔ hN D h = 0 := by
  constructor
  · intro e
    rw [← hS_N hC, e]; decide
  · intro e
    have hz : ∀ n, n ≤ qN D → hn D h n = 0 := by
      have : ∀ d n, n + d = qN D → hn D h n = 0 := by
        intro d
        induction d with
        | zero => intro n hn'; rw [show n = qN D by omega]; exact e
        | succ d ih =>
          intro n hn'
          have := ih (n + 1) (by omega)
          rw [hn] at this
          omega
      exact fun n hn' => this (qN D - n) n (by omega)
    have : ∀ n, n ≤ qN D → hS D h n = 0 := by
      intro n
      induction n with
      | zero => intro _; rfl
      | succ n ih =>
        intro hn'
        have h1 := hz (n + 1) hn'
        rw [hn] at h1
        rw [hS, ih (by omega)]
        split at h1
        · omega
        · rename_i c; rw [if_neg c]
    exact this _ (Nat.le_refl _)
section KB
variable {L0 : Nat} {xs : Nat → Int32} {Q : xiQ} {I : Nat → Nat → Int32} {L : Nat → Nat → Int64}
variable {D : xD} {sl : xL} {x y : Int}
theorem bcJ : ∀ s : Fin 1024, ∀ Q' : Int32 → Bool, True := fun _ _ => trivial
theorem c_kSetCount (hC : okC D) (hI : kC I D) (hQ : Q (some (Value.int (nI (2 ^ qN D)))) (xSH, xRF, I, L)) : xi_V (xG L0 xs) 18 0 [some (Value.ref 5)] [] (xSH, xRF, I, L) 0 0 Q := by
  have h10 := hC.1
  refine b_Crowd_setCount_0 ?_
  rw [hI.1, sh_1 (by omega)]
  exact hQ
theorem c_kIsSlot1 {s : Nat} (hs : s < 8) (hQ : Q (some (Value.int 1)) (xSH, xRF, I, L)) : xi_V (xG L0 xs) 94 0 [some (Value.int (nI s))] [] (xSH, xRF, I, L) 0 0 Q :=
  b_D_isSlot_0 ⟨fun c => absurd c (nI_pos (by omega)), fun _ => pk_le 8 s (fun c => absurd c (by omega)) (fun _ => ⟨by decide, hQ⟩)⟩
theorem c_kIsSlot0 {v : Int32} (hv : v < 0 ∨ 7 < v) (hQ : Q (some (Value.int 0)) (xSH, xRF, I, L)) : xi_V (xG L0 xs) 94 0 [some (Value.int v)] [] (xSH, xRF, I, L) 0 0 Q :=
  b_D_isSlot_0 ⟨fun _ => ⟨by decide, hQ⟩, fun c => ⟨fun _ => ⟨by decide, hQ⟩, fun c2 => absurd (lt7.mp (hv.resolve_left c)) c2⟩⟩
theorem c_kIsHeap1 {h : Nat} (hh : h < 4) (hQ : Q (some (Value.int 1)) (xSH, xRF, I, L)) : xi_V (xG L0 xs) 95 0 [some (Value.int (nI h))] [] (xSH, xRF, I, L) 0 0 Q :=
  b_D_isHeap_0 ⟨fun c => absurd c (nI_pos (by omega)), fun _ => pk_le 4 h (fun c => absurd c (by omega)) (fun _ => ⟨by decide, hQ⟩)⟩
theorem c_kIsHeap0 {v : Int32} (hv : v < 0 ∨ 3 < v) (hQ : Q (some (Value.int 0)) (xSH, xRF, I, L)) : xi_V (xG L0 xs) 95 0 [some (Value.int v)] [] (xSH, xRF, I, L) 0 0 Q :=
  b_D_isHeap_0 ⟨fun _ => ⟨by decide, hQ⟩, fun c => ⟨fun _ => ⟨by decide, hQ⟩, fun c2 => absurd (lt3.mp (hv.resolve_left c)) c2⟩⟩
theorem c_kIsName1 (hC : okC D) (hI : kC I D) {i : Nat} (hi : i < qN D) (hQ : Q (some (Value.int 1)) (xSH, xRF, I, L)) : xi_V (xG L0 xs) 96 0 [some (Value.ref 0), some (Value.int (nI i))] [] (xSH, xRF, I, L) 0 0 Q := by
  have h10 := hC.1
  refine b_D_isName_0 ?_
  rw [hI.1]
  exact ⟨fun c => absurd c (nI_pos (by omega)), fun _ => pk_le (qN D) i (fun c => absurd c (by omega)) (fun _ => ⟨by decide, hQ⟩)⟩
theorem c_kIsName0 (hI : kC I D) {v : Int32} (hv : v < 0 ∨ nI (qN D) ≤ v) (hQ : Q (some (Value.int 0)) (xSH, xRF, I, L)) : xi_V (xG L0 xs) 96 0 [some (Value.ref 0), some (Value.int v)] [] (xSH, xRF, I, L) 0 0 Q := by
  refine b_D_isName_0 ?_
  rw [hI.1]
  exact ⟨fun _ => ⟨by decide, hQ⟩, fun c => ⟨fun _ => ⟨by decide, hQ⟩, fun c2 => absurd (hv.resolve_left c) c2⟩⟩
theorem c_kIsSet1 (hC : okC D) (hI : kC I D) {s : Nat} (hs : s < 2 ^ qN D) (hQ : Q (some (Value.int 1)) (xSH, xRF, I, L)) : xi_V (xG L0 xs) 97 0 [some (Value.ref 0), some (Value.int (nI s))] [] (xSH, xRF, I, L) 0 0 Q := by
  have h10 := hC.1
  have hp := p2_lt h10.2
  exact b_D_isSet_0 ⟨fun c => absurd c (nI_pos (by omega)), fun _ => c_kSetCount hC hI (b_D_isSet_12 (pk_le (2 ^ qN D) s (fun c => absurd c (by omega)) (fun _ => ⟨by decide, hQ⟩)))⟩
theorem c_kIsSet0 (hC : okC D) (hI : kC I D) {v : Int32} (hv : v < 0 ∨ nI (2 ^ qN D) ≤ v) (hQ : Q (some (Value.int 0)) (xSH, xRF, I, L)) : xi_V (xG L0 xs) 97 0 [some (Value.ref 0), some (Value.int v)] [] (xSH, xRF, I, L) 0 0 Q :=
  b_D_isSet_0 ⟨fun _ => ⟨by decide, hQ⟩, fun c => c_kSetCount hC hI (b_D_isSet_12 ⟨fun _ => ⟨by decide, hQ⟩, fun c2 => absurd (hv.resolve_left c) c2⟩)⟩
theorem c_kSizes_lp (hC : okC D) (hI : kC I D) (hQ : Q (some (Value.int (nI (qT D)))) (xSH, xRF, I, L)) :
    ∀ n i : Nat, i + n = qN D → xi_V (xG L0 xs) 21 4 [some (Value.ref 5), some (Value.int (nI (sz D i))), some (Value.int (nI i))] [] (xSH, xRF, I, L) 0 0 Q
  | 0, i, hn' => by
    have h10 := hC.1
    refine b_Crowd_allSizes_4 ?_
    rw [hI.1]
    refine pk_le (qN D) i (fun c => ?_) (fun c => absurd c (by omega))
    rw [show i = qN D by omega]
    exact hQ
  | n + 1, i, hn' => by
    have h10 := hC.1
    refine b_Crowd_allSizes_4 ?_
    rw [hI.1]
    refine pk_le (qN D) i (fun c => absurd c (by omega)) (fun c => ⟨pk_in i 10 (by omega), ?_⟩)
    rw [nI_clamp (by omega), (hI.2.1 i c).2.1, nI_add, nI_1]
    exact c_kSizes_lp hC hI hQ n (i + 1) (by omega)
theorem c_kSizes (hC : okC D) (hI : kC I D) (hQ : Q (some (Value.int (nI (qT D)))) (xSH, xRF, I, L)) :
    xi_V (xG L0 xs) 21 0 [some (Value.ref 5), none, none] [] (xSH, xRF, I, L) 0 0 Q := b_Crowd_allSizes_0 (c_kSizes_lp hC hI hQ (qN D) 0 (Nat.zero_add _))
theorem c_kHeapsW_lp (hC : okC D) (hI : kC I D) (hQ : Q (some (Value.int (nI (shn D 4)))) (xSH, xRF, I, L)) :
    ∀ n h : Nat, h + n = 4 → xi_V (xG L0 xs) 20 4 [some (Value.ref 5), some (Value.int (nI (shn D h))), some (Value.int (nI h))] [] (xSH, xRF, I, L) 0 0 Q
  | 0, h, hn' => by
    refine b_Crowd_heapsWithNames_4 (pk_le 4 h (fun c => ?_) (fun c => absurd c (by omega)))
    rw [show h = 4 by omega]
    exact hQ
  | n + 1, h, hn' => by
    have h10 := hC.1
    have hlt := hS_lt D h (qN D)
    have hp := p2_lt h10.2
    refine b_Crowd_heapsWithNames_4 (pk_le 4 h (fun c => absurd c (by omega)) (fun c => ⟨pk_in h 4 (by omega), ?_⟩))
    have ih := c_kHeapsW_lp hC hI hQ n (h + 1) (by omega)
    rw [shn] at ih
    unfold slo at ih
    rw [nI_clamp (by omega), hI.2.2 h (by omega), nI_1]
    refine ⟨fun e => ?_, fun e => ?_⟩
    · have e0 : hS D h (qN D) = 0 := (nI_eq (b := 0) (by omega) (by decide)).mp e
      rw [if_pos ((hS_0 hC h).mp e0), Nat.add_zero] at ih
      exact ih
    · rw [if_neg (fun z => e (by rw [(hS_0 hC h).mpr z]; rfl))] at ih
      rw [nI_1]
      exact ih
theorem c_kHeapsW (hC : okC D) (hI : kC I D) (hQ : Q (some (Value.int (nI (shn D 4)))) (xSH, xRF, I, L)) : xi_V (xG L0 xs) 20 0 [some (Value.ref 5), none, none] [] (xSH, xRF, I, L) 0 0 Q :=
  b_Crowd_heapsWithNames_0 (c_kHeapsW_lp hC hI hQ 4 0 rfl)
end KB
