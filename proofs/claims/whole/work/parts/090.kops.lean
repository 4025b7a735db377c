/-! bitCount; heaps; slots; row, tear, write, drawn, draw, count, look, part, heap of the class -/
def jb1 (v : Int32) : Int32 := v - (((Int32.toUInt32 v >>> (Int32.toUInt32 (1 : Int32) &&& Int32.toUInt32 31)).toInt32) &&& (1431655765 : Int32))
def jb2 (v : Int32) : Int32 := (v &&& (858993459 : Int32)) + (((Int32.toUInt32 v >>> (Int32.toUInt32 (2 : Int32) &&& Int32.toUInt32 31)).toInt32) &&& (858993459 : Int32))
def jb3 (v : Int32) : Int32 := (v + ((Int32.toUInt32 v >>> (Int32.toUInt32 (4 : Int32) &&& Int32.toUInt32 31)).toInt32)) &&& (252645135 : Int32)
def jb4 (v : Int32) : Int32 := v + ((Int32.toUInt32 v >>> (Int32.toUInt32 (8 : Int32) &&& Int32.toUInt32 31)).toInt32)
def jb5 (v : Int32) : Int32 := v + ((Int32.toUInt32 v >>> (Int32.toUInt32 (16 : Int32) &&& Int32.toUInt32 31)).toInt32)
theorem jb_all : ∀ s : Fin 1024, (jb5 (jb4 (jb3 (jb2 (jb1 (nI s.val))))) &&& 63) = nI (bc s.val 10) := by decide +kernel
section KO
variable {L0 : Nat} {xs : Nat → Int32} {Q : xiQ} {I : Nat → Nat → Int32} {L : Nat → Nat → Int64}
variable {D : xD} {sl : xL} {x y : Int}
theorem c_bitCount {s : Nat} (hs : s < 1024) (hQ : Q (some (Value.int (nI (bc s 10)))) (xSH, xRF, I, L)) : xi_V (xG L0 xs) 0 0 [some (Value.int (nI s))] [] (xSH, xRF, I, L) 0 0 Q := by
  refine b_Int_bitCount_0 (show Q (some (Value.int (jb5 (jb4 (jb3 (jb2 (jb1 (nI s))))) &&& 63))) (xSH, xRF, I, L) from ?_)
  rw [jb_all ⟨s, hs⟩]
  exact hQ
theorem c_kHeapNames (hC : okC D) (hI : kC I D) {h : Nat} (hh : h < 4) (hQ : Q (some (Value.int (nI (hN D h)))) (xSH, xRF, I, L)) : xi_V (xG L0 xs) 19 0 [some (Value.ref 5), some (Value.int (nI h))] [] (xSH, xRF, I, L) 0 0 Q := by
  have h10 := hC.1
  have hlt := hS_lt D h (qN D)
  have hp := p2_lt h10.2
  refine b_Crowd_heapNames_0 ⟨pk_in h 4 hh, ?_⟩
  rw [nI_clamp (by omega), hI.2.2 h hh]
  refine c_bitCount (by omega) (b_Crowd_heapNames_9 ?_)
  rw [hS_N hC]
  exact hQ
theorem c_kTop_lp (hC : okC D) (hI : kC I D) {h : Nat} (hh : h < 4) (hQ : Q (some (Value.long (zL ((hN D h : Int) * offD D (hS D h (qN D)))))) (xSH, xRF, I, L)) :
    ∀ n i : Nat, i + n = qN D → xi_V (xG L0 xs) 22 8 [some (Value.ref 5), some (Value.int (nI h)), some (Value.long (zL (sqs D (hS D h (qN D)) i))), none, some (Value.long (zL (sws D (hS D h (qN D)) i))), none, some (Value.int (nI i)), none] [] (xSH, xRF, I, L) 0 0 Q
  | 0, i, hn' => by
    have h10 := hC.1
    have n1 := hn_le D h (qN D)
    have e1 : hN D h = hn D h (qN D) := rfl
    refine b_Crowd_spreadTop_8 ?_
    rw [hI.1]
    refine pk_le (qN D) i (fun c => c_kHeapNames hC hI hh (b_Crowd_spreadTop_75 ?_)) (fun c => absurd c (by omega))
    rw [show i = qN D by omega, nI_L (by omega), zL_mul, zL_mul, zL_sub, zL_mul]
    unfold offD at hQ
    rw [hS_N hC] at hQ
    exact hQ
  | n + 1, i, hn' => by
    have h10 := hC.1
    have hlt := hS_lt D h (qN D)
    have hp := p2_lt h10.2
    refine b_Crowd_spreadTop_8 ?_
    rw [hI.1]
    refine pk_le (qN D) i (fun c => absurd c (by omega)) (fun c => ⟨pk_in h 4 hh, ?_⟩)
    have hW := (hC.2 i c).1
    have ih := c_kTop_lp hC hI hh hQ n (i + 1) (by omega)
    unfold sqs sws at ih ⊢
    rw [sm_s, sm_s] at ih
    rw [nI_clamp (show h < 2 ^ 31 by omega), hI.2.2 h hh, bt_I (by omega) (by omega), bt_is1, nI_clamp (by omega), nI_1]
    refine ⟨fun e => ?_, fun e => ⟨pk_in i 10 (by omega), pk_in i 10 (by omega), pk_in i 10 (by omega), ?_⟩⟩
    · rw [(bt_01 _ i).resolve_right e] at ih
      simp only [Int.natCast_zero, Int.zero_mul, Int.add_zero] at ih
      exact ih
    · rw [e] at ih
      have hWW := mulS (x := qW D i) (y := qW D i) (A := 100) (B := 100) hW hW
      rw [(hI.2.1 i c).1, zI_mul, zI_L (by omega) (by omega), zI_L (by omega) (by omega), zL_add, zL_add]
      simp only [Int.natCast_one, Int.one_mul] at ih
      exact ih
theorem c_kTop (hC : okC D) (hI : kC I D) {h : Nat} (hh : h < 4) (hQ : Q (some (Value.long (zL ((hN D h : Int) * offD D (hS D h (qN D)))))) (xSH, xRF, I, L)) : xi_V (xG L0 xs) 22 0 [some (Value.ref 5), some (Value.int (nI h)), none, none, none, none, none, none] [] (xSH, xRF, I, L) 0 0 Q :=
  b_Crowd_spreadTop_0 (c_kTop_lp hC hI hh hQ (qN D) 0 (Nat.zero_add _))
/-- what V is by -/
def vB (D : xD) (h : Nat) : Int := if hN D h < 2 then 1 else (hN D h : Int) - 1
theorem c_kBot (hC : okC D) (hI : kC I D) {h : Nat} (hh : h < 4) (hQ : Q (some (Value.long (zL (vB D h)))) (xSH, xRF, I, L)) : xi_V (xG L0 xs) 23 0 [some (Value.ref 5), some (Value.int (nI h))] [] (xSH, xRF, I, L) 0 0 Q := by
  have h10 := hC.1
  have n1 := hn_le D h (qN D)
  have e1 : hN D h = hn D h (qN D) := rfl
  refine b_Crowd_spreadBottom_0 (c_kHeapNames hC hI hh (b_Crowd_spreadBottom_6 ?_))
  have e2 : nI (hN D h) - 1 = zI ((hN D h : Int) - 1) := by rw [show (1 : Int32) = zI 1 from rfl, zI_n, zI_sub]
  rw [e2]
  unfold vB at hQ
  refine b_Math_max_0 ?_
  rw [show (1 : Int32) = zI 1 from rfl, zI_lt (by decide) (by decide) (by omega) (by omega)]
  refine ⟨fun c => b_Crowd_spreadBottom_11 ?_, fun c => b_Crowd_spreadBottom_11 ?_⟩
  · rw [if_neg (by omega)] at hQ
    rw [zI_L (by omega) (by omega)]; exact hQ
  · have e : (if hN D h < 2 then (1 : Int) else (hN D h : Int) - 1) = 1 := by split <;> omega
    rw [e] at hQ
    exact hQ
theorem c_kIsLaid (hS : kS I L sl) {s : Nat} (hs : s < 8) (hQ : Q (some (Value.int (if (sl s).1 = 0 then 0 else 1))) (xSH, xRF, I, L)) : xi_V (xG L0 xs) 59 0 [some (Value.ref 1), some (Value.int (nI s))] [] (xSH, xRF, I, L) 0 0 Q := by
  have h1 := hS s hs
  have h61 := h1.1
  refine b_Slots_isLaid_0 ⟨pk_in s 8 hs, ?_⟩
  rw [nI_clamp (by omega), h1.2.1, show (-1 : Int32) = zI (-1) by decide, zI_eq (by omega) (by omega) (by decide) (by decide)]
  refine ⟨fun c => ⟨by decide, ?_⟩, fun c => ⟨by decide, ?_⟩⟩
  · rw [if_pos (by omega)] at hQ; exact hQ
  · rw [if_neg (by omega)] at hQ; exact hQ
theorem kS_set {I' : Nat → Nat → Int32} {L' : Nat → Nat → Int64} {s e w : Nat} {v : Nat → Int64} (hm : kS I L sl) (h1 : kS1 I' L' s (e, w, v)) (ho : ∀ k, k < 8 → k ≠ s → I' 4 k = I 4 k ∧ I' 3 k = I 3 k ∧ ∀ i, i < 60 → L' 2 (60 * k + i) = L 2 (60 * k + i)) : kS I' L' (slP sl s e w v) := by
  intro k hk
  unfold slP
  by_cases c : k = s
  · subst c
    simp only [if_true]
    exact h1
  · simp only [if_neg c]
    obtain ⟨o1, o2, o3⟩ := ho k hk c
    obtain ⟨m1, m2, m3⟩ := hm k hk
    refine ⟨m1, o1.trans m2, fun z => ⟨(m3 z).1, o2.trans (m3 z).2.1, fun i hi => (o3 i (by omega)).trans ((m3 z).2.2 i hi)⟩⟩
theorem c_kLay_lp {s n : Nat} {v2 : Int32} (hs : s < 8) (hn : n ≤ 60) (hQ : ∀ g, (∀ i, i < n → g (60 * s + i) = 0) → (∀ j, (j < 60 * s ∨ 60 * s + n ≤ j) → g j = L 2 j) → Q none (xSH, xRF, I, m_r L 2 g)) :
    ∀ (m i : Nat) (g : Nat → Int64), i + m = n → (∀ k, k < i → g (60 * s + k) = 0) → (∀ j, (j < 60 * s ∨ 60 * s + n ≤ j) → g j = L 2 j) → xi_V (xG L0 xs) 61 17 [some (Value.ref 1), some (Value.int (nI s)), some (Value.int v2), some (Value.int (nI n)), some (Value.int (nI i))] [] (xSH, xRF, I, m_r L 2 g) 0 0 Q
  | 0, i, g, hm, h1, h2 => by
    refine b_Slots_lay_17 (pk_le n i (fun c => hQ g (fun k hk => h1 k (by omega)) h2) (fun c => absurd c (by omega)))
  | m + 1, i, g, hm, h1, h2 => by
    refine b_Slots_lay_17 (pk_le n i (fun c => absurd c (by omega)) (fun c => ?_))
    rw [show (60 : Int32) = nI 60 from rfl, pk_mul, nI_add, Nat.mul_comm s 60, nI_clamp (by omega), nI_1, m_ur, m_rs, m_rr]
    refine ⟨pk_in _ 480 (show 60 * s + i < 480 by omega), c_kLay_lp hs hn hQ m (i + 1) _ (by omega) (fun k hk => ?_) (fun j hj => ?_)⟩
    · by_cases e : k = i
      · subst e; exact m_us
      · rw [m_un (by omega)]; exact h1 k (by omega)
    · rw [m_un (by omega)]; exact h2 j hj
theorem o_kRow (h : kR I L D sl x y) {s w n : Nat} (hs : s < 8) (hw : w < 4) (hn : n ≤ 60)
    (hQ : ∀ I' L', kFr I I' L L' → kR I' L' D (slP sl s (n + 1) w (fun _ => 0)) x y → Q (some (Value.int 0)) (xSH, xRF, I', L')) : xi_V (xG L0 xs) 71 0 [some (Value.ref 0), some (Value.int (nI s)), some (Value.int (nI w)), some (Value.int (nI n))] [] (xSH, xRF, I, L) 0 0 Q := by
  refine b_D_row_0 (c_kIsSlot1 hs (b_D_row_4 ⟨fun c => absurd c (by decide), fun _ => ⟨fun c => absurd c (nI_pos (by omega)), fun _ => pk_le 4 w (fun c => absurd c (by omega)) (fun _ => pk_le n 60 (fun _ => ⟨fun _ => b_Slots_lay_0 ⟨pk_in s 8 hs, pk_in s 8 hs, ?_⟩, fun c => absurd (nI_pos' (by omega)) c⟩) (fun c => absurd c (by omega)))⟩⟩))
  rw [nI_clamp (by omega), ← m_r0 (L := L) (k := 2)]
  refine c_kLay_lp hs hn (fun g g1 g2 => b_D_row_42 ?_) n 0 (L 2) (Nat.zero_add n) (fun k hk => absurd hk (Nat.not_lt_zero k)) (fun j _ => rfl)
  have hI : ∀ a, a ≠ 3 → a ≠ 4 → xi_u (xi_u I 3 s (nI w)) 4 s (nI n) a = I a := fun a h1 h2 => by rw [xi_un h2, xi_un h1]
  refine hQ _ _ ⟨fun a ha => hI a (by omega) (by omega), fun a ha => m_rn (by omega)⟩ ⟨h.1, kC_of (fun a _ _ => hI a (by omega) (by omega)) h.2.1, kD_of (fun a ha => hI a (by omega) (by omega)) h.2.2.1, kS_set h.2.2.2.1 ⟨by show n + 1 ≤ 61; omega, ?_, fun _ => ⟨by show w ≤ 3; omega, ?_, fun i hi => ?_⟩⟩ (fun k hk hks => ⟨?_, ?_, fun i hi => ?_⟩), kRes_of (hI 14 (by decide) (by decide)) (m_rn (by decide)) (m_rn (by decide)) h.2.2.2.2.1, fun z => ?_⟩
  · rw [xi_us, zI_n]; congr 1; show (n : Int) = ((n + 1 : Nat) : Int) - 1; omega
  · rw [xi_un (by decide)]; exact xi_us
  · rw [m_rs]; exact g1 i (by have hi : i + 1 < n + 1 := hi
                              omega)
  · rw [xi_uj hks, xi_un (by decide)]
  · rw [xi_un (by decide), xi_uj hks]
  · rw [m_rs]; exact g2 _ (by omega)
  · rw [hI 10 (by decide) (by decide)] at z
    exact kW_of (m_rn (by decide)) (m_rn (by decide)) (m_rn (by decide)) (h.2.2.2.2.2 z)
theorem o_kRow2 {v1 v2 v3 : Int32} (hv : (v1 < 0 ∨ 7 < v1) ∨ v2 < 0 ∨ 3 < v2 ∨ ¬ v3 ≤ 60) (hQ : Q (some (Value.int (-2))) (xSH, xRF, I, L)) : xi_V (xG L0 xs) 71 0 [some (Value.ref 0), some (Value.int v1), some (Value.int v2), some (Value.int v3)] [] (xSH, xRF, I, L) 0 0 Q := by
  rcases pk_ix7 v1 with z | ⟨s, hs, e⟩
  · exact b_D_row_0 (c_kIsSlot0 z (b_D_row_4 ⟨fun _ => hQ, fun c => absurd rfl c⟩))
  · have hv2 := hv.resolve_left (fun z => by
      subst e
      rcases z with z | z
      · exact absurd z (nI_pos (by omega))
      · exact absurd z (nI_nlt (a := 7) (b := s) (by omega) (by decide)))
    subst e
    exact b_D_row_0 (c_kIsSlot1 hs (b_D_row_4 ⟨fun c => absurd c (by decide), fun _ => ⟨fun _ => hQ, fun c2 => ⟨fun _ => hQ, fun c3 => ⟨fun c4 => absurd c4 ((hv2.resolve_left c2).resolve_left (fun z => c3 (lt3.mp z))), fun _ => hQ⟩⟩⟩⟩))
theorem o_kRow3 {s w : Nat} {v3 : Int32} (hs : s < 8) (hw : w < 4) (hv : v3 < 0) (hQ : Q (some (Value.int (-3))) (xSH, xRF, I, L)) : xi_V (xG L0 xs) 71 0 [some (Value.ref 0), some (Value.int (nI s)), some (Value.int (nI w)), some (Value.int v3)] [] (xSH, xRF, I, L) 0 0 Q := by
  have h0 : (0 : Int32).toInt = 0 := by decide
  have h60 : (60 : Int32).toInt = 60 := by decide
  rw [Int32.lt_iff_toInt_lt, h0] at hv
  refine b_D_row_0 (c_kIsSlot1 hs (b_D_row_4 ⟨fun c => absurd c (by decide), fun _ => ⟨fun c => absurd c (nI_pos (by omega)), fun _ => pk_le 4 w (fun c => absurd c (by omega)) (fun _ => ⟨fun _ => ⟨fun c => ?_, fun _ => hQ⟩, fun c => absurd ?_ c⟩)⟩⟩))
  · rw [Int32.le_iff_toInt_le, h0] at c; omega
  · rw [Int32.le_iff_toInt_le, h60]; omega
theorem o_kTear (h : kR I L D sl x y) {s : Nat} (hs : s < 8) (he : (sl s).1 ≠ 0)
    (hQ : ∀ I' L', kFr I I' L L' → kR I' L' D (slP sl s 0 0 (fun _ => 0)) x y → Q (some (Value.int 1)) (xSH, xRF, I', L')) : xi_V (xG L0 xs) 72 0 [some (Value.ref 0), some (Value.int (nI s))] [] (xSH, xRF, I, L) 0 0 Q := by
  refine b_D_tear_0 (c_kIsSlot1 hs (b_D_tear_4 ⟨fun c => absurd c (by decide), fun _ => c_kIsLaid h.2.2.2.1 hs ?_⟩))
  rw [if_neg he]
  refine b_D_tear_15 ⟨fun _ => ⟨pk_in s 8 hs, by decide, ?_⟩, fun c => absurd c (by decide)⟩
  rw [nI_clamp (by omega)]
  have hI : ∀ a, a ≠ 4 → xi_u I 4 s (-1 : Int32) a = I a := fun a h1 => xi_un h1
  refine hQ _ _ ⟨fun a ha => hI a (by omega), fun a ha => rfl⟩ ⟨h.1, kC_of (fun a _ _ => hI a (by omega)) h.2.1, kD_of (fun a ha => hI a (by omega)) h.2.2.1, kS_set h.2.2.2.1 ⟨by decide, ?_, fun z => absurd rfl z⟩ (fun k hk hks => ⟨xi_uj hks, ?_, fun i hi => rfl⟩), kRes_of (hI 14 (by decide)) rfl rfl h.2.2.2.2.1, fun z => ?_⟩
  · rw [xi_us]; decide
  · rw [xi_un (by decide)]
  · rw [hI 10 (by decide)] at z; exact h.2.2.2.2.2 z
theorem o_kTear0 (h : kR I L D sl x y) {v : Int32} (hv : (v < 0 ∨ 7 < v) ∨ ∃ s, s < 8 ∧ v = nI s ∧ (sl s).1 = 0) (hQ : Q (some (Value.int 0)) (xSH, xRF, I, L)) : xi_V (xG L0 xs) 72 0 [some (Value.ref 0), some (Value.int v)] [] (xSH, xRF, I, L) 0 0 Q := by
  rcases hv with z | ⟨s, hs, e, e0⟩
  · exact b_D_tear_0 (c_kIsSlot0 z (b_D_tear_4 ⟨fun _ => ⟨by decide, hQ⟩, fun c => absurd rfl c⟩))
  · subst e
    refine b_D_tear_0 (c_kIsSlot1 hs (b_D_tear_4 ⟨fun c => absurd c (by decide), fun _ => c_kIsLaid h.2.2.2.1 hs ?_⟩))
    rw [if_pos e0]
    exact b_D_tear_15 ⟨fun c => absurd rfl c, fun _ => ⟨by decide, hQ⟩⟩
theorem c_kCut {w : Nat} {v : Int64} (hw : w ≤ 3) (hQ : Q (some (Value.long (cutw w v))) (xSH, xRF, I, L)) : xi_V (xG L0 xs) 64 0 [some (Value.int (nI w)), some (Value.long v), none] [] (xSH, xRF, I, L) 0 0 Q := by
  have e : (nI w).toInt = (w : Int) := nI_toInt (by omega)
  refine b_Slots_cutTo_0 ?_
  rw [e]
  unfold cutw at hQ
  refine ⟨fun c => ?_, fun c => ?_, fun c => ?_, fun c => ?_, trivial⟩
  · rw [if_neg (by omega), if_neg (by omega), if_neg (by omega)] at hQ; exact hQ
  · rw [if_pos (by omega)] at hQ; exact hQ
  · rw [if_neg (by omega), if_pos (by omega)] at hQ; exact hQ
  · rw [if_neg (by omega), if_neg (by omega), if_pos (by omega)] at hQ; exact hQ
theorem o_kWrite (h : kR I L D sl x y) {s i : Nat} {v : Int64} (hs : s < 8) (hi : i + 1 < (sl s).1)
    (hQ : ∀ I' L', kFr I I' L L' → kR I' L' D (slP sl s (sl s).1 (sl s).2.1 (m_u (sl s).2.2 i (cutw (sl s).2.1 v))) x y → Q (some (Value.int 0)) (xSH, xRF, I', L')) : xi_V (xG L0 xs) 73 0 [some (Value.ref 0), some (Value.int (nI s)), some (Value.int (nI i)), some (Value.long v), none] [] (xSH, xRF, I, L) 0 0 Q := by
  have hm := h.2.2.2.1 s hs
  have hm1 := hm.1
  have hm3 := hm.2.2 (by omega)
  refine b_D_write_0 (c_kIsSlot1 hs (b_D_write_4 ⟨fun _ => c_kIsLaid h.2.2.2.1 hs ?_, fun c => absurd c (by decide)⟩))
  rw [if_neg (by omega)]
  refine b_D_write_18 ⟨fun _ => ⟨fun c => absurd c (nI_pos (by omega)), fun _ => ⟨pk_in s 8 hs, ?_⟩⟩, fun c => absurd c (by decide)⟩
  have e4 : I 4 s = nI ((sl s).1 - 1) := by rw [hm.2.1, zI_n]; congr 1; omega
  rw [nI_clamp (show s < 2 ^ 31 by omega), e4]
  refine pk_lt i ((sl s).1 - 1) (fun _ => b_Slots_put_0 ⟨pk_in s 8 hs, ?_⟩) (fun c => absurd c (by omega))
  rw [nI_clamp (show s < 2 ^ 31 by omega), hm3.2.1]
  refine c_kCut hm3.1 (b_Slots_put_20 ?_)
  rw [show (60 : Int32) = nI 60 from rfl, pk_mul, nI_add, Nat.mul_comm s 60, nI_clamp (show 60 * s + i < 2 ^ 31 by omega)]
  refine ⟨pk_in _ 480 (show 60 * s + i < 480 by omega), b_D_write_54 (hQ _ _ ⟨fun a ha => rfl, fun a ha => xi_un (by omega)⟩ ⟨h.1, h.2.1, h.2.2.1, kS_set h.2.2.2.1 ⟨hm.1, hm.2.1, fun z => ⟨hm3.1, hm3.2.1, fun k hk => ?_⟩⟩ (fun k hk hks => ⟨rfl, rfl, fun j hj => xi_uj (by omega)⟩), kRes_of rfl (xi_un (by decide)) (xi_un (by decide)) h.2.2.2.2.1, fun z => kW_of (xi_un (by decide)) (xi_un (by decide)) (xi_un (by decide)) (h.2.2.2.2.2 z)⟩)⟩
  by_cases e : k = i
  · subst e
    show xi_u L 2 (60 * s + k) _ 2 (60 * s + k) = m_u (sl s).2.2 k _ k
    rw [xi_us, m_us]
  · show xi_u L 2 (60 * s + i) _ 2 (60 * s + k) = m_u (sl s).2.2 i _ k
    rw [xi_uj (by omega), m_un e]
    exact hm3.2.2 k hk
theorem o_kWrite2 {v1 v2 : Int32} {v : Int64} (hv : v1 < 0 ∨ 7 < v1) (hQ : Q (some (Value.int (-2))) (xSH, xRF, I, L)) : xi_V (xG L0 xs) 73 0 [some (Value.ref 0), some (Value.int v1), some (Value.int v2), some (Value.long v), none] [] (xSH, xRF, I, L) 0 0 Q :=
  b_D_write_0 (c_kIsSlot0 hv (b_D_write_4 ⟨fun c => absurd rfl c, fun _ => hQ⟩))
theorem o_kWrite5 (h : kR I L D sl x y) {s : Nat} {v2 : Int32} {v : Int64} (hs : s < 8) (he : (sl s).1 = 0) (hQ : Q (some (Value.int (-5))) (xSH, xRF, I, L)) : xi_V (xG L0 xs) 73 0 [some (Value.ref 0), some (Value.int (nI s)), some (Value.int v2), some (Value.long v), none] [] (xSH, xRF, I, L) 0 0 Q := by
  refine b_D_write_0 (c_kIsSlot1 hs (b_D_write_4 ⟨fun _ => c_kIsLaid h.2.2.2.1 hs ?_, fun c => absurd c (by decide)⟩))
  rw [if_pos he]
  exact b_D_write_18 ⟨fun c => absurd rfl c, fun _ => hQ⟩
theorem o_kWrite6 (h : kR I L D sl x y) {s : Nat} {v2 : Int32} {v : Int64} (hs : s < 8) (he : (sl s).1 ≠ 0) (hv : v2 < 0 ∨ nI ((sl s).1 - 1) ≤ v2) (hQ : Q (some (Value.int (-6))) (xSH, xRF, I, L)) : xi_V (xG L0 xs) 73 0 [some (Value.ref 0), some (Value.int (nI s)), some (Value.int v2), some (Value.long v), none] [] (xSH, xRF, I, L) 0 0 Q := by
  have hm := h.2.2.2.1 s hs
  have hm1 := hm.1
  refine b_D_write_0 (c_kIsSlot1 hs (b_D_write_4 ⟨fun _ => c_kIsLaid h.2.2.2.1 hs ?_, fun c => absurd c (by decide)⟩))
  rw [if_neg he]
  have e4 : I 4 s = nI ((sl s).1 - 1) := by rw [hm.2.1, zI_n]; congr 1; omega
  refine b_D_write_18 ⟨fun _ => ⟨fun _ => hQ, fun c => ⟨pk_in s 8 hs, ?_⟩⟩, fun c => absurd c (by decide)⟩
  rw [nI_clamp (show s < 2 ^ 31 by omega), e4]
  refine ⟨fun c2 => ?_, fun _ => hQ⟩
  have := hv.resolve_left c
  rw [Int32.le_iff_toInt_le] at this
  rw [Int32.lt_iff_toInt_lt] at c2
  omega
theorem o_kDrawn (h : kR I L D sl x y) {k n : Nat} (hk : k < 4) (hnk : n ≤ hN D k)
    (hQ : ∀ I' L', kFr I I' L L' → kR I' L' (setd D k n) sl x y → Q (some (Value.int 0)) (xSH, xRF, I', L')) : xi_V (xG L0 xs) 75 0 [some (Value.ref 0), some (Value.int (nI k)), some (Value.int (nI n))] [] (xSH, xRF, I, L) 0 0 Q := by
  have h10 := h.1.1.1
  have n1 := hn_le D k (qN D)
  have e1 : hN D k = hn D k (qN D) := rfl
  refine b_D_drawn_0 (c_kIsHeap1 hk (b_D_drawn_4 ⟨fun _ => ⟨fun c => absurd c (nI_pos (by omega)), fun _ => c_kHeapNames h.1.1 h.2.1 hk (b_D_drawn_23 (pk_le n (hN D k) (fun _ => ⟨pk_in k 4 hk, by decide, ?_⟩) (fun c => absurd c (by omega)) rfl rfl (by omega) (by omega)))⟩, fun c => absurd c (by decide)⟩))
  rw [nI_clamp (by omega)]
  have hI : ∀ a, a ≠ 11 → a ≠ 10 → xi_u (xi_u I 11 k (nI n)) 10 3 (1 : Int32) a = I a := fun a h1 h2 => by rw [xi_un h2, xi_un h1]
  have h10' : ∀ b, b ≠ 3 → xi_u (xi_u I 11 k (nI n)) 10 3 (1 : Int32) 10 b = I 10 b := fun b hb => by rw [xi_uj hb, xi_un (by decide)]
  have eS : ∀ j m, hS (setd D k n) j m = hS D j m := by
    intro j m
    induction m with
    | zero => rfl
    | succ m ih => rw [hS, hS, ih]; rfl
  refine hQ _ _ ⟨fun a ha => hI a (by omega) (by omega), fun a ha => rfl⟩ ⟨okD_d h.1 hnk, ?_, ?_, kS_of (hI 3 (by decide) (by decide)) (hI 4 (by decide) (by decide)) rfl h.2.2.2.1, kRes_of (hI 14 (by decide) (by decide)) rfl rfl h.2.2.2.2.1, fun z => absurd (xi_us.symm.trans z) (by decide)⟩
  · have := h.2.1
    unfold kC at this ⊢
    rw [hI 5 (by decide) (by decide), hI 6 (by decide) (by decide), hI 7 (by decide) (by decide), hI 8 (by decide) (by decide), hI 9 (by decide) (by decide)]
    refine ⟨this.1, this.2.1, fun j hj => ?_⟩
    rw [eS]; exact this.2.2 j hj
  · have := h.2.2.1
    unfold kD at this ⊢
    rw [h10' 0 (by decide), h10' 1 (by decide), xi_un (show 11 ≠ 10 by decide)]
    refine ⟨this.1, this.2.1, fun j hj => ?_⟩
    show xi_u I 11 k (nI n) 11 j = nI (if j = k then n else qd D j)
    by_cases e : j = k
    · subst e; rw [xi_us, if_pos rfl]
    · rw [xi_uj e, if_neg e]; exact this.2.2 j hj
theorem o_kDrawn2 {v w : Int32} (hv : v < 0 ∨ 3 < v) (hQ : Q (some (Value.int (-2))) (xSH, xRF, I, L)) : xi_V (xG L0 xs) 75 0 [some (Value.ref 0), some (Value.int v), some (Value.int w)] [] (xSH, xRF, I, L) 0 0 Q :=
  b_D_drawn_0 (c_kIsHeap0 hv (b_D_drawn_4 ⟨fun c => absurd rfl c, fun _ => hQ⟩))
theorem o_kDrawn4 (h : kR I L D sl x y) {k : Nat} {w : Int32} (hk : k < 4) (hv : w < 0 ∨ ¬ w ≤ nI (hN D k)) (hQ : Q (some (Value.int (-4))) (xSH, xRF, I, L)) : xi_V (xG L0 xs) 75 0 [some (Value.ref 0), some (Value.int (nI k)), some (Value.int w)] [] (xSH, xRF, I, L) 0 0 Q :=
  b_D_drawn_0 (c_kIsHeap1 hk (b_D_drawn_4 ⟨fun _ => ⟨fun _ => hQ, fun c => c_kHeapNames h.1.1 h.2.1 hk (b_D_drawn_23 ⟨fun c2 => absurd c2 (hv.resolve_left c), fun _ => hQ⟩)⟩, fun c => absurd c (by decide)⟩))
theorem kR_K {k n : Nat} (h : kR I L D sl x y) (ok : okD (setK D k n)) : kR (xi_u (xi_u (xi_u I 10 0 (nI k)) 10 1 (nI n)) 10 3 1) L (setK D k n) sl x y ∧ kFr I (xi_u (xi_u (xi_u I 10 0 (nI k)) 10 1 (nI n)) 10 3 1) L L := by
  have hI : ∀ a, a ≠ 10 → xi_u (xi_u (xi_u I 10 0 (nI k)) 10 1 (nI n)) 10 3 (1 : Int32) a = I a := fun a h1 => by rw [xi_un h1, xi_un h1, xi_un h1]
  have eS : ∀ j m, hS (setK D k n) j m = hS D j m := by
    intro j m
    induction m with
    | zero => rfl
    | succ m ih => rw [hS, hS, ih]; rfl
  refine ⟨⟨ok, ?_, ?_, kS_of (hI 3 (by decide)) (hI 4 (by decide)) rfl h.2.2.2.1, kRes_of (hI 14 (by decide)) rfl rfl h.2.2.2.2.1, fun z => absurd (xi_us.symm.trans z) (by decide)⟩, fun a ha => hI a (by omega), fun a ha => rfl⟩
  · have := h.2.1
    unfold kC at this ⊢
    rw [hI 5 (by decide), hI 6 (by decide), hI 7 (by decide), hI 8 (by decide), hI 9 (by decide)]
    refine ⟨this.1, this.2.1, fun j hj => ?_⟩
    rw [eS]; exact this.2.2 j hj
  · have := h.2.2.1
    unfold kD at this ⊢
    rw [hI 11 (by decide), xi_uj (by decide), xi_uj (by decide), xi_us, xi_uj (by decide), xi_us]
    exact ⟨rfl, rfl, this.2.2⟩
theorem o_kDrawA (h : kR I L D sl x y) {k : Nat} {v : Int32} (hk : k = 1 ∨ k = 3)
    (hQ : ∀ I' L', kFr I I' L L' → kR I' L' (setK D k 0) sl x y → Q (some (Value.int 0)) (xSH, xRF, I', L')) : xi_V (xG L0 xs) 76 0 [some (Value.ref 0), some (Value.int (nI k)), some (Value.int v)] [] (xSH, xRF, I, L) 0 0 Q := by
  have h10 := h.1.1.1
  have ok : okD (setK D k 0) := okD_K h.1 (by omega) (by omega) (fun z => by omega) (fun _ => rfl)
  have := kR_K h ok
  have go : xi_V (xG L0 xs) 76 22 [some (Value.ref 0), some (Value.int (nI k)), some (Value.int v)] [] (xSH, xRF, I, L) 0 0 Q := b_D_draw_22 (b_Lots_choose_0 ⟨by decide, b_D_draw_31 (hQ _ _ this.2 this.1)⟩)
  refine b_D_draw_0 ⟨fun c => absurd c (nI_pos (by omega)), fun _ => pk_le k 4 (fun _ => ⟨fun _ => go, fun e1 => ⟨fun e3 => ?_, fun _ => go⟩⟩) (fun c => absurd c (by omega))⟩
  rcases hk with z | z <;> subst z
  · exact absurd rfl e1
  · exact absurd rfl e3
theorem c_kStep_lp (hC : okC D) (hI : kC I D) {n : Nat} (hn : n ≤ 10)
    (hQ : ((∀ i, i < qN D → qZ D i * n ≤ qT D) → Q (some (Value.int 1)) (xSH, xRF, I, L)) ∧ ((∃ i, i < qN D ∧ ¬ qZ D i * n ≤ qT D) → Q (some (Value.int 0)) (xSH, xRF, I, L))) :
    ∀ m i : Nat, i + m = qN D → (∀ k, k < i → qZ D k * n ≤ qT D) → xi_V (xG L0 xs) 98 17 [some (Value.ref 0), some (Value.int (nI n)), some (Value.int (nI (qT D))), some (Value.int (nI i))] [] (xSH, xRF, I, L) 0 0 Q := by
  have h10 := hC.1
  have hT := qT_le hC
  intro m
  induction m with
  | zero =>
    intro i hm hk
    refine b_D_canStep_17 ?_
    rw [hI.1]
    refine pk_le (qN D) i (fun c => ⟨by decide, hQ.1 (fun k hk2 => hk k (by omega))⟩) (fun c => absurd c (by omega))
  | succ m ih =>
    intro i hm hk
    refine b_D_canStep_17 ?_
    rw [hI.1]
    refine pk_le (qN D) i (fun c => absurd c (by omega)) (fun c => ⟨pk_in i 10 (by omega), ?_⟩)
    have hZ := (hC.2 i c).2.1
    have hZn : qZ D i * n ≤ 50 * 10 := Nat.mul_le_mul hZ.2 hn
    rw [nI_clamp (by omega), (hI.2.1 i c).2.1, pk_mul]
    refine pk_le (qZ D i * n) (qT D) (fun c2 => ?_) (fun c2 => ⟨by decide, hQ.2 ⟨i, c, by omega⟩⟩)
    rw [nI_1]
    refine ih (i + 1) (by omega) (fun k hk2 => ?_)
    by_cases e : k = i
    · subst e; exact c2
    · exact hk k (by omega)
theorem o_kDrawB (h : kR I L D sl x y) {k n : Nat} (hk : k = 0 ∨ k = 2 ∨ k = 4) (hn : n ≤ qN D) (h2 : k = 2 → 1 ≤ n)
    (hQ : ((k = 2 → ∀ i, i < qN D → qZ D i * n ≤ qT D) → ∀ I' L', kFr I I' L L' → kR I' L' (setK D k n) sl x y → Q (some (Value.int 0)) (xSH, xRF, I', L')) ∧ ((k = 2 ∧ ∃ i, i < qN D ∧ ¬ qZ D i * n ≤ qT D) → Q (some (Value.int (-4))) (xSH, xRF, I, L))) : xi_V (xG L0 xs) 76 0 [some (Value.ref 0), some (Value.int (nI k)), some (Value.int (nI n))] [] (xSH, xRF, I, L) 0 0 Q := by
  have h10 := h.1.1.1
  have fin : (k = 2 → ∀ i, i < qN D → qZ D i * n ≤ qT D) → xi_V (xG L0 xs) 76 64 [some (Value.ref 0), some (Value.int (nI k)), some (Value.int (nI n))] [] (xSH, xRF, I, L) 0 0 Q := by
    intro hz
    have ok : okD (setK D k n) := okD_K h.1 (by omega) hn (fun z => ⟨h2 z, hz z⟩) (fun z => by omega)
    have := kR_K h ok
    exact b_D_draw_64 (b_Lots_choose_0 ⟨by decide, b_D_draw_73 (hQ.1 hz _ _ this.2 this.1)⟩)
  refine b_D_draw_0 ⟨fun c => absurd c (nI_pos (by omega)), fun _ => pk_le k 4 (fun _ => ⟨fun e => ?_, fun _ => ⟨fun _ => ⟨fun c => absurd c (nI_pos (by omega)), fun _ => ?_⟩, fun e => ?_⟩⟩) (fun c => absurd c (by omega))⟩
  · exact absurd ((nI_eq (b := 1) (by omega) (by decide)).mp e) (by omega)
  · rw [h.2.1.1]
    refine pk_lt (qN D) n (fun c => absurd c (by omega)) (fun _ => ⟨fun e => fin (fun z => absurd (by rw [z]; rfl) e), fun e => ?_⟩)
    have e2 : k = 2 := (nI_eq (b := 2) (by omega) (by decide)).mp e
    subst e2
    have hn1 := h2 rfl
    refine b_D_canStep_0 (pk_le 1 n (fun _ => c_kSizes h.1.1 h.2.1 (b_D_canStep_14 ?_)) (fun c => absurd c (by omega)))
    exact c_kStep_lp h.1.1 h.2.1 (by omega) ⟨fun z => b_D_draw_58 ⟨fun _ => fin (fun _ => z), fun c => absurd c (by decide)⟩, fun z => b_D_draw_58 ⟨fun c => absurd rfl c, fun _ => hQ.2 ⟨rfl, z⟩⟩⟩ (qN D) 0 (Nat.zero_add _) (fun k hk => absurd hk (Nat.not_lt_zero k))
  · exact absurd ((nI_eq (b := 3) (by omega) (by decide)).mp e) (by omega)
theorem o_kDraw2 {v w : Int32} (hv : v < 0 ∨ ¬ v ≤ 4) (hQ : Q (some (Value.int (-2))) (xSH, xRF, I, L)) : xi_V (xG L0 xs) 76 0 [some (Value.ref 0), some (Value.int v), some (Value.int w)] [] (xSH, xRF, I, L) 0 0 Q :=
  b_D_draw_0 ⟨fun _ => hQ, fun c => ⟨fun c2 => absurd c2 (hv.resolve_left c), fun _ => hQ⟩⟩
theorem o_kDraw4 (h : kR I L D sl x y) {k : Nat} {w : Int32} (hk : k = 0 ∨ k = 2 ∨ k = 4) (hw : w < (if k = 2 then 1 else 0) ∨ ¬ w ≤ nI (qN D)) (hQ : Q (some (Value.int (-4))) (xSH, xRF, I, L)) : xi_V (xG L0 xs) 76 0 [some (Value.ref 0), some (Value.int (nI k)), some (Value.int w)] [] (xSH, xRF, I, L) 0 0 Q := by
  have h10 := h.1.1.1
  have t0 : (0 : Int32).toInt = 0 := by decide
  have t1 : (1 : Int32).toInt = 1 := by decide
  refine b_D_draw_0 ⟨fun c => absurd c (nI_pos (by omega)), fun _ => pk_le k 4 (fun _ => ⟨fun e => ?_, fun _ => ⟨fun _ => ⟨fun _ => hQ, fun c => ?_⟩, fun e => ?_⟩⟩) (fun c => absurd c (by omega))⟩
  · exact absurd ((nI_eq (b := 1) (by omega) (by decide)).mp e) (by omega)
  · rw [h.2.1.1]
    refine ⟨fun _ => hQ, fun c2 => ?_⟩
    have hle : w ≤ nI (qN D) := by
      rw [Int32.lt_iff_toInt_lt] at c2
      rw [Int32.le_iff_toInt_le]
      omega
    have hw2 := hw.resolve_right (fun z => z hle)
    by_cases e2 : k = 2
    · rw [if_pos e2] at hw2
      refine ⟨fun e => absurd (by rw [e2]; rfl) e, fun _ => b_D_canStep_0 ⟨fun c3 => ?_, fun _ => ⟨by decide, b_D_draw_58 ⟨fun c => absurd rfl c, fun _ => hQ⟩⟩⟩⟩
      rw [Int32.lt_iff_toInt_lt] at hw2
      rw [Int32.le_iff_toInt_le] at c3
      omega
    · rw [if_neg e2] at hw2
      exact absurd hw2 c
  · exact absurd ((nI_eq (b := 3) (by omega) (by decide)).mp e) (by omega)
theorem c_kAll_lp (hD : kD I D) (hQ : Q (some (Value.int (nI (qd D 0 + qd D 1 + qd D 2 + qd D 3)))) (xSH, xRF, I, L)) : xi_V (xG L0 xs) 40 0 [some (Value.ref 10), none, none] [] (xSH, xRF, I, L) 0 0 Q := by
  refine b_Lots_fromAllHeaps_0 (b_Lots_fromAllHeaps_4 (pk_le 4 0 (fun c => absurd c (by decide)) (fun _ => ⟨pk_in 0 4 (by decide), ?_⟩)))
  rw [show (0 : Int32).toNatClampNeg = 0 from rfl, hD.2.2 0 (by decide), show (0 : Int32) = nI 0 from rfl, nI_add, nI_1]
  refine b_Lots_fromAllHeaps_4 (pk_le 4 1 (fun c => absurd c (by decide)) (fun _ => ⟨pk_in 1 4 (by decide), ?_⟩))
  rw [nI_clamp (by decide), hD.2.2 1 (by decide), nI_add, nI_1]
  refine b_Lots_fromAllHeaps_4 (pk_le 4 2 (fun c => absurd c (by decide)) (fun _ => ⟨pk_in 2 4 (by decide), ?_⟩))
  rw [nI_clamp (by decide), hD.2.2 2 (by decide), nI_add, nI_1]
  refine b_Lots_fromAllHeaps_4 (pk_le 4 3 (fun c => absurd c (by decide)) (fun _ => ⟨pk_in 3 4 (by decide), ?_⟩))
  rw [nI_clamp (by decide), hD.2.2 3 (by decide), nI_add, nI_1]
  refine b_Lots_fromAllHeaps_4 (pk_le 4 4 (fun c => ?_) (fun c => absurd c (by decide)))
  rw [Nat.zero_add]
  exact hQ
theorem c_kLaid_lp (hS : kS I L sl) (hQ : Q (some (Value.int (nI (laidN sl 8)))) (xSH, xRF, I, L)) : ∀ m s : Nat, s + m = 8 → xi_V (xG L0 xs) 60 4 [some (Value.ref 1), some (Value.int (nI (laidN sl s))), some (Value.int (nI s))] [] (xSH, xRF, I, L) 0 0 Q
  | 0, s, hm => by
    refine b_Slots_laid_4 (pk_le 8 s (fun c => ?_) (fun c => absurd c (by omega)))
    rw [show s = 8 by omega]
    exact hQ
  | m + 1, s, hm => by
    refine b_Slots_laid_4 (pk_le 8 s (fun c => absurd c (by omega)) (fun c => c_kIsLaid hS c ?_))
    have ih := c_kLaid_lp hS hQ m (s + 1) (by omega)
    rw [laidN] at ih
    by_cases e : (sl s).1 = 0
    · rw [if_pos e] at ih ⊢
      refine b_Slots_laid_15 ⟨fun _ => ?_, fun c => absurd rfl c⟩
      rw [nI_1]; exact ih
    · rw [if_neg e] at ih ⊢
      refine b_Slots_laid_15 ⟨fun c => absurd c (by decide), fun _ => ?_⟩
      rw [nI_1, nI_1]; exact ih
theorem o_kCount (h : kR I L D sl x y) {v : Int32} (hQ : Q (some (Value.int (cntD D sl v))) (xSH, xRF, I, L)) : xi_V (xG L0 xs) 92 0 [some (Value.ref 0), some (Value.int v)] [] (xSH, xRF, I, L) 0 0 Q := by
  have h10 := h.1.1.1
  have hD := h.2.2.1
  have t10 : (10 : Int32).toInt = 10 := by decide
  have t14 : (14 : Int32).toInt = 14 := by decide
  have t20 : (20 : Int32).toInt = 20 := by decide
  have t24 : (24 : Int32).toInt = 24 := by decide
  have hv := fb_rng v
  refine b_D_count_0 ⟨fun c => b_D_countOfHeap_0 ?_, fun c => ?_, fun c => ?_, fun c => ?_, fun c => ?_, trivial⟩
  · have go24 : (v.toInt < 10 ∨ 13 < v.toInt) → xi_V (xG L0 xs) 93 24 [some (Value.ref 0), some (Value.int v)] [] (xSH, xRF, I, L) 0 0 (fun o σ' => xi_V (xG L0 xs) 92 90 [some (Value.ref 0), some (Value.int v)] (o.toList ++ []) σ' 0 0 Q) := by
      intro c1
      refine b_D_countOfHeap_24 ?_
      rw [Int32.lt_iff_toInt_lt, Int32.le_iff_toInt_le, t20, t24]
      unfold cntD at hQ
      rw [if_neg (by omega), if_neg (by omega), if_neg (by omega), if_neg (by omega), if_neg (by omega)] at hQ
      refine ⟨fun c => b_D_count_90 ?_, fun c => ⟨fun c' => b_D_count_90 ?_, fun c' => ?_⟩⟩
      · rw [if_neg (by omega)] at hQ; exact hQ
      · rw [if_neg (by omega)] at hQ; exact hQ
      · rw [if_pos (by omega)] at hQ
        obtain ⟨n, hn⟩ : ∃ n : Nat, v.toInt = ((20 + n : Nat) : Int) := ⟨(v.toInt - 20).toNat, by omega⟩
        have ev := nI_of_toInt hn
        rw [show (v.toInt - 20).toNat = n by omega] at hQ
        rw [ev, show (20 : Int32) = nI 20 from rfl, pk_sub (by omega), show 20 + n - 20 = n by omega, nI_clamp (by omega), hD.2.2 n (by omega)]
        exact ⟨pk_in n 4 (by omega), b_D_count_90 hQ⟩
    rw [Int32.lt_iff_toInt_lt, Int32.le_iff_toInt_le, t10, t14]
    refine ⟨fun c2 => go24 (Or.inl c2), fun c2 => ⟨fun c3 => go24 (Or.inr (by omega)), fun c3 => ?_⟩⟩
    obtain ⟨n, hn⟩ : ∃ n : Nat, v.toInt = ((10 + n : Nat) : Int) := ⟨(v.toInt - 10).toNat, by omega⟩
    have ev := nI_of_toInt hn
    unfold cntD at hQ
    rw [if_neg (by omega), if_neg (by omega), if_neg (by omega), if_neg (by omega), if_pos (by omega), show (v.toInt - 10).toNat = n by omega] at hQ
    rw [ev, show (10 : Int32) = nI 10 from rfl, pk_sub (by omega), show 10 + n - 10 = n by omega]
    exact c_kHeapNames h.1.1 h.2.1 (by omega) (b_D_countOfHeap_23 (b_D_count_90 hQ))
  · unfold cntD at hQ
    rw [if_pos c] at hQ
    rw [h.2.1.1]; exact hQ
  · unfold cntD at hQ
    rw [if_neg (by omega), if_pos c] at hQ
    rw [hD.1]; exact hQ
  · unfold cntD at hQ
    rw [if_neg (by omega), if_neg (by omega), if_pos c] at hQ
    rw [hD.1]
    refine ⟨fun e => ?_, fun e => ?_⟩
    · rw [if_neg (fun z => e (by rw [z]; rfl))] at hQ
      rw [hD.2.1]; exact hQ
    · have hK := h.1.2.1
      rw [if_pos ((nI_eq (b := 1) (by omega) (by decide)).mp e)] at hQ
      exact c_kAll_lp hD (b_D_count_66 hQ)
  · unfold cntD at hQ
    rw [if_neg (by omega), if_neg (by omega), if_neg (by omega), if_pos c] at hQ
    exact b_Slots_laid_0 (c_kLaid_lp h.2.2.2.1 (b_D_count_84 hQ) 8 0 rfl)
theorem o_kLook (h : kR I L D sl x y) {v : Int32}
    (hQ : (v = 0 → Q (some (Value.int (if x = 0 then 0 else if x < 0 then -1 else 1))) (xSH, xRF, I, L)) ∧ (∀ n, v = 1 → isLen x.natAbs n → Q (some (Value.int (nI n))) (xSH, xRF, I, L)) ∧ (∀ n, v = 2 → isLen y.natAbs n → Q (some (Value.int (nI n))) (xSH, xRF, I, L)) ∧ ((¬ v = 0 ∧ ¬ v = 1 ∧ ¬ v = 2) → Q (some (Value.int (-1))) (xSH, xRF, I, L))) : xi_V (xG L0 xs) 90 0 [some (Value.ref 0), some (Value.int v)] [] (xSH, xRF, I, L) 0 0 Q := by
  obtain ⟨r1, r2, r3, r4⟩ := h.2.2.2.2.1
  have is : ∀ n : Nat, v.toInt = (n : Int) → v = nI n := fun n hn => nI_of_toInt hn
  have isn : ∀ n : Nat, n < 100 → v = nI n → v.toInt = (n : Int) := fun n hn e => by rw [e]; exact nI_toInt (by omega)
  refine b_D_look_0 ⟨fun c => hQ.2.2.2 ⟨fun e => ?_, fun e => ?_, fun e => ?_⟩, fun c => ?_, fun c => ?_, fun c => ?_, trivial⟩
  · have := isn 0 (by decide) e; omega
  · have := isn 1 (by decide) e; omega
  · have := isn 2 (by decide) e; omega
  · have := hQ.1 (is 0 c)
    rw [r1]
    by_cases e : x = 0
    · rw [if_pos e] at this; rw [e]; exact this
    · rw [if_neg e] at this
      by_cases e2 : x < 0
      · rw [if_pos e2] at this; rw [Int.sign_eq_neg_one_of_neg e2]; exact this
      · rw [if_neg e2] at this; rw [Int.sign_eq_one_of_pos (by omega)]; exact this
  · exact c_bLen (Or.inl ⟨rfl, rfl⟩) r2 (fun n hn => b_D_look_46 (hQ.2.1 n (is 1 c) hn))
  · exact c_bLen (Or.inr ⟨rfl, rfl⟩) (v := y.natAbs) (by rw [show ((y.natAbs : Nat) : Int) = y by omega]; exact r3) (fun n hn => b_D_look_57 (hQ.2.2.1 n (is 2 c) hn))
theorem Bx_dg {g : Nat → Int64} {v i : Nat} (h : Bx g (v : Int)) (hi : i < 20) : (g i).toInt32 = nI (dg v i) := by
  have hd := dg_of (z := fun k => (g k).toInt) (n := 20) h.1 h.2 hi
  have hd : (g i).toInt = (dg v i : Int) := hd
  have hlt : dg v i < 1000000000 := Nat.mod_lt _ (by decide)
  rw [l2i, hd]
  rfl
theorem dg_hi {v i : Nat} (h : v < 1000000000 ^ 20) (hi : 20 ≤ i) : dg v i = 0 := by
  unfold dg
  have : 1000000000 ^ 20 ≤ 1000000000 ^ i := Nat.pow_le_pow_right (by decide) hi
  rw [Nat.div_eq_of_lt (by omega)]
theorem o_kPart (h : kR I L D sl x y) {b v : Int32} 
    (hQ : (v < 0 ∨ ¬ v < 44 → Q (some (Value.int 0)) (xSH, xRF, I, L)) ∧ (∀ i : Nat, i < 44 → v = nI i → Q (some (Value.int (nI (dg (if b = 0 then x.natAbs else y.natAbs) i)))) (xSH, xRF, I, L))) : xi_V (xG L0 xs) 91 0 [some (Value.ref 0), some (Value.int b), some (Value.int v)] [] (xSH, xRF, I, L) 0 0 Q := by
  obtain ⟨r1, r2, r3, r4⟩ := h.2.2.2.2.1
  have t0 : (0 : Int32).toInt = 0 := by decide
  have t20 : (20 : Int32).toInt = 20 := by decide
  have t44 : (44 : Int32).toInt = 44 := by decide
  have r3' : Bx (L 18) ((y.natAbs : Nat) : Int) := by rw [show ((y.natAbs : Nat) : Int) = y by omega]; exact r3
  have b2 := (Bx_b r2).2
  have b3 := (Bx_b r3').2
  rw [nBn] at b2 b3
  have b2 := Int.ofNat_lt.mp b2
  have b3 := Int.ofNat_lt.mp b3
  refine b_D_part_0 ⟨fun c => hQ.1 (Or.inl c), fun c => ⟨fun c2 => ?_, fun c2 => ?_⟩⟩
  · rw [Int32.lt_iff_toInt_lt, t0] at c
    rw [Int32.lt_iff_toInt_lt, t20] at c2
    obtain ⟨i, hi⟩ : ∃ i : Nat, v.toInt = (i : Int) := ⟨v.toInt.toNat, by omega⟩
    have ev := nI_of_toInt hi
    have hi20 : i < 20 := by omega
    have q1 := hQ.2 i (by omega) ev
    subst ev
    rw [b_k hi20]
    refine ⟨fun e => ⟨b_v hi20, ?_⟩, fun e => ⟨b_v hi20, ?_⟩⟩
    · rw [if_pos e] at q1; rw [Bx_dg r2 hi20]; exact q1
    · rw [if_neg e] at q1; rw [Bx_dg r3' hi20]; exact q1
  · by_cases c3 : v < 44
    · rw [Int32.lt_iff_toInt_lt, t0] at c
      rw [Int32.lt_iff_toInt_lt, t20] at c2
      rw [Int32.lt_iff_toInt_lt, t44] at c3
      obtain ⟨i, hi⟩ : ∃ i : Nat, v.toInt = (i : Int) := ⟨v.toInt.toNat, by omega⟩
      have ev := nI_of_toInt hi
      have q1 := hQ.2 i (by omega) ev
      have e : dg (if b = 0 then x.natAbs else y.natAbs) i = 0 := by
        split
        · exact dg_hi b2 (by omega)
        · exact dg_hi b3 (by omega)
      rw [e] at q1
      exact q1
    · exact hQ.1 (Or.inr c3)
/-- V as the class has it -/
theorem v_same {D : xD} (hC : okC D) (h : Nat) : ((hN D h : Int) * offD D (hS D h (qN D))) * 2520 = vD D h * vB D h ∧ 1 ≤ vB D h ∧ vB D h ≤ 9 ∧ 0 ≤ (hN D h : Int) * offD D (hS D h (qN D)) ∧ (hN D h : Int) * offD D (hS D h (qN D)) ≤ 10000000 := by
  have h10 := hC.1.2
  have n1 := hn_le D h (qN D)
  have e1 : hN D h = hn D h (qN D) := rfl
  have hoff := off_nn hC (hS_lt D h (qN D))
  have hof2 := off_le hC (hS D h (qN D))
  have hb := mulb (x := (hN D h : Int)) (y := offD D (hS D h (qN D))) (A := 10) (B := 1000000) (by omega) ⟨hoff, hof2⟩
  unfold vD vB
  by_cases c : hN D h < 2
  · rw [if_pos c, if_pos c, Int.zero_mul]
    refine ⟨?_, by decide, by decide, hb.1, hb.2⟩
    rcases (show hN D h = 0 ∨ hN D h = 1 by omega) with z | z
    · rw [z]; simp
    · have h2 := (off_nn0 D (hS D h (qN D)) (qN D))
      have hbc : bc (hS D h (qN D)) (qN D) = 1 := by rw [hS_bc D h _ (Nat.le_refl _)]; exact z
      have key : offD D (hS D h (qN D)) = 0 := by
        -- one name: its square less its square
        have one : ∀ n, n ≤ qN D → (bc (hS D h (qN D)) n = 0 → sqs D (hS D h (qN D)) n = 0 ∧ sws D (hS D h (qN D)) n = 0) ∧ (bc (hS D h (qN D)) n = 1 → sqs D (hS D h (qN D)) n = sws D (hS D h (qN D)) n * sws D (hS D h (qN D)) n) := by
          intro n
          induction n with
          | zero => intro _; exact ⟨fun _ => ⟨rfl, rfl⟩, fun z => absurd (show (0 : Nat) = 1 from z) (by decide)⟩
          | succ n ih =>
            intro hn'
            obtain ⟨i1, i2⟩ := ih (by omega)
            unfold sqs sws at *
            rw [bc, sm_s, sm_s]
            rcases bt_01 (hS D h (qN D)) n with b | b
            · rw [b]
              simp only [Int.natCast_zero, Int.zero_mul, Int.add_zero, Nat.add_zero]
              exact ⟨i1, i2⟩
            · rw [b]
              simp only [Int.natCast_one, Int.one_mul]
              refine ⟨fun z => by omega, fun z => ?_⟩
              obtain ⟨a1, a2⟩ := i1 (by omega)
              rw [a1, a2, Int.zero_add, Int.zero_add]
        have o1 := (one (qN D) (Nat.le_refl _)).2 hbc
        unfold offD
        rw [hS_N hC, z, o1, Int.natCast_one, Int.one_mul, Int.sub_self]
      rw [key, Int.mul_zero, Int.zero_mul]
  · rw [if_neg c, if_neg c]
    refine ⟨?_, by omega, by omega, hb.1, hb.2⟩
    have hd : (2520 : Int) / ((hN D h : Int) - 1) * ((hN D h : Int) - 1) = 2520 := by
      have : ∀ m : Fin 9, (2520 : Int) / ((m.val : Int) + 1) * ((m.val : Int) + 1) = 2520 := by decide
      have := this ⟨hN D h - 2, by omega⟩
      rw [show (((⟨hN D h - 2, by omega⟩ : Fin 9).val : Nat) : Int) + 1 = (hN D h : Int) - 1 by show ((hN D h - 2 : Nat) : Int) + 1 = _; omega] at this
      exact this
    rw [Int.mul_assoc ((hN D h : Int) * offD D (hS D h (qN D))), hd]
theorem o_kHeap (h : kR I L D sl x y) {k : Nat} (hk : k < 4)
    (hQ : ∀ I' L', kFr I I' L L' → kR I' L' D sl (rN (vD D k) 2520) (rD (vD D k) 2520) → Q (some (Value.int 1)) (xSH, xRF, I', L')) : xi_V (xG L0 xs) 85 0 [some (Value.ref 0), some (Value.int (nI k))] [] (xSH, xRF, I, L) 0 0 Q := by
  have hv := v_same h.1.1 k
  refine b_D_heap_0 (c_kIsHeap1 hk (b_D_heap_4 ⟨fun _ => c_kTop h.1.1 h.2.1 hk (b_D_heap_21 (c_kBot h.1.1 h.2.1 hk (b_D_heap_29 ?_))), fun c => absurd c (by decide)⟩))
  refine c_fPut (by omega) (by omega) (fun I' L' f1 f2 r => b_D_heap_32 ⟨by decide, ?_⟩)
  have e := rN_eq (a := (hN D k : Int) * offD D (hS D k (qN D))) (b := vB D k) (c := vD D k) (d := 2520) (by omega) (by decide) hv.1
  rw [e.1, e.2] at r
  have := kR_res h f1 (fun a a1 a2 a3 _ _ => f2 a a1 a2 a3) r
  exact hQ _ _ this.2 this.1
theorem o_kHeap0 {v : Int32} (hv : v < 0 ∨ 3 < v) (hQ : Q (some (Value.int 0)) (xSH, xRF, I, L)) : xi_V (xG L0 xs) 85 0 [some (Value.ref 0), some (Value.int v)] [] (xSH, xRF, I, L) 0 0 Q :=
  b_D_heap_0 (c_kIsHeap0 hv (b_D_heap_4 ⟨fun c => absurd rfl c, fun _ => ⟨by decide, hQ⟩⟩))
end KO
