/-! row, tear, write, drawn, draw, count, look, part of the model -/
def cutw (w : Nat) (v : Int64) : Int64 := if w = 0 then (Int32.toInt64 ((Int32.toInt8 (Int64.toInt32 v)).toInt32)) else if w = 1 then (Int32.toInt64 ((Int32.toInt16 (Int64.toInt32 v)).toInt32)) else if w = 2 then Int32.toInt64 (Int64.toInt32 v) else v
def setd (D : xD) (h n : Nat) : xD := (D.1, D.2.1, D.2.2.1, D.2.2.2.1, D.2.2.2.2.1, D.2.2.2.2.2.1, D.2.2.2.2.2.2.1, fun k => if k = h then n else D.2.2.2.2.2.2.2 k)
def setK (D : xD) (k n : Nat) : xD := (D.1, D.2.1, D.2.2.1, D.2.2.2.1, D.2.2.2.2.1, k, n, D.2.2.2.2.2.2.2)
theorem hn_ext {D E : xD} (h : ∀ i, qH D i = qH E i) (k : Nat) : ∀ n, hn D k n = hn E k n
  | 0 => rfl
  | n + 1 => by rw [hn, hn, hn_ext h k n, h n]
theorem sz_ext {D E : xD} (h : ∀ i, qZ D i = qZ E i) : ∀ n, sz D n = sz E n
  | 0 => rfl
  | n + 1 => by rw [sz, sz, sz_ext h n, h n]
theorem okD_d {D : xD} {h n : Nat} (hD : okD D) (hn : n ≤ hN D h) : okD (setd D h n) := by
  have e : ∀ k, hN (setd D h n) k = hN D k := fun k => hn_ext (D := setd D h n) (E := D) (fun _ => rfl) k _
  have eT : qT (setd D h n) = qT D := sz_ext (D := setd D h n) (E := D) (fun _ => rfl) _
  refine ⟨hD.1, hD.2.1, hD.2.2.1, fun hk => ?_, fun k hk => ?_, hD.2.2.2.2.2⟩
  · rw [eT]; exact hD.2.2.2.1 hk
  · rw [e]
    show (if k = h then n else qd D k) ≤ hN D k
    split
    · rename_i z; rw [z]; exact hn
    · exact hD.2.2.2.2.1 k hk
theorem okD_K {D : xD} {k n : Nat} (hD : okD D) (h1 : k ≤ 4) (h2 : n ≤ qN D) (h3 : k = 2 → 1 ≤ n ∧ ∀ i, i < qN D → qZ D i * n ≤ qT D) (h4 : k = 1 ∨ k = 3 → n = 0) : okD (setK D k n) := by
  have e : ∀ h, hN (setK D k n) h = hN D h := fun h => hn_ext (D := setK D k n) (E := D) (fun _ => rfl) h _
  have eT : qT (setK D k n) = qT D := sz_ext (D := setK D k n) (E := D) (fun _ => rfl) _
  refine ⟨hD.1, h1, h2, fun hk => ?_, fun h hh => ?_, h4⟩
  · rw [eT]; exact h3 hk
  · rw [e]; exact hD.2.2.2.2.1 h hh
theorem mS_set {I I' : Nat → Nat → Int32} {L L' : Nat → Nat → Int64} {sl : xL} {s e w : Nat} {v : Nat → Int64} (hm : mS I L sl) (h1 : mS1 I' L' s (e, w, v)) (ho : ∀ k, k < 8 → k ≠ s → I' 39 k = I 39 k ∧ I' 40 k = I 40 k ∧ ∀ i, i < 60 → L' 41 (60 * k + i) = L 41 (60 * k + i)) : mS I' L' (slP sl s e w v) := by
  intro k hk
  unfold slP
  by_cases c : k = s
  · subst c
    simp only [if_true]
    exact h1
  · simp only [if_neg c]
    obtain ⟨o1, o2, o3⟩ := ho k hk c
    obtain ⟨m1, m2, m3⟩ := hm k hk
    refine ⟨m1, o1.trans m2, fun z => ⟨(m3 z).1, o2.trans (m3 z).2.1, fun i hi => (o3 i (by omega)).trans ((m3 z).2.2 i hi)⟩⟩
section MS
variable {L0 : Nat} {xs : Nat → Int32} {Q : xiQ} {I : Nat → Nat → Int32} {L : Nat → Nat → Int64}
variable {D : xD} {sl : xL} {x y A P : Int}
theorem c_mIsSlot1 {s : Nat} (hs : s < 8) (hQ : Q (some (Value.int 1)) (xSH, xRF, I, L)) : xi_V (xG L0 xs) 125 0 [some (Value.int (nI s))] [] (xSH, xRF, I, L) 0 0 Q :=
  b_M_isSlot_0 ⟨fun c => absurd c (nI_pos (by omega)), fun _ => pk_lt 7 s (fun c => absurd c (by omega)) (fun _ => ⟨by decide, hQ⟩)⟩
theorem c_mIsSlot0 {v : Int32} (hv : v < 0 ∨ 7 < v) (hQ : Q (some (Value.int 0)) (xSH, xRF, I, L)) : xi_V (xG L0 xs) 125 0 [some (Value.int v)] [] (xSH, xRF, I, L) 0 0 Q :=
  b_M_isSlot_0 ⟨fun _ => ⟨by decide, hQ⟩, fun c => ⟨fun _ => ⟨by decide, hQ⟩, fun c2 => absurd (hv.resolve_left c) c2⟩⟩
theorem pk_ix7 (v : Int32) : (v < 0 ∨ 7 < v) ∨ ∃ s : Nat, s < 8 ∧ v = nI s := by
  rcases pk_ix v (n := 8) (by decide) with z | z | z
  · exact Or.inl (Or.inl z)
  · refine Or.inl (Or.inr ?_)
    rw [Int32.lt_iff_toInt_lt]
    rw [Int32.le_iff_toInt_le] at z
    have e1 : (nI 8).toInt = 8 := by decide
    have e2 : (7 : Int32).toInt = 7 := by decide
    omega
  · exact Or.inr z
theorem c_mRow_lp {s n : Nat} {v2 : Int32} (hs : s < 8) (hn : n ≤ 60) (hQ : ∀ g, (∀ i, i < n → g (60 * s + i) = 0) → (∀ j, (j < 60 * s ∨ 60 * s + n ≤ j) → g j = L 41 j) → Q (some (Value.int 0)) (xSH, xRF, I, m_r L 41 g)) :
    ∀ (m i : Nat) (g : Nat → Int64), i + m = n → (∀ k, k < i → g (60 * s + k) = 0) → (∀ j, (j < 60 * s ∨ 60 * s + n ≤ j) → g j = L 41 j) → xi_V (xG L0 xs) 126 51 [some (Value.ref 37), some (Value.int (nI s)), some (Value.int v2), some (Value.int (nI n)), some (Value.int (nI i))] [] (xSH, xRF, I, m_r L 41 g) 0 0 Q
  | 0, i, g, hm, h1, h2 => by
    refine b_M_row_51 (pk_le n i (fun c => hQ g (fun k hk => h1 k (by omega)) h2) (fun c => absurd c (by omega)))
  | m + 1, i, g, hm, h1, h2 => by
    refine b_M_row_51 (pk_le n i (fun c => absurd c (by omega)) (fun c => ?_))
    rw [show (60 : Int32) = nI 60 from rfl, pk_mul, nI_add, nI_clamp (by omega), nI_1, m_ur, m_rs, m_rr]
    refine ⟨pk_in _ 480 (show 60 * s + i < 480 by omega), c_mRow_lp hs hn hQ m (i + 1) _ (by omega) (fun k hk => ?_) (fun j hj => ?_)⟩
    · by_cases e : k = i
      · subst e; exact m_us
      · rw [m_un (by omega)]; exact h1 k (by omega)
    · rw [m_un (by omega)]; exact h2 j hj
theorem o_mRow (h : mR I L D sl x y) {s w n : Nat} (hs : s < 8) (hw : w < 4) (hn : n ≤ 60)
    (hQ : ∀ I' L', mFr I I' L L' → mR I' L' D (slP sl s (n + 1) w (fun _ => 0)) x y → Q (some (Value.int 0)) (xSH, xRF, I', L')) : xi_V (xG L0 xs) 126 0 [some (Value.ref 37), some (Value.int (nI s)), some (Value.int (nI w)), some (Value.int (nI n)), none] [] (xSH, xRF, I, L) 0 0 Q := by
  refine b_M_row_0 (c_mIsSlot1 hs (b_M_row_4 ⟨fun c => absurd c (by decide), fun _ => ⟨fun c => absurd c (nI_pos (by omega)), fun _ => pk_lt 3 w (fun c => absurd c (by omega)) (fun _ => pk_le n 60 (fun _ => ⟨fun _ => ⟨pk_in s 8 hs, pk_in s 8 hs, ?_⟩, fun c => absurd (nI_pos' (by omega)) c⟩) (fun c => absurd c (by omega)))⟩⟩))
  rw [nI_clamp (by omega), nI_1, ← m_r0 (L := L) (k := 41)]
  refine c_mRow_lp hs hn (fun g g1 g2 => ?_) n 0 (L 41) (Nat.zero_add n) (fun k hk => absurd hk (Nat.not_lt_zero k)) (fun j _ => rfl)
  have hI : ∀ a, a ≠ 39 → a ≠ 40 → xi_u (xi_u I 39 s (nI (n + 1))) 40 s (nI w) a = I a := fun a h1 h2 => by rw [xi_un h2, xi_un h1]
  refine hQ _ _ ⟨fun a ha => hI a (by omega) (by omega), fun a ha => m_rn (by omega)⟩ ⟨h.1, mC_of (fun a ha => hI a (by omega) (by omega)) h.2.1, mD_of (fun a ha => hI a (by omega) (by omega)) h.2.2.1, mS_set h.2.2.2.1 ⟨by show n + 1 ≤ 61; omega, ?_, fun _ => ⟨by show w ≤ 3; omega, xi_us, fun i hi => ?_⟩⟩ (fun k hk hks => ⟨?_, ?_, fun i hi => ?_⟩), ?_, ?_, ?_⟩
  · rw [xi_un (by decide)]; exact xi_us
  · rw [m_rs]; exact g1 i (by have hi : i + 1 < n + 1 := hi
                              omega)
  · rw [xi_un (by decide), xi_uj hks]
  · rw [xi_uj hks, xi_un (by decide)]
  · rw [m_rs]; exact g2 _ (by omega)
  · rw [m_rn (by decide)]; exact h.2.2.2.2.1
  · rw [m_rn (by decide)]; exact h.2.2.2.2.2.1
  · rw [m_rn (by decide), hI 37 (by decide) (by decide)]; exact h.2.2.2.2.2.2
theorem o_mRow2 {v1 v2 v3 : Int32} (hv : (v1 < 0 ∨ 7 < v1) ∨ v2 < 0 ∨ 3 < v2 ∨ ¬ v3 ≤ 60) (hQ : Q (some (Value.int (-2))) (xSH, xRF, I, L)) : xi_V (xG L0 xs) 126 0 [some (Value.ref 37), some (Value.int v1), some (Value.int v2), some (Value.int v3), none] [] (xSH, xRF, I, L) 0 0 Q := by
  rcases pk_ix7 v1 with z | ⟨s, hs, e⟩
  · exact b_M_row_0 (c_mIsSlot0 z (b_M_row_4 ⟨fun _ => hQ, fun c => absurd rfl c⟩))
  · have hv2 := hv.resolve_left (fun z => by
      subst e
      rcases z with z | z
      · exact absurd z (nI_pos (by omega))
      · exact absurd z (nI_nlt (a := 7) (b := s) (by omega) (by decide)))
    subst e
    exact b_M_row_0 (c_mIsSlot1 hs (b_M_row_4 ⟨fun c => absurd c (by decide), fun _ => ⟨fun _ => hQ, fun c2 => ⟨fun _ => hQ, fun c3 => ⟨fun c4 => absurd c4 ((hv2.resolve_left c2).resolve_left c3), fun _ => hQ⟩⟩⟩⟩))
theorem o_mRow3 {s w : Nat} {v3 : Int32} (hs : s < 8) (hw : w < 4) (hv : v3 < 0) (hQ : Q (some (Value.int (-3))) (xSH, xRF, I, L)) : xi_V (xG L0 xs) 126 0 [some (Value.ref 37), some (Value.int (nI s)), some (Value.int (nI w)), some (Value.int v3), none] [] (xSH, xRF, I, L) 0 0 Q := by
  have h0 : (0 : Int32).toInt = 0 := by decide
  have h60 : (60 : Int32).toInt = 60 := by decide
  rw [Int32.lt_iff_toInt_lt, h0] at hv
  refine b_M_row_0 (c_mIsSlot1 hs (b_M_row_4 ⟨fun c => absurd c (by decide), fun _ => ⟨fun c => absurd c (nI_pos (by omega)), fun _ => pk_lt 3 w (fun c => absurd c (by omega)) (fun _ => ⟨fun _ => ⟨fun c => ?_, fun _ => hQ⟩, fun c => absurd ?_ c⟩)⟩⟩))
  · rw [Int32.le_iff_toInt_le, h0] at c; omega
  · rw [Int32.le_iff_toInt_le, h60]; omega
theorem o_mTear (h : mR I L D sl x y) {s : Nat} (hs : s < 8) (he : (sl s).1 ≠ 0)
    (hQ : ∀ I' L', mFr I I' L L' → mR I' L' D (slP sl s 0 0 (fun _ => 0)) x y → Q (some (Value.int 1)) (xSH, xRF, I', L')) : xi_V (xG L0 xs) 127 0 [some (Value.ref 37), some (Value.int (nI s))] [] (xSH, xRF, I, L) 0 0 Q := by
  have hm := h.2.2.2.1 s hs
  refine b_M_tear_0 (c_mIsSlot1 hs (b_M_tear_4 ⟨fun c => absurd c (by decide), fun _ => ⟨pk_in s 8 hs, ?_⟩⟩))
  rw [nI_clamp (by omega), hm.2.1]
  refine ⟨fun _ => ⟨pk_in s 8 hs, by decide, ?_⟩, fun c => absurd c (nI_ne0 (by omega) (by have := hm.1; omega))⟩
  have hI : ∀ a, a ≠ 39 → xi_u I 39 s (0 : Int32) a = I a := fun a h1 => xi_un h1
  refine hQ _ _ ⟨fun a ha => hI a (by omega), fun a ha => rfl⟩ ⟨h.1, mC_of (fun a ha => hI a (by omega)) h.2.1, mD_of (fun a ha => hI a (by omega)) h.2.2.1, mS_set h.2.2.2.1 ⟨by decide, xi_us, fun z => absurd rfl z⟩ (fun k hk hks => ⟨xi_uj hks, ?_, fun i hi => rfl⟩), h.2.2.2.2.1, h.2.2.2.2.2.1, ?_⟩
  · rw [xi_un (by decide)]
  · rw [hI 37 (by decide)]; exact h.2.2.2.2.2.2
theorem o_mTear0 (h : mR I L D sl x y) {v : Int32} (hv : (v < 0 ∨ 7 < v) ∨ ∃ s, s < 8 ∧ v = nI s ∧ (sl s).1 = 0) (hQ : Q (some (Value.int 0)) (xSH, xRF, I, L)) : xi_V (xG L0 xs) 127 0 [some (Value.ref 37), some (Value.int v)] [] (xSH, xRF, I, L) 0 0 Q := by
  rcases hv with z | ⟨s, hs, e, e0⟩
  · exact b_M_tear_0 (c_mIsSlot0 z (b_M_tear_4 ⟨fun _ => ⟨by decide, hQ⟩, fun c => absurd rfl c⟩))
  · subst e
    have hm := h.2.2.2.1 s hs
    refine b_M_tear_0 (c_mIsSlot1 hs (b_M_tear_4 ⟨fun c => absurd c (by decide), fun _ => ⟨pk_in s 8 hs, ?_⟩⟩))
    rw [nI_clamp (by omega), hm.2.1, e0]
    exact ⟨fun c => absurd rfl c, fun _ => ⟨by decide, hQ⟩⟩
theorem o_mWrite (h : mR I L D sl x y) {s i : Nat} {v : Int64} (hs : s < 8) (hi : i + 1 < (sl s).1)
    (hQ : ∀ I' L', mFr I I' L L' → mR I' L' D (slP sl s (sl s).1 (sl s).2.1 (m_u (sl s).2.2 i (cutw (sl s).2.1 v))) x y → Q (some (Value.int 0)) (xSH, xRF, I', L')) : xi_V (xG L0 xs) 128 0 [some (Value.ref 37), some (Value.int (nI s)), some (Value.int (nI i)), some (Value.long v), none, none] [] (xSH, xRF, I, L) 0 0 Q := by
  have hm := h.2.2.2.1 s hs
  have hm1 := hm.1
  have hm3 := hm.2.2 (by omega)
  have fin : ∀ w, w = cutw (sl s).2.1 v → Q (some (Value.int 0)) (xSH, xRF, I, xi_u L 41 (60 * s + i) w) := by
    intro w ew
    refine hQ _ _ ⟨fun a ha => rfl, fun a ha => xi_un (by omega)⟩ ⟨h.1, h.2.1, h.2.2.1, mS_set h.2.2.2.1 ⟨hm.1, hm.2.1, fun z => ⟨hm3.1, hm3.2.1, fun k hk => ?_⟩⟩ (fun k hk hks => ⟨rfl, rfl, fun j hj => xi_uj (by omega)⟩), ?_, ?_, ?_⟩
    · by_cases e : k = i
      · subst e
        show xi_u L 41 (60 * s + k) w 41 (60 * s + k) = m_u (sl s).2.2 k _ k
        rw [xi_us, m_us, ew]
      · show xi_u L 41 (60 * s + i) w 41 (60 * s + k) = m_u (sl s).2.2 i _ k
        rw [xi_uj (by omega), m_un e]
        exact hm3.2.2 k hk
    · rw [xi_un (by decide)]; exact h.2.2.2.2.1
    · rw [xi_un (by decide)]; exact h.2.2.2.2.2.1
    · rw [xi_un (by decide)]; exact h.2.2.2.2.2.2
  refine b_M_write_0 (c_mIsSlot1 hs (b_M_write_4 ⟨fun _ => ⟨pk_in s 8 hs, ?_⟩, fun c => absurd c (by decide)⟩))
  have e1 : nI (sl s).1 - 1 = nI ((sl s).1 - 1) := by rw [show (1 : Int32) = nI 1 from rfl, pk_sub (by omega)]
  rw [nI_clamp (show s < 2 ^ 31 by omega), hm.2.1, hm3.2.1, show (60 : Int32) = nI 60 from rfl, pk_mul, nI_add, nI_clamp (show 60 * s + i < 2 ^ 31 by omega), e1]
  have hin := pk_in (x := nI (60 * s + i)) (60 * s + i) 480 (by omega)
  refine ⟨fun _ => ⟨fun c => absurd c (nI_pos (by omega)), fun _ => ⟨pk_in s 8 hs, pk_lt i ((sl s).1 - 1) (fun _ => ⟨pk_in s 8 hs, ?_⟩) (fun c => absurd c (by omega))⟩⟩, fun c => absurd c (nI_ne0 (by omega) (by omega))⟩
  have hw3 := hm3.1
  refine ⟨fun a0 => ⟨fun a1 => ⟨fun a2 => ⟨hin, fin _ ?_⟩, fun a2 => ⟨hin, fin _ ?_⟩⟩, fun a1 => ⟨hin, fin _ ?_⟩⟩, fun a0 => ⟨hin, fin _ ?_⟩⟩
  · unfold cutw
    rw [if_neg (fun z => a0 (by rw [z]; rfl)), if_neg (fun z => a1 (by rw [z]; rfl)), if_neg (fun z => a2 (by rw [z]; rfl))]
  · have : (sl s).2.1 = 2 := (nI_eq (by omega) (by omega)).mp a2
    unfold cutw
    rw [this]; rfl
  · have : (sl s).2.1 = 1 := (nI_eq (by omega) (by omega)).mp a1
    unfold cutw
    rw [this]; rfl
  · have : (sl s).2.1 = 0 := (nI_eq (by omega) (by omega)).mp a0
    unfold cutw
    rw [this]; rfl
theorem o_mWrite2 {v1 v2 : Int32} {v : Int64} (hv : v1 < 0 ∨ 7 < v1) (hQ : Q (some (Value.int (-2))) (xSH, xRF, I, L)) : xi_V (xG L0 xs) 128 0 [some (Value.ref 37), some (Value.int v1), some (Value.int v2), some (Value.long v), none, none] [] (xSH, xRF, I, L) 0 0 Q :=
  b_M_write_0 (c_mIsSlot0 hv (b_M_write_4 ⟨fun c => absurd rfl c, fun _ => hQ⟩))
theorem o_mWrite5 (h : mR I L D sl x y) {s : Nat} {v2 : Int32} {v : Int64} (hs : s < 8) (he : (sl s).1 = 0) (hQ : Q (some (Value.int (-5))) (xSH, xRF, I, L)) : xi_V (xG L0 xs) 128 0 [some (Value.ref 37), some (Value.int (nI s)), some (Value.int v2), some (Value.long v), none, none] [] (xSH, xRF, I, L) 0 0 Q := by
  have hm := h.2.2.2.1 s hs
  refine b_M_write_0 (c_mIsSlot1 hs (b_M_write_4 ⟨fun _ => ⟨pk_in s 8 hs, ?_⟩, fun c => absurd c (by decide)⟩))
  rw [nI_clamp (by omega), hm.2.1, he]
  exact ⟨fun c => absurd rfl c, fun _ => hQ⟩
theorem o_mWrite6 (h : mR I L D sl x y) {s : Nat} {v2 : Int32} {v : Int64} (hs : s < 8) (he : (sl s).1 ≠ 0) (hv : v2 < 0 ∨ nI ((sl s).1 - 1) ≤ v2) (hQ : Q (some (Value.int (-6))) (xSH, xRF, I, L)) : xi_V (xG L0 xs) 128 0 [some (Value.ref 37), some (Value.int (nI s)), some (Value.int v2), some (Value.long v), none, none] [] (xSH, xRF, I, L) 0 0 Q := by
  have hm := h.2.2.2.1 s hs
  have hm1 := hm.1
  have e1 : nI (sl s).1 - 1 = nI ((sl s).1 - 1) := by rw [show (1 : Int32) = nI 1 from rfl, pk_sub (by omega)]
  refine b_M_write_0 (c_mIsSlot1 hs (b_M_write_4 ⟨fun _ => ⟨pk_in s 8 hs, ?_⟩, fun c => absurd c (by decide)⟩))
  rw [nI_clamp (show s < 2 ^ 31 by omega), hm.2.1, e1]
  refine ⟨fun _ => ⟨fun _ => hQ, fun c => ⟨pk_in s 8 hs, fun c2 => ?_, fun _ => hQ⟩⟩, fun c => absurd c (nI_ne0 (by omega) (by omega))⟩
  have := hv.resolve_left c
  rw [Int32.le_iff_toInt_le] at this
  rw [Int32.lt_iff_toInt_lt] at c2
  omega
theorem o_mDrawn (h : mR I L D sl x y) {k n : Nat} (hk : k < 4) (hnk : n ≤ hN D k)
    (hQ : ∀ I' L', mFr I I' L L' → mR I' L' (setd D k n) sl x y → Q (some (Value.int 0)) (xSH, xRF, I', L')) : xi_V (xG L0 xs) 133 0 [some (Value.ref 37), some (Value.int (nI k)), some (Value.int (nI n))] [] (xSH, xRF, I, L) 0 0 Q := by
  have h10 := h.1.1.1
  have n1 := hn_le D k (qN D)
  have e1 : hN D k = hn D k (qN D) := rfl
  refine b_M_drawn_0 (c_mIsHeap1 hk (b_M_drawn_4 ⟨fun _ => ⟨fun c => absurd c (nI_pos (by omega)), fun _ => c_mNamesOf h.1.1 h.2.1 hk (b_M_drawn_20 (pk_le n (hN D k) (fun _ => ⟨pk_in k 4 hk, by decide, ?_⟩) (fun c => absurd c (by omega)) rfl rfl (by omega) (by omega)))⟩, fun c => absurd c (by decide)⟩))
  rw [nI_clamp (by omega)]
  have hI : ∀ a, a ≠ 46 → a ≠ 37 → xi_u (xi_u I 46 k (nI n)) 37 1 (0 : Int32) a = I a := fun a h1 h2 => by rw [xi_un h2, xi_un h1]
  have h37 : ∀ b, b ≠ 1 → xi_u (xi_u I 46 k (nI n)) 37 1 (0 : Int32) 37 b = I 37 b := fun b hb => by rw [xi_uj hb, xi_un (by decide)]
  refine hQ _ _ ⟨fun a ha => hI a (by omega) (by omega), fun a ha => rfl⟩ ⟨okD_d h.1 hnk, ?_, ?_, mS_of (hI 39 (by decide) (by decide)) (hI 40 (by decide) (by decide)) rfl h.2.2.2.1, h.2.2.2.2.1, h.2.2.2.2.2.1, fun z => absurd xi_us z⟩
  · have := h.2.1
    unfold mC at this ⊢
    rw [h37 5 (by decide), hI 42 (by decide) (by decide), hI 43 (by decide) (by decide), hI 44 (by decide) (by decide), hI 45 (by decide) (by decide)]
    exact this
  · have := h.2.2.1
    unfold mD at this ⊢
    rw [h37 11 (by decide), h37 12 (by decide), xi_un (show 46 ≠ 37 by decide)]
    refine ⟨this.1, this.2.1, fun j hj => ?_⟩
    show xi_u I 46 k (nI n) 46 j = nI (if j = k then n else qd D j)
    by_cases e : j = k
    · subst e; rw [xi_us, if_pos rfl]
    · rw [xi_uj e, if_neg e]; exact this.2.2 j hj
theorem o_mDrawn2 {v w : Int32} (hv : v < 0 ∨ 3 < v) (hQ : Q (some (Value.int (-2))) (xSH, xRF, I, L)) : xi_V (xG L0 xs) 133 0 [some (Value.ref 37), some (Value.int v), some (Value.int w)] [] (xSH, xRF, I, L) 0 0 Q :=
  b_M_drawn_0 (c_mIsHeap0 hv (b_M_drawn_4 ⟨fun c => absurd rfl c, fun _ => hQ⟩))
theorem o_mDrawn4 (h : mR I L D sl x y) {k : Nat} {w : Int32} (hk : k < 4) (hv : w < 0 ∨ ¬ w ≤ nI (hN D k)) (hQ : Q (some (Value.int (-4))) (xSH, xRF, I, L)) : xi_V (xG L0 xs) 133 0 [some (Value.ref 37), some (Value.int (nI k)), some (Value.int w)] [] (xSH, xRF, I, L) 0 0 Q :=
  b_M_drawn_0 (c_mIsHeap1 hk (b_M_drawn_4 ⟨fun _ => ⟨fun _ => hQ, fun c => c_mNamesOf h.1.1 h.2.1 hk (b_M_drawn_20 ⟨fun c2 => absurd c2 (hv.resolve_left c), fun _ => hQ⟩)⟩, fun c => absurd c (by decide)⟩))
end MS
