/-! crowd of the class -/
theorem xLo (j : Nat) (hj : j < 4) : xLow j = zI (if j = 0 then -100 else if j = 1 then 1 else 0) := by
  have : ∀ j : Fin 4, xLow j.val = zI (if j.val = 0 then -100 else if j.val = 1 then 1 else 0) := by decide +kernel
  exact this ⟨j, hj⟩
theorem xHi (j : Nat) (hj : j < 4) : xHigh j = zI (if j = 0 then 100 else if j = 1 then 50 else if j = 2 then 3 else 100) := by
  have : ∀ j : Fin 4, xHigh j.val = zI (if j.val = 0 then 100 else if j.val = 1 then 50 else if j.val = 2 then 3 else 100) := by decide +kernel
  exact this ⟨j, hj⟩
section KCR
variable {L0 : Nat} {xs : Nat → Int32} {Q : xiQ} {I : Nat → Nat → Int32} {L : Nat → Nat → Int64}
variable {D : xD} {sl : xL} {x y : Int}
theorem c_kAt {s i : Nat} {v : Int64} (hs : s < 8) (hi : i < 60) (hv : L 2 (60 * s + i) = v) (hQ : Q (some (Value.long v)) (xSH, xRF, I, L)) : xi_V (xG L0 xs) 62 0 [some (Value.ref 1), some (Value.int (nI s)), some (Value.int (nI i))] [] (xSH, xRF, I, L) 0 0 Q := by
  refine b_Slots_at_0 ?_
  rw [show (60 : Int32) = nI 60 from rfl, pk_mul, nI_add, Nat.mul_comm s 60, nI_clamp (by omega), hv]
  exact ⟨pk_in _ 480 (show 60 * s + i < 480 by omega), hQ⟩
/-- one fact of a row -/
theorem c_kTells_st {s len N i : Nat} {v : Int64} (hs : s < 8) (hl : len ≤ 60) (hN : N ≤ 10) (h4 : I 4 s = nI len) (hi : i + 1 < len) (hi2 : i < 4 * N) (hv : L 2 (60 * s + (i + 1)) = v)
    (hQ : (fok i v.toInt → xi_V (xG L0 xs) 65 40 [some (Value.ref 1), some (Value.int (nI s)), some (Value.long (zL (N : Int))), none, some (Value.int (nI (i + 1))), none, none] [] (xSH, xRF, I, L) 0 0 Q) ∧ (¬ fok i v.toInt → Q (some (Value.int (-4))) (xSH, xRF, I, L))) :
    xi_V (xG L0 xs) 65 40 [some (Value.ref 1), some (Value.int (nI s)), some (Value.long (zL (N : Int))), none, some (Value.int (nI i)), none, none] [] (xSH, xRF, I, L) 0 0 Q := by
  have hm : i % 4 < 4 := Nat.mod_lt _ (by decide)
  have e4 : zL (N : Int) * 4 = zL ((N : Int) * 4) := by rw [show (4 : Int64) = zL 4 by decide, zL_mul]
  have er : nI i - nI i / 4 * 4 = nI (i % 4) := by rw [show (4 : Int32) = nI 4 from rfl, pk_rem (by omega) (by decide) (by decide)]
  refine b_Slots_tellsCrowd_40 ?_
  rw [nI_L (by omega), e4, m_cmp0, zL_lt (by omega) (by omega) (by omega) (by omega)]
  refine ⟨fun c => absurd (by omega) c, fun _ => ⟨pk_in s 8 hs, ?_⟩⟩
  rw [nI_clamp (by omega), h4, nI_1]
  refine pk_lt (i + 1) len (fun _ => c_kAt hs (by omega) hv (b_Slots_tellsCrowd_77 ?_)) (fun c => absurd c (by omega))
  rw [er, nI_clamp (by omega), xLo _ hm, xHi _ hm, zI_L (by split <;> (try split) <;> decide) (by split <;> (try split) <;> decide), zI_L (by split <;> (try split) <;> (try split) <;> decide) (by split <;> (try split) <;> (try split) <;> decide), cmp_lt, cmp_le, Int64.lt_iff_toInt_lt, Int64.lt_iff_toInt_lt, zL_t (by split <;> (try split) <;> decide) (by split <;> (try split) <;> decide), zL_t (by split <;> (try split) <;> (try split) <;> decide) (by split <;> (try split) <;> (try split) <;> decide), nI_1]
  unfold fok at hQ
  rcases (show i % 4 = 0 ∨ i % 4 = 1 ∨ i % 4 = 2 ∨ i % 4 = 3 by omega) with e | e | e | e <;> rw [e] at hQ ⊢
  · refine ⟨by decide, pk_in 0 4 (by decide), fun c => hQ.2 (fun z => ?_), fun c => ⟨by decide, pk_in 0 4 (by decide), fun c2 => hQ.1 ⟨fun _ => ?_, fun z => absurd z (by decide), fun z => absurd z (by decide), fun z => absurd z (by decide)⟩, fun c2 => hQ.2 (fun z => ?_)⟩⟩
    · have := z.1 rfl; simp at c; omega
    · simp at c c2; omega
    · have := z.1 rfl; simp at c2; omega
  · refine ⟨by decide, pk_in 1 4 (by decide), fun c => hQ.2 (fun z => ?_), fun c => ⟨by decide, pk_in 1 4 (by decide), fun c2 => hQ.1 ⟨fun z => absurd z (by decide), fun _ => ?_, fun z => absurd z (by decide), fun z => absurd z (by decide)⟩, fun c2 => hQ.2 (fun z => ?_)⟩⟩
    · have := z.2.1 rfl; simp at c; omega
    · simp at c c2; omega
    · have := z.2.1 rfl; simp at c2; omega
  · refine ⟨by decide, pk_in 2 4 (by decide), fun c => hQ.2 (fun z => ?_), fun c => ⟨by decide, pk_in 2 4 (by decide), fun c2 => hQ.1 ⟨fun z => absurd z (by decide), fun z => absurd z (by decide), fun _ => ?_, fun z => absurd z (by decide)⟩, fun c2 => hQ.2 (fun z => ?_)⟩⟩
    · have := z.2.2.1 rfl; simp at c; omega
    · simp at c c2; omega
    · have := z.2.2.1 rfl; simp at c2; omega
  · refine ⟨by decide, pk_in 3 4 (by decide), fun c => hQ.2 (fun z => ?_), fun c => ⟨by decide, pk_in 3 4 (by decide), fun c2 => hQ.1 ⟨fun z => absurd z (by decide), fun z => absurd z (by decide), fun z => absurd z (by decide), fun _ => ?_⟩, fun c2 => hQ.2 (fun z => ?_)⟩⟩
    · have := z.2.2.2 rfl; simp at c; omega
    · simp at c c2; omega
    · have := z.2.2.2 rfl; simp at c2; omega
theorem c_kTells_lp {s len N j : Nat} {val : Nat → Int64} (hs : s < 8) (hl : len ≤ 60) (hN : N ≤ 10) (h4 : I 4 s = nI len) (hj : j ≤ 4 * N) (hv : ∀ k, k < len → L 2 (60 * s + k) = val k) (hok : ∀ k, k < j → k + 1 < len ∧ fok k (val (k + 1)).toInt)
    (hQ : xi_V (xG L0 xs) 65 40 [some (Value.ref 1), some (Value.int (nI s)), some (Value.long (zL (N : Int))), none, some (Value.int (nI j)), none, none] [] (xSH, xRF, I, L) 0 0 Q) :
    ∀ m i : Nat, i + m = j → xi_V (xG L0 xs) 65 40 [some (Value.ref 1), some (Value.int (nI s)), some (Value.long (zL (N : Int))), none, some (Value.int (nI i)), none, none] [] (xSH, xRF, I, L) 0 0 Q
  | 0, i, hm => by
    rw [show i = j by omega]; exact hQ
  | m + 1, i, hm => by
    have hk := hok i (by omega)
    exact c_kTells_st hs hl hN h4 hk.1 (by omega) (hv (i + 1) hk.1) ⟨fun _ => c_kTells_lp hs hl hN h4 hj hv hok hQ m (i + 1) (by omega), fun z => absurd hk.2 z⟩
theorem kS_4 (h : kR I L D sl x y) {s : Nat} (hs : s < 8) (he : (sl s).1 ≠ 0) : I 4 s = nI ((sl s).1 - 1) ∧ (sl s).1 ≤ 61 ∧ ∀ k, k < (sl s).1 - 1 → L 2 (60 * s + k) = (sl s).2.2 k := by
  have hm := h.2.2.2.1 s hs
  refine ⟨?_, hm.1, fun k hk => (hm.2.2 he).2.2 k (by omega)⟩
  rw [hm.2.1, zI_n]; congr 1; omega
/-- to the verdict -/
theorem c_kCrowd_v (h : kR I L D sl x y) {s : Nat} (hs : s < 8) (he : (sl s).1 ≠ 0)
    (hQ : xi_V (xG L0 xs) 65 0 [some (Value.ref 1), some (Value.int (nI s)), none, none, none, none, none] [] (xSH, xRF, I, L) 0 0 (fun o σ' => xi_V (xG L0 xs) 74 32 [some (Value.ref 0), some (Value.int (nI s)), none] (o.toList ++ []) σ' 0 0 Q)) : xi_V (xG L0 xs) 74 0 [some (Value.ref 0), some (Value.int (nI s)), none] [] (xSH, xRF, I, L) 0 0 Q := by
  refine b_D_crowd_0 (c_kIsSlot1 hs (b_D_crowd_4 ⟨fun _ => c_kIsLaid h.2.2.2.1 hs ?_, fun c => absurd c (by decide)⟩))
  rw [if_neg he]
  exact b_D_crowd_18 ⟨fun _ => hQ, fun c => absurd c (by decide)⟩
theorem c_kTells_j (h : kR I L D sl x y) {s N j : Nat} (hs : s < 8) (he : (sl s).1 ≠ 0) (hok : crOk (sl s).2.2 ((sl s).1 - 1) N j)
    (hQ : xi_V (xG L0 xs) 65 40 [some (Value.ref 1), some (Value.int (nI s)), some (Value.long (zL (N : Int))), none, some (Value.int (nI j)), none, none] [] (xSH, xRF, I, L) 0 0 Q) : xi_V (xG L0 xs) 65 0 [some (Value.ref 1), some (Value.int (nI s)), none, none, none, none, none] [] (xSH, xRF, I, L) 0 0 Q := by
  obtain ⟨h4, h61, hv⟩ := kS_4 h hs he
  obtain ⟨h0, hN, hN1, hj, hk⟩ := hok
  have t1 : (1 : Int64).toInt = 1 := by decide
  have t10 : (10 : Int64).toInt = 10 := by decide
  refine b_Slots_tellsCrowd_0 ⟨pk_in s 8 hs, ?_⟩
  rw [nI_clamp (by omega), h4]
  refine pk_le 1 ((sl s).1 - 1) (fun _ => c_kAt (i := 0) hs (by decide) (hv 0 h0) (b_Slots_tellsCrowd_19 ?_)) (fun c => absurd c (by omega))
  rw [cmp_lt, cmp_le, Int64.lt_iff_toInt_lt, Int64.lt_iff_toInt_lt, t1, t10, hN]
  refine ⟨fun c => absurd c (by omega), fun _ => ⟨fun _ => ?_, fun c => absurd (by omega) c⟩⟩
  rw [show (sl s).2.2 0 = zL (N : Int) by rw [← hN]; exact l_v _]
  exact c_kTells_lp hs (by omega) hN1.2 h4 hj hv hk hQ j 0 (Nat.zero_add j)
theorem o_kCrowd2 {v : Int32} (hv : v < 0 ∨ 7 < v) (hQ : Q (some (Value.int (-2))) (xSH, xRF, I, L)) : xi_V (xG L0 xs) 74 0 [some (Value.ref 0), some (Value.int v), none] [] (xSH, xRF, I, L) 0 0 Q :=
  b_D_crowd_0 (c_kIsSlot0 hv (b_D_crowd_4 ⟨fun c => absurd rfl c, fun _ => hQ⟩))
theorem o_kCrowd5 (h : kR I L D sl x y) {s : Nat} (hs : s < 8) (he : (sl s).1 = 0) (hQ : Q (some (Value.int (-5))) (xSH, xRF, I, L)) : xi_V (xG L0 xs) 74 0 [some (Value.ref 0), some (Value.int (nI s)), none] [] (xSH, xRF, I, L) 0 0 Q := by
  refine b_D_crowd_0 (c_kIsSlot1 hs (b_D_crowd_4 ⟨fun _ => c_kIsLaid h.2.2.2.1 hs ?_, fun c => absurd c (by decide)⟩))
  rw [if_pos he]
  exact b_D_crowd_18 ⟨fun c => absurd rfl c, fun _ => hQ⟩
theorem o_kCrowdF (h : kR I L D sl x y) {s : Nat} (hs : s < 8) (he : (sl s).1 ≠ 0) (hQ : (0 = (sl s).1 - 1 → Q (some (Value.int (-6))) (xSH, xRF, I, L)) ∧ (0 < (sl s).1 - 1 → ¬ (1 ≤ ((sl s).2.2 0).toInt ∧ ((sl s).2.2 0).toInt ≤ 10) → Q (some (Value.int (-4))) (xSH, xRF, I, L))) (hc : 0 = (sl s).1 - 1 ∨ ¬ (1 ≤ ((sl s).2.2 0).toInt ∧ ((sl s).2.2 0).toInt ≤ 10)) : xi_V (xG L0 xs) 74 0 [some (Value.ref 0), some (Value.int (nI s)), none] [] (xSH, xRF, I, L) 0 0 Q := by
  obtain ⟨h4, h61, hv⟩ := kS_4 h hs he
  have t1 : (1 : Int64).toInt = 1 := by decide
  have t10 : (10 : Int64).toInt = 10 := by decide
  refine c_kCrowd_v h hs he (b_Slots_tellsCrowd_0 ⟨pk_in s 8 hs, ?_⟩)
  rw [nI_clamp (by omega), h4]
  refine pk_le 1 ((sl s).1 - 1) (fun c0 => c_kAt (i := 0) hs (by decide) (hv 0 c0) (b_Slots_tellsCrowd_19 ?_)) (fun c => b_D_crowd_32 ⟨fun z => absurd z (by decide), fun _ => hQ.1 (by omega)⟩)
  rw [cmp_lt, cmp_le, Int64.lt_iff_toInt_lt, Int64.lt_iff_toInt_lt, t1, t10]
  have hc2 := hc.resolve_left (by omega)
  have bad : xi_V (xG L0 xs) 74 32 [some (Value.ref 0), some (Value.int (nI s)), none] [Value.int ((-4 : Int32))] (xSH, xRF, I, L) 0 0 Q := b_D_crowd_32 ⟨fun z => absurd z (by decide), fun _ => hQ.2 (by omega) hc2⟩
  exact ⟨fun _ => bad, fun c => ⟨fun c2 => absurd ⟨by omega, by omega⟩ hc2, fun _ => bad⟩⟩
theorem o_kCrowd6 (h : kR I L D sl x y) {s N j : Nat} (hs : s < 8) (he : (sl s).1 ≠ 0) (hok : crOk (sl s).2.2 ((sl s).1 - 1) N j) (hj : j < 4 * N) (hl : (sl s).1 - 1 ≤ j + 1) (hQ : Q (some (Value.int (-6))) (xSH, xRF, I, L)) : xi_V (xG L0 xs) 74 0 [some (Value.ref 0), some (Value.int (nI s)), none] [] (xSH, xRF, I, L) 0 0 Q := by
  obtain ⟨h4, h61, hv⟩ := kS_4 h hs he
  have hN1 := hok.2.2.1
  have e4 : zL (N : Int) * 4 = zL ((N : Int) * 4) := by rw [show (4 : Int64) = zL 4 by decide, zL_mul]
  refine c_kCrowd_v h hs he (c_kTells_j h hs he hok (b_Slots_tellsCrowd_40 ?_))
  rw [nI_L (by omega), e4, m_cmp0, zL_lt (by omega) (by omega) (by omega) (by omega)]
  refine ⟨fun c => absurd (by omega) c, fun _ => ⟨pk_in s 8 hs, ?_⟩⟩
  rw [nI_clamp (by omega), h4, nI_1]
  exact pk_lt (j + 1) ((sl s).1 - 1) (fun c => absurd c (by omega)) (fun _ => b_D_crowd_32 ⟨fun z => absurd z (by decide), fun _ => hQ⟩)
theorem o_kCrowd4 (h : kR I L D sl x y) {s N j : Nat} (hs : s < 8) (he : (sl s).1 ≠ 0) (hok : crOk (sl s).2.2 ((sl s).1 - 1) N j) (hj : j < 4 * N) (hl : j + 1 < (sl s).1 - 1) (hf : ¬ fok j ((sl s).2.2 (j + 1)).toInt) (hQ : Q (some (Value.int (-4))) (xSH, xRF, I, L)) : xi_V (xG L0 xs) 74 0 [some (Value.ref 0), some (Value.int (nI s)), none] [] (xSH, xRF, I, L) 0 0 Q := by
  obtain ⟨h4, h61, hv⟩ := kS_4 h hs he
  exact c_kCrowd_v h hs he (c_kTells_j h hs he hok (c_kTells_st hs (by omega) hok.2.2.1.2 h4 hl hj (hv (j + 1) hl) ⟨fun z => absurd z hf, fun _ => b_D_crowd_32 ⟨fun z => absurd z (by decide), fun _ => hQ⟩⟩))
theorem c_kFact {s len i f : Nat} {val : Nat → Int64} (hs : s < 8) (hl : len ≤ 60) (hi : 1 + 4 * i + f < len) (hv : ∀ k, k < len → L 2 (60 * s + k) = val k) (hQ : Q (some (Value.int (zI (val (1 + 4 * i + f)).toInt))) (xSH, xRF, I, L)) : xi_V (xG L0 xs) 66 0 [some (Value.ref 1), some (Value.int (nI s)), some (Value.int (nI i)), some (Value.int (nI f))] [] (xSH, xRF, I, L) 0 0 Q := by
  refine b_Slots_fact_0 ?_
  rw [show (4 : Int32) = nI 4 from rfl, pk_mul, show (1 : Int32) = nI 1 from rfl, nI_add, nI_add, Nat.mul_comm i 4]
  refine c_kAt hs (by omega) (hv _ hi) (b_Slots_fact_12 ?_)
  rw [l2i]; exact hQ
theorem c_fillI {o : Nat} (h0 : xa_Arr_fillI o) {v : Int32} {J : Nat → Nat → Int32} (hQ : ∀ I', (∀ a, a ≠ o → I' a = J a) → (∀ k, k < 4 → I' o k = v) → Q none (xSH, xRF, I', L)) :
    ∀ (m i : Nat) (I1 : Nat → Nat → Int32), i + m = 4 → (∀ a, a ≠ o → I1 a = J a) → (∀ k, k < i → I1 o k = v) → xi_V (xG L0 xs) 7 5 [some (Value.ref o), some (Value.int v), some (Value.int (nI i)), some (Value.int (nI 4))] [] (xSH, xRF, I1, L) 0 0 Q
  | 0, i, I1, hm, h1, h2 => b_Arr_fillI_5 h0 (pk_le 4 i (fun c => hQ I1 h1 (fun k hk => h2 k (by omega))) (fun c => absurd c (by omega)))
  | m + 1, i, I1, hm, h1, h2 => by
    refine b_Arr_fillI_5 h0 (pk_le 4 i (fun c => absurd c (by omega)) (fun c => ⟨pk_in i 4 (by omega), ?_⟩))
    rw [nI_clamp (by omega), nI_1]
    refine c_fillI h0 hQ m (i + 1) _ (by omega) (fun a ha => (xi_un ha).trans (h1 a ha)) (fun k hk => ?_)
    by_cases e : k = i
    · subst e; exact xi_us
    · rw [xi_uj e]; exact h2 k (by omega)
theorem c_kTake_lp {s len N : Nat} {val : Nat → Int64} {J : Nat → Nat → Int32} (hs : s < 8) (hl : len ≤ 60) (hN : 1 ≤ N ∧ N ≤ 10) (hlen : 4 * N + 1 ≤ len) (hv : ∀ k, k < len → L 2 (60 * s + k) = val k) (hok : ∀ k, k < 4 * N → fok k (val (k + 1)).toInt)
    (hQ : ∀ I', (∀ a, a ≠ 5 → a ≠ 6 → a ≠ 7 → a ≠ 8 → a ≠ 9 → I' a = J a) → kC I' (crD val N) → Q none (xSH, xRF, I', L)) :
    ∀ (m i : Nat) (I1 : Nat → Nat → Int32), i + m = N → (∀ a, a ≠ 5 → a ≠ 6 → a ≠ 7 → a ≠ 8 → a ≠ 9 → I1 a = J a) → I1 5 0 = nI N → (∀ k, k < i → I1 6 k = zI (qW (crD val N) k) ∧ I1 7 k = nI (qZ (crD val N) k) ∧ I1 8 k = nI (qS (crD val N) k)) → (∀ h, h < 4 → I1 9 h = nI (hS (crD val N) h i)) → xi_V (xG L0 xs) 17 21 [some (Value.ref 5), some (Value.ref 1), some (Value.int (nI s)), some (Value.int (nI i))] [] (xSH, xRF, I1, L) 0 0 Q
  | 0, i, I1, hm, h1, h5, h2, h9 => by
    refine b_Crowd_take_21 ?_
    rw [h5]
    have e : i = N := by omega
    subst e
    exact pk_le i i (fun c => hQ I1 h1 ⟨h5, h2, h9⟩) (fun c => absurd c (by omega))
  | m + 1, i, I1, hm, h1, h5, h2, h9 => by
    have ok := okD_cr (val := val) hN hok
    have hiN : i < N := by omega
    have oki := ok.1.2 i hiN
    have f0 := (hok (4 * i) (by omega)).1 (by omega)
    have f1 := (hok (4 * i + 1) (by omega)).2.1 (by omega)
    have f2 := (hok (4 * i + 2) (by omega)).2.2.1 (by omega)
    have f3 := (hok (4 * i + 3) (by omega)).2.2.2 (by omega)
    rw [show 4 * i + 1 + 1 = 1 + 4 * i + 1 by omega] at f1
    rw [show 4 * i + 2 + 1 = 1 + 4 * i + 2 by omega] at f2
    rw [show 4 * i + 3 + 1 = 1 + 4 * i + 3 by omega] at f3
    have eZ : zI (val (1 + 4 * i + 1)).toInt = nI (qZ (crD val N) i) := by
      show _ = nI (val (2 + 4 * i)).toInt.toNat
      rw [show 2 + 4 * i = 1 + 4 * i + 1 by omega, zI_n]; congr 1; omega
    have eH : zI (val (1 + 4 * i + 2)).toInt = nI (qH (crD val N) i) := by
      show _ = nI (val (3 + 4 * i)).toInt.toNat
      rw [show 3 + 4 * i = 1 + 4 * i + 2 by omega, zI_n]; congr 1; omega
    have eS : zI (val (1 + 4 * i + 3)).toInt = nI (qS (crD val N) i) := by
      show _ = nI (val (4 + 4 * i)).toInt.toNat
      rw [show 4 + 4 * i = 1 + 4 * i + 3 by omega, zI_n]; congr 1; omega
    have hH3 : qH (crD val N) i ≤ 3 := oki.2.2.1
    refine b_Crowd_take_21 ?_
    rw [h5]
    refine pk_le N i (fun c => absurd c (by omega)) (fun _ => c_kFact (f := 0) hs hl (by omega) hv (b_Crowd_take_41 ⟨pk_in i 10 (by omega), c_kFact (f := 1) hs hl (by omega) hv (b_Crowd_take_54 ⟨pk_in i 10 (by omega), c_kFact (f := 2) hs hl (by omega) hv (b_Crowd_take_66 ?_)⟩)⟩))
    rw [eH, eZ, nI_clamp (show i < 2 ^ 31 by omega), nI_clamp (show qH (crD val N) i < 2 ^ 31 by omega)]
    refine ⟨pk_in (qH (crD val N) i) 4 (by omega), pk_in (qH (crD val N) i) 4 (by omega), c_kFact (f := 3) hs hl (by omega) hv (b_Crowd_take_85 ⟨pk_in i 10 (by omega), ?_⟩)⟩
    rw [nI_clamp (show i < 2 ^ 31 by omega), eS, nI_1, xi_un (show 9 ≠ 7 by decide), xi_un (show 9 ≠ 6 by decide), h9 _ (by omega), sh_1 (by omega), nI_or, or_add (hS_lt _ _ i)]
    refine c_kTake_lp hs hl hN hlen hv hok hQ m (i + 1) _ (by omega) (fun a a5 a6 a7 a8 a9 => ?_) ?_ (fun k hk => ?_) (fun h hh => ?_)
    · rw [xi_un a8, xi_un a9, xi_un a7, xi_un a6]; exact h1 a a5 a6 a7 a8 a9
    · rw [xi_un (by decide), xi_un (by decide), xi_un (by decide), xi_un (by decide)]; exact h5
    · rw [xi_un (show 6 ≠ 8 by decide), xi_un (show 6 ≠ 9 by decide), xi_un (show 6 ≠ 7 by decide), xi_un (show 7 ≠ 8 by decide), xi_un (show 7 ≠ 9 by decide)]
      by_cases e : k = i
      · subst e
        refine ⟨?_, xi_us, xi_us⟩
        rw [xi_us]; rfl
      · have := h2 k (by omega)
        rw [xi_uj e, xi_uj e, xi_uj e, xi_un (show 7 ≠ 6 by decide), xi_un (show 8 ≠ 9 by decide), xi_un (show 8 ≠ 7 by decide), xi_un (show 8 ≠ 6 by decide)]
        exact this
    · rw [xi_un (show 9 ≠ 8 by decide)]
      rw [hS]
      by_cases e : qH (crD val N) i = h
      · subst e; rw [xi_us, if_pos rfl]
      · rw [xi_uj (fun z => e z.symm), xi_un (show 9 ≠ 7 by decide), xi_un (show 9 ≠ 6 by decide), if_neg e, Nat.add_zero]
        exact h9 h hh
theorem o_kCrowd (h : kR I L D sl x y) {s N : Nat} (hs : s < 8) (he : (sl s).1 ≠ 0) (hok : crOk (sl s).2.2 ((sl s).1 - 1) N (4 * N))
    (hQ : ∀ I' L', kFr I I' L L' → kR I' L' (crD (sl s).2.2 N) sl x y → Q (some (Value.int (nI N))) (xSH, xRF, I', L')) : xi_V (xG L0 xs) 74 0 [some (Value.ref 0), some (Value.int (nI s)), none] [] (xSH, xRF, I, L) 0 0 Q := by
  obtain ⟨h4, h61, hv⟩ := kS_4 h hs he
  have hN1 := hok.2.2.1
  have hf : ∀ k, k < 4 * N → fok k ((sl s).2.2 (k + 1)).toInt := fun k hk => (hok.2.2.2.2 k hk).2
  have hlen : 4 * N + 1 ≤ (sl s).1 - 1 := by have := (hok.2.2.2.2 (4 * N - 1) (by omega)).1; omega
  have e4 : zL (N : Int) * 4 = zL ((N : Int) * 4) := by rw [show (4 : Int64) = zL 4 by decide, zL_mul]
  refine c_kCrowd_v h hs he (c_kTells_j h hs he hok (b_Slots_tellsCrowd_40 ?_))
  rw [nI_L (by omega), e4, m_cmp0, zL_lt (by omega) (by omega) (by omega) (by omega)]
  refine ⟨fun _ => b_D_crowd_32 ⟨fun _ => b_Crowd_take_0 (c_kAt (i := 0) hs (by decide) (hv 0 hok.1) (b_Crowd_take_7 (b_Arr_fillI_0 (Or.inl rfl) ?_))), fun c => absurd (by decide) c⟩, fun c => absurd (by omega) c⟩
  refine c_fillI (o := 9) (Or.inl rfl) (fun I1 g1 g2 => b_Crowd_take_19 ?_) 4 0 _ rfl (fun a _ => rfl) (fun k hk => absurd hk (Nat.not_lt_zero k))
  refine c_kTake_lp (J := I) hs (by omega) hN1 hlen hv hf (fun I2 k1 k2 => b_D_crowd_51 (b_Lots_forget_0 (b_Arr_fillI_0 (Or.inr rfl) ?_))) N 0 I1 (Nat.zero_add N) (fun a a5 a6 a7 a8 a9 => by rw [g1 a a9, xi_un a5]) ?_ (fun k hk => absurd hk (Nat.not_lt_zero k)) (fun h hh => g2 h hh)
  · refine c_fillI (o := 11) (Or.inr rfl) (fun I3 m1 m2 => b_Lots_forget_8 (b_Lots_choose_0 ⟨by decide, b_Lots_forget_14 (b_D_crowd_58 ?_)⟩)) 4 0 I2 rfl (fun a _ => rfl) (fun k hk => absurd hk (Nat.not_lt_zero k))
    have hI : ∀ a, a ≠ 10 → a ≠ 11 → xi_u (xi_u (xi_u I3 10 0 0) 10 1 1) 10 3 (1 : Int32) a = I2 a := fun a h1 h2 => by rw [xi_un h1, xi_un h1, xi_un h1, m1 a h2]
    have hI0 : ∀ a, a ≠ 5 → a ≠ 6 → a ≠ 7 → a ≠ 8 → a ≠ 9 → a ≠ 10 → a ≠ 11 → xi_u (xi_u (xi_u I3 10 0 0) 10 1 1) 10 3 (1 : Int32) a = I a := fun a h5 h6 h7 h8 h9 h10 h11 => by rw [hI a h10 h11, k1 a h5 h6 h7 h8 h9]
    rw [hI 5 (by decide) (by decide), k2.1]
    refine hQ _ _ ⟨fun a ha => hI0 a (by omega) (by omega) (by omega) (by omega) (by omega) (by omega) (by omega), fun a ha => rfl⟩ ⟨okD_cr hN1 hf, kC_of (fun a a1 a2 => hI a (by omega) (by omega)) k2, ⟨?_, ?_, fun k hk => ?_⟩, kS_of (hI0 3 (by decide) (by decide) (by decide) (by decide) (by decide) (by decide) (by decide)) (hI0 4 (by decide) (by decide) (by decide) (by decide) (by decide) (by decide) (by decide)) rfl h.2.2.2.1, kRes_of (hI0 14 (by decide) (by decide) (by decide) (by decide) (by decide) (by decide) (by decide)) rfl rfl h.2.2.2.2.1, fun z => absurd (xi_us.symm.trans z) (by decide)⟩
    · rw [xi_uj (by decide), xi_uj (by decide), xi_us]; rfl
    · rw [xi_uj (by decide), xi_us]; rfl
    · rw [xi_un (by decide), xi_un (by decide), xi_un (by decide)]; exact m2 k hk
  · rw [g1 5 (by decide), xi_us, l2i, hok.2.1]; rfl
end KCR
