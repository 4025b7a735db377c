/-! prepare of the class; both, sets, many, mean -/
def inc (s : Nat) (w : Int) (a b : Nat) : Int := ((bt s a * bt s b : Nat) : Int) * w
theorem sm_inc (D : xD) (a b : Nat) (n : Nat) : sm (fun s => ((bt s a * bt s b : Nat) : Int) * wk D s) n = sm (fun s => inc s (wk D s) a b) n := rfl
section PR
variable {L0 : Nat} {xs : Nat → Int32} {Q : xiQ} {I : Nat → Nat → Int32} {L : Nat → Nat → Int64}
variable {D : xD} {sl : xL} {x y : Int}
/-- how far a set is added to the pairs -/
def prI (L : Nat → Nat → Int64) (D : xD) (q : Nat → Nat → Int) (s : Nat) (w : Int) (i j : Nat) : Prop := ∀ a b, b ≤ a → a < qN D → L 13 (10 * a + b) = zL (q a b + if a < i ∨ (a = i ∧ b < j) then inc s w a b else 0)
theorem prI_skip {q : Nat → Nat → Int} {s : Nat} {w : Int} {i j i' j' : Nat} (h : prI L D q s w i j) (hz : ∀ a b, b ≤ a → a < qN D → ((a < i ∨ (a = i ∧ b < j)) ↔ (a < i' ∨ (a = i' ∧ b < j'))) ∨ inc s w a b = 0) : prI L D q s w i' j' := by
  intro a b hab ha
  rw [h a b hab ha]
  congr 2
  rcases hz a b hab ha with e | e
  · by_cases c : a < i ∨ (a = i ∧ b < j)
    · rw [if_pos c, if_pos (e.mp c)]
    · rw [if_neg c, if_neg (fun z => c (e.mpr z))]
  · rw [e]
    split <;> split <;> rfl
theorem c_kAddP_in (hC : okC D) (hI : kC I D) {q : Nat → Nat → Int} {s : Nat} {w : Int} (hs : s < 1024) {i : Nat} (hi : i < qN D) (hbi : bt s i = 1) (hw : L 12 s = zL w)
    (hQ : ∀ L', (∀ a, a ≠ 13 → L' a = L a) → prI L' D q s w (i + 1) 0 → xi_V (xG L0 xs) 52 2 [some (Value.ref 10), some (Value.ref 5), some (Value.int (nI s)), some (Value.int (nI (i + 1))), none] [] (xSH, xRF, I, L') 0 0 Q) :
    ∀ (n j : Nat) (L1 : Nat → Nat → Int64), j + n = i + 1 → (∀ a, a ≠ 13 → L1 a = L a) → prI L1 D q s w i j → xi_V (xG L0 xs) 52 22 [some (Value.ref 10), some (Value.ref 5), some (Value.int (nI s)), some (Value.int (nI i)), some (Value.int (nI j))] [] (xSH, xRF, I, L1) 0 0 Q
  | 0, j, L1, hn, f, hp => by
    have h10 := hC.1
    refine b_Lots_addToPairs_22 (pk_lt i j (fun _ => ?_) (fun c => absurd c (by omega)))
    rw [nI_1]
    refine hQ L1 f (prI_skip hp (fun a b hab ha => Or.inl ?_))
    omega
  | n + 1, j, L1, hn, f, hp => by
    have h10 := hC.1
    refine b_Lots_addToPairs_22 (pk_lt i j (fun c => absurd c (by omega)) (fun _ => ?_))
    have e0 := hp i j (by omega) hi
    rw [if_neg (by omega), Int.add_zero] at e0
    rw [bt_I (by omega) (by omega), bt_is1, nI_1, show (10 : Int32) = nI 10 from rfl, pk_mul, nI_add, Nat.mul_comm i 10, nI_clamp (show 10 * i + j < 2 ^ 31 by omega), nI_clamp (show s < 2 ^ 31 by omega), f 12 (by decide), hw, e0, zL_add]
    refine ⟨fun e => c_kAddP_in hC hI hs hi hbi hw hQ n (j + 1) L1 (by omega) f (prI_skip hp (fun a b hab ha => ?_)), fun e => ⟨pk_in (10 * i + j) 100 (by omega), pk_in s 1024 hs, pk_in (10 * i + j) 100 (by omega), c_kAddP_in hC hI hs hi hbi hw hQ n (j + 1) _ (by omega) (fun a ha => (xi_un ha).trans (f a ha)) (fun a b hab ha => ?_)⟩⟩
    · by_cases c : a = i ∧ b = j
      · obtain ⟨rfl, rfl⟩ := c
        refine Or.inr ?_
        unfold inc
        rw [(bt_01 s b).resolve_right e, Nat.mul_zero, Int.natCast_zero, Int.zero_mul]
      · refine Or.inl ?_
        omega
    · by_cases c : 10 * a + b = 10 * i + j
      · have ec : a = i ∧ b = j := by omega
        obtain ⟨rfl, rfl⟩ := ec
        rw [xi_us, if_pos (by omega)]
        unfold inc
        rw [hbi, e, Nat.mul_one, Int.natCast_one, Int.one_mul]
      · rw [xi_uj c, hp a b hab ha]
        congr 2
        by_cases c1 : a < i ∨ (a = i ∧ b < j)
        · rw [if_pos c1, if_pos (by omega)]
        · rw [if_neg c1, if_neg (by omega)]
theorem c_kAddP_lp (hC : okC D) (hI : kC I D) {q : Nat → Nat → Int} {s : Nat} {w : Int} (hs : s < 1024) (hw : L 12 s = zL w)
    (hQ : ∀ L', (∀ a, a ≠ 13 → L' a = L a) → (∀ a b, b ≤ a → a < qN D → L' 13 (10 * a + b) = zL (q a b + inc s w a b)) → Q none (xSH, xRF, I, L')) :
    ∀ (n i : Nat) (L1 : Nat → Nat → Int64), i + n = qN D → (∀ a, a ≠ 13 → L1 a = L a) → prI L1 D q s w i 0 → xi_V (xG L0 xs) 52 2 [some (Value.ref 10), some (Value.ref 5), some (Value.int (nI s)), some (Value.int (nI i)), none] [] (xSH, xRF, I, L1) 0 0 Q
  | 0, i, L1, hn, f, hp => by
    have h10 := hC.1
    refine b_Lots_addToPairs_2 ?_
    rw [hI.1]
    refine pk_le (qN D) i (fun _ => hQ L1 f (fun a b hab ha => ?_)) (fun c => absurd c (by omega))
    have := hp a b hab ha
    rw [if_pos (by omega)] at this
    exact this
  | n + 1, i, L1, hn, f, hp => by
    have h10 := hC.1
    refine b_Lots_addToPairs_2 ?_
    rw [hI.1, bt_I (by omega) (by omega), bt_is1, nI_1]
    refine pk_le (qN D) i (fun c => absurd c (by omega)) (fun c => ⟨fun e => ?_, fun e => ?_⟩)
    · refine c_kAddP_lp hC hI hs hw hQ n (i + 1) L1 (by omega) f (prI_skip hp (fun a b hab ha => ?_))
      by_cases c1 : a = i
      · subst c1
        refine Or.inr ?_
        unfold inc
        rw [(bt_01 s a).resolve_right e, Nat.zero_mul, Int.natCast_zero, Int.zero_mul]
      · refine Or.inl ?_
        omega
    · exact c_kAddP_in (L := L) hC hI hs c e hw (fun L2 f2 p2 => c_kAddP_lp hC hI hs hw hQ n (i + 1) L2 (by omega) f2 p2) (i + 1) 0 L1 (Nat.zero_add _) f hp
theorem c_fillL {v : Int64} {J : Nat → Nat → Int64} (hQ : ∀ L', (∀ a, a ≠ 13 → L' a = J a) → (∀ k, k < 100 → L' 13 k = v) → Q none (xSH, xRF, I, L')) :
    ∀ (m i : Nat) (L1 : Nat → Nat → Int64), i + m = 100 → (∀ a, a ≠ 13 → L1 a = J a) → (∀ k, k < i → L1 13 k = v) → xi_V (xG L0 xs) 6 6 [some (Value.ref 13), some (Value.long v), none, some (Value.int (nI i)), some (Value.int (nI 100))] [] (xSH, xRF, I, L1) 0 0 Q
  | 0, i, L1, hm, h1, h2 => b_Arr_fillL_6 rfl (pk_le 100 i (fun c => hQ L1 h1 (fun k hk => h2 k (by omega))) (fun c => absurd c (by omega)))
  | m + 1, i, L1, hm, h1, h2 => by
    refine b_Arr_fillL_6 rfl (pk_le 100 i (fun c => absurd c (by omega)) (fun c => ⟨pk_in i 100 (by omega), ?_⟩))
    rw [nI_clamp (by omega), nI_1]
    refine c_fillL hQ m (i + 1) _ (by omega) (fun a ha => (xi_un ha).trans (h1 a ha)) (fun k hk => ?_)
    by_cases e : k = i
    · subst e; exact xi_us
    · rw [xi_uj e]; exact h2 k (by omega)
theorem c_kByW_lp (hD0 : okD D) (hI : kC I D) (hw : ∀ s, s < 2 ^ qN D → L 12 s = zL (wk D s))
    (hQ : ∀ L', (∀ a, a ≠ 13 → a ≠ 10 → L' a = L a) → L' 10 6 = zL (sm (wk D) (2 ^ qN D)) → (∀ a b, b ≤ a → a < qN D → L' 13 (10 * a + b) = zL (sm (fun s => inc s (wk D s) a b) (2 ^ qN D))) → Q none (xSH, xRF, I, L')) :
    ∀ (n s : Nat) (L1 : Nat → Nat → Int64), s + n = 2 ^ qN D → (∀ a, a ≠ 13 → a ≠ 10 → L1 a = L a) → L1 10 6 = zL (sm (wk D) s) → (∀ a b, b ≤ a → a < qN D → L1 13 (10 * a + b) = zL (sm (fun s => inc s (wk D s) a b) s)) → xi_V (xG L0 xs) 51 15 [some (Value.ref 10), some (Value.ref 5), some (Value.int (nI s))] [] (xSH, xRF, I, L1) 0 0 Q
  | 0, s, L1, hn, f, h6, h13 => by
    have h10 := hD0.1.1
    have hp := p2_lt h10.2
    rw [show s = 2 ^ qN D by omega] at h6 h13 ⊢
    exact b_Lots_pairByWeights_15 (c_kSetCount hD0.1 hI (b_Lots_pairByWeights_20 (pk_le (2 ^ qN D) (2 ^ qN D) (fun _ => hQ L1 f h6 h13) (fun c => absurd c (by omega)))))
  | n + 1, s, L1, hn, f, h6, h13 => by
    have h10 := hD0.1.1
    have hp := p2_lt h10.2
    have hs : s < 2 ^ qN D := by omega
    have hnn := wk_nn hD0.1 s
    have hle := wk_le hD0 hs
    refine b_Lots_pairByWeights_15 (c_kSetCount hD0.1 hI (b_Lots_pairByWeights_20 (pk_le (2 ^ qN D) s (fun c => absurd c (by omega)) (fun _ => ⟨pk_in s 1024 (by omega), ?_⟩))))
    rw [nI_clamp (by omega), f 12 (by decide) (by decide), hw s hs, cmp_le, Int64.lt_iff_toInt_lt, m_z0, zL_t (by omega) (by omega)]
    refine ⟨fun c => b_Lots_pairByWeights_55 ?_, fun c => ⟨pk_in s 1024 (by omega), ?_⟩⟩
    · have e0 : wk D s = 0 := by omega
      rw [nI_1]
      refine c_kByW_lp hD0 hI hw hQ n (s + 1) L1 (by omega) f ?_ (fun a b hab ha => ?_)
      · rw [sm_s, e0, Int.add_zero]; exact h6
      · rw [sm_s, e0]
        unfold inc
        rw [Int.mul_zero, Int.add_zero]
        exact h13 a b hab ha
    · rw [h6, zL_add]
      refine b_Lots_addToPairs_0 (c_kAddP_lp (L := xi_u L1 10 6 (zL (sm (wk D) s + wk D s))) (q := fun a b => sm (fun s => inc s (wk D s) a b) s) hD0.1 hI (by omega) (by rw [xi_un (by decide), f 12 (by decide) (by decide)]; exact hw s hs) (fun L2 f2 p2 => b_Lots_pairByWeights_55 ?_) (qN D) 0 _ (Nat.zero_add _) (fun _ _ => rfl) (fun a b hab ha => ?_))
      · rw [nI_1]
        refine c_kByW_lp hD0 hI hw hQ n (s + 1) L2 (by omega) (fun a a1 a2 => by rw [f2 a a1, xi_un a2]; exact f a a1 a2) ?_ (fun a b hab ha => p2 a b hab ha)
        rw [f2 10 (by decide), xi_us]; rfl
      · rw [xi_un (by decide), h13 a b hab ha, if_neg (by omega), Int.add_zero]
theorem c_kOwn_in (hC : okC D) (hI : kC I D) {i : Nat} (hi : i < qN D)
    (hQ : ∀ L', (∀ a, a ≠ 13 → L' a = L a) → (∀ b, b ≤ i → L' 13 (10 * i + b) = zL (if i = b then (qS D i : Int) * 100 else (qS D i : Int) * (qS D b : Int))) → (∀ k, k < 10 * i → L' 13 k = L 13 k) → xi_V (xG L0 xs) 50 9 [some (Value.ref 10), some (Value.ref 5), some (Value.int (nI (i + 1))), none] [] (xSH, xRF, I, L') 0 0 Q) :
    ∀ (n j : Nat) (L1 : Nat → Nat → Int64), j + n = i → (∀ a, a ≠ 13 → L1 a = L a) → (∀ b, b < j → L1 13 (10 * i + b) = zL ((qS D i : Int) * (qS D b : Int))) → (∀ k, k < 10 * i → L1 13 k = L 13 k) → xi_V (xG L0 xs) 50 19 [some (Value.ref 10), some (Value.ref 5), some (Value.int (nI i)), some (Value.int (nI j))] [] (xSH, xRF, I, L1) 0 0 Q
  | 0, j, L1, hn, f, h1, h2 => by
    have h10 := hC.1
    have hS := (hC.2 i hi).2.2.2
    refine b_Lots_pairOwn_19 (pk_le i j (fun _ => ⟨pk_in i 10 (by omega), ?_⟩) (fun c => absurd c (by omega)))
    rw [show (10 : Int32) = nI 10 from rfl, pk_mul, nI_add, Nat.mul_comm i 10, nI_clamp (show 10 * i + i < 2 ^ 31 by omega), nI_clamp (show i < 2 ^ 31 by omega), (hI.2.1 i hi).2.2, nI_1, show (100 : Int32) = zI 100 from rfl, zI_n (qS D i), zI_mul, zI_L (by omega) (by omega)]
    refine ⟨pk_in (10 * i + i) 100 (by omega), hQ _ (fun a ha => (xi_un ha).trans (f a ha)) (fun b hb => ?_) (fun k hk => by rw [xi_uj (by omega)]; exact h2 k hk)⟩
    by_cases e : i = b
    · subst e; rw [xi_us, if_pos rfl]
    · rw [xi_uj (by omega), if_neg e]; exact h1 b (by omega)
  | n + 1, j, L1, hn, f, h1, h2 => by
    have h10 := hC.1
    have hS := (hC.2 i hi).2.2.2
    have hSj := (hC.2 j (by omega)).2.2.2
    have hm := mulb (x := (qS D i : Int)) (y := (qS D j : Int)) (A := 100) (B := 100) (by omega) (by omega)
    refine b_Lots_pairOwn_19 (pk_le i j (fun c => absurd c (by omega)) (fun _ => ⟨pk_in i 10 (by omega), pk_in j 10 (by omega), ?_⟩))
    rw [show (10 : Int32) = nI 10 from rfl, pk_mul, nI_add, Nat.mul_comm i 10, nI_clamp (show 10 * i + j < 2 ^ 31 by omega), nI_clamp (show i < 2 ^ 31 by omega), nI_clamp (show j < 2 ^ 31 by omega), (hI.2.1 i hi).2.2, (hI.2.1 j (by omega)).2.2, nI_1, zI_n (qS D i), zI_n (qS D j), zI_mul, zI_L (by omega) (by omega)]
    refine ⟨pk_in (10 * i + j) 100 (by omega), c_kOwn_in hC hI hi hQ n (j + 1) _ (by omega) (fun a ha => (xi_un ha).trans (f a ha)) (fun b hb => ?_) (fun k hk => by rw [xi_uj (by omega)]; exact h2 k hk)⟩
    by_cases e : b = j
    · subst e; exact xi_us
    · rw [xi_uj (by omega)]; exact h1 b (by omega)
theorem c_kOwn_lp (hC : okC D) (hI : kC I D) (hK : qK D = 3)
    (hQ : ∀ L', (∀ a, a ≠ 13 → L' a = L a) → (∀ a b, b ≤ a → a < qN D → L' 13 (10 * a + b) = zL (pk D a b)) → Q none (xSH, xRF, I, L')) :
    ∀ (n i : Nat) (L1 : Nat → Nat → Int64), i + n = qN D → (∀ a, a ≠ 13 → L1 a = L a) → (∀ a b, b ≤ a → a < i → L1 13 (10 * a + b) = zL (pk D a b)) → xi_V (xG L0 xs) 50 9 [some (Value.ref 10), some (Value.ref 5), some (Value.int (nI i)), none] [] (xSH, xRF, I, L1) 0 0 Q
  | 0, i, L1, hn, f, hp => by
    have h10 := hC.1
    refine b_Lots_pairOwn_9 ?_
    rw [hI.1]
    exact pk_le (qN D) i (fun _ => hQ L1 f (fun a b hab ha => hp a b hab (by omega))) (fun c => absurd c (by omega))
  | n + 1, i, L1, hn, f, hp => by
    have h10 := hC.1
    refine b_Lots_pairOwn_9 ?_
    rw [hI.1]
    refine pk_le (qN D) i (fun c => absurd c (by omega)) (fun c => ?_)
    refine c_kOwn_in (L := L1) hC hI c (fun L2 f2 p2 k2 => c_kOwn_lp hC hI hK hQ n (i + 1) L2 (by omega) (fun a ha => (f2 a ha).trans (f a ha)) (fun a b hab ha => ?_)) i 0 L1 (Nat.zero_add _) (fun _ _ => rfl) (fun b hb => absurd hb (Nat.not_lt_zero b)) (fun _ _ => rfl)
    rcases Nat.lt_succ_iff_lt_or_eq.mp ha with z | z
    · rw [k2 _ (by omega)]; exact hp a b hab z
    · subst z
      rw [p2 b hab]
      unfold pk
      rw [if_pos hK]
theorem c_kPrep_lp (hD0 : okD D) (hI : kC I D) (hD : kD I D)
    (hQ : ∀ L', (∀ a, a ≠ 12 → L' a = L a) → (∀ s, s < 2 ^ qN D → L' 12 s = (if qK D = 2 then 0 else zL (wk D s))) → xi_V (xG L0 xs) 43 10 [some (Value.ref 10), some (Value.ref 5), some (Value.int (nI (2 ^ qN D)))] [] (xSH, xRF, I, L') 0 0 Q) :
    ∀ (n s : Nat) (L1 : Nat → Nat → Int64), s + n = 2 ^ qN D → (∀ a, a ≠ 12 → L1 a = L a) → (∀ k, k < s → L1 12 k = (if qK D = 2 then 0 else zL (wk D k))) → xi_V (xG L0 xs) 43 10 [some (Value.ref 10), some (Value.ref 5), some (Value.int (nI s))] [] (xSH, xRF, I, L1) 0 0 Q
  | 0, s, L1, hn, f, hk => by
    rw [show s = 2 ^ qN D by omega] at hk ⊢
    exact hQ L1 f hk
  | n + 1, s, L1, hn, f, hk => by
    have h10 := hD0.1.1
    have hp := p2_lt h10.2
    refine b_Lots_prepare_10 (c_kSetCount hD0.1 hI (b_Lots_prepare_15 (pk_le (2 ^ qN D) s (fun c => absurd c (by omega)) (fun _ => c_kWeigh hD0 hI hD (by omega) (b_Lots_prepare_29 ?_)))))
    rw [nI_clamp (by omega), nI_1]
    refine ⟨pk_in s 1024 (by omega), c_kPrep_lp hD0 hI hD hQ n (s + 1) _ (by omega) (fun a ha => (xi_un ha).trans (f a ha)) (fun k hk2 => ?_)⟩
    by_cases e : k = s
    · subst e; exact xi_us
    · rw [xi_uj e]; exact hk k (by omega)
/-- prepare -/
theorem c_kPrep (h : kR I L D sl x y) (hQ : ∀ I' L', kFr I I' L L' → kR I' L' D sl x y → kW L' D → Q none (xSH, xRF, I', L')) : xi_V (xG L0 xs) 43 0 [some (Value.ref 10), some (Value.ref 5), none] [] (xSH, xRF, I, L) 0 0 Q := by
  have hD0 := h.1
  have h10 := hD0.1.1
  have hp := p2_lt h10.2
  have hI := h.2.1
  have hD := h.2.2.1
  have hK4 := hD0.2.1
  refine b_Lots_prepare_0 ⟨fun _ => ?_, fun c => hQ I L ⟨fun _ _ => rfl, fun _ _ => rfl⟩ h (h.2.2.2.2.2 c)⟩
  have fin : ∀ (v2 : Int32) (L' : Nat → Nat → Int64), (∀ a, a ≠ 10 → a ≠ 12 → a ≠ 13 → L' a = L a) → L' 10 6 = zL (Wk D) → (∀ a b, b ≤ a → a < qN D → L' 13 (10 * a + b) = zL (pk D a b)) → (∀ s, s < 2 ^ qN D → L' 12 s = zL (wk D s)) → xi_V (xG L0 xs) 43 70 [some (Value.ref 10), some (Value.ref 5), some (Value.int v2)] [] (xSH, xRF, I, L') 0 0 Q := by
    intro v2 L' f e6 e13 e12
    have kw : kW L' D := ⟨Wk D, wk D, pk D, e6, Wk_b hD0, fun i j hij hi => ⟨e13 i j hij hi, (pk_b hD0 hi (by omega)).1, (pk_b hD0 hi (by omega)).2, kw_c2 hD0 hi (by omega)⟩, fun s hs => ⟨e12 s hs, wk_nn hD0.1 s, wk_le hD0 hs, wk_0 hD0 hs, fun hK => kw_wt hD0 hK hs⟩⟩
    have hIo : ∀ a, a ≠ 10 → xi_u I 10 3 (0 : Int32) a = I a := fun a ha => xi_un ha
    refine b_Lots_prepare_70 ⟨by decide, hQ _ L' ⟨fun a ha => hIo a (by omega), fun a ha => f a (by omega) (by omega) (by omega)⟩ ⟨hD0, kC_of (fun a a1 a2 => hIo a (by omega)) hI, ?_, kS_of (hIo 3 (by decide)) (hIo 4 (by decide)) (f 2 (by decide) (by decide) (by decide)) h.2.2.2.1, kRes_of (hIo 14 (by decide)) (f 16 (by decide) (by decide) (by decide)) (f 18 (by decide) (by decide) (by decide)) h.2.2.2.2.1, fun _ => kw⟩ kw⟩
    unfold kD at hD ⊢
    rw [hIo 11 (by decide), xi_uj (by decide), xi_uj (by decide)]
    exact hD
  have pairs : ∀ (v2 : Int32) (L1 : Nat → Nat → Int64), (∀ a, a ≠ 12 → L1 a = L a) → (∀ s, s < 2 ^ qN D → L1 12 s = zL (wk D s)) → xi_V (xG L0 xs) 43 49 [some (Value.ref 10), some (Value.ref 5), some (Value.int v2)] [] (xSH, xRF, I, L1) 0 0 Q := by
    intro v2 L1 f e12
    refine b_Lots_prepare_49 ?_
    rw [hD.1]
    refine ⟨fun e => ?_, fun e => ?_⟩
    · have hK : qK D ≠ 3 := fun z => e (by rw [z]; rfl)
      refine b_Lots_pairByWeights_0 (b_Arr_fillL_0 rfl ?_)
      refine c_fillL (J := xi_u L1 10 6 0) (fun L2 f2 z2 => b_Lots_pairByWeights_13 ?_) 100 0 _ rfl (fun _ _ => rfl) (fun k hk => absurd hk (Nat.not_lt_zero k))
      refine c_kByW_lp (L := L2) hD0 hI (fun s hs => by rw [f2 12 (by decide), xi_un (by decide)]; exact e12 s hs) (fun L3 f3 g6 g13 => fin v2 L3 (fun a a1 a2 a3 => by rw [f3 a a3 a1, f2 a a3, xi_un a1, f a a2]) ?_ (fun a b hab ha => ?_) (fun s hs => by rw [f3 12 (by decide) (by decide), f2 12 (by decide), xi_un (by decide)]; exact e12 s hs)) (2 ^ qN D) 0 L2 (Nat.zero_add _) (fun _ _ _ => rfl) (by rw [f2 10 (by decide), xi_us]; rfl) (fun a b hab ha => z2 _ (by omega))
      · unfold Wk; rw [if_neg hK]; exact g6
      · unfold pk; rw [if_neg hK]; exact g13 a b hab ha
    · have hK : qK D = 3 := (nI_eq (b := 3) (by omega) (by decide)).mp e
      refine b_Lots_pairOwn_0 (c_kOwn_lp (L := xi_u L1 10 6 10000) hD0.1 hI hK (fun L3 f3 g13 => b_Lots_prepare_62 (fin v2 L3 (fun a a1 a2 a3 => by rw [f3 a a3, xi_un a1, f a a2]) ?_ g13 (fun s hs => by rw [f3 12 (by decide), xi_un (by decide)]; exact e12 s hs))) (qN D) 0 _ (Nat.zero_add _) (fun _ _ => rfl) (fun a b hab ha => absurd ha (Nat.not_lt_zero a)))
      rw [f3 10 (by decide), xi_us]
      unfold Wk
      rw [if_pos hK]; decide
  refine c_kPrep_lp hD0 hI hD (fun L1 f1 g1 => b_Lots_prepare_10 (c_kSetCount hD0.1 hI (b_Lots_prepare_15 (pk_le (2 ^ qN D) (2 ^ qN D) (fun _ => ?_) (fun c => absurd c (by omega)))))) (2 ^ qN D) 0 L (Nat.zero_add _) (fun _ _ => rfl) (fun k hk => absurd hk (Nat.not_lt_zero k))
  rw [hD.1]
  refine ⟨fun e => pairs _ L1 f1 (fun s hs => ?_), fun e => ?_⟩
  · have := g1 s hs
    rw [if_neg (fun z => e (by rw [z]; rfl))] at this
    exact this
  · have hK : qK D = 2 := (nI_eq (b := 2) (by omega) (by decide)).mp e
    refine b_Lots_weighStarts_0 (c_kSizes hD0.1 hI (b_Lots_weighStarts_4 (c_kStarts_lp (L := L1) hD0 hI hD hK (fun L2 f2 g2 => pairs _ L2 (fun a ha => (f2 a ha).trans (f1 a ha)) (fun s hs => ?_)) (qT D) 0 L1 (Nat.zero_add _) (fun _ _ => rfl) (fun s hs => ?_))))
    · rw [g2 s hs]
      unfold wk
      rw [hK]; rfl
    · have := g1 s hs
      rw [if_pos hK] at this
      exact this
end PR
