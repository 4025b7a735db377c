/-! the law's calls: the class and the reference side by side -/
theorem mR_k {I I' : Nat → Nat → Int32} {L L' : Nat → Nat → Int64} {D : xD} {sl : xL} {x y : Int} (f : kFr I I' L L') (h : mR I L D sl x y) : mR I' L' D sl x y := by
  refine ⟨h.1, mC_of (fun a ha => f.1 a (by omega)) h.2.1, mD_of (fun a ha => f.1 a (by omega)) h.2.2.1, mS_of (f.1 39 (by decide)) (f.1 40 (by decide)) (f.2 41 (by decide)) h.2.2.2.1, ?_, ?_, fun e => ?_⟩
  · rw [f.2 38 (by decide)]; exact h.2.2.2.2.1
  · rw [f.2 38 (by decide)]; exact h.2.2.2.2.2.1
  · rw [f.1 37 (by decide)] at e
    rw [f.2 38 (by decide)]; exact h.2.2.2.2.2.2 e
theorem kR_m {I I' : Nat → Nat → Int32} {L L' : Nat → Nat → Int64} {D : xD} {sl : xL} {x y : Int} (f : mFr I I' L L') (h : kR I L D sl x y) : kR I' L' D sl x y := by
  refine ⟨h.1, kC_of (fun a a1 a2 => f.1 a (by omega)) h.2.1, kD_of (fun a ha => f.1 a (by omega)) h.2.2.1, kS_of (f.1 3 (by decide)) (f.1 4 (by decide)) (f.2 2 (by decide)) h.2.2.2.1, kRes_of (f.1 14 (by decide)) (f.2 16 (by decide)) (f.2 18 (by decide)) h.2.2.2.2.1, fun e => ?_⟩
  rw [f.1 10 (by decide)] at e
  exact kW_of (f.2 10 (by decide)) (f.2 12 (by decide)) (f.2 13 (by decide)) (h.2.2.2.2.2 e)
theorem pk_rng (v : Int32) {lo hi : Nat} (h1 : lo < 2147483648) (h2 : hi < 2147483648) : (v < nI lo ∨ nI hi < v) ∨ ∃ t : Nat, lo ≤ t ∧ t ≤ hi ∧ v = nI t := by
  rw [Int32.lt_iff_toInt_lt, Int32.lt_iff_toInt_lt, zI_n, zI_n, zI_t (by omega) (by omega), zI_t (by omega) (by omega)]
  by_cases c : v.toInt < (lo : Int) ∨ (hi : Int) < v.toInt
  · exact Or.inl c
  · exact Or.inr ⟨v.toInt.toNat, by omega, by omega, nI_of_toInt (by omega)⟩
theorem nle {a b : Int32} (h : a < b) : ¬ b ≤ a := Int32.not_le.mpr h
theorem ge_4 {v : Int32} (h : nI 4 ≤ v) : 3 < v := lt3.mpr h
theorem ge_61 {v : Int32} (h : nI 61 ≤ v) : ¬ v ≤ 60 := by
  rw [Int32.le_iff_toInt_le] at *
  have e1 : (nI 61).toInt = 61 := by decide
  have e2 : (60 : Int32).toInt = 60 := by decide
  omega
theorem ge_5 {v : Int32} (h : nI 5 ≤ v) : ¬ v ≤ 4 := by
  rw [Int32.le_iff_toInt_le] at *
  have e1 : (nI 5).toInt = 5 := by decide
  have e2 : (4 : Int32).toInt = 4 := by decide
  omega
theorem p44 {i : Nat} (h : i < 44) : ¬ (nI i < 0 ∨ ¬ nI i < 44) := by
  have e1 : (44 : Int32).toInt = 44 := by decide
  have e2 : (0 : Int32).toInt = 0 := by decide
  rw [Int32.lt_iff_toInt_lt, Int32.lt_iff_toInt_lt, zI_n, zI_t (by omega) (by omega), e1, e2]
  omega
theorem p44b {v : Int32} (h : nI 44 ≤ v) : ¬ v < 44 := Int32.not_lt.mpr h
theorem cr_split {val : Nat → Int64} {len N : Nat} (h0 : 0 < len) (h1 : (val 0).toInt = (N : Int)) (h2 : 1 ≤ N ∧ N ≤ 10) : ∀ m, m ≤ 4 * N → crOk val len N m ∨ ∃ j, j < m ∧ crOk val len N j ∧ (len ≤ j + 1 ∨ (j + 1 < len ∧ ¬ fok j (val (j + 1)).toInt))
  | 0, _ => Or.inl ⟨h0, h1, h2, Nat.zero_le _, fun k hk => absurd hk (Nat.not_lt_zero k)⟩
  | m + 1, h => by
    rcases cr_split h0 h1 h2 m (by omega) with z | ⟨j, hj, z⟩
    · by_cases c : len ≤ m + 1
      · exact Or.inr ⟨m, Nat.lt_succ_self m, z, Or.inl c⟩
      · by_cases d : fok m (val (m + 1)).toInt
        · refine Or.inl ⟨h0, h1, h2, h, fun k hk => ?_⟩
          by_cases e : k = m
          · subst e; exact ⟨by omega, d⟩
          · exact z.2.2.2.2 k (by omega)
        · exact Or.inr ⟨m, Nat.lt_succ_self m, z, Or.inr ⟨by omega, d⟩⟩
    · exact Or.inr ⟨j, by omega, z⟩
section LW
variable {L0 : Nat} {xs : Nat → Int32} {Q : xiQ} {I : Nat → Nat → Int32} {L : Nat → Nat → Int64}
variable {D : xD} {sl : xL} {x y : Int} {v3 a b c : Int32}
abbrev goN (L0 : Nat) (xs : Nat → Int32) (Q : xiQ) (v3 : Int32) : Prop := ∀ (I : Nat → Nat → Int32) (L : Nat → Nat → Int64) (D : xD) (sl : xL) (x y : Int), kR I L D sl x y → mR I L D sl x y → xi_V (xG L0 xs) 173 18 [some (Value.ref 1000000), some (Value.ref 0), some (Value.ref 37), some (Value.int (v3 + (5 : Int32)))] [] (xSH, xRF, I, L) 53 49788 Q
theorem l_row (hk : kR I L D sl x y) (hm : mR I L D sl x y) (go : goN L0 xs Q v3) (a1 : vp_in (v3 + (1 : Int32)) L0) (a2 : vp_in (v3 + (2 : Int32)) L0) (a3 : vp_in (v3 + (3 : Int32)) L0) (e1 : xs (v3 + (1 : Int32)).toNatClampNeg = a) (e2 : xs (v3 + (2 : Int32)).toNatClampNeg = b) (e3 : xs (v3 + (3 : Int32)).toNatClampNeg = c) : xi_V (xG L0 xs) 71 0 [some (Value.ref 0), some (Value.int a), some (Value.int b), some (Value.int c)] [] (xSH, xRF, I, L) 0 0 (fun o σ' => xi_V (xG L0 xs) 173 155 [some (Value.ref 1000000), some (Value.ref 0), some (Value.ref 37), some (Value.int v3)] (o.toList ++ []) σ' 53 49788 Q) := by
  have ref : ((a < 0 ∨ 7 < a) ∨ b < 0 ∨ 3 < b ∨ ¬ c ≤ 60) → xi_V (xG L0 xs) 71 0 [some (Value.ref 0), some (Value.int a), some (Value.int b), some (Value.int c)] [] (xSH, xRF, I, L) 0 0 (fun o σ' => xi_V (xG L0 xs) 173 155 [some (Value.ref 1000000), some (Value.ref 0), some (Value.ref 37), some (Value.int v3)] (o.toList ++ []) σ' 53 49788 Q) := fun z =>
    o_kRow2 z (b_Law_law_155 ⟨a1, a2, a3, by rw [e1, e2, e3]; exact o_mRow2 z (b_Law_law_174 ⟨fun _ => go _ _ _ _ _ _ hk hm, fun c => absurd rfl c⟩)⟩)
  rcases pk_ix7 a with z | ⟨s, hs, ea⟩
  · exact ref (Or.inl z)
  rcases pk_ix b (n := 4) (by decide) with z | z | ⟨w, hw, eb⟩
  · exact ref (Or.inr (Or.inl z))
  · exact ref (Or.inr (Or.inr (Or.inl (ge_4 z))))
  rcases pk_ix c (n := 61) (by decide) with z | z | ⟨n, hn, ec⟩
  · clear ref
    subst ea eb
    exact o_kRow3 hs hw z (b_Law_law_155 ⟨a1, a2, a3, by rw [e1, e2, e3]; exact o_mRow3 hs hw z (b_Law_law_174 ⟨fun _ => go _ _ _ _ _ _ hk hm, fun c => absurd rfl c⟩)⟩)
  · exact ref (Or.inr (Or.inr (Or.inr (ge_61 z))))
  · clear ref
    subst ea eb ec
    exact o_kRow hk hs hw (by omega) (fun I1 L1 f1 k1 => b_Law_law_155 ⟨a1, a2, a3, by rw [e1, e2, e3]; exact o_mRow (mR_k f1 hm) hs hw (by omega) (fun I2 L2 f2 m2 => b_Law_law_174 ⟨fun _ => go _ _ _ _ _ _ (kR_m f2 k1) m2, fun c => absurd rfl c⟩)⟩)
theorem l_tear (hk : kR I L D sl x y) (hm : mR I L D sl x y) (go : goN L0 xs Q v3) (a1 : vp_in (v3 + (1 : Int32)) L0) (e1 : xs (v3 + (1 : Int32)).toNatClampNeg = a) : xi_V (xG L0 xs) 72 0 [some (Value.ref 0), some (Value.int a)] [] (xSH, xRF, I, L) 0 0 (fun o σ' => xi_V (xG L0 xs) 173 188 [some (Value.ref 1000000), some (Value.ref 0), some (Value.ref 37), some (Value.int v3)] (o.toList ++ []) σ' 53 49788 Q) := by
  have ref : ((a < 0 ∨ 7 < a) ∨ ∃ s, s < 8 ∧ a = nI s ∧ (sl s).1 = 0) → xi_V (xG L0 xs) 72 0 [some (Value.ref 0), some (Value.int a)] [] (xSH, xRF, I, L) 0 0 (fun o σ' => xi_V (xG L0 xs) 173 188 [some (Value.ref 1000000), some (Value.ref 0), some (Value.ref 37), some (Value.int v3)] (o.toList ++ []) σ' 53 49788 Q) := fun z =>
    o_kTear0 hk z (b_Law_law_188 ⟨a1, by rw [e1]; exact o_mTear0 hm z (b_Law_law_197 ⟨fun _ => go _ _ _ _ _ _ hk hm, fun c => absurd rfl c⟩)⟩)
  rcases pk_ix7 a with z | ⟨s, hs, ea⟩
  · exact ref (Or.inl z)
  by_cases he : (sl s).1 = 0
  · exact ref (Or.inr ⟨s, hs, ea, he⟩)
  · clear ref
    subst ea
    exact o_kTear hk hs he (fun I1 L1 f1 k1 => b_Law_law_188 ⟨a1, by rw [e1]; exact o_mTear (mR_k f1 hm) hs he (fun I2 L2 f2 m2 => b_Law_law_197 ⟨fun _ => go _ _ _ _ _ _ (kR_m f2 k1) m2, fun c => absurd rfl c⟩)⟩)
theorem l_write {w : Int64} (hk : kR I L D sl x y) (hm : mR I L D sl x y) (go : goN L0 xs Q v3) (a1 : vp_in (v3 + (1 : Int32)) L0) (a2 : vp_in (v3 + (2 : Int32)) L0) (a3 : vp_in (v3 + (3 : Int32)) L0) (a4 : vp_in (v3 + (4 : Int32)) L0) (e1 : xs (v3 + (1 : Int32)).toNatClampNeg = a) (e2 : xs (v3 + (2 : Int32)).toNatClampNeg = b) (ew : (((Int32.toInt64 (xs (v3 + (3 : Int32)).toNatClampNeg)) <<< ((32 : Int32).toInt64 &&& 63)) ||| ((Int32.toInt64 (xs (v3 + (4 : Int32)).toNatClampNeg)) &&& (4294967295 : Int64))) = w) : xi_V (xG L0 xs) 73 0 [some (Value.ref 0), some (Value.int a), some (Value.int b), some (Value.long w), none] [] (xSH, xRF, I, L) 0 0 (fun o σ' => xi_V (xG L0 xs) 173 236 [some (Value.ref 1000000), some (Value.ref 0), some (Value.ref 37), some (Value.int v3)] (o.toList ++ []) σ' 53 49788 Q) := by
  rcases pk_ix7 a with z | ⟨s, hs, ea⟩
  · exact o_kWrite2 z (b_Law_law_236 ⟨a1, a2, a3, a4, by rw [e1, e2, ew]; exact o_mWrite2 z (b_Law_law_270 ⟨fun _ => go _ _ _ _ _ _ hk hm, fun c => absurd rfl c⟩)⟩)
  subst ea
  by_cases he : (sl s).1 = 0
  · exact o_kWrite5 hk hs he (b_Law_law_236 ⟨a1, a2, a3, a4, by rw [e1, e2, ew]; exact o_mWrite5 hm hs he (b_Law_law_270 ⟨fun _ => go _ _ _ _ _ _ hk hm, fun c => absurd rfl c⟩)⟩)
  have h61 := (hm.2.2.2.1 s hs).1
  have ref : (b < 0 ∨ nI ((sl s).1 - 1) ≤ b) → xi_V (xG L0 xs) 73 0 [some (Value.ref 0), some (Value.int (nI s)), some (Value.int b), some (Value.long w), none] [] (xSH, xRF, I, L) 0 0 (fun o σ' => xi_V (xG L0 xs) 173 236 [some (Value.ref 1000000), some (Value.ref 0), some (Value.ref 37), some (Value.int v3)] (o.toList ++ []) σ' 53 49788 Q) := fun z =>
    o_kWrite6 hk hs he z (b_Law_law_236 ⟨a1, a2, a3, a4, by rw [e1, e2, ew]; exact o_mWrite6 hm hs he z (b_Law_law_270 ⟨fun _ => go _ _ _ _ _ _ hk hm, fun c => absurd rfl c⟩)⟩)
  rcases pk_ix b (n := (sl s).1 - 1) (by omega) with z | z | ⟨i, hi, eb⟩
  · exact ref (Or.inl z)
  · exact ref (Or.inr z)
  · clear ref
    subst eb
    exact o_kWrite hk hs (by omega) (fun I1 L1 f1 k1 => b_Law_law_236 ⟨a1, a2, a3, a4, by rw [e1, e2, ew]; exact o_mWrite (mR_k f1 hm) hs (by omega) (fun I2 L2 f2 m2 => b_Law_law_270 ⟨fun _ => go _ _ _ _ _ _ (kR_m f2 k1) m2, fun c => absurd rfl c⟩)⟩)
theorem l_crowd (hk : kR I L D sl x y) (hm : mR I L D sl x y) (go : goN L0 xs Q v3) (a1 : vp_in (v3 + (1 : Int32)) L0) (e1 : xs (v3 + (1 : Int32)).toNatClampNeg = a) : xi_V (xG L0 xs) 74 0 [some (Value.ref 0), some (Value.int a), none] [] (xSH, xRF, I, L) 0 0 (fun o σ' => xi_V (xG L0 xs) 173 284 [some (Value.ref 1000000), some (Value.ref 0), some (Value.ref 37), some (Value.int v3)] (o.toList ++ []) σ' 53 49788 Q) := by
  rcases pk_ix7 a with z | ⟨s, hs, ea⟩
  · exact o_kCrowd2 z (b_Law_law_284 ⟨a1, by rw [e1]; exact o_mCrowd2 z (b_Law_law_293 ⟨fun _ => go _ _ _ _ _ _ hk hm, fun c => absurd rfl c⟩)⟩)
  subst ea
  by_cases he : (sl s).1 = 0
  · exact o_kCrowd5 hk hs he (b_Law_law_284 ⟨a1, by rw [e1]; exact o_mCrowd5 hm hs he (b_Law_law_293 ⟨fun _ => go _ _ _ _ _ _ hk hm, fun c => absurd rfl c⟩)⟩)
  by_cases hc : 0 = (sl s).1 - 1 ∨ ¬ (1 ≤ ((sl s).2.2 0).toInt ∧ ((sl s).2.2 0).toInt ≤ 10)
  · refine o_kCrowdF hk hs he ⟨fun z => b_Law_law_284 ⟨a1, by rw [e1]; exact o_mCrowdF hm hs he ⟨fun _ => b_Law_law_293 ⟨fun _ => go _ _ _ _ _ _ hk hm, fun c => absurd rfl c⟩, fun z2 _ => absurd z (by omega)⟩ hc⟩, fun z w => b_Law_law_284 ⟨a1, by rw [e1]; exact o_mCrowdF hm hs he ⟨fun z2 => absurd z2 (by omega), fun _ _ => b_Law_law_293 ⟨fun _ => go _ _ _ _ _ _ hk hm, fun c => absurd rfl c⟩⟩ hc⟩⟩ hc
  have hr : 1 ≤ ((sl s).2.2 0).toInt ∧ ((sl s).2.2 0).toInt ≤ 10 := Decidable.not_not.mp (fun z => hc (Or.inr z))
  obtain ⟨N, hN⟩ : ∃ N : Nat, ((sl s).2.2 0).toInt = (N : Int) := ⟨((sl s).2.2 0).toInt.toNat, by omega⟩
  have h0 : 0 < (sl s).1 - 1 := by
    have : ¬ 0 = (sl s).1 - 1 := fun z => hc (Or.inl z)
    omega
  rcases cr_split h0 hN (by omega) (4 * N) (Nat.le_refl _) with z | ⟨j, hj, ok, z | ⟨z, w⟩⟩
  · exact o_kCrowd hk hs he z (fun I1 L1 f1 k1 => b_Law_law_284 ⟨a1, by rw [e1]; exact o_mCrowd (mR_k f1 hm) hs he z (fun I2 L2 f2 m2 => b_Law_law_293 ⟨fun _ => go _ _ _ _ _ _ (kR_m f2 k1) m2, fun c => absurd rfl c⟩)⟩)
  · exact o_kCrowd6 hk hs he ok hj z (b_Law_law_284 ⟨a1, by rw [e1]; exact o_mCrowd6 hm hs he ok hj z (fun I2 L2 f2 m2 => b_Law_law_293 ⟨fun _ => go _ _ _ _ _ _ (kR_m f2 hk) m2, fun c => absurd rfl c⟩)⟩)
  · exact o_kCrowd4 hk hs he ok hj z w (b_Law_law_284 ⟨a1, by rw [e1]; exact o_mCrowd4 hm hs he ok hj z w (fun I2 L2 f2 m2 => b_Law_law_293 ⟨fun _ => go _ _ _ _ _ _ (kR_m f2 hk) m2, fun c => absurd rfl c⟩)⟩)
theorem l_drawn (hk : kR I L D sl x y) (hm : mR I L D sl x y) (go : goN L0 xs Q v3) (a1 : vp_in (v3 + (1 : Int32)) L0) (a2 : vp_in (v3 + (2 : Int32)) L0) (e1 : xs (v3 + (1 : Int32)).toNatClampNeg = a) (e2 : xs (v3 + (2 : Int32)).toNatClampNeg = b) : xi_V (xG L0 xs) 75 0 [some (Value.ref 0), some (Value.int a), some (Value.int b)] [] (xSH, xRF, I, L) 0 0 (fun o σ' => xi_V (xG L0 xs) 173 312 [some (Value.ref 1000000), some (Value.ref 0), some (Value.ref 37), some (Value.int v3)] (o.toList ++ []) σ' 53 49788 Q) := by
  have h10 := hk.1.1.1
  have ref : (a < 0 ∨ 3 < a) → xi_V (xG L0 xs) 75 0 [some (Value.ref 0), some (Value.int a), some (Value.int b)] [] (xSH, xRF, I, L) 0 0 (fun o σ' => xi_V (xG L0 xs) 173 312 [some (Value.ref 1000000), some (Value.ref 0), some (Value.ref 37), some (Value.int v3)] (o.toList ++ []) σ' 53 49788 Q) := fun z =>
    o_kDrawn2 z (b_Law_law_312 ⟨a1, a2, by rw [e1, e2]; exact o_mDrawn2 z (b_Law_law_326 ⟨fun _ => go _ _ _ _ _ _ hk hm, fun c => absurd rfl c⟩)⟩)
  rcases pk_ix a (n := 4) (by decide) with z | z | ⟨k, hk4, ea⟩
  · exact ref (Or.inl z)
  · exact ref (Or.inr (ge_4 z))
  clear ref
  subst ea
  have hn1 := hn_le D k (qN D)
  have hn2 : hN D k ≤ qN D := hn1
  have ref : (b < 0 ∨ ¬ b ≤ nI (hN D k)) → xi_V (xG L0 xs) 75 0 [some (Value.ref 0), some (Value.int (nI k)), some (Value.int b)] [] (xSH, xRF, I, L) 0 0 (fun o σ' => xi_V (xG L0 xs) 173 312 [some (Value.ref 1000000), some (Value.ref 0), some (Value.ref 37), some (Value.int v3)] (o.toList ++ []) σ' 53 49788 Q) := fun z =>
    o_kDrawn4 hk hk4 z (b_Law_law_312 ⟨a1, a2, by rw [e1, e2]; exact o_mDrawn4 hm hk4 z (b_Law_law_326 ⟨fun _ => go _ _ _ _ _ _ hk hm, fun c => absurd rfl c⟩)⟩)
  rcases pk_rng b (lo := 0) (hi := hN D k) (by decide) (by omega) with (z | z) | ⟨n, -, hn, eb⟩
  · exact ref (Or.inl z)
  · exact ref (Or.inr (nle z))
  · clear ref
    subst eb
    exact o_kDrawn hk hk4 hn (fun I1 L1 f1 k1 => b_Law_law_312 ⟨a1, a2, by rw [e1, e2]; exact o_mDrawn (mR_k f1 hm) hk4 hn (fun I2 L2 f2 m2 => b_Law_law_326 ⟨fun _ => go _ _ _ _ _ _ (kR_m f2 k1) m2, fun c => absurd rfl c⟩)⟩)
theorem l_draw (hk : kR I L D sl x y) (hm : mR I L D sl x y) (go : goN L0 xs Q v3) (a1 : vp_in (v3 + (1 : Int32)) L0) (a2 : vp_in (v3 + (2 : Int32)) L0) (e1 : xs (v3 + (1 : Int32)).toNatClampNeg = a) (e2 : xs (v3 + (2 : Int32)).toNatClampNeg = b) : xi_V (xG L0 xs) 76 0 [some (Value.ref 0), some (Value.int a), some (Value.int b)] [] (xSH, xRF, I, L) 0 0 (fun o σ' => xi_V (xG L0 xs) 173 345 [some (Value.ref 1000000), some (Value.ref 0), some (Value.ref 37), some (Value.int v3)] (o.toList ++ []) σ' 53 49788 Q) := by
  have h10 := hk.1.1.1
  have ref : (a < 0 ∨ ¬ a ≤ 4) → xi_V (xG L0 xs) 76 0 [some (Value.ref 0), some (Value.int a), some (Value.int b)] [] (xSH, xRF, I, L) 0 0 (fun o σ' => xi_V (xG L0 xs) 173 345 [some (Value.ref 1000000), some (Value.ref 0), some (Value.ref 37), some (Value.int v3)] (o.toList ++ []) σ' 53 49788 Q) := fun z =>
    o_kDraw2 z (b_Law_law_345 ⟨a1, a2, by rw [e1, e2]; exact o_mDraw2 z (b_Law_law_359 ⟨fun _ => go _ _ _ _ _ _ hk hm, fun c => absurd rfl c⟩)⟩)
  rcases pk_ix a (n := 5) (by decide) with z | z | ⟨k, hk5, ea⟩
  · exact ref (Or.inl z)
  · exact ref (Or.inr (ge_5 z))
  clear ref
  subst ea
  by_cases hK : k = 1 ∨ k = 3
  · exact o_kDrawA hk hK (fun I1 L1 f1 k1 => b_Law_law_345 ⟨a1, a2, by rw [e1, e2]; exact o_mDrawA (mR_k f1 hm) hK (fun I2 L2 f2 m2 => b_Law_law_359 ⟨fun _ => go _ _ _ _ _ _ (kR_m f2 k1) m2, fun c => absurd rfl c⟩)⟩)
  have hK2 : k = 0 ∨ k = 2 ∨ k = 4 := by omega
  have ref : (b < (if k = 2 then 1 else 0) ∨ ¬ b ≤ nI (qN D)) → xi_V (xG L0 xs) 76 0 [some (Value.ref 0), some (Value.int (nI k)), some (Value.int b)] [] (xSH, xRF, I, L) 0 0 (fun o σ' => xi_V (xG L0 xs) 173 345 [some (Value.ref 1000000), some (Value.ref 0), some (Value.ref 37), some (Value.int v3)] (o.toList ++ []) σ' 53 49788 Q) := fun z =>
    o_kDraw4 hk hK2 z (b_Law_law_345 ⟨a1, a2, by rw [e1, e2]; exact o_mDraw4 hm hK2 z (b_Law_law_359 ⟨fun _ => go _ _ _ _ _ _ hk hm, fun c => absurd rfl c⟩)⟩)
  have main : ∀ n : Nat, n ≤ qN D → (k = 2 → 1 ≤ n) → b = nI n → xi_V (xG L0 xs) 76 0 [some (Value.ref 0), some (Value.int (nI k)), some (Value.int b)] [] (xSH, xRF, I, L) 0 0 (fun o σ' => xi_V (xG L0 xs) 173 345 [some (Value.ref 1000000), some (Value.ref 0), some (Value.ref 37), some (Value.int v3)] (o.toList ++ []) σ' 53 49788 Q) := by
    intro n hn h2 eb
    clear ref
    subst eb
    refine o_kDrawB hk hK2 hn h2 ⟨fun ok I1 L1 f1 k1 => b_Law_law_345 ⟨a1, a2, ?_⟩, fun bad => b_Law_law_345 ⟨a1, a2, ?_⟩⟩
    · rw [e1, e2]
      exact o_mDrawB (mR_k f1 hm) hK2 hn h2 ⟨fun _ I2 L2 f2 m2 => b_Law_law_359 ⟨fun _ => go _ _ _ _ _ _ (kR_m f2 k1) m2, fun c => absurd rfl c⟩, fun bad => absurd (ok bad.1) (fun z => by obtain ⟨-, i, hi, hz⟩ := bad; exact hz (z i hi))⟩
    · rw [e1, e2]
      exact o_mDrawB hm hK2 hn h2 ⟨fun ok => absurd (ok bad.1) (fun z => by obtain ⟨-, i, hi, hz⟩ := bad; exact hz (z i hi)), fun _ => b_Law_law_359 ⟨fun _ => go _ _ _ _ _ _ hk hm, fun c => absurd rfl c⟩⟩
  by_cases h2 : k = 2
  · rw [if_pos h2] at ref
    rcases pk_rng b (lo := 1) (hi := qN D) (by decide) (by omega) with (z | z) | ⟨n, hn1, hn, eb⟩
    · exact ref (Or.inl z)
    · exact ref (Or.inr (nle z))
    · exact main n hn (fun _ => hn1) eb
  · rw [if_neg h2] at ref
    rcases pk_rng b (lo := 0) (hi := qN D) (by decide) (by omega) with (z | z) | ⟨n, -, hn, eb⟩
    · exact ref (Or.inl z)
    · exact ref (Or.inr (nle z))
    · exact main n hn (fun z => absurd z h2) eb
theorem l_chance (hk : kR I L D sl x y) (hm : mR I L D sl x y) (go : goN L0 xs Q v3) (a1 : vp_in (v3 + (1 : Int32)) L0) (e1 : xs (v3 + (1 : Int32)).toNatClampNeg = a) : xi_V (xG L0 xs) 77 0 [some (Value.ref 0), some (Value.int a)] [] (xSH, xRF, I, L) 0 0 (fun o σ' => xi_V (xG L0 xs) 173 373 [some (Value.ref 1000000), some (Value.ref 0), some (Value.ref 37), some (Value.int v3)] (o.toList ++ []) σ' 53 49788 Q) := by
  have h10 := hk.1.1.1
  have ref : (a < 0 ∨ nI (qN D) ≤ a) → xi_V (xG L0 xs) 77 0 [some (Value.ref 0), some (Value.int a)] [] (xSH, xRF, I, L) 0 0 (fun o σ' => xi_V (xG L0 xs) 173 373 [some (Value.ref 1000000), some (Value.ref 0), some (Value.ref 37), some (Value.int v3)] (o.toList ++ []) σ' 53 49788 Q) := fun z =>
    b_D_chance_0 (c_kBoth0 hk.1.1 hk.2.1 (Or.inl z) (b_D_chance_6 ⟨Or.inl rfl, b_Law_law_373 ⟨a1, by rw [e1]; exact b_M_chance_0 (c_mBoth0 hm.1.1 hm.2.1 (Or.inl z) (b_M_chance_6 ⟨Or.inl rfl, b_Law_law_382 ⟨fun _ => go _ _ _ _ _ _ hk hm, fun c => absurd rfl c⟩⟩))⟩⟩))
  rcases pk_ix a (n := qN D) (by omega) with z | z | ⟨i, hi, ea⟩
  · exact ref (Or.inl z)
  · exact ref (Or.inr z)
  · clear ref
    subst ea
    exact b_D_chance_0 (o_kBoth hk hi hi (fun I1 L1 f1 k1 => b_D_chance_6 ⟨Or.inr rfl, b_Law_law_373 ⟨a1, by rw [e1]; exact b_M_chance_0 (o_mBoth (mR_k f1 hm) (okB_of hk.1) hi hi (fun I2 L2 f2 m2 => b_M_chance_6 ⟨Or.inr rfl, b_Law_law_382 ⟨fun _ => go _ _ _ _ _ _ (kR_m f2 k1) m2, fun c => absurd rfl c⟩⟩))⟩⟩))
theorem l_both (hk : kR I L D sl x y) (hm : mR I L D sl x y) (go : goN L0 xs Q v3) (a1 : vp_in (v3 + (1 : Int32)) L0) (a2 : vp_in (v3 + (2 : Int32)) L0) (e1 : xs (v3 + (1 : Int32)).toNatClampNeg = a) (e2 : xs (v3 + (2 : Int32)).toNatClampNeg = b) : xi_V (xG L0 xs) 78 0 [some (Value.ref 0), some (Value.int a), some (Value.int b)] [] (xSH, xRF, I, L) 0 0 (fun o σ' => xi_V (xG L0 xs) 173 401 [some (Value.ref 1000000), some (Value.ref 0), some (Value.ref 37), some (Value.int v3)] (o.toList ++ []) σ' 53 49788 Q) := by
  have h10 := hk.1.1.1
  have ref : ((a < 0 ∨ nI (qN D) ≤ a) ∨ (b < 0 ∨ nI (qN D) ≤ b)) → xi_V (xG L0 xs) 78 0 [some (Value.ref 0), some (Value.int a), some (Value.int b)] [] (xSH, xRF, I, L) 0 0 (fun o σ' => xi_V (xG L0 xs) 173 401 [some (Value.ref 1000000), some (Value.ref 0), some (Value.ref 37), some (Value.int v3)] (o.toList ++ []) σ' 53 49788 Q) := fun z =>
    c_kBoth0 hk.1.1 hk.2.1 z (b_Law_law_401 ⟨a1, a2, by rw [e1, e2]; exact c_mBoth0 hm.1.1 hm.2.1 z (b_Law_law_415 ⟨fun _ => go _ _ _ _ _ _ hk hm, fun c => absurd rfl c⟩)⟩)
  rcases pk_ix a (n := qN D) (by omega) with z | z | ⟨i, hi, ea⟩
  · exact ref (Or.inl (Or.inl z))
  · exact ref (Or.inl (Or.inr z))
  rcases pk_ix b (n := qN D) (by omega) with z | z | ⟨j, hj, eb⟩
  · exact ref (Or.inr (Or.inl z))
  · exact ref (Or.inr (Or.inr z))
  · clear ref
    subst ea eb
    exact o_kBoth hk hi hj (fun I1 L1 f1 k1 => b_Law_law_401 ⟨a1, a2, by rw [e1, e2]; exact o_mBoth (mR_k f1 hm) (okB_of hk.1) hi hj (fun I2 L2 f2 m2 => b_Law_law_415 ⟨fun _ => go _ _ _ _ _ _ (kR_m f2 k1) m2, fun c => absurd rfl c⟩)⟩)
theorem l_set (hk : kR I L D sl x y) (hm : mR I L D sl x y) (go : goN L0 xs Q v3) (a1 : vp_in (v3 + (1 : Int32)) L0) (e1 : xs (v3 + (1 : Int32)).toNatClampNeg = a) : xi_V (xG L0 xs) 79 0 [some (Value.ref 0), some (Value.int a)] [] (xSH, xRF, I, L) 0 0 (fun o σ' => xi_V (xG L0 xs) 173 429 [some (Value.ref 1000000), some (Value.ref 0), some (Value.ref 37), some (Value.int v3)] (o.toList ++ []) σ' 53 49788 Q) := by
  have h10 := hk.1.1.1
  have hp := p2_lt h10.2
  have ref : (a < 0 ∨ nI (2 ^ qN D) ≤ a) → xi_V (xG L0 xs) 79 0 [some (Value.ref 0), some (Value.int a)] [] (xSH, xRF, I, L) 0 0 (fun o σ' => xi_V (xG L0 xs) 173 429 [some (Value.ref 1000000), some (Value.ref 0), some (Value.ref 37), some (Value.int v3)] (o.toList ++ []) σ' 53 49788 Q) := fun z =>
    c_kSet0 hk.1.1 hk.2.1 z (b_Law_law_429 ⟨a1, by rw [e1]; exact c_mSet0 hm.1.1 hm.2.1 z (b_Law_law_438 ⟨fun _ => go _ _ _ _ _ _ hk hm, fun c => absurd rfl c⟩)⟩)
  rcases pk_ix a (n := 2 ^ qN D) (by omega) with z | z | ⟨s, hs, ea⟩
  · exact ref (Or.inl z)
  · exact ref (Or.inr z)
  · clear ref
    subst ea
    exact o_kSet hk hs (fun I1 L1 f1 k1 => b_Law_law_429 ⟨a1, by rw [e1]; exact o_mSet (mR_k f1 hm) (okB_of hk.1) hs (fun I2 L2 f2 m2 => b_Law_law_438 ⟨fun _ => go _ _ _ _ _ _ (kR_m f2 k1) m2, fun c => absurd rfl c⟩)⟩)
theorem l_sets (hk : kR I L D sl x y) (hm : mR I L D sl x y) (go : goN L0 xs Q v3) : xi_V (xG L0 xs) 80 0 [some (Value.ref 0), none, none] [] (xSH, xRF, I, L) 0 0 (fun o σ' => xi_V (xG L0 xs) 173 447 [some (Value.ref 1000000), some (Value.ref 0), some (Value.ref 37), some (Value.int v3)] (o.toList ++ []) σ' 53 49788 Q) :=
  o_kSets hk (fun I1 L1 f1 k1 => b_Law_law_447 (o_mSets (mR_k f1 hm) (okB_of hk.1) (fun I2 L2 f2 m2 => b_Law_law_451 ⟨fun _ => go _ _ _ _ _ _ (kR_m f2 k1) m2, fun c => absurd rfl c⟩)))
theorem l_many (hk : kR I L D sl x y) (hm : mR I L D sl x y) (go : goN L0 xs Q v3) : xi_V (xG L0 xs) 81 0 [some (Value.ref 0), none, none, none] [] (xSH, xRF, I, L) 0 0 (fun o σ' => xi_V (xG L0 xs) 173 460 [some (Value.ref 1000000), some (Value.ref 0), some (Value.ref 37), some (Value.int v3)] (o.toList ++ []) σ' 53 49788 Q) :=
  o_kMany hk (fun I1 L1 f1 k1 => b_Law_law_460 (o_mMany (mR_k f1 hm) (okB_of hk.1) (fun I2 L2 f2 m2 => b_Law_law_464 (go _ _ _ _ _ _ (kR_m f2 k1) m2))))
theorem l_sumc (hk : kR I L D sl x y) (hm : mR I L D sl x y) (go : goN L0 xs Q v3) (a1 : vp_in (v3 + (1 : Int32)) L0) (e1 : xs (v3 + (1 : Int32)).toNatClampNeg = a) : xi_V (xG L0 xs) 82 0 [some (Value.ref 0), some (Value.int a)] [] (xSH, xRF, I, L) 0 0 (fun o σ' => xi_V (xG L0 xs) 173 476 [some (Value.ref 1000000), some (Value.ref 0), some (Value.ref 37), some (Value.int v3)] (o.toList ++ []) σ' 53 49788 Q) := by
  have h10 := hk.1.1.1
  have hp := p2_lt h10.2
  have ref : (a < 0 ∨ nI (2 ^ qN D) ≤ a) → xi_V (xG L0 xs) 82 0 [some (Value.ref 0), some (Value.int a)] [] (xSH, xRF, I, L) 0 0 (fun o σ' => xi_V (xG L0 xs) 173 476 [some (Value.ref 1000000), some (Value.ref 0), some (Value.ref 37), some (Value.int v3)] (o.toList ++ []) σ' 53 49788 Q) := fun z =>
    c_kSum0 hk.1.1 hk.2.1 z (b_Law_law_476 ⟨a1, by rw [e1]; exact c_mSum0 hm.1.1 hm.2.1 z (b_Law_law_485 ⟨fun _ => go _ _ _ _ _ _ hk hm, fun c => absurd rfl c⟩)⟩)
  rcases pk_ix a (n := 2 ^ qN D) (by omega) with z | z | ⟨s, hs, ea⟩
  · exact ref (Or.inl z)
  · exact ref (Or.inr z)
  · clear ref
    subst ea
    exact o_kSum hk hs (fun I1 L1 f1 k1 => b_Law_law_476 ⟨a1, by rw [e1]; exact o_mSum (mR_k f1 hm) (okB_of hk.1) hs (fun I2 L2 f2 m2 => b_Law_law_485 ⟨fun _ => go _ _ _ _ _ _ (kR_m f2 k1) m2, fun c => absurd rfl c⟩)⟩)
theorem l_mean (hk : kR I L D sl x y) (hm : mR I L D sl x y) (go : goN L0 xs Q v3) : xi_V (xG L0 xs) 83 0 [some (Value.ref 0)] [] (xSH, xRF, I, L) 0 0 (fun o σ' => xi_V (xG L0 xs) 173 494 [some (Value.ref 1000000), some (Value.ref 0), some (Value.ref 37), some (Value.int v3)] (o.toList ++ []) σ' 53 49788 Q) :=
  o_kMean hk (fun I1 L1 f1 k1 => b_Law_law_494 (o_mMean (mR_k f1 hm) (okB_of hk.1) (fun I2 L2 f2 m2 => b_Law_law_498 (go _ _ _ _ _ _ (kR_m f2 k1) m2))))
theorem l_spread (hk : kR I L D sl x y) (hm : mR I L D sl x y) (go : goN L0 xs Q v3) : xi_V (xG L0 xs) 84 0 [some (Value.ref 0)] [] (xSH, xRF, I, L) 0 0 (fun o σ' => xi_V (xG L0 xs) 173 505 [some (Value.ref 1000000), some (Value.ref 0), some (Value.ref 37), some (Value.int v3)] (o.toList ++ []) σ' 53 49788 Q) :=
  o_kSpread hk (fun I1 L1 f1 k1 => b_Law_law_505 (o_mSpread (mR_k f1 hm) (okB_of hk.1) (fun I2 L2 f2 m2 => b_Law_law_509 (go _ _ _ _ _ _ (kR_m f2 k1) m2))))
theorem l_heap (hk : kR I L D sl x y) (hm : mR I L D sl x y) (go : goN L0 xs Q v3) (a1 : vp_in (v3 + (1 : Int32)) L0) (e1 : xs (v3 + (1 : Int32)).toNatClampNeg = a) : xi_V (xG L0 xs) 85 0 [some (Value.ref 0), some (Value.int a)] [] (xSH, xRF, I, L) 0 0 (fun o σ' => xi_V (xG L0 xs) 173 521 [some (Value.ref 1000000), some (Value.ref 0), some (Value.ref 37), some (Value.int v3)] (o.toList ++ []) σ' 53 49788 Q) := by
  have ref : (a < 0 ∨ 3 < a) → xi_V (xG L0 xs) 85 0 [some (Value.ref 0), some (Value.int a)] [] (xSH, xRF, I, L) 0 0 (fun o σ' => xi_V (xG L0 xs) 173 521 [some (Value.ref 1000000), some (Value.ref 0), some (Value.ref 37), some (Value.int v3)] (o.toList ++ []) σ' 53 49788 Q) := fun z =>
    o_kHeap0 z (b_Law_law_521 ⟨a1, by rw [e1]; exact o_mHeap0 z (b_Law_law_530 ⟨fun _ => go _ _ _ _ _ _ hk hm, fun c => absurd rfl c⟩)⟩)
  rcases pk_ix a (n := 4) (by decide) with z | z | ⟨s, hs, ea⟩
  · exact ref (Or.inl z)
  · exact ref (Or.inr (ge_4 z))
  · clear ref
    subst ea
    exact o_kHeap hk hs (fun I1 L1 f1 k1 => b_Law_law_521 ⟨a1, by rw [e1]; exact o_mHeap (mR_k f1 hm) hs (fun I2 L2 f2 m2 => b_Law_law_530 ⟨fun _ => go _ _ _ _ _ _ (kR_m f2 k1) m2, fun c => absurd rfl c⟩)⟩)
theorem shn_le (hC : okC D) : shn D 4 ≤ 4 := by
  have l0 := slo_le D 0
  have l1 := slo_le D 1
  have l2 := slo_le D 2
  have l3 := slo_le D 3
  have e2 : shn D 4 = 0 + slo D 0 + slo D 1 + slo D 2 + slo D 3 := rfl
  omega
theorem l_share (hk : kR I L D sl x y) (hm : mR I L D sl x y) (go : goN L0 xs Q v3) (a1 : vp_in (v3 + (1 : Int32)) L0) (a2 : vp_in (v3 + (2 : Int32)) L0) (e1 : xs (v3 + (1 : Int32)).toNatClampNeg = a) (e2 : xs (v3 + (2 : Int32)).toNatClampNeg = b) : xi_V (xG L0 xs) 86 0 [some (Value.ref 0), some (Value.int a), some (Value.int b)] [] (xSH, xRF, I, L) 0 0 (fun o σ' => xi_V (xG L0 xs) 173 549 [some (Value.ref 1000000), some (Value.ref 0), some (Value.ref 37), some (Value.int v3)] (o.toList ++ []) σ' 53 49788 Q) := by
  have h10 := hk.1.1.1
  have hs4 := shn_le hk.1.1
  have ref : (b < 0 ∨ 3 < b) → xi_V (xG L0 xs) 86 0 [some (Value.ref 0), some (Value.int a), some (Value.int b)] [] (xSH, xRF, I, L) 0 0 (fun o σ' => xi_V (xG L0 xs) 173 549 [some (Value.ref 1000000), some (Value.ref 0), some (Value.ref 37), some (Value.int v3)] (o.toList ++ []) σ' 53 49788 Q) := fun z =>
    o_kShare0 z (b_Law_law_549 ⟨a1, a2, by rw [e1, e2]; exact o_mShare0 z (b_Law_law_563 ⟨fun _ => go _ _ _ _ _ _ hk hm, fun c => absurd rfl c⟩)⟩)
  rcases pk_ix b (n := 4) (by decide) with z | z | ⟨k, hk4, eb⟩
  · exact ref (Or.inl z)
  · exact ref (Or.inr (ge_4 z))
  clear ref
  subst eb
  rcases pk_rng a (lo := shn D 4) (hi := qN D) (by omega) (by omega) with z | ⟨t, h1, h2, ea⟩
  · exact o_kShare1 hk hk4 z (b_Law_law_549 ⟨a1, a2, by rw [e1, e2]; exact o_mShare1 hm hk4 z (b_Law_law_563 ⟨fun _ => go _ _ _ _ _ _ hk hm, fun c => absurd rfl c⟩)⟩)
  · subst ea
    obtain ⟨q, hq⟩ := sh_is hk.1.1 h1 h2
    exact o_kShare hk hk4 h1 h2 hq (fun I1 L1 f1 k1 => b_Law_law_549 ⟨a1, a2, by rw [e1, e2]; exact o_mShare (mR_k f1 hm) hk4 h1 h2 hq (fun I2 L2 f2 m2 => b_Law_law_563 ⟨fun _ => go _ _ _ _ _ _ (kR_m f2 k1) m2, fun c => absurd rfl c⟩)⟩)
theorem l_least (hk : kR I L D sl x y) (hm : mR I L D sl x y) (go : goN L0 xs Q v3) (a1 : vp_in (v3 + (1 : Int32)) L0) (e1 : xs (v3 + (1 : Int32)).toNatClampNeg = a) : xi_V (xG L0 xs) 87 0 [some (Value.ref 0), some (Value.int a)] [] (xSH, xRF, I, L) 0 0 (fun o σ' => xi_V (xG L0 xs) 173 577 [some (Value.ref 1000000), some (Value.ref 0), some (Value.ref 37), some (Value.int v3)] (o.toList ++ []) σ' 53 49788 Q) := by
  have h10 := hk.1.1.1
  have hs4 := shn_le hk.1.1
  rcases pk_rng a (lo := shn D 4) (hi := qN D) (by omega) (by omega) with z | ⟨t, h1, h2, ea⟩
  · exact o_kLeast0 hk z (b_Law_law_577 ⟨a1, by rw [e1]; exact o_mLeast0 hm z (b_Law_law_586 ⟨fun _ => go _ _ _ _ _ _ hk hm, fun c => absurd rfl c⟩)⟩)
  · subst ea
    obtain ⟨q, hq⟩ := sh_is hk.1.1 h1 h2
    exact o_kLeast hk h1 h2 hq (fun I1 L1 f1 k1 => b_Law_law_577 ⟨a1, by rw [e1]; exact o_mLeast (mR_k f1 hm) h1 h2 hq (fun I2 L2 f2 m2 => b_Law_law_586 ⟨fun _ => go _ _ _ _ _ _ (kR_m f2 k1) m2, fun c => absurd rfl c⟩)⟩)
theorem l_bands (hk : kR I L D sl x y) (hm : mR I L D sl x y) (go : goN L0 xs Q v3) (a1 : vp_in (v3 + (1 : Int32)) L0) (e1 : xs (v3 + (1 : Int32)).toNatClampNeg = a) : xi_V (xG L0 xs) 88 0 [some (Value.ref 0), some (Value.int a)] [] (xSH, xRF, I, L) 0 0 (fun o σ' => xi_V (xG L0 xs) 173 600 [some (Value.ref 1000000), some (Value.ref 0), some (Value.ref 37), some (Value.int v3)] (o.toList ++ []) σ' 53 49788 Q) := by
  have h10 := hk.1.1.1
  have ref : (a < 1 ∨ ¬ a ≤ nI (qN D)) → xi_V (xG L0 xs) 88 0 [some (Value.ref 0), some (Value.int a)] [] (xSH, xRF, I, L) 0 0 (fun o σ' => xi_V (xG L0 xs) 173 600 [some (Value.ref 1000000), some (Value.ref 0), some (Value.ref 37), some (Value.int v3)] (o.toList ++ []) σ' 53 49788 Q) := fun z =>
    o_kBands0 hk z (b_Law_law_600 ⟨a1, by rw [e1]; exact o_mBands0 hm z (b_Law_law_609 ⟨fun _ => go _ _ _ _ _ _ hk hm, fun c => absurd rfl c⟩)⟩)
  rcases pk_rng a (lo := 1) (hi := qN D) (by decide) (by omega) with (z | z) | ⟨t, h1, h2, ea⟩
  · exact ref (Or.inl z)
  · exact ref (Or.inr (nle z))
  · clear ref
    obtain ⟨k, rfl⟩ : ∃ k, t = k + 1 := ⟨t - 1, by omega⟩
    subst ea
    exact o_kBands hk h2 (fun I1 L1 f1 k1 => b_Law_law_600 ⟨a1, by rw [e1]; exact o_mBands (mR_k f1 hm) h2 (fun I2 L2 f2 m2 => b_Law_law_609 ⟨fun _ => go _ _ _ _ _ _ (kR_m f2 k1) m2, fun c => absurd rfl c⟩)⟩)
theorem l_band (hk : kR I L D sl x y) (hm : mR I L D sl x y) (go : goN L0 xs Q v3) (a1 : vp_in (v3 + (1 : Int32)) L0) (a2 : vp_in (v3 + (2 : Int32)) L0) (e1 : xs (v3 + (1 : Int32)).toNatClampNeg = a) (e2 : xs (v3 + (2 : Int32)).toNatClampNeg = b) : xi_V (xG L0 xs) 89 0 [some (Value.ref 0), some (Value.int a), some (Value.int b)] [] (xSH, xRF, I, L) 0 0 (fun o σ' => xi_V (xG L0 xs) 173 628 [some (Value.ref 1000000), some (Value.ref 0), some (Value.ref 37), some (Value.int v3)] (o.toList ++ []) σ' 53 49788 Q) := by
  have h10 := hk.1.1.1
  have ref : ((a < 1 ∨ ¬ a ≤ nI (qN D)) ∨ (b < 0 ∨ nI (qN D) ≤ b)) → xi_V (xG L0 xs) 89 0 [some (Value.ref 0), some (Value.int a), some (Value.int b)] [] (xSH, xRF, I, L) 0 0 (fun o σ' => xi_V (xG L0 xs) 173 628 [some (Value.ref 1000000), some (Value.ref 0), some (Value.ref 37), some (Value.int v3)] (o.toList ++ []) σ' 53 49788 Q) := fun z =>
    o_kBand0 hk z (b_Law_law_628 ⟨a1, a2, by rw [e1, e2]; exact o_mBand0 hm z (b_Law_law_642 ⟨fun _ => go _ _ _ _ _ _ hk hm, fun c => absurd rfl c⟩)⟩)
  rcases pk_rng a (lo := 1) (hi := qN D) (by decide) (by omega) with (z | z) | ⟨t, h1, h2, ea⟩
  · exact ref (Or.inl (Or.inl z))
  · exact ref (Or.inl (Or.inr (nle z)))
  rcases pk_ix b (n := qN D) (by omega) with z | z | ⟨j, hj, eb⟩
  · exact ref (Or.inr (Or.inl z))
  · exact ref (Or.inr (Or.inr z))
  · clear ref
    obtain ⟨k, rfl⟩ : ∃ k, t = k + 1 := ⟨t - 1, by omega⟩
    subst ea eb
    exact o_kBand hk h2 hj (fun I1 L1 f1 k1 => b_Law_law_628 ⟨a1, a2, by rw [e1, e2]; exact o_mBand (mR_k f1 hm) h2 hj (fun I2 L2 f2 m2 => b_Law_law_642 ⟨fun _ => go _ _ _ _ _ _ (kR_m f2 k1) m2, fun c => absurd rfl c⟩)⟩)
theorem k_small (hk : kR I L D sl x y) : -(nB ^ 43) < x ∧ -(nB ^ 43) < y := by
  obtain ⟨-, r2, r3, r4⟩ := hk.2.2.2.2.1
  have h2 := (Bx_b r2).2
  have hm := nB_mono (a := 20) (b := 43) (by decide)
  have h0 := nB_pow 43
  generalize nB ^ 43 = P at *
  generalize nB ^ 20 = P2 at *
  omega
theorem l_look (hk : kR I L D sl x y) (hm : mR I L D sl x y) (go : goN L0 xs Q v3) (a1 : vp_in (v3 + (1 : Int32)) L0) (e1 : xs (v3 + (1 : Int32)).toNatClampNeg = a) : xi_V (xG L0 xs) 90 0 [some (Value.ref 0), some (Value.int a)] [] (xSH, xRF, I, L) 0 0 (fun o σ' => xi_V (xG L0 xs) 173 656 [some (Value.ref 1000000), some (Value.ref 0), some (Value.ref 37), some (Value.int v3)] (o.toList ++ []) σ' 53 49788 Q) := by
  have hs := k_small hk
  have n01 : ¬ (0 : Int32) = 1 := by decide
  have n02 : ¬ (0 : Int32) = 2 := by decide
  have n12 : ¬ (1 : Int32) = 2 := by decide
  refine o_kLook hk ⟨fun e => ?_, fun n e len => ?_, fun n e len => ?_, fun e => ?_⟩
  · refine b_Law_law_656 ⟨a1, ?_⟩
    rw [e1]
    exact o_mLook hm hs.1 hs.2 ⟨fun _ => b_Law_law_665 ⟨fun _ => go _ _ _ _ _ _ hk hm, fun c => absurd rfl c⟩, fun n L' e2 => absurd (e.symm.trans e2) n01, fun n L' e2 => absurd (e.symm.trans e2) n02, fun e2 => absurd e e2.1⟩
  · refine b_Law_law_656 ⟨a1, ?_⟩
    rw [e1]
    exact o_mLook hm hs.1 hs.2 ⟨fun e2 => absurd (e2.symm.trans e) n01, fun m L' _ f2 m2 len2 => b_Law_law_665 ⟨fun _ => go _ _ _ _ _ _ (kR_m f2 hk) m2, fun c => absurd (by rw [isLen_1 len len2]) c⟩, fun n L' e2 => absurd (e.symm.trans e2) n12, fun e2 => absurd e e2.2.1⟩
  · refine b_Law_law_656 ⟨a1, ?_⟩
    rw [e1]
    exact o_mLook hm hs.1 hs.2 ⟨fun e2 => absurd (e2.symm.trans e) n02, fun n L' e2 => absurd (e2.symm.trans e) n12, fun m L' _ f2 m2 len2 => b_Law_law_665 ⟨fun _ => go _ _ _ _ _ _ (kR_m f2 hk) m2, fun c => absurd (by rw [isLen_1 len len2]) c⟩, fun e2 => absurd e e2.2.2⟩
  · refine b_Law_law_656 ⟨a1, ?_⟩
    rw [e1]
    exact o_mLook hm hs.1 hs.2 ⟨fun e2 => absurd e2 e.1, fun n L' e2 => absurd e2 e.2.1, fun n L' e2 => absurd e2 e.2.2, fun _ => b_Law_law_665 ⟨fun _ => go _ _ _ _ _ _ hk hm, fun c => absurd rfl c⟩⟩
theorem l_part (hk : kR I L D sl x y) (hm : mR I L D sl x y) (go : goN L0 xs Q v3) (a1 : vp_in (v3 + (1 : Int32)) L0) (a2 : vp_in (v3 + (2 : Int32)) L0) (e2 : xs (v3 + (2 : Int32)).toNatClampNeg = b) (hc : (xs (v3 + (1 : Int32)).toNatClampNeg = 0 ∧ c = 0) ∨ (¬ xs (v3 + (1 : Int32)).toNatClampNeg = 0 ∧ c = 1)) :
    xi_V (xG L0 xs) 173 684 [some (Value.ref 1000000), some (Value.ref 0), some (Value.ref 37), some (Value.int v3)] [Value.int c, Value.ref 0] (xSH, xRF, I, L) 53 49788 Q := by
  have hs := k_small hk
  have then' : ∀ s0 : Int32, xi_V (xG L0 xs) 173 706 [some (Value.ref 1000000), some (Value.ref 0), some (Value.ref 37), some (Value.int v3)] [Value.int c, Value.ref 37, Value.int s0] (xSH, xRF, I, L) 53 49788 Q → xi_V (xG L0 xs) 173 692 [some (Value.ref 1000000), some (Value.ref 0), some (Value.ref 37), some (Value.int v3)] [Value.int s0] (xSH, xRF, I, L) 53 49788 Q := by
    intro s0 h
    refine b_Law_law_692 ⟨a1, ?_⟩
    rcases hc with ⟨h1, h2⟩ | ⟨h1, h2⟩
    · rw [h2] at h
      exact ⟨fun _ => h, fun z => absurd h1 z⟩
    · rw [h2] at h
      exact ⟨fun z => absurd z h1, fun _ => h⟩
  refine b_Law_law_684 ⟨a2, ?_⟩
  rw [e2]
  refine o_kPart hk ⟨fun out => ?_, fun i hi e => ?_⟩
  · refine then' _ (b_Law_law_706 ⟨a2, ?_⟩)
    rw [e2]
    refine o_mPart hm hs.1 hs.2 (fun L' f2 m2 => ⟨fun _ => b_Law_law_714 ⟨fun _ => go _ _ _ _ _ _ (kR_m f2 hk) m2, fun c => absurd rfl c⟩, fun j hj e => ?_⟩)
    rw [e] at out
    exact absurd out (p44 hj)
  · refine then' _ (b_Law_law_706 ⟨a2, ?_⟩)
    rw [e2]
    refine o_mPart hm hs.1 hs.2 (fun L' f2 m2 => ⟨fun out => ?_, fun j hj e3 => b_Law_law_714 ⟨fun _ => go _ _ _ _ _ _ (kR_m f2 hk) m2, fun z => absurd ?_ z⟩⟩)
    · rw [e] at out
      exact absurd out (p44 hi)
    · have : i = j := (nI_eqI (by omega) (by omega)).mp (e.symm.trans e3)
      rw [this]
theorem l_count (hk : kR I L D sl x y) (hm : mR I L D sl x y) (go : goN L0 xs Q v3) (a1 : vp_in (v3 + (1 : Int32)) L0) (e1 : xs (v3 + (1 : Int32)).toNatClampNeg = a) : xi_V (xG L0 xs) 92 0 [some (Value.ref 0), some (Value.int a)] [] (xSH, xRF, I, L) 0 0 (fun o σ' => xi_V (xG L0 xs) 173 728 [some (Value.ref 1000000), some (Value.ref 0), some (Value.ref 37), some (Value.int v3)] (o.toList ++ []) σ' 53 49788 Q) :=
  o_kCount hk (b_Law_law_728 ⟨a1, by rw [e1]; exact o_mCount hm (b_Law_law_737 ⟨fun _ => go _ _ _ _ _ _ hk hm, fun c => absurd rfl c⟩)⟩)
end LW
