/-! the class's numbers: 20 parts, what is below 0 as what it lacks -/
def dR2 (g : Nat → Int64) : Prop := ∀ k, k < 20 → 0 ≤ (g k).toInt ∧ (g k).toInt < 1000000000
/-- up to whole turns -/
def Bg (g : Nat → Int64) (v : Int) : Prop := dR2 g ∧ vS g 20 = v % nB ^ 20
/-- just so -/
def Bx (g : Nat → Int64) (v : Int) : Prop := dR2 g ∧ vS g 20 = v
theorem vS_b2 {g : Nat → Int64} (h : dR2 g) : 0 ≤ vS g 20 ∧ vS g 20 < nB ^ 20 := nS_bound (z := fun k => (g k).toInt) h
theorem Bx_b {g : Nat → Int64} {v : Int} (h : Bx g v) : 0 ≤ v ∧ v < nB ^ 20 := by rw [← h.2]; exact vS_b2 h.1
theorem Bg_x {g : Nat → Int64} {v : Int} (h : Bg g v) (h0 : 0 ≤ v) (h1 : v < nB ^ 20) : Bx g v := ⟨h.1, by rw [h.2, Int.emod_eq_of_lt h0 h1]⟩
theorem Bx_g {g : Nat → Int64} {v : Int} (h : Bx g v) : Bg g v := ⟨h.1, by have := Bx_b h; rw [h.2, Int.emod_eq_of_lt this.1 this.2]⟩
theorem vS_20u {r : Nat → Int64} {m : Nat} {x : Int64} {n : Nat} (hm : m < n) : vS (m_u r m x) n = vS r n + (x.toInt - (r m).toInt) * nB ^ m := by
  have := nS_upd (z := fun k => (r k).toInt) (w := fun k => (m_u r m x k).toInt) (m := m) (fun k hk => by simp only [m_un hk]) (n := n) hm
  unfold vS
  rw [this]
  simp only [m_us]
theorem vS_20l {r : Nat → Int64} {m : Nat} {x : Int64} {n : Nat} (hm : n ≤ m) : vS (m_u r m x) n = vS r n := nS_cong (fun k hk => by show (m_u r m x k).toInt = _; rw [m_un (by omega)])
theorem Bg_of {g : Nat → Int64} {v c : Int} (h : dR2 g) (hs : vS g 20 + c * nB ^ 20 = v) : Bg g v := by
  refine ⟨h, ?_⟩
  have b := vS_b2 h
  rw [← hs, Int.add_mul_emod_self_right, Int.emod_eq_of_lt b.1 b.2]
theorem b_v {k : Nat} (hk : k < 20) : vp_in (nI k) 20 := vp_in_nI hk (by omega)
theorem b_k {k : Nat} (hk : k < 20) : (nI k).toNatClampNeg = k := nI_clamp (by omega)
theorem w_hl (w : Int64) : (w / 1000000000).toInt = w.toInt.tdiv 1000000000 ∧ (w - w / 1000000000 * 1000000000).toInt = w.toInt.tmod 1000000000 := ⟨m_divB w, m_remB w⟩
theorem hl_e (z : Int) : z.tdiv 1000000000 * 1000000000 + z.tmod 1000000000 = z := by
  have := Int.mul_tdiv_add_tmod z 1000000000
  rw [Int.mul_comm] at this
  exact this
/-- the step of a product with a word -/
theorem bg_step {S c b H P l d c' g x : Int} (hx : x = g * l + b * H + c) (hd : d + c' * 1000000000 = x) {S2 T w : Int} (h : S + (c + b * H) * P = T * w) (hw : H * 1000000000 + l = w) (hS : S2 = S + d * P) : S2 + (c' + g * H) * (P * 1000000000) = (T + g * P) * w := by
  subst hS hw
  rw [hx] at hd
  have e1 : (c' + g * H) * (P * 1000000000) = (c' * 1000000000) * P + (g * H * 1000000000) * P := by
    rw [Int.add_mul, Int.mul_comm P 1000000000, ← Int.mul_assoc, ← Int.mul_assoc]
  have e2 : d * P + c' * 1000000000 * P = (g * l) * P + (b * H + c) * P := by
    rw [← Int.add_mul, hd, ← Int.add_mul]
    congr 1
    omega
  have e3 : (T + g * P) * (H * 1000000000 + l) = T * (H * 1000000000 + l) + (g * H * 1000000000) * P + (g * l) * P := by
    rw [Int.add_mul, Int.mul_add (g * P)]
    have a1 : g * P * (H * 1000000000) = g * H * 1000000000 * P := by
      rw [← Int.mul_assoc, Int.mul_right_comm g P H, Int.mul_right_comm]
    have a2 : g * P * l = g * l * P := Int.mul_right_comm _ _ _
    rw [a1, a2]
    omega
  have e4 : (c + b * H) * P = (b * H + c) * P := by rw [Int.add_comm]
  rw [e1, e3, ← h, e4]
  omega
theorem ap_step {S c b H P l d c' g f x : Int} (hx : x = f + g * l + b * H + c) (hd : d + c' * 1000000000 = x) {S2 T F w : Int} (h : S + (c + b * H) * P = F + T * w) (hw : H * 1000000000 + l = w) (hS : S2 = S + d * P) : S2 + (c' + g * H) * (P * 1000000000) = (F + f * P) + (T + g * P) * w := by
  subst hS hw
  rw [hx] at hd
  have e1 : (c' + g * H) * (P * 1000000000) = (c' * 1000000000) * P + (g * H * 1000000000) * P := by
    rw [Int.add_mul, Int.mul_comm P 1000000000, ← Int.mul_assoc, ← Int.mul_assoc]
  have e2 : d * P + c' * 1000000000 * P = f * P + ((g * l) * P + (b * H + c) * P) := by
    rw [← Int.add_mul, hd, ← Int.add_mul, ← Int.add_mul]
    congr 1
    omega
  have e3 : (T + g * P) * (H * 1000000000 + l) = T * (H * 1000000000 + l) + (g * H * 1000000000) * P + (g * l) * P := by
    rw [Int.add_mul, Int.mul_add (g * P)]
    have a1 : g * P * (H * 1000000000) = g * H * 1000000000 * P := by
      rw [← Int.mul_assoc, Int.mul_right_comm g P H, Int.mul_right_comm]
    have a2 : g * P * l = g * l * P := Int.mul_right_comm _ _ _
    rw [a1, a2]
    omega
  have e4 : (c + b * H) * P = (b * H + c) * P := by rw [Int.add_comm]
  rw [e1, e3]
  rw [e4] at h
  clear e1 e3 e4 hd hx
  generalize T * (H * 1000000000 + l) = t1 at *
  generalize (b * H + c) * P = t2 at *
  generalize g * l * P = t3 at *
  generalize f * P = t4 at *
  generalize g * H * 1000000000 * P = t5 at *
  generalize d * P = t6 at *
  generalize c' * 1000000000 * P = t7 at *
  omega
section BG
variable {L0 : Nat} {xs : Nat → Int32} {Q : xiQ} {I : Nat → Nat → Int32} {L : Nat → Nat → Int64}
theorem c_bBecome_lp {o c : Nat} (h0 : xa_Big_become o c) {w : Int64} (hQ : ∀ g, Bg g w.toInt → Q none (xSH, xRF, I, m_r L c g)) :
    ∀ (n k : Nat) (g : Nat → Int64) (t : Int64), k + n = 20 → (∀ i, i < k → 0 ≤ (g i).toInt ∧ (g i).toInt < 1000000000) → vS g k + t.toInt * nB ^ k = w.toInt → xi_V (xG L0 xs) 9 5 [some (Value.ref o), some (Value.long w), none, some (Value.long t), none, some (Value.int (nI k))] [] (xSH, xRF, I, m_r L c g) 0 0 Q
  | 0, k, g, t, hn, hd, hs => by
    refine b_Big_become_5 h0 (pk_le 20 k (fun _ => hQ g ?_) (fun c => absurd c (by omega)))
    have : k = 20 := by omega
    subst this
    exact Bg_of hd hs
  | n + 1, k, g, t, hn, hd, hs => by
    have hk : k < 20 := by clear hs; omega
    refine b_Big_become_5 h0 (pk_le 20 k (fun c => absurd c (by omega)) (fun _ => c_floorModL fun s hs2 => b_Big_become_25 h0 ?_))
    rw [b_k hk]
    refine ⟨b_v hk, c_floorDivL fun s3 hs3 => b_Big_become_33 h0 ?_⟩
    rw [m_ur, m_rs, m_rr, nI_1]
    refine c_bBecome_lp h0 hQ n (k + 1) _ s3 (by clear hs; omega) (fun i hi => ?_) ?_
    · by_cases e : i = k
      · subst e; rw [m_us, hs2]; omega
      · rw [m_un e]; exact hd i (by clear hs; omega)
    · rw [vS_s, m_us, vS_20l (Nat.le_refl k), Int.pow_succ, hs2, hs3, ← hs]
      have e : t.toInt % 1000000000 + t.toInt / 1000000000 * 1000000000 = t.toInt := by omega
      have e2 : t.toInt / 1000000000 * (nB ^ k * nB) = t.toInt / 1000000000 * 1000000000 * nB ^ k := by rw [Int.mul_comm (nB ^ k), ← Int.mul_assoc]
      rw [e2, Int.add_assoc, ← Int.add_mul, e]
theorem c_bBecome {o c : Nat} (h0 : xa_Big_become o c) {w : Int64} (hQ : ∀ g, Bg g w.toInt → Q none (xSH, xRF, I, m_r L c g)) : xi_V (xG L0 xs) 9 0 [some (Value.ref o), some (Value.long w), none, none, none, none] [] (xSH, xRF, I, L) 0 0 Q := by
  refine b_Big_become_0 h0 ?_
  rw [← m_r0 (L := L) (k := c)]
  exact c_bBecome_lp h0 hQ 20 0 (L c) w rfl (fun i hi => absurd hi (Nat.not_lt_zero i)) (by show (0 : Int) + w.toInt * 1 = w.toInt; omega)
theorem c_bMul_lp {o c : Nat} (h0 : xa_Big_multiply o c) {w hi lo : Int64} {g0 : Nat → Int64} {v : Int} (hg : Bg g0 v) (hH : -7000000000 ≤ hi.toInt ∧ hi.toInt ≤ 7000000000) (hl : -1000000000 < lo.toInt ∧ lo.toInt < 1000000000) (hw : hi.toInt * 1000000000 + lo.toInt = w.toInt)
    (hQ : ∀ g, Bg g (v * w.toInt) → Q none (xSH, xRF, I, m_r L c g)) :
    ∀ (n k : Nat) (g : Nat → Int64) (b cy : Int64), k + n = 20 → (∀ i, i < k → 0 ≤ (g i).toInt ∧ (g i).toInt < 1000000000) → (∀ i, k ≤ i → i < 20 → g i = g0 i) → 0 ≤ b.toInt → b.toInt < 1000000000 → -9000000000 ≤ cy.toInt → cy.toInt ≤ 9000000000 → vS g k + (cy.toInt + b.toInt * hi.toInt) * nB ^ k = vS g0 k * w.toInt →
      xi_V (xG L0 xs) 10 22 [some (Value.ref o), some (Value.long w), none, some (Value.long hi), none, some (Value.long lo), none, some (Value.long b), none, some (Value.long cy), none, some (Value.int (nI k)), none, none, none, none] [] (xSH, xRF, I, m_r L c g) 0 0 Q
  | 0, k, g, b, cy, hn, hd, ho, b0, b1, c0, c1, hs => by
    refine b_Big_multiply_22 h0 (pk_le 20 k (fun _ => hQ g ?_) (fun c => absurd c (by omega)))
    have : k = 20 := by omega
    subst this
    have h1 := Bg_of hd hs
    refine ⟨h1.1, ?_⟩
    rw [h1.2, hg.2, Int.mul_emod, Int.emod_emod, ← Int.mul_emod]
  | n + 1, k, g, b, cy, hn, hd, ho, b0, b1, c0, c1, hs => by
    have hk : k < 20 := by clear hs; omega
    refine b_Big_multiply_22 h0 (pk_le 20 k (fun c => absurd c (by omega)) (fun _ => ?_))
    rw [b_k hk, m_rs, ho k (Nat.le_refl k) hk]
    have hgk := hg.1 k hk
    have m1 := mulS (x := (g0 k).toInt) (y := lo.toInt) (A := 1000000000) (B := 1000000000) (by clear hs; omega) (by clear hs; omega)
    have m2 := mulS (x := b.toInt) (y := hi.toInt) (A := 1000000000) (B := 7000000000) (by clear hs; omega) (by clear hs; omega)
    have e1 : (g0 k * lo).toInt = (g0 k).toInt * lo.toInt := fb_mulL (by clear hs; omega) (by clear hs; omega)
    have e2 : (b * hi).toInt = b.toInt * hi.toInt := fb_mulL (by clear hs; omega) (by clear hs; omega)
    have e3 : (g0 k * lo + b * hi).toInt = (g0 k).toInt * lo.toInt + b.toInt * hi.toInt := by rw [fb_addL (by rw [e1, e2]; clear hs; omega) (by rw [e1, e2]; clear hs; omega), e1, e2]
    have e4 : (g0 k * lo + b * hi + cy).toInt = (g0 k).toInt * lo.toInt + b.toInt * hi.toInt + cy.toInt := by rw [fb_addL (by rw [e3]; clear hs; omega) (by rw [e3]; clear hs; omega), e3]
    refine ⟨b_v hk, c_floorDivL fun s hs2 => b_Big_multiply_61 h0 ?_⟩
    rw [b_k hk, m_ur, m_rs, m_rr, nI_1]
    obtain ⟨X, hX⟩ : ∃ X, X = (g0 k).toInt * lo.toInt + b.toInt * hi.toInt + cy.toInt := ⟨_, rfl⟩
    rw [← hX] at e4
    rw [e4] at hs2
    have hXb : -9000000000000000000 ≤ X ∧ X ≤ 9000000000000000000 := by rw [hX]; clear hs; omega
    have e5 : (s * 1000000000).toInt = s.toInt * 1000000000 := by rw [fb_mulL (by rw [m_B]; clear hs hX; omega) (by rw [m_B]; clear hs hX; omega), m_B]
    have e6 : (g0 k * lo + b * hi + cy - s * 1000000000).toInt = X % 1000000000 := by
      rw [fb_subL (by rw [e4, e5]; clear hs hX; omega) (by rw [e4, e5]; clear hs hX; omega), e4, e5]
      clear hs hX; omega
    refine ⟨b_v hk, c_bMul_lp h0 hg hH hl hw hQ n (k + 1) _ (g0 k) s (by clear hs; omega) (fun i hi => ?_) (fun i i1 i2 => ?_) hgk.1 hgk.2 (by rw [hs2, hX]; clear hs hX hs2 hXb; omega) (by rw [hs2, hX]; clear hs hX hs2 hXb; omega) ?_⟩
    · by_cases e : i = k
      · subst e; rw [m_us, e6]; exact ⟨Int.emod_nonneg _ (by decide), Int.emod_lt_of_pos _ (by decide)⟩
      · rw [m_un e]; exact hd i (by clear hs; omega)
    · rw [m_un (by clear hs; omega)]; exact ho i (by clear hs; omega) i2
    · rw [Int.pow_succ, vS_s g0]
      exact bg_step (x := X) (d := X % 1000000000) hX (by rw [hs2]; clear hs hX hs2; omega) hs hw (by rw [vS_s, m_us, e6, vS_20l (Nat.le_refl k)])
theorem hl_b {z : Int} (h : -7000000000000000000 ≤ z ∧ z ≤ 7000000000000000000) : (-7000000000 ≤ z.tdiv 1000000000 ∧ z.tdiv 1000000000 ≤ 7000000000) ∧ -1000000000 < z.tmod 1000000000 ∧ z.tmod 1000000000 < 1000000000 := by
  have e := hl_e z
  have a := Int.tmod_lt_of_pos z (by decide : (0 : Int) < 1000000000)
  have b := m_tmod_gt z
  omega
/-- multiply -/
theorem c_bMul {o c : Nat} (h0 : xa_Big_multiply o c) {w : Int64} {v : Int} (hg : Bg (L c) v) (hw : -7000000000000000000 ≤ w.toInt ∧ w.toInt ≤ 7000000000000000000) (hQ : ∀ g, Bg g (v * w.toInt) → Q none (xSH, xRF, I, m_r L c g)) : xi_V (xG L0 xs) 10 0 [some (Value.ref o), some (Value.long w), none, none, none, none, none, none, none, none, none, none, none, none, none, none] [] (xSH, xRF, I, L) 0 0 Q := by
  have hl := w_hl w
  have hb := hl_b hw
  refine b_Big_multiply_0 h0 ⟨by decide, by decide, ?_⟩
  have e0 : vS (L c) 0 + ((0 : Int64).toInt + (0 : Int64).toInt * (w / 1000000000).toInt) * nB ^ 0 = vS (L c) 0 * w.toInt := by
    show (0 : Int) + ((0 : Int64).toInt + (0 : Int64).toInt * (w / 1000000000).toInt) * 1 = 0 * w.toInt
    rw [m_z0]; simp
  have := c_bMul_lp (L0 := L0) (xs := xs) (Q := Q) (I := I) (L := L) h0 (w := w) hg (by rw [hl.1]; exact hb.1) (by rw [hl.2]; exact hb.2) (by rw [hl.1, hl.2]; exact hl_e _) hQ 20 0 (L c) 0 0 rfl (fun i hi => absurd hi (Nat.not_lt_zero i)) (fun i _ _ => rfl) (by decide) (by decide) (by decide) (by decide) e0
  rw [m_r0] at this
  exact this
theorem c_bAdd_lp {o o1 c1 c : Nat} (h0 : xa_Big_addProduct o o1 c1 c) (hcc : c1 ≠ c) {w hi lo : Int64} {g0 : Nat → Int64} {v u : Int} (hg : Bg g0 v) (hh : Bg (L c1) u) (hH : -7000000000 ≤ hi.toInt ∧ hi.toInt ≤ 7000000000) (hl : -1000000000 < lo.toInt ∧ lo.toInt < 1000000000) (hw : hi.toInt * 1000000000 + lo.toInt = w.toInt)
    (hQ : ∀ g, Bg g (v + u * w.toInt) → Q none (xSH, xRF, I, m_r L c g)) :
    ∀ (n k : Nat) (g : Nat → Int64) (b cy : Int64), k + n = 20 → (∀ i, i < k → 0 ≤ (g i).toInt ∧ (g i).toInt < 1000000000) → (∀ i, k ≤ i → i < 20 → g i = g0 i) → 0 ≤ b.toInt → b.toInt < 1000000000 → -9000000000 ≤ cy.toInt → cy.toInt ≤ 9000000000 → vS g k + (cy.toInt + b.toInt * hi.toInt) * nB ^ k = vS g0 k + vS (L c1) k * w.toInt →
      xi_V (xG L0 xs) 11 23 [some (Value.ref o), some (Value.ref o1), some (Value.long w), none, some (Value.long hi), none, some (Value.long lo), none, some (Value.long b), none, some (Value.long cy), none, some (Value.int (nI k)), none, none, none, none] [] (xSH, xRF, I, m_r L c g) 0 0 Q
  | 0, k, g, b, cy, hn, hd, ho, b0, b1, c0, c1', hs => by
    refine b_Big_addProduct_23 h0 (pk_le 20 k (fun _ => hQ g ?_) (fun c => absurd c (by omega)))
    have : k = 20 := by omega
    subst this
    have h1 := Bg_of hd hs
    refine ⟨h1.1, ?_⟩
    rw [h1.2, hg.2, hh.2, Int.add_emod, Int.emod_emod, Int.mul_emod, Int.emod_emod, ← Int.mul_emod, ← Int.add_emod]
  | n + 1, k, g, b, cy, hn, hd, ho, b0, b1, c0, c1', hs => by
    have hk : k < 20 := by clear hs; omega
    refine b_Big_addProduct_23 h0 (pk_le 20 k (fun c => absurd c (by omega)) (fun _ => ?_))
    rw [b_k hk, m_rs, ho k (Nat.le_refl k) hk, m_rn hcc]
    obtain ⟨h, eh⟩ : ∃ h, h = L c1 k := ⟨_, rfl⟩
    rw [← eh]
    have hgk := hg.1 k hk
    have hhk := hh.1 k hk
    rw [← eh] at hhk
    have m1 := mulS (x := h.toInt) (y := lo.toInt) (A := 1000000000) (B := 1000000000) (by clear hs; omega) (by clear hs; omega)
    have m2 := mulS (x := b.toInt) (y := hi.toInt) (A := 1000000000) (B := 7000000000) (by clear hs; omega) (by clear hs; omega)
    have e1 : (h * lo).toInt = h.toInt * lo.toInt := fb_mulL (by clear hs; omega) (by clear hs; omega)
    have e2 : (b * hi).toInt = b.toInt * hi.toInt := fb_mulL (by clear hs; omega) (by clear hs; omega)
    have e0 : (g0 k + h * lo).toInt = (g0 k).toInt + h.toInt * lo.toInt := by rw [fb_addL (by rw [e1]; clear hs; omega) (by rw [e1]; clear hs; omega), e1]
    have e3 : (g0 k + h * lo + b * hi).toInt = (g0 k).toInt + h.toInt * lo.toInt + b.toInt * hi.toInt := by rw [fb_addL (by rw [e0, e2]; clear hs; omega) (by rw [e0, e2]; clear hs; omega), e0, e2]
    have e4 : (g0 k + h * lo + b * hi + cy).toInt = (g0 k).toInt + h.toInt * lo.toInt + b.toInt * hi.toInt + cy.toInt := by rw [fb_addL (by rw [e3]; clear hs; omega) (by rw [e3]; clear hs; omega), e3]
    refine ⟨b_v hk, b_v hk, c_floorDivL fun s hs2 => b_Big_addProduct_71 h0 ?_⟩
    rw [b_k hk, m_ur, m_rs, m_rr, nI_1]
    obtain ⟨X, hX⟩ : ∃ X, X = (g0 k).toInt + h.toInt * lo.toInt + b.toInt * hi.toInt + cy.toInt := ⟨_, rfl⟩
    rw [← hX] at e4
    rw [e4] at hs2
    have hXb : -9000000000000000000 ≤ X ∧ X ≤ 9000000000000000000 := by rw [hX]; clear hs; omega
    have e5 : (s * 1000000000).toInt = s.toInt * 1000000000 := by rw [fb_mulL (by rw [m_B]; clear hs hX; omega) (by rw [m_B]; clear hs hX; omega), m_B]
    have e6 : (g0 k + h * lo + b * hi + cy - s * 1000000000).toInt = X % 1000000000 := by
      rw [fb_subL (by rw [e4, e5]; clear hs hX; omega) (by rw [e4, e5]; clear hs hX; omega), e4, e5]
      clear hs hX; omega
    refine ⟨b_v hk, c_bAdd_lp h0 hcc hg hh hH hl hw hQ n (k + 1) _ h s (by clear hs; omega) (fun i hi => ?_) (fun i i1 i2 => ?_) hhk.1 hhk.2 (by rw [hs2, hX]; clear hs hX hs2 hXb; omega) (by rw [hs2, hX]; clear hs hX hs2 hXb; omega) ?_⟩
    · by_cases e : i = k
      · subst e; rw [m_us, e6]; exact ⟨Int.emod_nonneg _ (by decide), Int.emod_lt_of_pos _ (by decide)⟩
      · rw [m_un e]; exact hd i (by clear hs; omega)
    · rw [m_un (by clear hs; omega)]; exact ho i (by clear hs; omega) i2
    · rw [Int.pow_succ, vS_s g0, vS_s (L c1), ← eh]
      exact ap_step (x := X) (d := X % 1000000000) hX (by rw [hs2]; clear hs hX hs2; omega) hs hw (by rw [vS_s, m_us, e6, vS_20l (Nat.le_refl k)])
/-- addProduct -/
theorem c_bAdd {o o1 c1 c : Nat} (h0 : xa_Big_addProduct o o1 c1 c) {w : Int64} {v u : Int} (hg : Bg (L c) v) (hh : Bg (L c1) u) (hw : -7000000000000000000 ≤ w.toInt ∧ w.toInt ≤ 7000000000000000000) (hQ : ∀ g, Bg g (v + u * w.toInt) → Q none (xSH, xRF, I, m_r L c g)) : xi_V (xG L0 xs) 11 0 [some (Value.ref o), some (Value.ref o1), some (Value.long w), none, none, none, none, none, none, none, none, none, none, none, none, none, none] [] (xSH, xRF, I, L) 0 0 Q := by
  have hl := w_hl w
  have hb := hl_b hw
  have hcc : c1 ≠ c := by unfold xa_Big_addProduct at h0; omega
  refine b_Big_addProduct_0 h0 ⟨by decide, by decide, ?_⟩
  have e0 : vS (L c) 0 + ((0 : Int64).toInt + (0 : Int64).toInt * (w / 1000000000).toInt) * nB ^ 0 = vS (L c) 0 + vS (L c1) 0 * w.toInt := by
    show (0 : Int) + ((0 : Int64).toInt + (0 : Int64).toInt * (w / 1000000000).toInt) * 1 = 0 + 0 * w.toInt
    rw [m_z0]; simp
  have := c_bAdd_lp (L0 := L0) (xs := xs) (Q := Q) (I := I) (L := L) h0 hcc (w := w) hg hh (by rw [hl.1]; exact hb.1) (by rw [hl.2]; exact hb.2) (by rw [hl.1, hl.2]; exact hl_e _) hQ 20 0 (L c) 0 0 rfl (fun i hi => absurd hi (Nat.not_lt_zero i)) (fun i _ _ => rfl) (by decide) (by decide) (by decide) (by decide) e0
  rw [m_r0] at this
  exact this
end BG
