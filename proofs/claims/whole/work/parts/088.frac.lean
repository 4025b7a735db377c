/-! divide, gcd; the fraction; the tally -/
theorem gcd_step (x y : Nat) : Nat.gcd y (x % y) = Nat.gcd x y := by
  rw [Nat.gcd_comm y, ← Nat.gcd_rec, Nat.gcd_comm]
theorem low_terms {t b T S : Nat} (hS : 0 < S) (hc : Nat.gcd t b = 1) (h : t * S = T * b) : T / Nat.gcd T S = t ∧ S / Nat.gcd T S = b := by
  rcases Nat.eq_zero_or_pos t with e | e
  · subst e
    rw [Nat.gcd_zero_left] at hc
    rw [hc, Nat.mul_one, Nat.zero_mul] at h
    rw [← h, Nat.gcd_zero_left, hc, Nat.zero_div, Nat.div_self hS]
    exact ⟨rfl, rfl⟩
  · have hd : t ∣ T := by
      have h1 : t ∣ T * b := ⟨S, h.symm⟩
      exact Nat.Coprime.dvd_of_dvd_mul_right hc h1
    obtain ⟨k, hk⟩ := hd
    have hSb : S = k * b := by
      rw [hk, Nat.mul_assoc] at h
      exact Nat.eq_of_mul_eq_mul_left e h
    have hkp : 0 < k := by
      rcases Nat.eq_zero_or_pos k with z | z
      · rw [z, Nat.zero_mul] at hSb; omega
      · exact z
    have hg : Nat.gcd T S = k := by rw [hk, hSb, Nat.mul_comm t k, Nat.gcd_mul_left, hc, Nat.mul_one]
    rw [hg, hk, hSb, Nat.mul_div_cancel _ hkp, Nat.mul_div_cancel_left _ hkp]
    exact ⟨rfl, rfl⟩
theorem rN_abs {x y : Int} (hy : 0 < y) : (rN x y).natAbs = x.natAbs / Nat.gcd x.natAbs y.natAbs ∧ rD x y = ((y.natAbs / Nat.gcd x.natAbs y.natAbs : Nat) : Int) ∧ Int.sign (rN x y) = Int.sign x ∧ 0 < rD x y := by
  obtain ⟨g, hg⟩ : ∃ g : Nat, g = Int.gcd x y := ⟨_, rfl⟩
  have hg2 : g = Nat.gcd x.natAbs y.natAbs := hg
  have hgp : 0 < g := by rw [hg]; exact Int.gcd_pos_of_ne_zero_right x (by omega)
  have hdx : (g : Int) ∣ x := by rw [hg]; exact Int.gcd_dvd_left ..
  have hdy : (g : Int) ∣ y := by rw [hg]; exact Int.gcd_dvd_right ..
  unfold rN rD
  rw [← hg, ← hg2]
  have hab : (x / (g : Int)).natAbs = x.natAbs / g := by
    rw [Int.natAbs_ediv_of_dvd hdx]
    rfl
  obtain ⟨k, hk⟩ := hdx
  obtain ⟨m, hm⟩ := hdy
  have hxk : x / (g : Int) = k := by rw [hk, Int.mul_ediv_cancel_left _ (by omega)]
  have hym : y / (g : Int) = m := by rw [hm, Int.mul_ediv_cancel_left _ (by omega)]
  have hmp : 0 < m := by
    rcases Int.lt_or_le 0 m with z | z
    · exact z
    · have := Int.mul_nonpos_of_nonneg_of_nonpos (show (0 : Int) ≤ (g : Int) by omega) z
      omega
  refine ⟨hab, ?_, ?_, by rw [hym]; exact hmp⟩
  · rw [hym, Int.natCast_ediv, show ((y.natAbs : Nat) : Int) = y by omega, hym]
  · rw [hxk, hk, Int.sign_mul, Int.sign_eq_one_of_pos (show (0 : Int) < (g : Int) by omega), Int.one_mul]
/-- one lowest form -/
theorem rN_eq {a b c d : Int} (hb : 0 < b) (hd : 0 < d) (h : a * d = c * b) : rN a b = rN c d ∧ rD a b = rD c d := by
  have h1 := rN_abs (x := a) hb
  have h2 := rN_abs (x := c) hd
  have hN : a.natAbs * d.natAbs = c.natAbs * b.natAbs := by rw [← Int.natAbs_mul, h, Int.natAbs_mul]
  have hgp : 0 < Nat.gcd c.natAbs d.natAbs := Nat.gcd_pos_of_pos_right _ (by omega)
  have hco : Nat.gcd (c.natAbs / Nat.gcd c.natAbs d.natAbs) (d.natAbs / Nat.gcd c.natAbs d.natAbs) = 1 := Nat.coprime_div_gcd_div_gcd hgp
  have hc1 : c.natAbs / Nat.gcd c.natAbs d.natAbs * Nat.gcd c.natAbs d.natAbs = c.natAbs := Nat.div_mul_cancel (Nat.gcd_dvd_left _ _)
  have hd1 : d.natAbs / Nat.gcd c.natAbs d.natAbs * Nat.gcd c.natAbs d.natAbs = d.natAbs := Nat.div_mul_cancel (Nat.gcd_dvd_right _ _)
  have key : c.natAbs / Nat.gcd c.natAbs d.natAbs * b.natAbs = a.natAbs * (d.natAbs / Nat.gcd c.natAbs d.natAbs) := by
    refine Nat.eq_of_mul_eq_mul_right hgp ?_
    rw [Nat.mul_right_comm, hc1, Nat.mul_assoc, hd1, hN]
  have hl := low_terms (t := c.natAbs / Nat.gcd c.natAbs d.natAbs) (b := d.natAbs / Nat.gcd c.natAbs d.natAbs) (T := a.natAbs) (S := b.natAbs) (by omega) hco key
  have hs : Int.sign a = Int.sign c := by
    have := congrArg Int.sign h
    rw [Int.sign_mul, Int.sign_mul, Int.sign_eq_one_of_pos hb, Int.sign_eq_one_of_pos hd, Int.mul_one, Int.mul_one] at this
    exact this
  refine ⟨?_, by rw [h1.2.1, h2.2.1, hl.2]⟩
  have e1 : (rN a b).natAbs = (rN c d).natAbs := by rw [h1.1, h2.1, hl.1]
  rw [← Int.sign_mul_natAbs (rN a b), ← Int.sign_mul_natAbs (rN c d), h1.2.2.1, h2.2.2.1, hs, e1]
/-- the class's result -/
def kRes (I : Nat → Nat → Int32) (L : Nat → Nat → Int64) (x y : Int) : Prop := I 14 0 = zI (Int.sign x) ∧ Bx (L 16) (x.natAbs : Int) ∧ Bx (L 18) y ∧ 0 < y
section FR
variable {L0 : Nat} {xs : Nat → Int32} {Q : xiQ} {I : Nat → Nat → Int32} {L : Nat → Nat → Int64}
theorem c_bDiv_lp {o o3 c c3 : Nat} (h0 : xa_Big_divide o o3 c c3) {d v : Int} (hd : 1 ≤ d ∧ d ≤ 900000000000000000) (hg : Bx (L c) v) {st : Int64} (hst : st = 10 ∨ (st = 1000000000 ∧ d < 9000000000))
    (hQ : ∀ g, Bx g (v / d) → Q (some (Value.long (zL (v % d)))) (xSH, xRF, I, m_r L c3 g)) :
    ∀ (m : Nat) (g3 : Nat → Int64) (ρ : Int), m ≤ 20 → (∀ i, i < m → g3 i = L c3 i) → (∀ i, m ≤ i → i < 20 → 0 ≤ (g3 i).toInt ∧ (g3 i).toInt < 1000000000) → 0 ≤ ρ → ρ < d → (vS g3 20 - vS g3 m) * d + ρ * nB ^ m = v - vS (L c) m →
      xi_V (xG L0 xs) 15 34 [some (Value.ref o), some (Value.long (zL d)), none, some (Value.ref o3), some (Value.long st), none, some (Value.long (zL ρ)), none, some (Value.int (dn m)), none, none, none, none, none, none] [] (xSH, xRF, I, m_r L c3 g3) 0 0 Q
  | 0, g3, ρ, hm, h1, h2, r0, r1, hs => by
    refine b_Big_divide_34 h0 ⟨fun _ => ?_, fun c => absurd (by decide) c⟩
    rw [show vS g3 0 = 0 from rfl, show vS (L c) 0 = 0 from rfl, show nB ^ 0 = 1 from rfl, Int.mul_one, Int.sub_zero, Int.sub_zero] at hs
    have e1 : v / d = vS g3 20 := by
      rw [← hs, Int.add_comm, Int.add_mul_ediv_right _ _ (by clear hs; omega), Int.ediv_eq_zero_of_lt r0 r1, Int.zero_add]
    have e2 : v % d = ρ := by
      rw [← hs, Int.add_comm, Int.add_mul_emod_self_right, Int.emod_eq_of_lt r0 r1]
    have := hQ g3 ⟨fun k hk => h2 k (Nat.zero_le k) hk, e1.symm⟩
    rw [e2] at this
    exact this
  | m + 1, g3, ρ, hm, h1, h2, r0, r1, hs => by
    have hk : m < 20 := by clear hs; omega
    have hread : m_r L c3 g3 c m = L c m := by
      by_cases e : c = c3
      · subst e; rw [m_rs]; exact h1 m (Nat.lt_succ_self m)
      · rw [m_rn e]
    have hH := hg.1 m hk
    obtain ⟨H, eH⟩ : ∃ H, H = (L c m).toInt := ⟨_, rfl⟩
    rw [← eH] at hH
    have eL : L c m = zL H := by rw [eH]; exact l_v _
    have next : ∀ τ ρ' : Int, 0 ≤ τ → τ < 1000000000 → 0 ≤ ρ' → ρ' < d → τ * d + ρ' = ρ * 1000000000 + H → xi_V (xG L0 xs) 15 124 [some (Value.ref o), some (Value.long (zL d)), none, some (Value.ref o3), some (Value.long st), none, some (Value.long (zL ρ')), none, some (Value.int (nI m)), some (Value.long (zL H)), none, some (Value.long (zL τ)), none, none, none] [] (xSH, xRF, I, m_r L c3 g3) 0 0 Q := by
      intro τ ρ' t0 t1 p0 p1 he
      refine b_Big_divide_124 h0 ?_
      rw [b_k hk, m_ur, m_rs, m_rr, dn_s]
      have eτ : (zL τ).toInt = τ := zL_t (by clear hs he; omega) (by clear hs he; omega)
      refine ⟨b_v hk, c_bDiv_lp h0 hd hg hst hQ m (m_u g3 m (zL τ)) ρ' (by clear hs he; omega) (fun i hi => ?_) (fun i i1 i2 => ?_) p0 p1 ?_⟩
      · rw [m_un (by clear hs he; omega)]; exact h1 i (by clear hs he; omega)
      · by_cases e : i = m
        · subst e; rw [m_us, eτ]; exact ⟨t0, t1⟩
        · rw [m_un e]; exact h2 i (by clear hs he; omega) i2
      · rw [vS_20u hk, vS_20l (Nat.le_refl m), eτ]
        rw [vS_s g3 m, vS_s (L c) m, ← eH, Int.pow_succ nB m] at hs
        have e1 : (τ * d + ρ') * nB ^ m = (ρ * 1000000000 + H) * nB ^ m := by rw [he]
        rw [Int.add_mul, Int.add_mul] at e1
        have a1 : ρ * (nB ^ m * nB) = ρ * 1000000000 * nB ^ m := by rw [Int.mul_comm (nB ^ m), ← Int.mul_assoc]
        rw [a1] at hs
        generalize hP : nB ^ m = P at *
        generalize (g3 m).toInt = t at *
        generalize vS g3 20 = G at *
        generalize vS g3 m = G2 at *
        have a2 : (G + (τ - t) * P - G2) * d = (G - (G2 + t * P)) * d + τ * d * P := by
          rw [← Int.mul_right_comm τ P d, ← Int.add_mul]
          congr 1
          rw [Int.sub_mul]
          generalize τ * P = z1
          generalize t * P = z2
          clear e1 hs he a1
          omega
        rw [a2]
        generalize (G - (G2 + t * P)) * d = z1 at *
        generalize τ * d * P = z2 at *
        generalize ρ' * P = z3 at *
        generalize ρ * 1000000000 * P = z4 at *
        generalize H * P = z5 at *
        clear a2 he
        omega
    refine b_Big_divide_34 h0 ⟨fun c => absurd c (nI_pos (by clear hs; omega)), fun _ => ?_⟩
    rw [show dn (m + 1) = nI m from rfl, b_k hk, hread, eL, m_cmpE, m_cmpE, m_eq0 (x := zL H), m_eq0 (x := zL ρ), zL_t (by clear hs; omega) (by clear hs; omega), zL_t (by clear hs; omega) (by clear hs; omega)]
    have go : ¬ st = 0 ∧ xi_V (xG L0 xs) 15 73 [some (Value.ref o), some (Value.long (zL d)), none, some (Value.ref o3), some (Value.long st), none, some (Value.long (zL ρ)), none, some (Value.int (nI m)), some (Value.long (zL H)), none, some (Value.long ((0 : Int64))), none, some (Value.long ((1000000000 : Int64) / st)), none] [] (xSH, xRF, I, m_r L c3 g3) 0 0 Q := by
      rcases hst with e | ⟨e, ed⟩
      · subst e
        refine ⟨by decide, ?_⟩
        have := c_bDiv10 (L0 := L0) (xs := xs) (Q := Q) (I := I) (L := m_r L c3 g3) h0 (v8 := nI m) hd hH ⟨r0, r1⟩ next 9 0 ρ (Nat.le_refl 9) (Int.le_refl 0) r0 r1 (by
          rw [show 9 - 9 = 0 from rfl, show (10 : Int) ^ 0 = 1 from rfl, show (10 : Int) ^ 9 = 1000000000 by decide, Int.ediv_eq_zero_of_lt hH.1 hH.2]; clear hs; omega)
        rw [show (1000000000 : Int64) / 10 = zL (pu 9) by decide]
        exact this
      · subst e
        exact ⟨by decide, c_bDivB h0 ⟨hd.1, ed⟩ hH ⟨r0, r1⟩ next⟩
    refine ⟨b_v hk, fun _ => go, fun e => ⟨fun e2 => ?_, fun _ => go⟩⟩
    exact next 0 ρ (Int.le_refl 0) (by decide) r0 r1 (by clear hs; omega)
/-- divide -/
theorem c_bDiv {o o3 c c3 : Nat} (h0 : xa_Big_divide o o3 c c3) {d v : Int} (hd : 1 ≤ d ∧ d ≤ 900000000000000000) (hg : Bx (L c) v)
    (hQ : ∀ g, Bx g (v / d) → Q (some (Value.long (zL (v % d)))) (xSH, xRF, I, m_r L c3 g)) : xi_V (xG L0 xs) 15 0 [some (Value.ref o), some (Value.long (zL d)), none, some (Value.ref o3), none, none, none, none, none, none, none, none, none, none, none] [] (xSH, xRF, I, L) 0 0 Q := by
  have t1 : (1 : Int64).toInt = 1 := by decide
  have t9 : (9000000000 : Int64).toInt = 9000000000 := by decide
  have go : ∀ st : Int64, (st = 10 ∨ (st = 1000000000 ∧ d < 9000000000)) → xi_V (xG L0 xs) 15 25 [some (Value.ref o), some (Value.long (zL d)), none, some (Value.ref o3), none, none, none, none, none, none, none, none, none, none, none] [Value.long st] (xSH, xRF, I, L) 0 0 Q := by
    intro st hst
    refine b_Big_divide_25 h0 ?_
    have := c_bDiv_lp (L0 := L0) (xs := xs) (Q := Q) (I := I) (L := L) h0 hd hg hst hQ 20 (L c3) 0 (Nat.le_refl 20) (fun i _ => rfl) (fun i i1 i2 => by omega) (Int.le_refl 0) (by omega) (by rw [hg.2, Int.sub_self, Int.zero_mul, Int.zero_mul, Int.sub_self]; rfl)
    rw [m_r0] at this
    exact this
  refine b_Big_divide_0 h0 ?_
  rw [m_cmp0, m_cmp0, Int64.lt_iff_toInt_lt, Int64.lt_iff_toInt_lt, t1, t9, zL_t (by omega) (by omega)]
  exact ⟨fun _ => ⟨fun _ => go 10 (Or.inl rfl), fun c => go 1000000000 (Or.inr ⟨rfl, by omega⟩)⟩, fun c => absurd (by omega) c⟩
theorem c_fGcd_lp {w0 w2 : Int64} {g : Nat} (hQ : Q (some (Value.long (zL (g : Int)))) (xSH, xRF, I, L)) :
    ∀ (n s x y : Nat), y < 2 ^ n → n ≤ 63 → s + 2 * n ≤ 200 → x < 9223372036854775808 → Nat.gcd x y = g → xi_V (xG L0 xs) 36 9 [some (Value.long w0), none, some (Value.long w2), none, some (Value.long (zL (x : Int))), none, some (Value.long (zL (y : Int))), none, some (Value.int (nI s)), none, none] [] (xSH, xRF, I, L) 0 0 Q := by
  have done : ∀ s x : Nat, s < 2147483648 → Nat.gcd x 0 = g → xi_V (xG L0 xs) 36 9 [some (Value.long w0), none, some (Value.long w2), none, some (Value.long (zL (x : Int))), none, some (Value.long (zL ((0 : Nat) : Int))), none, some (Value.int (nI s)), none, none] [] (xSH, xRF, I, L) 0 0 Q := by
    intro s x hs hg
    rw [Nat.gcd_zero_right] at hg
    subst hg
    exact b_Fraction_gcd_9 ⟨fun _ => hQ, fun _ => ⟨fun _ => hQ, fun c => absurd (by decide) c⟩⟩
  intro n
  induction n with
  | zero =>
    intro s x y hy hn hs hx hg
    rw [show y = 0 by omega] at hg ⊢
    exact done s x (by omega) hg
  | succ n ih =>
    intro s x y hy hn hs hx hg
    have h63 : 2 ^ (n + 1) ≤ 2 ^ 63 := Nat.pow_le_pow_right (by decide) hn
    have stp : ∀ s x y : Nat, 0 < y → y < 9223372036854775808 → x < 9223372036854775808 → s < 200 → xi_V (xG L0 xs) 36 9 [some (Value.long w0), none, some (Value.long w2), none, some (Value.long (zL (y : Int))), none, some (Value.long (zL ((x % y : Nat) : Int))), none, some (Value.int (nI (s + 1))), none, none] [] (xSH, xRF, I, L) 0 0 Q → xi_V (xG L0 xs) 36 9 [some (Value.long w0), none, some (Value.long w2), none, some (Value.long (zL (x : Int))), none, some (Value.long (zL (y : Int))), none, some (Value.int (nI s)), none, none] [] (xSH, xRF, I, L) 0 0 Q := by
      intro s x y hy0 hy1 hx hs h
      have ne : ¬ zL (y : Int) = 0 := fun e => by
        have := congrArg Int64.toInt e
        rw [zL_t (by omega) (by omega), m_z0] at this
        omega
      refine b_Fraction_gcd_9 (pk_le 200 s (fun c => absurd c (by omega)) (fun _ => ⟨fun c => absurd (m_cmpE.mp c) ne, fun _ => ⟨ne, ?_⟩⟩))
      rw [zL_rem (by omega) (by omega) (by omega) (by omega), nI_1, ← Int.natCast_emod]
      exact h
    by_cases e : y = 0
    · subst e; exact done s x (by omega) hg
    · refine stp s x y (by omega) (by omega) hx (by omega) ?_
      have hr : x % y < y := Nat.mod_lt _ (by omega)
      by_cases e2 : x % y = 0
      · rw [e2]
        refine done (s + 1) y (by omega) ?_
        rw [← e2, gcd_step]; exact hg
      · refine stp (s + 1) y (x % y) (by omega) (by omega) (by omega) (by omega) (ih (s + 2) (x % y) (y % (x % y)) ?_ (by omega) (by omega) (by omega) (by rw [gcd_step, gcd_step]; exact hg))
        have h1 : y % (x % y) < x % y := Nat.mod_lt _ (by omega)
        have h2 : y % (x % y) + (x % y) * (y / (x % y)) = y := Nat.mod_add_div _ _
        have h3 : 1 ≤ y / (x % y) := Nat.div_pos (by omega) (by omega)
        have h4 : (x % y) * 1 ≤ (x % y) * (y / (x % y)) := Nat.mul_le_mul_left _ h3
        rw [Nat.pow_succ] at hy
        omega
theorem c_fGcd {x y : Nat} (hx : x < 9223372036854775808) (hy : y < 9223372036854775808) (hQ : Q (some (Value.long (zL (Nat.gcd x y : Nat)))) (xSH, xRF, I, L)) : xi_V (xG L0 xs) 36 0 [some (Value.long (zL (x : Int))), none, some (Value.long (zL (y : Int))), none, none, none, none, none, none, none, none] [] (xSH, xRF, I, L) 0 0 Q :=
  b_Fraction_gcd_0 (c_fGcd_lp hQ 63 0 x y hy (Nat.le_refl 63) (by decide) hx rfl)
/-- takeTop -/
theorem c_fTake {T : Int} (hg : Bg (L 16) T) (h1 : -(nB ^ 20) < 2 * T) (h2 : 2 * T < nB ^ 20)
    (hQ : ∀ I' L', (∀ a, a ≠ 14 → I' a = I a) → I' 14 0 = zI (Int.sign T) → (∀ a, a ≠ 16 → a ≠ 18 → L' a = L a) → Bx (L' 16) (T.natAbs : Int) → Bx (L' 18) 1 → Q none (xSH, xRF, I', L')) : xi_V (xG L0 xs) 34 0 [some (Value.ref 14)] [] (xSH, xRF, I, L) 0 0 Q := by
  have hp := nB_pow 20
  refine b_Fraction_takeTop_0 (c_bBecome (Or.inr (Or.inl ⟨rfl, rfl⟩)) (fun g hg1 => b_Fraction_takeTop_8 ?_))
  rw [m_1L] at hg1
  have hx1 : Bx g 1 := Bg_x hg1 (by decide) (Int.lt_of_lt_of_le (show (1 : Int) < nB by decide) (nB_mono (a := 1) (b := 20) (by decide)))
  have r16 : m_r L 18 g 16 = L 16 := m_rn (by decide)
  have hG := vS_b2 hg.1
  have hz0 : vS (L 16) 20 = 0 ↔ T = 0 := by
    rw [hg.2]
    constructor
    · intro e
      rcases Int.lt_or_le T 0 with z | z
      · rw [← Int.add_emod_right, Int.emod_eq_of_lt (by omega) (by omega)] at e
        omega
      · rw [Int.emod_eq_of_lt z (by omega)] at e
        exact e
    · intro e; rw [e, Int.zero_emod]
  obtain ⟨V, hV⟩ : ∃ V : Nat, (V : Int) = vS (L 16) 20 := ⟨(vS (L 16) 20).toNat, by omega⟩
  have hBx : Bx (m_r L 18 g 16) (V : Int) := by rw [r16]; exact ⟨hg.1, hV.symm⟩
  have fin : ∀ I1 : Nat → Nat → Int32, (∀ a, a ≠ 14 → I1 a = I a) → (0 ≤ T → I1 14 0 = zI (Int.sign T)) → xi_V (xG L0 xs) 12 0 [some (Value.ref 15)] [] (xSH, xRF, I1, m_r L 18 g) 0 0 (fun o σ' => xi_V (xG L0 xs) 34 34 [some (Value.ref 14)] (o.toList ++ []) σ' 0 0 Q) := by
    intro I1 f1 s1
    refine c_bBelow (by rw [r16]; exact hg) (by omega) h2 ?_
    by_cases c : T < 0
    · rw [if_pos c]
      refine b_Fraction_takeTop_34 ⟨fun z => absurd z (by decide), fun _ => c_bMul (Or.inl ⟨rfl, rfl⟩) (by rw [r16]; exact hg) (by decide) (fun g2 hg2 => b_Fraction_takeTop_52 ?_)⟩
      rw [m_m1, Int.mul_neg_one] at hg2
      refine hQ _ _ (fun a ha => (xi_un ha).trans (f1 a ha)) ?_ (fun a a1 a2 => by rw [m_rn a1, m_rn a2]) ?_ ?_
      · rw [xi_us, Int.sign_eq_neg_one_of_neg c]; decide
      · rw [m_rs, show (T.natAbs : Int) = -T by omega]
        exact Bg_x hg2 (by omega) (by omega)
      · rw [m_rn (by decide), m_rs]; exact hx1
    · rw [if_neg c]
      refine b_Fraction_takeTop_34 ⟨fun _ => b_Fraction_takeTop_52 (hQ _ _ f1 (s1 (by omega)) (fun a a1 a2 => m_rn a2) ?_ ?_), fun z => absurd rfl z⟩
      · rw [r16, show (T.natAbs : Int) = T by omega]
        exact Bg_x hg (by omega) (by omega)
      · rw [m_rs]; exact hx1
  refine c_bZero hBx ?_
  by_cases e : V = 0
  · rw [if_pos e]
    have eT : T = 0 := hz0.mp (by omega)
    refine b_Fraction_takeTop_16 ⟨fun c => absurd c (by decide), fun _ => fin _ (fun a ha => xi_un ha) (fun _ => ?_)⟩
    rw [xi_us, eT]; rfl
  · rw [if_neg e]
    have eT : T ≠ 0 := fun z => e (by have := hz0.mpr z; omega)
    refine b_Fraction_takeTop_16 ⟨fun _ => fin _ (fun a ha => xi_un ha) (fun h => ?_), fun c => absurd rfl c⟩
    rw [xi_us, Int.sign_eq_one_of_pos (by omega)]; decide
/-- divide of the fraction -/
theorem c_fDiv {d t b : Nat} (hd : 1 ≤ d ∧ d ≤ 900000000000000000) (ht : Bx (L 16) (t : Int)) (hb : Bx (L 18) (b : Int)) (hbd : ((b * d : Nat) : Int) < nB ^ 20)
    (hQ : ∀ L', (∀ a, a ≠ 16 → a ≠ 18 → a ≠ 20 → L' a = L a) → Bx (L' 16) ((t / Nat.gcd t d : Nat) : Int) → Bx (L' 18) ((b * (d / Nat.gcd t d) : Nat) : Int) → Q none (xSH, xRF, I, L')) : xi_V (xG L0 xs) 35 0 [some (Value.ref 14), some (Value.long (zL (d : Int))), none, none, none] [] (xSH, xRF, I, L) 0 0 Q := by
  have hgp : 0 < Nat.gcd t d := Nat.gcd_pos_of_pos_right _ (by omega)
  have hgl : Nat.gcd t d ≤ d := Nat.gcd_le_right _ (by omega)
  refine b_Fraction_divide_0 (c_bDiv (Or.inl ⟨rfl, rfl, rfl, rfl⟩) (by omega) ht (fun g hg => b_Fraction_divide_12 ?_))
  rw [← Int.natCast_emod]
  have hr : t % d < d := Nat.mod_lt _ (by omega)
  refine c_fGcd (x := t % d) (y := d) (by omega) (by omega) (b_Fraction_divide_16 ?_)
  have hgc : Nat.gcd (t % d) d = Nat.gcd t d := by rw [Nat.gcd_comm, gcd_step]
  rw [hgc, m_cmp0, Int64.lt_iff_toInt_lt, m_1L, zL_t (by omega) (by omega)]
  refine ⟨fun _ => c_bDiv (Or.inr ⟨rfl, rfl, rfl, rfl⟩) (by omega) (by rw [m_rn (by decide)]; exact ht) (fun g2 hg2 => b_Fraction_divide_36 ⟨fun e => ?_, ?_⟩), fun c => absurd (by omega) c⟩
  · have := congrArg Int64.toInt e
    rw [zL_t (by omega) (by omega), m_z0] at this
    omega
  · rw [zL_div (by omega) (by omega) (by omega) (by omega)]
    have hq : (d : Int) / ((Nat.gcd t d : Nat) : Int) = ((d / Nat.gcd t d : Nat) : Int) := (Int.natCast_ediv _ _).symm
    have hle : d / Nat.gcd t d ≤ d := Nat.div_le_self _ _
    rw [hq]
    have hq0 : (0 : Int) ≤ ((d / Nat.gcd t d : Nat) : Int) := Int.natCast_nonneg _
    have hq1 : ((d / Nat.gcd t d : Nat) : Int) ≤ (d : Int) := Int.ofNat_le.mpr hle
    have ez : (zL ((d / Nat.gcd t d : Nat) : Int)).toInt = ((d / Nat.gcd t d : Nat) : Int) := zL_t (by omega) (by omega)
    refine c_bMul (Or.inr (Or.inl ⟨rfl, rfl⟩)) (by rw [m_rn (by decide), m_rn (by decide)]; exact Bx_g hb) (by rw [ez]; omega) (fun g3 hg3 => b_Fraction_divide_47 ?_)
    rw [ez, ← Int.natCast_mul] at hg3
    have hlt : ((b * (d / Nat.gcd t d) : Nat) : Int) < nB ^ 20 := Int.lt_of_le_of_lt (Int.ofNat_le.mpr (Nat.mul_le_mul_left b hle)) hbd
    refine hQ _ (fun a a1 a2 a3 => by rw [m_rn a2, m_rn a1, m_rn a3]) ?_ ?_
    · rw [m_rn (by decide), m_rs, Int.natCast_ediv]; exact hg2
    · rw [m_rs]; exact Bg_x hg3 (by omega) hlt
/-- put -/
theorem c_fPut {x d : Int} (hx : -7000000000000000000 ≤ x ∧ x ≤ 7000000000000000000) (hd : 1 ≤ d ∧ d ≤ 900000000000000000)
    (hQ : ∀ I' L', (∀ a, a ≠ 14 → I' a = I a) → (∀ a, a ≠ 16 → a ≠ 18 → a ≠ 20 → L' a = L a) → kRes I' L' (rN x d) (rD x d) → Q none (xSH, xRF, I', L')) : xi_V (xG L0 xs) 33 0 [some (Value.ref 14), some (Value.long (zL x)), none, some (Value.long (zL d)), none] [] (xSH, xRF, I, L) 0 0 Q := by
  have hbig : (14000000000000000001 : Int) < nB ^ 20 := by decide +kernel
  have ex : (zL x).toInt = x := zL_t (by omega) (by omega)
  have hr := rN_abs (x := x) (y := d) (by omega)
  refine b_Fraction_put_0 (c_bBecome (Or.inl ⟨rfl, rfl⟩) (fun g hg => b_Fraction_put_8 ?_))
  rw [ex] at hg
  refine c_fTake (by rw [m_rs]; exact hg) (by generalize nB ^ 20 = P at *; omega) (by generalize nB ^ 20 = P at *; omega) (fun I' L' f1 s1 f2 b1 b2 => b_Fraction_put_12 ?_)
  obtain ⟨dn, hdn⟩ : ∃ dn : Nat, d = (dn : Int) := ⟨d.toNat, by omega⟩
  subst hdn
  refine c_fDiv (t := x.natAbs) (b := 1) (by omega) b1 b2 (by rw [Nat.one_mul]; generalize nB ^ 20 = P at *; omega) (fun L2 f3 c1 c2 => b_Fraction_put_17 (hQ I' L2 f1 (fun a a1 a2 a3 => by rw [f3 a a1 a2 a3, f2 a a1 a2, m_rn a1]) ⟨?_, ?_, ?_, hr.2.2.2⟩))
  · rw [hr.2.2.1]; exact s1
  · rw [hr.1]; exact c1
  · rw [hr.2.1]
    rw [Nat.one_mul] at c2
    exact c2
/-- clear, add of the tally -/
theorem c_tClear (hQ : ∀ L', (∀ a, a ≠ 23 → a ≠ 25 → L' a = L a) → Bg (L' 23) 0 → Bg (L' 25) 1 → Q none (xSH, xRF, I, L')) : xi_V (xG L0 xs) 68 0 [some (Value.ref 21)] [] (xSH, xRF, I, L) 0 0 Q := by
  refine b_Tally_clear_0 (c_bBecome (Or.inr (Or.inr (Or.inl ⟨rfl, rfl⟩))) (fun g hg => b_Tally_clear_8 (c_bBecome (Or.inr (Or.inr (Or.inr ⟨rfl, rfl⟩))) (fun g2 hg2 => b_Tally_clear_16 (hQ _ (fun a a1 a2 => by rw [m_rn a2, m_rn a1]) ?_ ?_)))))
  · rw [m_rn (by decide), m_rs]; rw [m_z0] at hg; exact hg
  · rw [m_rs]; rw [m_1L] at hg2; exact hg2
theorem c_tAdd {a d u v : Int} (ha : -7000000000000000000 ≤ a ∧ a ≤ 7000000000000000000) (hd : -7000000000000000000 ≤ d ∧ d ≤ 7000000000000000000) (hu : Bg (L 23) u) (hv : Bg (L 25) v)
    (hQ : ∀ L', (∀ k, k ≠ 23 → k ≠ 25 → L' k = L k) → Bg (L' 23) (u * d + v * a) → Bg (L' 25) (v * d) → Q none (xSH, xRF, I, L')) : xi_V (xG L0 xs) 69 0 [some (Value.ref 21), some (Value.long (zL a)), none, some (Value.long (zL d)), none] [] (xSH, xRF, I, L) 0 0 Q := by
  have ea : (zL a).toInt = a := zL_t (by omega) (by omega)
  have ed : (zL d).toInt = d := zL_t (by omega) (by omega)
  refine b_Tally_add_0 (c_bMul (Or.inr (Or.inr (Or.inl ⟨rfl, rfl⟩))) hu (by rw [ed]; exact hd) (fun g hg => b_Tally_add_8 (c_bAdd (Or.inr (Or.inr ⟨rfl, rfl, rfl, rfl⟩)) (by rw [m_rs]; exact hg) (by rw [m_rn (by decide)]; exact hv) (by rw [ea]; exact ha) (fun g2 hg2 => b_Tally_add_20 ?_))))
  refine c_bMul (Or.inr (Or.inr (Or.inr ⟨rfl, rfl⟩))) (by rw [m_rn (by decide), m_rn (by decide)]; exact hv) (by rw [ed]; exact hd) (fun g3 hg3 => b_Tally_add_28 (hQ _ (fun k k1 k2 => by rw [m_rn k2, m_rn k1, m_rn k1]) ?_ ?_))
  · rw [m_rn (by decide), m_rs]; rw [ed, ea] at hg2; exact hg2
  · rw [m_rs]; rw [ed] at hg3; exact hg3
end FR
