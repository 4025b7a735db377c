/-! result(a, b), reduce(a, b), one, told -/
theorem two_pow_lt {t X : Nat} (h : 2 ^ t ≤ X) (hX : (X : Int) < nB ^ 43) : t < 2 ^ 31 := by
  have h1 : (nB ^ 43 : Int) = ((1000000000 ^ 43 : Nat) : Int) := by rw [Int.natCast_pow]; rfl
  rw [h1] at hX
  have h2 : X < 1000000000 ^ 43 := Int.ofNat_lt.mp hX
  have h3 : 1000000000 ^ 43 < 2 ^ 1300 := by decide +kernel
  have h4 : 2 ^ t < 2 ^ 1300 := Nat.lt_of_le_of_lt h (Nat.lt_trans h2 h3)
  have h5 : t < 1300 := (Nat.pow_lt_pow_iff_right (by decide)).mp h4
  exact Nat.lt_trans h5 (by decide)
section RS
variable {L0 : Nat} {xs : Nat → Int32} {Q : xiQ} {I : Nat → Nat → Int32} {L : Nat → Nat → Int64} {f p q r : Nat → Int64}
theorem c_result {a b : Nat} (ha5 : 5 ≤ a) (ha : a < 1067) (hb5 : 5 ≤ b) (hb : b < 1067) {x y : Int} (hx : Nm f a x) (hy : Nm f b y) (hx1 : -(nB ^ 43) < x) (hy0 : 0 < y)
    (hQ : ∀ g p' q' r', mK (fun b => b < 5) f g → Nm g 0 (x / ((Int.gcd x y : Nat) : Int)) → Nm g 1 (y / ((Int.gcd x y : Nat) : Int)) → Q none (xSH, xRF, I, mL L g p' q' r')) :
    xi_V (xG L0 xs) 124 0 [some (Value.ref 37), some (Value.int (nI a)), some (Value.int (nI b)), none, none, none] [] (xSH, xRF, I, mL L f p q r) 0 0 Q := by
  have hp43 := nB_pow 43
  have hxv := Nm_val hx
  have hyv := Nm_val hy
  obtain ⟨X, hX⟩ : ∃ X : Nat, X = x.natAbs := ⟨_, rfl⟩
  obtain ⟨Y, hY⟩ : ∃ Y : Nat, Y = y.natAbs := ⟨_, rfl⟩
  have hYp : 0 < Y := by clear hxv hyv hx1; omega
  have hYy : (Y : Int) = y := by clear hxv hyv hx1; omega
  have hXb : (X : Int) < nB ^ 43 := by generalize nB ^ 43 = P at *; omega
  have hgc : Int.gcd x y = Nat.gcd X Y := by rw [hX, hY]; rfl
  have body : ∀ v3 : Int32, (v3 = 0 ↔ 0 ≤ x) → xi_V (xG L0 xs) 124 18 [some (Value.ref 37), some (Value.int (nI a)), some (Value.int (nI b)), none, none, none] [Value.int v3] (xSH, xRF, I, mL L f p q r) 0 0 Q := by
    intro v3 hv3
    have next : ∀ f3, mK (fun b => b < 5) f f3 → Nm f3 0 ((X : Nat) : Int) → Nm f3 1 ((Y : Nat) : Int) → xi_V (xG L0 xs) 124 44 [some (Value.ref 37), some (Value.int (nI a)), some (Value.int (nI b)), some (Value.int v3), none, none] [] (xSH, xRF, I, mL L f3 p q r) 0 0 Q := by
      intro f3 k3 t0 t1
      refine b_M_result_44 (c_isBelow (a := 1) (by decide) t1 ?_)
      rw [if_neg (by clear hxv hyv hx1 hXb; omega)]
      refine b_M_result_49 ⟨fun _ => b_M_result_57 (c_isZero (a := 0) (by decide) t0 ?_), fun c => absurd rfl c⟩
      by_cases e : X = 0
      · have ex : x = 0 := by clear hxv hyv hx1 hXb; omega
        rw [if_pos (by clear hxv hyv hx1 hXb; omega)]
        refine b_M_result_62 ⟨fun c => absurd c (by decide), fun _ => c_put (a := 1) (by decide) (w := 1) (by decide) (fun f4 m4 n4 => b_M_result_71 (hQ f4 _ _ _ (mK_tr k3 (mK_F m4 (by decide))) ?_ ?_))⟩
        · rw [ex, Int.zero_ediv]
          rw [e] at t0
          exact mF_Nm m4 (by decide) t0
        · rw [hgc, e, Nat.gcd_zero_left, hYy, Int.ediv_self (Int.ne_of_gt hy0)]
          rw [m_1L] at n4
          exact n4
      · rw [if_neg (by clear hxv hyv hx1 hXb; omega)]
        refine b_M_result_62 ⟨fun _ => c_copy (a := 2) (b := 0) (by decide) (by decide) (by decide) t0 (fun f4 m4 n4 => b_M_result_78 (c_copy (a := 3) (b := 1) (by decide) (by decide) (by decide) (mF_Nm m4 (by decide) t1) (fun f5 m5 n5 => b_M_result_84 ?_))), fun c => absurd rfl c⟩
        have k5 : mK (fun b => 2 ≤ b ∧ b < 5) f3 f5 := mK_tr (mK_F m4 (by decide)) (mK_F m5 (by decide))
        refine c_result_tw (f := f3) (X := X) (Y := Y) (Nat.pos_of_ne_zero e) hYp (fun f6 A B t k6 eA eB od a2 a3 => ?_) X X Y 0 f5 (Nat.le_refl _) (by rw [Nat.pow_zero, Nat.mul_one]) (by rw [Nat.pow_zero, Nat.mul_one]) k5 (mF_Nm m5 (by decide) n4) n5
        have ht0 : 0 < 2 ^ t := Nat.pow_pos (by decide)
        have hA : 0 < A := by
          rcases Nat.eq_zero_or_pos A with z | z
          · rw [z, Nat.zero_mul] at eA; exact absurd eA.symm e
          · exact z
        have hB : 0 < B := by
          rcases Nat.eq_zero_or_pos B with z | z
          · rw [z, Nat.zero_mul] at eB; exact absurd eB (by clear hxv hyv hx1 hXb; omega)
          · exact z
        have ht : t < 2 ^ 31 := two_pow_lt (X := X) (by rw [← eA]; exact Nat.le_mul_of_pos_left _ hA) hXb
        have hG : Nat.gcd X Y = Nat.gcd A B * 2 ^ t := by rw [← eA, ← eB, Nat.gcd_mul_right]
        have godd : Nat.gcd A B % 2 = 1 := by
          rcases Nat.mod_two_eq_zero_or_one (Nat.gcd A B) with z | z
          · exfalso
            have h2 : 2 ∣ Nat.gcd A B := Nat.dvd_of_mod_eq_zero z
            have hA2 := Nat.mod_eq_zero_of_dvd (Nat.dvd_trans h2 (Nat.gcd_dvd_left A B))
            have hB2 := Nat.mod_eq_zero_of_dvd (Nat.dvd_trans h2 (Nat.gcd_dvd_right A B))
            clear hxv hyv hx1 hXb
            omega
          · exact z
        have hGX : Nat.gcd X Y ≤ X := Nat.le_of_dvd (Nat.pos_of_ne_zero e) (Nat.gcd_dvd_left X Y)
        have hGp : 0 < Nat.gcd X Y := Nat.gcd_pos_of_pos_left _ (Nat.pos_of_ne_zero e)
        refine c_result_lp (f := f3) godd (fun f7 k7 n7 => ?_) (A + B) A B f6 (Nat.le_refl _) hB rfl k6 a2 a3
        refine c_result_db (f := f3) ht (by rw [← hG]; exact Int.lt_of_le_of_lt (Int.ofNat_le.mpr hGX) hXb) (fun f8 k8 n8 => ?_) t 0 f7 (Nat.zero_add t) k7 (by rw [Nat.pow_zero, Nat.mul_one]; exact n7)
        rw [← hG] at n8
        have q0 : Nm f8 0 ((X : Nat) : Int) := k8 0 _ (by decide) t0
        have q1 : Nm f8 1 ((Y : Nat) : Int) := k8 1 _ (by decide) t1
        refine c_parts (a := 0) (b := 3) (by decide) (by decide) q0 n8 (Int.natCast_nonneg _) (by clear hxv hyv hx1 hXb; omega) (fun f9 p9 q9 r9 m9 n9 => b_M_result_227 (c_parts (a := 1) (b := 3) (by decide) (by decide) (mF_Nm m9 (by decide) q1) (mF_Nm m9 (by decide) n8) (Int.natCast_nonneg _) (by clear hxv hyv hx1 hXb; omega) (fun fa pa qa ra ma na => ?_)))
        have ka : mK (fun b => b < 5) f fa := mK_tr k3 (mK_tr (mK_w k8 (fun b hb => hb.2)) (mK_tr (mK_F m9 (by decide)) (mK_F ma (by decide))))
        have z0 := mF_Nm ma (b := 0) (by decide) n9
        rw [hYy] at na
        refine b_M_result_233 ⟨fun c => b_M_result_242 (hQ fa _ _ _ ka ?_ ?_), fun c => ?_⟩
        · have := hv3.mp c
          rw [hgc, show x = (X : Int) by clear hxv hyv hx1 hXb; omega]
          exact z0
        · rw [hgc]; exact na
        · have hneg : ¬ 0 ≤ x := fun z => c (hv3.mpr z)
          have hle : (X : Int) / ((Nat.gcd X Y : Nat) : Int) ≤ (X : Int) := Int.ediv_le_self _ (Int.natCast_nonneg _)
          have hge : 0 ≤ (X : Int) / ((Nat.gcd X Y : Nat) : Int) := Int.ediv_nonneg (Int.natCast_nonneg _) (Int.natCast_nonneg _)
          refine c_turn (a := 0) (by decide) z0 (by generalize nB ^ 43 = P at *; omega) (fun fb mb nb => b_M_result_242 (hQ fb _ _ _ (mK_tr ka (mK_F mb (by decide))) ?_ ?_))
          · have hd : ((Nat.gcd X Y : Nat) : Int) ∣ (X : Int) := Int.ofNat_dvd.mpr (Nat.gcd_dvd_left X Y)
            rw [hgc, show x = -(X : Int) by clear hxv hyv hx1 hXb; omega, Int.neg_ediv_of_dvd hd]
            exact nb
          · rw [hgc]; exact mF_Nm mb (by decide) na
    refine b_M_result_18 (c_copy (a := 0) (b := a) (by decide) ha (by clear hxv hyv hx1 hXb; omega) hx (fun f1 m1 n1 => b_M_result_25 (c_copy (a := 1) (b := b) (by decide) hb (by clear hxv hyv hx1 hXb; omega) (mF_Nm m1 (by clear hxv hyv hx1 hXb; omega) hy) (fun f2 m2 n2 => b_M_result_31 (c_isBelow (a := 0) (by decide) (mF_Nm m2 (by decide) n1) ?_)))))
    have k2 : mK (fun b => b < 5) f f2 := mK_tr (mK_F m1 (by decide)) (mK_F m2 (by decide))
    have n0 := mF_Nm m2 (b := 0) (by decide) n1
    by_cases e : x < 0
    · rw [if_pos e]
      refine b_M_result_36 ⟨fun c => absurd c (by decide), fun _ => c_turn (a := 0) (by decide) n0 hx1 (fun f3 m3 n3 => next f3 (mK_tr k2 (mK_F m3 (by decide))) ?_ ?_)⟩
      · rw [show ((X : Nat) : Int) = -x by clear hxv hyv hx1 hXb; omega]; exact n3
      · rw [hYy]; exact mF_Nm m3 (by decide) n2
    · rw [if_neg e]
      refine b_M_result_36 ⟨fun _ => next f2 k2 ?_ ?_, fun c => absurd rfl c⟩
      · rw [show ((X : Nat) : Int) = x by clear hxv hyv hx1 hXb; omega]; exact n0
      · rw [hYy]; exact n2
  have ey : (if y < 0 then (1 : Int32) else 0) = 0 := if_neg (by clear hxv hyv hx1 hXb; omega)
  refine b_M_result_0 (c_isBelow ha hx (b_M_result_5 (c_isBelow hb hy (b_M_result_10 ⟨fun c => body 0 ⟨fun _ => ?_, fun _ => rfl⟩, fun c => body 1 ⟨fun z => absurd z (by decide), fun z => ?_⟩⟩))))
  · rw [ey] at c
    by_cases e : x < 0
    · rw [if_pos e] at c; exact absurd c (by decide)
    · clear hxv hyv hx1 hXb; omega
  · rw [ey, if_neg (show ¬ x < 0 by clear hxv hyv hx1 hXb; omega)] at c
    exact absurd rfl c
/-- the rows that reduce writes but for a and b -/
def rdS (a b : Nat) : Nat → Prop := fun c => (2 ≤ c ∧ c < 5) ∨ c = 9 ∨ c = 10 ∨ c = a ∨ c = b
theorem c_reduce {a b : Nat} (ha5 : 5 ≤ a) (ha : a < 1067) (hb5 : 5 ≤ b) (hb : b < 1067) (hab : a ≠ b) (hn : a ≠ 9 ∧ a ≠ 10 ∧ b ≠ 9 ∧ b ≠ 10) {x y u w : Int} (hx : Nm f a x) (hy : Nm f b y) (h0 : Nm f 0 u) (h1 : Nm f 1 w) (hx1 : -(nB ^ 43) < x) (hy0 : 0 < y)
    (hQ : ∀ g p' q' r', mK (rdS a b) f g → Nm g a (x / ((Int.gcd x y : Nat) : Int)) → Nm g b (y / ((Int.gcd x y : Nat) : Int)) → Q none (xSH, xRF, I, mL L g p' q' r')) :
    xi_V (xG L0 xs) 142 0 [some (Value.ref 37), some (Value.int (nI a)), some (Value.int (nI b))] [] (xSH, xRF, I, mL L f p q r) 0 0 Q := by
  refine b_M_reduce_0 (c_copy (a := 9) (b := 0) (by decide) (by decide) (by decide) h0 (fun f1 m1 n1 => b_M_reduce_7 (c_copy (a := 10) (b := 1) (by decide) (by decide) (by decide) (mF_Nm m1 (by decide) h1) (fun f2 m2 n2 => b_M_reduce_14 ?_))))
  refine c_result ha5 ha hb5 hb (mF_Nm m2 hn.2.1 (mF_Nm m1 hn.1 hx)) (mF_Nm m2 hn.2.2.2 (mF_Nm m1 hn.2.2.1 hy)) hx1 hy0 (fun f3 p3 q3 r3 k3 t3 b3 => b_M_reduce_20 ?_)
  have c9 : Nm f3 9 u := k3 9 _ (by decide) (mF_Nm m2 (by decide) n1)
  have c10 : Nm f3 10 w := k3 10 _ (by decide) n2
  refine c_copy (a := a) (b := 0) ha (by decide) (by omega) t3 (fun f4 m4 n4 => b_M_reduce_26 (c_copy (a := b) (b := 1) hb (by decide) (by omega) (mF_Nm m4 (by omega) b3) (fun f5 m5 n5 => b_M_reduce_32 ?_)))
  refine c_copy (a := 0) (b := 9) (by decide) (by decide) (by decide) (mF_Nm m5 (by omega) (mF_Nm m4 (by omega) c9)) (fun f6 m6 n6 => b_M_reduce_39 ?_)
  refine c_copy (a := 1) (b := 10) (by decide) (by decide) (by decide) (mF_Nm m6 (by decide) (mF_Nm m5 (by omega) (mF_Nm m4 (by omega) c10))) (fun f7 m7 n7 => b_M_reduce_46 (hQ f7 _ _ _ (fun c v hc hN => ?_) ?_ ?_))
  · unfold rdS at hc
    by_cases e0 : c = 0
    · subst e0
      have : Nm f7 0 u := mF_Nm m7 (by decide) n6
      have e : u = v := by
        have := h0.2.2
        rw [← this]
        exact hN.2.2
      rw [← e]
      assumption
    · by_cases e1 : c = 1
      · subst e1
        have e : w = v := by
          have := h1.2.2
          rw [← this]
          exact hN.2.2
        rw [← e]
        exact n7
      · exact mF_Nm m7 e1 (mF_Nm m6 e0 (mF_Nm m5 (by omega) (mF_Nm m4 (by omega) (k3 c v (by omega) (mF_Nm m2 (by omega) (mF_Nm m1 (by omega) hN))))))
  · exact mF_Nm m7 (by omega) (mF_Nm m6 (by omega) (mF_Nm m5 hab n4))
  · exact mF_Nm m7 (by omega) (mF_Nm m6 (by omega) n5)
/-- one(a, w): row a and w more -/
theorem c_one {a : Nat} (ha : a < 1067) (ha5 : a ≠ 5) {w : Int64} {x : Int} (hx : Nm f a x) (hw : -7000000000 ≤ w.toInt ∧ w.toInt ≤ 7000000000) (h1 : -(nB ^ 43) ≤ x + w.toInt) (h2 : x + w.toInt < nB ^ 43) (hQ : ∀ g, mK (fun c => c = a ∨ c = 5) f g → Nm g a (x + w.toInt) → Q none (xSH, xRF, I, mL L g p q r)) :
    xi_V (xG L0 xs) 139 0 [some (Value.ref 37), some (Value.int (nI a)), some (Value.long w), none] [] (xSH, xRF, I, mL L f p q r) 0 0 Q := by
  refine b_M_one_0 (c_put (a := 5) (by decide) (by omega) (fun f1 m1 n1 => b_M_one_6 (c_more (a := a) (b := 5) ha (by decide) ha5 (w := 1) (mF_Nm m1 ha5 hx) n1 (by decide) (by rw [m_1L, Int.mul_one]; exact h1) (by rw [m_1L, Int.mul_one]; exact h2) (fun f2 m2 n2 => b_M_one_13 ?_))))
  rw [m_1L, Int.mul_one] at n2
  exact hQ f2 (mK_tr (mK_F m1 (Or.inr rfl)) (mK_F m2 (Or.inl rfl))) n2
/-- told(w, u): the result is w / u -/
theorem c_told {w u : Int64} (hw : -8000000000000000000 ≤ w.toInt ∧ w.toInt ≤ 8000000000000000000) (hu : 0 < u.toInt ∧ u.toInt ≤ 8000000000000000000)
    (hQ : ∀ g p' q' r', mK (fun b => b < 7) f g → Nm g 0 (w.toInt / ((Int.gcd w.toInt u.toInt : Nat) : Int)) → Nm g 1 (u.toInt / ((Int.gcd w.toInt u.toInt : Nat) : Int)) → Q none (xSH, xRF, I, mL L g p' q' r')) :
    xi_V (xG L0 xs) 157 0 [some (Value.ref 37), some (Value.long w), none, some (Value.long u), none] [] (xSH, xRF, I, mL L f p q r) 0 0 Q := by
  refine b_M_told_0 (c_put (a := 5) (by decide) hw (fun f1 m1 n1 => b_M_told_6 (c_put (a := 6) (by decide) (by omega) (fun f2 m2 n2 => b_M_told_13 ?_))))
  refine c_result (a := 5) (b := 6) (by decide) (by decide) (by decide) (by decide) (mF_Nm m2 (by decide) n1) n2 (Int.lt_of_lt_of_le (by decide) hw.1) hu.1 (fun f3 p3 q3 r3 k3 t3 b3 => b_M_told_20 (hQ f3 _ _ _ ?_ t3 b3))
  exact mK_tr (mK_F m1 (by decide)) (mK_tr (mK_F m2 (by decide)) (mK_w k3 (fun b (hb : b < 5) => show b < 7 by omega)))
end RS
