/-! heap, share, least of the model -/
theorem mq_step {m Q S w : Int} (hm : 0 ≤ m) (hQ : 0 ≤ Q) (h : S * S ≤ m * Q) (h0 : m = 0 → S = 0) : (S + w) * (S + w) ≤ (m + 1) * (Q + w * w) := by
  have e : (m + 1) * (Q + w * w) - (S + w) * (S + w) = (m * Q - S * S) + (Q + m * (w * w) - 2 * (S * w)) := by
    simp only [Int.add_mul, Int.mul_add, Int.one_mul, Int.mul_one]
    rw [Int.mul_comm w S]
    omega
  have key : 0 ≤ Q + m * (w * w) - 2 * (S * w) := by
    rcases Int.lt_or_eq_of_le hm with c | c
    · have e2 : m * (Q + m * (w * w) - 2 * (S * w)) = (m * Q - S * S) + (S - m * w) * (S - m * w) := by
        simp only [Int.sub_mul, Int.mul_sub, Int.mul_add]
        have a1 : m * (2 * (S * w)) = 2 * (S * (m * w)) := by rw [Int.mul_left_comm, Int.mul_left_comm m S w]
        have a2 : m * (m * (w * w)) = m * w * (m * w) := by rw [Int.mul_assoc m w, Int.mul_left_comm w m w]
        have a3 : m * w * S = S * (m * w) := Int.mul_comm _ _
        rw [a1, a2, a3]
        omega
      have h3 : 0 ≤ (S - m * w) * (S - m * w) := by
        rcases Int.le_total 0 (S - m * w) with z | z
        · exact Int.mul_nonneg z z
        · exact Int.mul_nonneg_of_nonpos_of_nonpos z z
      rcases Int.lt_or_le (Q + m * (w * w) - 2 * (S * w)) 0 with z | z
      · have := Int.mul_neg_of_pos_of_neg c z
        omega
      · exact z
    · have : m = 0 := c.symm
      rw [h0 this, this, Int.zero_mul, Int.zero_mul]
      omega
  omega
theorem off_nn0 (D : xD) (s : Nat) : ∀ n, 0 ≤ sqs D s n ∧ sws D s n * sws D s n ≤ (bc s n : Int) * sqs D s n ∧ (bc s n = 0 → sws D s n = 0)
  | 0 => by simp [sqs, sws, sm, bc]
  | n + 1 => by
    obtain ⟨h1, h2, h3⟩ := off_nn0 D s n
    have hw : 0 ≤ qW D n * qW D n := by
      rcases Int.le_total 0 (qW D n) with z | z
      · exact Int.mul_nonneg z z
      · exact Int.mul_nonneg_of_nonpos_of_nonpos z z
    unfold sqs sws at *
    rw [sm_s, sm_s, bc]
    rcases bt_01 s n with e | e
    · rw [e]
      simp only [Int.natCast_zero, Int.zero_mul, Int.add_zero, Nat.add_zero]
      exact ⟨h1, h2, h3⟩
    · rw [e]
      simp only [Int.natCast_one, Int.one_mul]
      refine ⟨by omega, ?_, fun z => by omega⟩
      rw [Int.natCast_add, Int.natCast_one]
      exact mq_step (Int.natCast_nonneg _) h1 h2 (fun z => h3 (by omega))
theorem bt_big {s n i : Nat} (h : s < 2 ^ n) (hi : n ≤ i) : bt s i = 0 := bt_hi (Nat.lt_of_lt_of_le h (Nat.pow_le_pow_right (by decide) hi))
theorem bc_cut {s n : Nat} (h : s < 2 ^ n) : ∀ d, bc s (n + d) = bc s n
  | 0 => rfl
  | d + 1 => by
    show bc s (n + d) + bt s (n + d) = bc s n
    rw [bc_cut h d, bt_big h (by omega)]; rfl
theorem bc_10 {s n : Nat} (h : s < 2 ^ n) (hn : n ≤ 10) : bc s 10 = bc s n := by
  have := bc_cut h (10 - n)
  rw [show n + (10 - n) = 10 by omega] at this
  exact this
theorem off_nn {D : xD} (hC : okC D) {s : Nat} (hs : s < 2 ^ qN D) : 0 ≤ offD D s := by
  have := (off_nn0 D s (qN D)).2.1
  unfold offD
  rw [bc_10 hs hC.1.2]
  omega
theorem off_le {D : xD} (hC : okC D) (s : Nat) : offD D s ≤ 1000000 := by
  have h10 := hC.1.2
  have h1 := sm_bound (f := fun i => (bt s i : Int) * (qW D i * qW D i)) (c := 10000) (n := qN D) (fun k hk => by
    have hW := (hC.2 k hk).1
    have := mulS (x := qW D k) (y := qW D k) (A := 100) (B := 100) hW hW
    show -10000 ≤ (bt s k : Int) * (qW D k * qW D k) ∧ (bt s k : Int) * (qW D k * qW D k) ≤ 10000
    rcases bt_01 s k with z | z <;> rw [z] <;> simp <;> omega)
  have h2 : 0 ≤ sws D s (qN D) * sws D s (qN D) := by
    rcases Int.le_total 0 (sws D s (qN D)) with z | z
    · exact Int.mul_nonneg z z
    · exact Int.mul_nonneg_of_nonpos_of_nonpos z z
  have h3 := (off_nn0 D s (qN D)).1
  have hb := bc_le s 10
  have h4 := mulb (x := (bc s 10 : Int)) (y := sqs D s (qN D)) (A := 10) (B := 100000) (by omega) ⟨h3, by unfold sqs; omega⟩
  unfold offD
  omega
theorem v_b {D : xD} (hC : okC D) (h : Nat) : 0 ≤ vD D h ∧ vD D h ≤ 25200000000 := by
  have h10 := hC.1.2
  have hle := hn_le D h (qN D)
  unfold vD
  split
  · decide
  · rename_i e
    have h1 := off_nn hC (hS_lt D h (qN D))
    have h2 := off_le hC (hS D h (qN D))
    have h3 := mulb (x := (hN D h : Int)) (y := offD D (hS D h (qN D))) (A := 10) (B := 1000000) (by unfold hN at *; omega) ⟨h1, h2⟩
    have h4 : (0 : Int) ≤ 2520 / ((hN D h : Int) - 1) := Int.ediv_nonneg (by decide) (by omega)
    have h5 : (2520 : Int) / ((hN D h : Int) - 1) ≤ 2520 := Int.ediv_le_self _ (by decide)
    exact mulb h3 ⟨h4, h5⟩
theorem ad_b {D : xD} (hC : okC D) (h n : Nat) : 0 ≤ adD D h n ∧ adD D h n ≤ 63504000000000 := by
  unfold adD
  split
  · decide
  · have h4 : (0 : Int) ≤ 2520 / (n : Int) := Int.ediv_nonneg (by decide) (by omega)
    have h5 : (2520 : Int) / (n : Int) ≤ 2520 := Int.ediv_le_self _ (by decide)
    exact mulb (v_b hC h) ⟨h4, h5⟩
/-- the ways to share out, in the order in which they are tried -/
abbrev yT : Type := Option (Int × Nat × Nat × Nat × Nat)
def slo (D : xD) (h : Nat) : Nat := if hN D h = 0 then 0 else 1
def nh (D : xD) (h : Nat) : Nat := hN D h + 1 - slo D h
def scs (D : xD) (a b c d : Nat) : Int := adD D 0 a + adD D 1 b + adD D 2 c + adD D 3 d
def stp (D : xD) (t a b c : Nat) (st : yT) : yT :=
  if slo D 3 + (a + b + c) ≤ t ∧ t ≤ hN D 3 + (a + b + c) then
    (match st with
    | none => some (scs D a b c (t - (a + b + c)), a, b, c, t - (a + b + c))
    | some q => if scs D a b c (t - (a + b + c)) < q.1 then some (scs D a b c (t - (a + b + c)), a, b, c, t - (a + b + c)) else some q)
  else st
def shC (D : xD) (t a b : Nat) : Nat → yT → yT
  | 0, st => st
  | k + 1, st => shC D t a b k (stp D t a b (slo D 2 + k) st)
def shB (D : xD) (t a : Nat) : Nat → yT → yT
  | 0, st => st
  | k + 1, st => shB D t a k (shC D t a (slo D 1 + k) (nh D 2) st)
def shA (D : xD) (t : Nat) : Nat → yT → yT
  | 0, st => st
  | k + 1, st => shA D t k (shB D t (slo D 0 + k) (nh D 1) st)
def shn (D : xD) : Nat → Nat
  | 0 => 0
  | h + 1 => shn D h + slo D h
theorem slo_le (D : xD) (h : Nat) : slo D h ≤ 1 ∧ slo D h ≤ hN D h := by unfold slo; split <;> omega
theorem nh_e (D : xD) (h : Nat) : slo D h + nh D h = hN D h + 1 := by have := slo_le D h; unfold nh; omega
/-- the model's memory of the best way -/
def shR (I : Nat → Nat → Int32) (L : Nat → Nat → Int64) : yT → Prop
  | none => L 37 18 = -1
  | some q => (0 ≤ q.1 ∧ q.1 ≤ 300000000000000) ∧ L 37 18 = zL q.1 ∧ I 51 0 = nI q.2.1 ∧ I 51 1 = nI q.2.2.1 ∧ I 51 2 = nI q.2.2.2.1 ∧ I 51 3 = nI q.2.2.2.2
def shF (I I' : Nat → Nat → Int32) (L L' : Nat → Nat → Int64) : Prop := (∀ a, a ≠ 51 → I' a = I a) ∧ ∀ a b, ¬ (a = 37 ∧ b = 18) → L' a b = L a b
theorem shF_rf {I : Nat → Nat → Int32} {L : Nat → Nat → Int64} : shF I I L L := ⟨fun _ _ => rfl, fun _ _ _ => rfl⟩
theorem shF_tr {I I' I2 : Nat → Nat → Int32} {L L' L2 : Nat → Nat → Int64} (h : shF I I' L L') (h2 : shF I' I2 L' L2) : shF I I2 L L2 := ⟨fun a ha => (h2.1 a ha).trans (h.1 a ha), fun a b ha => (h2.2 a b ha).trans (h.2 a b ha)⟩
theorem mC_of {I I' : Nat → Nat → Int32} {D : xD} (h : ∀ a, a = 37 ∨ a = 42 ∨ a = 43 ∨ a = 44 ∨ a = 45 → I' a = I a) (hI : mC I D) : mC I' D := by
  unfold mC at *
  rw [h 37 (by omega), h 42 (by omega), h 43 (by omega), h 44 (by omega), h 45 (by omega)]
  exact hI
theorem xi_un {α : Type} {I : Nat → Nat → α} {k j a : Nat} {x : α} (h : a ≠ k) : xi_u I k j x a = I a := by funext b; simp only [xi_u, if_neg h]
theorem xi_us {α : Type} {I : Nat → Nat → α} {k j : Nat} {x : α} : xi_u I k j x k j = x := by simp only [xi_u, if_true]
theorem xi_uj {α : Type} {I : Nat → Nat → α} {k j b : Nat} {x : α} (h : b ≠ j) : xi_u I k j x k b = I k b := by simp only [xi_u, if_true, if_neg h]
theorem shF_u {I : Nat → Nat → Int32} {L : Nat → Nat → Int64} {x0 x1 x2 x3 : Int32} {w : Int64} : shF I (xi_u (xi_u (xi_u (xi_u I 51 0 x0) 51 1 x1) 51 2 x2) 51 3 x3) L (xi_u L 37 18 w) := by
  refine ⟨fun a ha => by rw [xi_un ha, xi_un ha, xi_un ha, xi_un ha], fun a b hab => ?_⟩
  simp only [xi_u]
  split
  · split
    · exact absurd ⟨by assumption, by assumption⟩ hab
    · rename_i e _; rw [e]
  · rfl
section SH
variable {L0 : Nat} {xs : Nat → Int32} {Q : xiQ} {I : Nat → Nat → Int32} {L : Nat → Nat → Int64}
variable {D : xD}
theorem l_m1 : (-1 : Int64) = zL (-1) := by decide
theorem c_shC (hC : okC D) (hI : mC I D) {t a b : Nat} (ht : t ≤ 10) (ha : a ≤ 10) (hb : b ≤ 10) {v2 : Int32} {st0 : yT}
    (hQ : ∀ I' L', shF I I' L L' → shR I' L' st0 → xi_V (xG L0 xs) 161 91 [some (Value.ref 37), some (Value.int (nI t)), some (Value.int v2), some (Value.int (nI (hN D 0))), some (Value.int (nI (hN D 1))), some (Value.int (nI (hN D 2))), some (Value.int (nI (hN D 3))), some (Value.int (nI a)), some (Value.int (nI b + (-1))), none, none, none, none] [] (xSH, xRF, I', L') 0 0 Q) :
    ∀ (k : Nat) (I1 : Nat → Nat → Int32) (L1 : Nat → Nat → Int64) (st : yT), shF I I1 L L1 → shR I1 L1 st → shC D t a b k st = st0 → slo D 2 + k ≤ hN D 2 + 1 →
      xi_V (xG L0 xs) 161 105 [some (Value.ref 37), some (Value.int (nI t)), some (Value.int v2), some (Value.int (nI (hN D 0))), some (Value.int (nI (hN D 1))), some (Value.int (nI (hN D 2))), some (Value.int (nI (hN D 3))), some (Value.int (nI a)), some (Value.int (nI b)), some (Value.int (zI ((slo D 2 : Int) + (k : Int) - 1))), none, none, none] [] (xSH, xRF, I1, L1) 0 0 Q := by
  have h10 := hC.1
  have l2 := slo_le D 2
  have l3 := slo_le D 3
  have n0 := hn_le D 0 (qN D)
  have n1 := hn_le D 1 (qN D)
  have n2 := hn_le D 2 (qN D)
  have n3 := hn_le D 3 (qN D)
  have e0 : hN D 0 = hn D 0 (qN D) := rfl
  have e1 : hN D 1 = hn D 1 (qN D) := rfl
  have e2 : hN D 2 = hn D 2 (qN D) := rfl
  have e3 : hN D 3 = hn D 3 (qN D) := rfl
  intro k
  induction k with
  | zero =>
    intro I1 L1 st hF hR hst hk
    refine b_M_isShared_105 (c_mSome (n := hN D 2) (by omega) (b_M_isShared_112 ⟨fun _ => ?_, fun c => absurd ?_ c⟩))
    · rw [← hst] at hQ
      exact hQ I1 L1 hF hR
    · show zI _ < nI (slo D 2)
      rw [zI_n, zI_lt (by omega) (by omega) (by omega) (by omega)]
      omega
  | succ k ih =>
    intro I1 L1 st hF hR hst hk
    have hI1 : mC I1 D := mC_of (fun x hx => hF.1 x (by omega)) hI
    have ec : zI ((slo D 2 : Int) + ((k + 1 : Nat) : Int) - 1) = nI (slo D 2 + k) := by rw [zI_n]; congr 1; omega
    rw [ec]
    have cont : ∀ I2 L2 st2, shF I I2 L L2 → shR I2 L2 st2 → shC D t a b k st2 = st0 → xi_V (xG L0 xs) 161 105 [some (Value.ref 37), some (Value.int (nI t)), some (Value.int v2), some (Value.int (nI (hN D 0))), some (Value.int (nI (hN D 1))), some (Value.int (nI (hN D 2))), some (Value.int (nI (hN D 3))), some (Value.int (nI a)), some (Value.int (nI b)), some (Value.int (nI (slo D 2 + k) + (-1))), none, none, none] [] (xSH, xRF, I2, L2) 0 0 Q := by
      intro I2 L2 st2 f2 r2 s2
      have := ih I2 L2 st2 f2 r2 s2 (by omega)
      rw [show nI (slo D 2 + k) + (-1) = zI ((slo D 2 : Int) + (k : Int) - 1) by rw [show (-1 : Int32) = zI (-1) by decide, zI_n, zI_add]; congr 1]
      exact this
    refine b_M_isShared_105 (c_mSome (n := hN D 2) (by omega) (b_M_isShared_112 ⟨fun c => absurd c ?_, fun _ => ?_⟩))
    · show ¬ nI _ < nI (slo D 2)
      exact nI_nlt (by omega) (by omega)
    · have ed : nI t - nI a - nI b - nI (slo D 2 + k) = zI ((t : Int) - a - b - (slo D 2 + k : Nat)) := by rw [zI_n, zI_n, zI_n, zI_n, zI_sub, zI_sub, zI_sub]
      rw [ed]
      have hstp := hst
      rw [shC] at hstp
      refine c_mSome (n := hN D 3) (by omega) (b_M_isShared_134 ⟨fun c => ?_, fun c => ⟨fun c' => ?_, fun c' => ?_⟩⟩)
      · have c : zI ((t : Int) - a - b - (slo D 2 + k : Nat)) < nI (slo D 3) := c
        rw [zI_n, zI_lt (by omega) (by omega) (by omega) (by omega)] at c
        refine cont I1 L1 st hF hR ?_
        rw [← hstp]
        unfold stp
        rw [if_neg (by omega)]
      · have c : ¬ zI ((t : Int) - a - b - (slo D 2 + k : Nat)) < nI (slo D 3) := c
        rw [zI_n, zI_lt (by omega) (by omega) (by omega) (by omega)] at c
        rw [zI_n, zI_le (by omega) (by omega) (by omega) (by omega)] at c'
        have ed2 : zI ((t : Int) - a - b - (slo D 2 + k : Nat)) = nI (t - (a + b + (slo D 2 + k))) := by rw [zI_n]; congr 1; omega
        rw [ed2]
        unfold stp at hstp
        rw [if_pos (by omega)] at hstp
        refine c_mAdds hC hI1 (h := 0) (by decide) ha (b_M_isShared_154 (c_mAdds hC hI1 (h := 1) (by decide) hb (b_M_isShared_161 (c_mAdds hC hI1 (h := 2) (by decide) (by omega) (b_M_isShared_169 (c_mAdds hC hI1 (h := 3) (by decide) (by omega) (b_M_isShared_177 ?_)))))))
        rw [zL_add, zL_add, zL_add]
        have b0 := ad_b hC 0 a
        have b1 := ad_b hC 1 b
        have b2 := ad_b hC 2 (slo D 2 + k)
        have b3 := ad_b hC 3 (t - (a + b + (slo D 2 + k)))
        have es : adD D 0 a + adD D 1 b + adD D 2 (slo D 2 + k) + adD D 3 (t - (a + b + (slo D 2 + k))) = scs D a b (slo D 2 + k) (t - (a + b + (slo D 2 + k))) := rfl
        have bs : 0 ≤ scs D a b (slo D 2 + k) (t - (a + b + (slo D 2 + k))) ∧ scs D a b (slo D 2 + k) (t - (a + b + (slo D 2 + k))) ≤ 300000000000000 := by rw [← es]; omega
        rw [es]
        have put : shC D t a b k (some (scs D a b (slo D 2 + k) (t - (a + b + (slo D 2 + k))), a, b, slo D 2 + k, t - (a + b + (slo D 2 + k)))) = st0 → xi_V (xG L0 xs) 161 201 [some (Value.ref 37), some (Value.int (nI t)), some (Value.int v2), some (Value.int (nI (hN D 0))), some (Value.int (nI (hN D 1))), some (Value.int (nI (hN D 2))), some (Value.int (nI (hN D 3))), some (Value.int (nI a)), some (Value.int (nI b)), some (Value.int (nI (slo D 2 + k))), some (Value.int (nI (t - (a + b + (slo D 2 + k))))), some (Value.long (zL (scs D a b (slo D 2 + k) (t - (a + b + (slo D 2 + k)))))), none] [] (xSH, xRF, I1, L1) 0 0 Q := by
          intro hs2
          refine b_M_isShared_201 ⟨pk_in 0 4 (by decide), pk_in 1 4 (by decide), pk_in 2 4 (by decide), pk_in 3 4 (by decide), ?_⟩
          rw [show (0 : Int32).toNatClampNeg = 0 from rfl, show (1 : Int32).toNatClampNeg = 1 from rfl, show (2 : Int32).toNatClampNeg = 2 from rfl, show (3 : Int32).toNatClampNeg = 3 from rfl]
          refine cont _ _ (some (scs D a b (slo D 2 + k) (t - (a + b + (slo D 2 + k))), a, b, slo D 2 + k, t - (a + b + (slo D 2 + k)))) (shF_tr hF shF_u) ⟨bs, xi_us, ?_, ?_, ?_, xi_us⟩ hs2
          · rw [xi_uj (by decide), xi_uj (by decide), xi_uj (by decide), xi_us]
          · rw [xi_uj (by decide), xi_uj (by decide), xi_us]
          · rw [xi_uj (by decide), xi_us]
        cases st with
        | none =>
          have hR : L1 37 18 = -1 := hR
          rw [hR]
          exact ⟨fun _ => put hstp, fun z => absurd (m_cmpE.mpr rfl) z⟩
        | some q =>
          obtain ⟨hq, hL, hrest⟩ := hR
          rw [hL, l_m1, m_cmpE, zL_eq (by omega) (by omega) (by decide) (by decide), m_cmp0, zL_lt (by omega) (by omega) (by omega) (by omega)]
          refine ⟨fun z => absurd z (by omega), fun _ => ⟨fun z => cont I1 L1 (some q) hF ⟨hq, hL, hrest⟩ ?_, fun z => put ?_⟩⟩
          · simp only [if_neg z] at hstp
            exact hstp
          · simp only [if_pos (Decidable.not_not.mp z)] at hstp
            exact hstp
      · rw [zI_n, zI_le (by omega) (by omega) (by omega) (by omega)] at c'
        refine cont I1 L1 st hF hR ?_
        rw [← hstp]
        unfold stp
        rw [if_neg (by omega)]
theorem c_shB (hC : okC D) (hI : mC I D) {t a : Nat} (ht : t ≤ 10) (ha : a ≤ 10) {v2 : Int32} {st0 : yT}
    (hQ : ∀ I' L', shF I I' L L' → shR I' L' st0 → xi_V (xG L0 xs) 161 78 [some (Value.ref 37), some (Value.int (nI t)), some (Value.int v2), some (Value.int (nI (hN D 0))), some (Value.int (nI (hN D 1))), some (Value.int (nI (hN D 2))), some (Value.int (nI (hN D 3))), some (Value.int (nI a + (-1))), none, none, none, none, none] [] (xSH, xRF, I', L') 0 0 Q) :
    ∀ (k : Nat) (I1 : Nat → Nat → Int32) (L1 : Nat → Nat → Int64) (st : yT), shF I I1 L L1 → shR I1 L1 st → shB D t a k st = st0 → slo D 1 + k ≤ hN D 1 + 1 →
      xi_V (xG L0 xs) 161 91 [some (Value.ref 37), some (Value.int (nI t)), some (Value.int v2), some (Value.int (nI (hN D 0))), some (Value.int (nI (hN D 1))), some (Value.int (nI (hN D 2))), some (Value.int (nI (hN D 3))), some (Value.int (nI a)), some (Value.int (zI ((slo D 1 : Int) + (k : Int) - 1))), none, none, none, none] [] (xSH, xRF, I1, L1) 0 0 Q := by
  have h10 := hC.1
  have l1 := slo_le D 1
  have n1 := hn_le D 1 (qN D)
  have e1 : hN D 1 = hn D 1 (qN D) := rfl
  intro k
  induction k with
  | zero =>
    intro I1 L1 st hF hR hst hk
    refine b_M_isShared_91 (c_mSome (n := hN D 1) (by omega) (b_M_isShared_98 ⟨fun _ => ?_, fun c => absurd ?_ c⟩))
    · rw [← hst] at hQ
      exact hQ I1 L1 hF hR
    · show zI _ < nI (slo D 1)
      rw [zI_n, zI_lt (by omega) (by omega) (by omega) (by omega)]
      omega
  | succ k ih =>
    intro I1 L1 st hF hR hst hk
    have ec : zI ((slo D 1 : Int) + ((k + 1 : Nat) : Int) - 1) = nI (slo D 1 + k) := by rw [zI_n]; congr 1; omega
    rw [ec]
    refine b_M_isShared_91 (c_mSome (n := hN D 1) (by omega) (b_M_isShared_98 ⟨fun c => absurd c ?_, fun _ => ?_⟩))
    · show ¬ nI _ < nI (slo D 1)
      exact nI_nlt (by omega) (by omega)
    · have e5 : nI (hN D 2) = zI ((slo D 2 : Int) + (nh D 2 : Int) - 1) := by
        have := nh_e D 2
        rw [zI_n]; congr 1; omega
      have go := c_shC (Q := Q) (L0 := L0) (xs := xs) (I := I) (L := L) (v2 := v2) (st0 := shC D t a (slo D 1 + k) (nh D 2) st) hC hI ht ha (show slo D 1 + k ≤ 10 by omega) (fun I2 L2 f2 r2 => by
        have := ih I2 L2 _ f2 r2 (by rw [shB] at hst; exact hst) (by omega)
        rw [show nI (slo D 1 + k) + (-1) = zI ((slo D 1 : Int) + (k : Int) - 1) by rw [show (-1 : Int32) = zI (-1) by decide, zI_n, zI_add]; congr 1]
        exact this) (nh D 2) I1 L1 st hF hR rfl (by have := nh_e D 2; omega)
      rw [← e5] at go
      exact go
theorem c_shA (hC : okC D) (hI : mC I D) {t : Nat} (ht : t ≤ 10) {v2 : Int32} {st0 : yT}
    (hQ : ∀ I' L', shF I I' L L' → shR I' L' st0 → Q (some (Value.int 1)) (xSH, xRF, I', L')) :
    ∀ (k : Nat) (I1 : Nat → Nat → Int32) (L1 : Nat → Nat → Int64) (st : yT), shF I I1 L L1 → shR I1 L1 st → shA D t k st = st0 → slo D 0 + k ≤ hN D 0 + 1 →
      xi_V (xG L0 xs) 161 78 [some (Value.ref 37), some (Value.int (nI t)), some (Value.int v2), some (Value.int (nI (hN D 0))), some (Value.int (nI (hN D 1))), some (Value.int (nI (hN D 2))), some (Value.int (nI (hN D 3))), some (Value.int (zI ((slo D 0 : Int) + (k : Int) - 1))), none, none, none, none, none] [] (xSH, xRF, I1, L1) 0 0 Q := by
  have h10 := hC.1
  have l1 := slo_le D 0
  have n1 := hn_le D 0 (qN D)
  have e1 : hN D 0 = hn D 0 (qN D) := rfl
  intro k
  induction k with
  | zero =>
    intro I1 L1 st hF hR hst hk
    refine b_M_isShared_78 (c_mSome (n := hN D 0) (by omega) (b_M_isShared_84 ⟨fun _ => ⟨by decide, ?_⟩, fun c => absurd ?_ c⟩))
    · rw [← hst] at hQ
      exact hQ I1 L1 hF hR
    · show zI _ < nI (slo D 0)
      rw [zI_n, zI_lt (by omega) (by omega) (by omega) (by omega)]
      omega
  | succ k ih =>
    intro I1 L1 st hF hR hst hk
    have ec : zI ((slo D 0 : Int) + ((k + 1 : Nat) : Int) - 1) = nI (slo D 0 + k) := by rw [zI_n]; congr 1; omega
    rw [ec]
    refine b_M_isShared_78 (c_mSome (n := hN D 0) (by omega) (b_M_isShared_84 ⟨fun c => absurd c ?_, fun _ => ?_⟩))
    · show ¬ nI _ < nI (slo D 0)
      exact nI_nlt (by omega) (by omega)
    · have e5 : nI (hN D 1) = zI ((slo D 1 : Int) + (nh D 1 : Int) - 1) := by
        have := nh_e D 1
        rw [zI_n]; congr 1; omega
      have go := c_shB (Q := Q) (L0 := L0) (xs := xs) (I := I) (L := L) (v2 := v2) (st0 := shB D t (slo D 0 + k) (nh D 1) st) hC hI ht (show slo D 0 + k ≤ 10 by omega) (fun I2 L2 f2 r2 => by
        have := ih I2 L2 _ f2 r2 (by rw [shA] at hst; exact hst) (by omega)
        rw [show nI (slo D 0 + k) + (-1) = zI ((slo D 0 : Int) + (k : Int) - 1) by rw [show (-1 : Int32) = zI (-1) by decide, zI_n, zI_add]; congr 1]
        exact this) (nh D 1) I1 L1 st hF hR rfl (by have := nh_e D 1; omega)
      rw [← e5] at go
      exact go
theorem c_shared_lp (hC : okC D) (hI : mC I D) {v : Int32}
    (hQ : (v < nI (shn D 4) → Q (some (Value.int 0)) (xSH, xRF, I, L)) ∧ (¬ v < nI (shn D 4) → nI (qN D) < v → Q (some (Value.int 0)) (xSH, xRF, I, L)) ∧ (¬ v < nI (shn D 4) → v ≤ nI (qN D) → xi_V (xG L0 xs) 130 0 [some (Value.ref 37), some (Value.int ((0 : Int32))), none, none] [] (xSH, xRF, I, xi_u L 37 18 (-1)) 0 0 (fun o σ' => xi_V (xG L0 xs) 161 53 [some (Value.ref 37), some (Value.int v), some (Value.int (nI (shn D 4))), some (Value.int (nI 4)), none, none, none, none, none, none, none, none, none] (o.toList ++ []) σ' 0 0 Q))) :
    ∀ n h : Nat, h + n = 4 → xi_V (xG L0 xs) 161 4 [some (Value.ref 37), some (Value.int v), some (Value.int (nI (shn D h))), some (Value.int (nI h)), none, none, none, none, none, none, none, none, none] [] (xSH, xRF, I, L) 0 0 Q := by
  have h10 := hC.1
  intro n
  induction n with
  | zero =>
    intro h hn'
    refine b_M_isShared_4 ?_
    rw [hI.1]
    refine pk_le 4 h (fun c => ?_) (fun c => absurd c (by omega))
    rw [show h = 4 by omega]
    refine ⟨fun c2 => ⟨by decide, hQ.1 c2⟩, fun c2 => ⟨fun c3 => hQ.2.2 c2 c3, fun c3 => ⟨by decide, hQ.2.1 c2 ?_⟩⟩⟩
    rw [Int32.le_iff_toInt_le] at c3
    rw [Int32.lt_iff_toInt_lt]
    omega
  | succ n ih =>
    intro h hn'
    have n1 := hn_le D h (qN D)
    have e1 : hN D h = hn D h (qN D) := rfl
    refine b_M_isShared_4 (pk_le 4 h (fun c => absurd c (by omega)) (fun c => ?_))
    refine c_mNamesOf hC hI (by omega) (b_M_isShared_15 (c_mSome (n := hN D h) (by omega) (b_M_isShared_18 ?_)))
    have := ih (h + 1) (by omega)
    rw [shn] at this
    rw [nI_add, nI_1]
    exact this
/-- isShared(t), a good t -/
theorem c_isShared1 (hC : okC D) (hI : mC I D) {t : Nat} (h1 : shn D 4 ≤ t) (h2 : t ≤ qN D)
    (hQ : ∀ I' L', shF I I' L L' → shR I' L' (shA D t (nh D 0) none) → Q (some (Value.int 1)) (xSH, xRF, I', L')) :
    xi_V (xG L0 xs) 161 0 [some (Value.ref 37), some (Value.int (nI t)), none, none, none, none, none, none, none, none, none, none, none] [] (xSH, xRF, I, L) 0 0 Q := by
  have h10 := hC.1
  refine b_M_isShared_0 (c_shared_lp hC hI ⟨fun c => absurd c (nI_nlt h1 (by omega)), fun _ c => absurd c (nI_nlt h2 (by omega)), fun _ _ => ?_⟩ 4 0 rfl)
  refine c_mNamesOf hC hI (h := 0) (by decide) (b_M_isShared_53 (c_mNamesOf hC hI (h := 1) (by decide) (b_M_isShared_59 (c_mNamesOf hC hI (h := 2) (by decide) (b_M_isShared_66 (c_mNamesOf hC hI (h := 3) (by decide) (b_M_isShared_73 ?_)))))))
  have e5 : nI (hN D 0) = zI ((slo D 0 : Int) + (nh D 0 : Int) - 1) := by
    have := nh_e D 0
    rw [zI_n]; congr 1; omega
  have fr : shF I I L (xi_u L 37 18 (-1)) := ⟨fun _ _ => rfl, fun a b hab => by
    simp only [xi_u]
    split
    · split
      · exact absurd ⟨by assumption, by assumption⟩ hab
      · rename_i e _; rw [e]
    · rfl⟩
  have go := c_shA (Q := Q) (L0 := L0) (xs := xs) (I := I) (L := L) (v2 := nI (shn D 4)) (st0 := shA D t (nh D 0) none) hC hI (show t ≤ 10 by omega) hQ (nh D 0) I (xi_u L 37 18 (-1)) none fr xi_us rfl (by have := nh_e D 0; omega)
  rw [← e5] at go
  exact go
theorem c_isShared0 (hC : okC D) (hI : mC I D) {v : Int32} (h : v < nI (shn D 4) ∨ nI (qN D) < v) (hQ : Q (some (Value.int 0)) (xSH, xRF, I, L)) :
    xi_V (xG L0 xs) 161 0 [some (Value.ref 37), some (Value.int v), none, none, none, none, none, none, none, none, none, none, none] [] (xSH, xRF, I, L) 0 0 Q :=
  b_M_isShared_0 (c_shared_lp hC hI ⟨fun _ => hQ, fun _ _ => hQ, fun c c2 => absurd (h.resolve_left c) (by rw [Int32.le_iff_toInt_le] at c2; rw [Int32.lt_iff_toInt_lt]; omega)⟩ 4 0 rfl)
end SH
