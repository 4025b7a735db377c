/-! orders, isShorter, isCut, bands, band of the model -/
theorem nI_bit (a i : Nat) (hi : i < 32) : (nI a).toBitVec.getLsbD i = a.testBit i := by
  show (BitVec.ofNat 32 a).getLsbD i = _
  rw [BitVec.getLsbD_ofNat]
  simp [hi]
theorem bt_1 {s i : Nat} : bt s i = 1 ↔ s.testBit i = true := by
  rw [bt_tb]; cases s.testBit i <;> simp
theorem bt_0 {s i : Nat} : bt s i = 0 ↔ s.testBit i = false := by
  rw [bt_tb]; cases s.testBit i <;> simp
theorem isSh {a b : Nat} (ha : a < 2147483648) : ((nI a &&& (nI a ^^^ nI b)) &&& (-(nI a ^^^ nI b))) = 0 ↔ ¬ sh0 a b := by
  have hX : ∀ i, i < 32 → (nI a ^^^ nI b).toBitVec.getLsbD i = (a.testBit i ^^ b.testBit i) := by
    intro i hi
    rw [Int32.toBitVec_xor, BitVec.getLsbD_xor, nI_bit a i hi, nI_bit b i hi]
  have hW : ∀ i, i < 32 → ((nI a &&& (nI a ^^^ nI b)) &&& (-(nI a ^^^ nI b))).toBitVec.getLsbD i = (a.testBit i && (a.testBit i ^^ b.testBit i) && ((a.testBit i ^^ b.testBit i) ^^ decide (∃ j, j < i ∧ (a.testBit j ^^ b.testBit j) = true))) := by
    intro i hi
    rw [Int32.toBitVec_and, Int32.toBitVec_and, Int32.toBitVec_neg, BitVec.getLsbD_and, BitVec.getLsbD_and, BitVec.getLsbD_neg, hX i hi, nI_bit a i hi]
    have e : (∃ j, j < i ∧ (nI a ^^^ nI b).toBitVec.getLsbD j = true) ↔ (∃ j, j < i ∧ (a.testBit j ^^ b.testBit j) = true) := by
      constructor
      · rintro ⟨j, hj, h⟩; exact ⟨j, hj, by rw [← hX j (by omega)]; exact h⟩
      · rintro ⟨j, hj, h⟩; exact ⟨j, hj, by rw [hX j (by omega)]; exact h⟩
    simp only [e, hi, decide_true, Bool.true_and]
  constructor
  · intro h0 hs
    obtain ⟨p, p1, p2, p3⟩ := hs
    have hp : p < 31 := by
      rcases Nat.lt_or_ge p 31 with z | z
      · exact z
      · rw [bt_big (n := 31) (by omega) z] at p1; exact absurd p1 (by decide)
    have := hW p (by omega)
    rw [h0] at this
    have z : (0 : Int32).toBitVec.getLsbD p = false := by show (0#32).getLsbD p = false; simp
    rw [z, bt_1.mp p1, bt_0.mp p2] at this
    have ne : ¬ ∃ j, j < p ∧ (a.testBit j ^^ b.testBit j) = true := by
      rintro ⟨j, hj, h⟩
      have := p3 j hj
      rw [bt_tb, bt_tb] at this
      revert this h
      cases a.testBit j <;> cases b.testBit j <;> simp
    rw [decide_eq_false ne] at this
    exact absurd this (by decide)
  · intro hs
    apply Int32.toBitVec_inj.mp
    apply BitVec.eq_of_getLsbD_eq
    intro i hi
    rw [hW i hi, show (0 : Int32).toBitVec.getLsbD i = false by show (0#32).getLsbD i = false; simp]
    by_cases h1 : a.testBit i = true
    · by_cases h2 : b.testBit i = true
      · simp [h1, h2]
      · have h2 : b.testBit i = false := by simpa using h2
        have : ∃ j, j < i ∧ (a.testBit j ^^ b.testBit j) = true := by
          refine Classical.byContradiction fun hn => hs ⟨i, bt_1.mpr h1, bt_0.mpr h2, fun q hq => ?_⟩
          rw [bt_tb, bt_tb]
          have := fun h => hn ⟨q, hq, h⟩
          revert this
          cases a.testBit q <;> cases b.testBit q <;> simp
        rw [h1, h2, decide_eq_true this]
        rfl
    · have h1 : a.testBit i = false := by simpa using h1
      simp [h1]
section MB
variable {L0 : Nat} {xs : Nat → Int32} {Q : xiQ} {I : Nat → Nat → Int32} {L : Nat → Nat → Int64}
variable {D : xD} {sl : xL} {x y A P : Int}
def oI (I1 : Nat → Nat → Int32) (D : xD) (m k : Nat) : Prop := ∀ i, i < m → (rkm D i m < k → I1 52 (rkm D i m) = nI i) ∧ (k ≤ rkm D i m → I1 52 (rkm D i m + 1) = nI i ∧ qZ D m < qZ D i)
theorem c_ord_in (hC : okC D) (hI : mC I D) {m : Nat} (hm : m < qN D)
    (hQ : ∀ I' , (∀ a, a ≠ 52 → I' a = I a) → (∀ i, i < m + 1 → I' 52 (rkm D i (m + 1)) = nI i) → xi_V (xG L0 xs) 163 2 [some (Value.ref 37), some (Value.int (nI (m + 1))), none] [] (xSH, xRF, I', L) 0 0 Q) :
    ∀ (k : Nat) (I1 : Nat → Nat → Int32), k ≤ m → (∀ a, a ≠ 52 → I1 a = I a) → oI I1 D m k → xi_V (xG L0 xs) 163 12 [some (Value.ref 37), some (Value.int (nI m)), some (Value.int (nI k))] [] (xSH, xRF, I1, L) 0 0 Q := by
  have h10 := hC.1
  have put : ∀ (k : Nat) (I1 : Nat → Nat → Int32), k ≤ m → (∀ a, a ≠ 52 → I1 a = I a) → oI I1 D m k → (k = 0 ∨ ∃ j, j < m ∧ rkm D j m = k - 1 ∧ qZ D j ≤ qZ D m) → xi_V (xG L0 xs) 163 58 [some (Value.ref 37), some (Value.int (nI m)), some (Value.int (nI k))] [] (xSH, xRF, I1, L) 0 0 Q := by
    intro k I1 hk f1 o1 hx
    refine b_M_orders_58 ⟨pk_in k 10 (by omega), ?_⟩
    rw [nI_clamp (by omega), nI_1]
    have low : ∀ i, i < m → rkm D i m < k → qZ D i ≤ qZ D m := by
      intro i hi hr
      rcases hx with z | ⟨j, hj, ej, hz⟩
      · omega
      · by_cases e : i = j
        · subst e; exact hz
        · have hne := rkm_ne (D := D) e hi hj
          have := rkm_lx hi hj (show rkm D i m < rkm D j m by omega)
          unfold lx at this
          omega
    have nr : ∀ i, i < m → rkm D i (m + 1) = if rkm D i m < k then rkm D i m else rkm D i m + 1 := by
      intro i hi
      rw [rkm]
      by_cases c : rkm D i m < k
      · have := low i hi c
        rw [if_pos c, if_neg (by unfold lx; omega)]
        rfl
      · have := ((o1 i hi).2 (by omega)).2
        rw [if_neg c, if_pos (by unfold lx; omega)]
    have nm : rkm D m (m + 1) = k := by
      have hle := (rkm_le D m (m + 1)).2 (Nat.lt_succ_self m)
      rcases Nat.lt_trichotomy (rkm D m (m + 1)) k with z | z | z
      · obtain ⟨i, hi, ei⟩ := rkm_on D (m := m) (p := rkm D m (m + 1)) (by omega)
        have e1 := nr i hi
        rw [ei, if_pos z] at e1
        exact absurd e1 (rkm_ne (by omega) (by omega) (Nat.lt_succ_self m))
      · exact z
      · obtain ⟨i, hi, ei⟩ := rkm_on D (m := m) (p := rkm D m (m + 1) - 1) (by omega)
        have e1 := nr i hi
        rw [ei, if_neg (by omega), show rkm D m (m + 1) - 1 + 1 = rkm D m (m + 1) by omega] at e1
        exact absurd e1 (rkm_ne (by omega) (by omega) (Nat.lt_succ_self m))
    refine hQ _ (fun a ha => (xi_un ha).trans (f1 a ha)) (fun i hi => ?_)
    rcases Nat.lt_succ_iff_lt_or_eq.mp hi with z | z
    · rw [nr i z]
      by_cases c : rkm D i m < k
      · rw [if_pos c, xi_uj (by omega)]; exact (o1 i z).1 c
      · rw [if_neg c, xi_uj (by omega)]; exact ((o1 i z).2 (by omega)).1
    · subst z
      rw [nm]; exact xi_us
  intro k
  induction k with
  | zero =>
    intro I1 hk f1 o1
    exact b_M_orders_12 ⟨fun _ => put 0 I1 hk f1 o1 (Or.inl rfl), fun c => absurd (by decide) c⟩
  | succ k ih =>
    intro I1 hk f1 o1
    obtain ⟨j, hj, ej⟩ := rkm_on D (m := m) (p := k) (by omega)
    have e52 : I1 52 k = nI j := by have := (o1 j hj).1 (by omega); rw [ej] at this; exact this
    have hI1 : mC I1 D := mC_of (fun a ha => f1 a (by omega)) hI
    refine b_M_orders_12 ⟨fun c => absurd c (nI_nle (by omega) (by omega)), fun _ => ?_⟩
    have hZj := (hC.2 j (by omega)).2.1
    have hZm := (hC.2 m hm).2.1
    rw [nI_pred, nI_clamp (show k < 2 ^ 31 by omega), e52, nI_clamp (show j < 2 ^ 31 by omega), nI_clamp (show m < 2 ^ 31 by omega), nI_clamp (show k + 1 < 2 ^ 31 by omega), (hI1.2 j (by omega)).2.1, (hI1.2 m hm).2.1, pk_m1]
    refine ⟨pk_in k 10 (by omega), pk_in j 10 (by omega), pk_in m 10 (by omega), pk_le (qZ D j) (qZ D m) (fun c => put (k + 1) I1 hk f1 o1 (Or.inr ⟨j, hj, by omega, c⟩)) (fun c => ⟨pk_in k 10 (by omega), pk_in (k + 1) 10 (by omega), ?_⟩)⟩
    refine ih _ (by omega) (fun a ha => (xi_un ha).trans (f1 a ha)) (fun i hi => ⟨fun hr => ?_, fun hr => ?_⟩)
    · rw [xi_uj (by omega)]; exact (o1 i hi).1 (by omega)
    · by_cases e : i = j
      · subst e
        rw [ej]; exact ⟨xi_us, c⟩
      · have hne := rkm_ne (D := D) e hi hj
        rw [xi_uj (by omega)]
        exact (o1 i hi).2 (by omega)
theorem c_ord_lp (hC : okC D) (hI : mC I D)
    (hQ : ∀ I' , (∀ a, a ≠ 52 → I' a = I a) → (∀ p, p < qN D → I' 52 p = nI (odf D p)) → Q none (xSH, xRF, I', L)) :
    ∀ (n m : Nat) (I1 : Nat → Nat → Int32), m + n = qN D → (∀ a, a ≠ 52 → I1 a = I a) → (∀ i, i < m → I1 52 (rkm D i m) = nI i) → xi_V (xG L0 xs) 163 2 [some (Value.ref 37), some (Value.int (nI m)), none] [] (xSH, xRF, I1, L) 0 0 Q := by
  have h10 := hC.1
  intro n
  induction n with
  | zero =>
    intro m I1 hn f1 o1
    have hI1 : mC I1 D := mC_of (fun a ha => f1 a (by omega)) hI
    refine b_M_orders_2 ?_
    rw [hI1.1]
    refine pk_le (qN D) m (fun c => hQ I1 f1 (fun p hp => ?_)) (fun c => absurd c (by omega))
    have h := odf_is hp
    have := o1 (odf D p) (by omega)
    rw [show m = qN D by omega, show rkm D (odf D p) (qN D) = p from h.2] at this
    exact this
  | succ n ih =>
    intro m I1 hn f1 o1
    have hI1 : mC I1 D := mC_of (fun a ha => f1 a (by omega)) hI
    refine b_M_orders_2 ?_
    rw [hI1.1]
    refine pk_le (qN D) m (fun c => absurd c (by omega)) (fun c => ?_)
    refine c_ord_in (I := I) hC hI c (fun I2 f2 o2 => ih (m + 1) I2 (by omega) f2 o2) m I1 (Nat.le_refl m) f1 (fun i hi => ⟨fun _ => o1 i hi, fun hr => ?_⟩)
    have := (rkm_le D i m).2 hi
    omega
theorem c_orders (hC : okC D) (hI : mC I D)
    (hQ : ∀ I' , (∀ a, a ≠ 52 → I' a = I a) → (∀ p, p < qN D → I' 52 p = nI (odf D p)) → Q none (xSH, xRF, I', L)) : xi_V (xG L0 xs) 163 0 [some (Value.ref 37), none, none] [] (xSH, xRF, I, L) 0 0 Q :=
  b_M_orders_0 (c_ord_lp hC hI hQ (qN D) 0 I (Nat.zero_add _) (fun _ _ => rfl) (fun i hi => absurd hi (Nat.not_lt_zero i)))
theorem c_isShorter {a b : Nat} (ha : a < 2147483648) (hQ : (sh0 a b → Q (some (Value.int 1)) (xSH, xRF, I, L)) ∧ (¬ sh0 a b → Q (some (Value.int 0)) (xSH, xRF, I, L))) : xi_V (xG L0 xs) 165 0 [some (Value.int (nI a)), some (Value.int (nI b)), none] [] (xSH, xRF, I, L) 0 0 Q := by
  refine b_M_isShorter_0 ?_
  rw [isSh ha]
  exact ⟨fun c => ⟨by decide, hQ.2 c⟩, fun c => ⟨by decide, hQ.1 (Classical.not_not.mp c)⟩⟩
/-- what is changed: the order, the best cuts -/
def cuF (I I' : Nat → Nat → Int32) (L L' : Nat → Nat → Int64) : Prop := (∀ a, a ≠ 52 → a ≠ 37 → I' a = I a) ∧ (∀ b, b ≠ 20 → I' 37 b = I 37 b) ∧ (∀ a, a ≠ 37 → L' a = L a)
theorem mC_cu {I' : Nat → Nat → Int32} {L' : Nat → Nat → Int64} (f : cuF I I' L L') (hI : mC I D) : mC I' D := by
  unfold mC at *
  rw [f.2.1 5 (by decide), f.1 42 (by decide) (by decide), f.1 43 (by decide) (by decide), f.1 44 (by decide) (by decide), f.1 45 (by decide) (by decide)]
  exact hI
theorem c_cut61 (hC : okC D) (hI : mC I D) (ho : ∀ p, p < qN D → I 52 p = nI (odf D p)) {c k : Nat} (hc : c < 1024)
    (hQ : ∀ v5 : Int32, xi_V (xG L0 xs) 164 61 [some (Value.ref 37), some (Value.int (nI k)), some (Value.int (nI c)), some (Value.long (zL (tcs D c (qN D) 0))), none, some (Value.int v5), some (Value.int (nI (qN D)))] [] (xSH, xRF, I, L) 0 0 Q) :
    ∀ (r a : Nat) (acc : Int), r ≤ qN D → a ≤ qN D - r → acc + tcs D c r a = tcs D c (qN D) 0 → xi_V (xG L0 xs) 164 61 [some (Value.ref 37), some (Value.int (nI k)), some (Value.int (nI c)), some (Value.long (zL acc)), none, some (Value.int (nI (sg D a (qN D - r - a)))), some (Value.int (nI (qN D - r)))] [] (xSH, xRF, I, L) 0 0 Q := by
  have h10 := hC.1
  have hp := p2_lt h10.2
  intro r
  induction r with
  | zero =>
    intro a acc hr ha hT
    rw [tcs, Int.add_zero] at hT
    rw [hT, Nat.sub_zero]
    exact hQ _
  | succ r ih =>
    intro a acc hr ha hT
    obtain ⟨p, hp'⟩ : ∃ p, p = qN D - (r + 1) := ⟨_, rfl⟩
    have ep : p + 1 = qN D - r := by omega
    rw [← hp'] at ha ⊢
    refine b_M_isCut_61 ?_
    rw [hI.1]
    refine pk_le (qN D) p (fun c => absurd c (by omega)) (fun _ => ⟨pk_in p 10 (by omega), ?_⟩)
    have hod := (odf_is (show p < qN D by omega)).1
    have eset : nI (sg D a (p - a)) ||| ((1 : Int32) <<< (I 52 (nI p).toNatClampNeg &&& 31)) = nI (sg D a (p + 1 - a)) := by
      rw [nI_clamp (by omega), ho p (by omega), sh_1 (by omega), nI_or, show p + 1 - a = (p - a) + 1 by omega, sg, show a + (p - a) = p by omega]
    have hlt := sg_lt (D := D) (a := a) (d := p + 1 - a) (by omega)
    have hoff := sg_off hC (a := a) (d := p + 1 - a) (by omega)
    rw [show a + (p + 1 - a) = p + 1 by omega] at hoff
    rw [eset]
    have e1 : nI (qN D) - 1 = nI (qN D - 1) := by rw [show (1 : Int32) = nI 1 from rfl, pk_sub (by omega)]
    rw [e1, bt_I (by omega) (by omega), bt_is1, nI_1]
    rw [tcs, ← hp'] at hT
    have cut : (p + 1 = qN D ∨ bt c p = 1) → xi_V (xG L0 xs) 154 0 [some (Value.ref 37), some (Value.int (nI (sg D a (p + 1 - a)))), none, none, none, none, none] [] (xSH, xRF, I, L) 0 0 (fun o σ' => xi_V (xG L0 xs) 164 112 [some (Value.ref 37), some (Value.int (nI k)), some (Value.int (nI c)), some (Value.long (zL acc)), none, some (Value.int (nI (sg D a (p + 1 - a)))), some (Value.int (nI p))] (o.toList ++ [Value.long (zL acc)]) σ' 0 0 Q) := by
      intro z
      refine c_mOff hC hI (by omega) (b_M_isCut_112 ?_)
      rw [if_pos z] at hT
      rw [zL_add, nI_1, hoff]
      have := ih (p + 1) (acc + cst D a (p + 1)) (by omega) (by omega) (by rw [← hT]; omega)
      rw [← ep, Nat.sub_self] at this
      exact this
    refine pk_eq p (qN D - 1) (fun e => cut (Or.inl (by omega))) (fun e => ⟨fun e2 => ?_, fun e2 => cut (Or.inr e2)⟩)
    rw [if_neg (by omega)] at hT
    have := ih a acc (by omega) (by omega) hT
    rw [← ep] at this
    exact this
theorem tcs_b {D : xD} (hC : okC D) (c : Nat) : ∀ r a : Nat, r ≤ qN D → a ≤ qN D - r → 0 ≤ tcs D c r a ∧ tcs D c r a ≤ 1000000 * r
  | 0, a, _, _ => by rw [tcs]; decide
  | r + 1, a, hr, ha => by
    rw [tcs]
    split
    · have h1 := cst_b hC (a := a) (b := qN D - (r + 1) + 1) (by omega) (by omega)
      have h2 := tcs_b hC c r (qN D - (r + 1) + 1) (by omega) (by omega)
      omega
    · have h2 := tcs_b hC c r a (by omega) (by omega)
      omega
/-- how far the cuts are tried -/
def cuB (I : Nat → Nat → Int32) (L : Nat → Nat → Int64) (D : xD) (k c : Nat) : Prop :=
  (L 37 21 = -1 ∧ ∀ d, d < c → bc d 10 ≠ k) ∨ ∃ b, b < 2 ^ (qN D - 1) ∧ bc b 10 = k ∧ L 37 21 = zL (tcs D b (qN D) 0) ∧ I 37 20 = nI b ∧ ∀ d, d < c → bc d 10 = k → ¬ btr D d b
theorem c_cut28 (hC : okC D) (hI : mC I D) {k : Nat} (hk : k + 1 ≤ qN D)
    (hQ : ∀ I' L', cuF I I' L L' → (∀ p, p < qN D → I' 52 p = nI (odf D p)) → L' 37 21 = zL (dpv D (k + 1) 0).1 → I' 37 20 = nI (dpm D (k + 1) 0) → (∀ b, b ≠ 21 → L' 37 b = L 37 b) → Q (some (Value.int 1)) (xSH, xRF, I', L')) :
    ∀ (n c : Nat) (I1 : Nat → Nat → Int32) (L1 : Nat → Nat → Int64), c + n = 2 ^ (qN D - 1) → cuF I I1 L L1 → (∀ b, b ≠ 21 → L1 37 b = L 37 b) → (∀ p, p < qN D → I1 52 p = nI (odf D p)) → cuB I1 L1 D k c → xi_V (xG L0 xs) 164 28 [some (Value.ref 37), some (Value.int (nI (k + 1))), some (Value.int (nI c)), none, none, none, none] [] (xSH, xRF, I1, L1) 0 0 Q := by
  have h10 := hC.1
  have hp2 : 2 ^ (qN D - 1) ≤ 1024 := p2_lt (by omega)
  have esh : (1 : Int32) <<< ((nI (qN D) - 1) &&& 31) = nI (2 ^ (qN D - 1)) := by
    rw [show (1 : Int32) = nI 1 from rfl, pk_sub (by omega)]
    exact sh_1 (by omega)
  intro n
  induction n with
  | zero =>
    intro c I1 L1 hn f1 f1' o1 b1
    have hI1 := mC_cu f1 hI
    refine b_M_isCut_28 ?_
    rw [hI1.1, esh]
    refine pk_le (2 ^ (qN D - 1)) c (fun _ => ⟨by decide, ?_⟩) (fun c => absurd c (by omega))
    have hm := or_lt (D := D) (k := k) (a := 0) (by omega)
    have hmb := dpm_bc hC hk
    have ht := dpm_tcs (D := D) (k := k) (a := 0) (by omega)
    rw [Nat.sub_zero] at ht
    rcases b1 with ⟨-, z⟩ | ⟨b, hb1, hb2, hb3, hb4, hb5⟩
    · exact absurd hmb (z _ (by omega))
    · rcases dpm_wins hC hk hb1 hb2 with e | e
      · subst e
        rw [ht] at hb3
        exact hQ I1 L1 f1 o1 hb3 hb4 f1'
      · exact absurd e (hb5 _ (by omega) hmb)
  | succ n ih =>
    intro c I1 L1 hn f1 f1' o1 b1
    have hI1 := mC_cu f1 hI
    have hbc := bc_le c 10
    have hT := tcs_b hC c (qN D) 0 (Nat.le_refl _) (by omega)
    have cont : ∀ I2 L2, cuF I I2 L L2 → (∀ b, b ≠ 21 → L2 37 b = L 37 b) → (∀ p, p < qN D → I2 52 p = nI (odf D p)) → cuB I2 L2 D k (c + 1) → xi_V (xG L0 xs) 164 28 [some (Value.ref 37), some (Value.int (nI (k + 1))), some (Value.int (nI c + 1)), none, none, none, none] [] (xSH, xRF, I2, L2) 0 0 Q := by
      intro I2 L2 a1 a1' a2 a3
      rw [nI_1]
      exact ih (c + 1) I2 L2 (by omega) a1 a1' a2 a3
    refine b_M_isCut_28 ?_
    rw [hI1.1, esh]
    refine pk_le (2 ^ (qN D - 1)) c (fun c => absurd c (by omega)) (fun _ => c_mBits (by omega) (b_M_isCut_44 ?_))
    rw [nI_pred]
    refine pk_eq (bc c 10) k (fun e => ?_) (fun e => cont I1 L1 f1 f1' o1 ?_)
    · have put : (∀ b, b < 2 ^ (qN D - 1) → bc b 10 = k → L1 37 21 = zL (tcs D b (qN D) 0) → I1 37 20 = nI b → (∀ d, d < c → bc d 10 = k → ¬ btr D d b) → btr D c b) → ∀ v5 : Int32, xi_V (xG L0 xs) 164 163 [some (Value.ref 37), some (Value.int (nI (k + 1))), some (Value.int (nI c)), some (Value.long (zL (tcs D c (qN D) 0))), none, some (Value.int v5), some (Value.int (nI (qN D)))] [] (xSH, xRF, I1, L1) 0 0 Q := by
        intro hb v5
        refine b_M_isCut_163 (cont _ _ ⟨fun a a1 a2 => (xi_un a2).trans (f1.1 a a1 a2), fun b hb => (xi_uj hb).trans (f1.2.1 b hb), fun a ha => (xi_un ha).trans (f1.2.2 a ha)⟩ (fun b hb => (xi_uj hb).trans (f1' b hb)) (fun p hp => by rw [xi_un (by decide)]; exact o1 p hp) (Or.inr ⟨c, by omega, e, xi_us, xi_us, fun d hd hdk => ?_⟩))
        rcases Nat.lt_succ_iff_lt_or_eq.mp hd with z | z
        · rcases b1 with ⟨-, w⟩ | ⟨b, hb1, hb2, hb3, hb4, hb5⟩
          · exact absurd hdk (w d z)
          · exact fun q => hb5 d z hdk (btr_tr q (hb b hb1 hb2 hb3 hb4 hb5))
        · subst z; exact btr_ir
      refine (show xi_V (xG L0 xs) 164 61 [some (Value.ref 37), some (Value.int (nI (k + 1))), some (Value.int (nI c)), some (Value.long (zL 0)), none, some (Value.int (nI (sg D 0 (qN D - qN D - 0)))), some (Value.int (nI (qN D - qN D)))] [] (xSH, xRF, I1, L1) 0 0 Q → xi_V (xG L0 xs) 164 61 [some (Value.ref 37), some (Value.int (nI (k + 1))), some (Value.int (nI c)), some (Value.long ((0 : Int64))), none, some (Value.int ((0 : Int32))), some (Value.int ((0 : Int32)))] [] (xSH, xRF, I1, L1) 0 0 Q from fun q => by rw [Nat.sub_self, Nat.sub_self] at q; exact q) ?_
      refine c_cut61 hC hI1 o1 (by omega) (fun v5 => b_M_isCut_61 ?_) (qN D) 0 0 (Nat.le_refl _) (Nat.zero_le _) (Int.zero_add _)
      rw [hI1.1]
      refine pk_le (qN D) (qN D) (fun _ => ?_) (fun c => absurd c (by omega))
      rcases b1 with ⟨h1, h2⟩ | ⟨b, hb1, hb2, hb3, hb4, hb5⟩
      · rw [h1]
        refine ⟨fun _ => put (fun b hb1 hb2 hb3 _ _ => ?_) v5, fun z => absurd (m_cmpE.mpr rfl) z⟩
        have hTb := tcs_b hC b (qN D) 0 (Nat.le_refl _) (by omega)
        rw [h1, l_m1] at hb3
        have := (zL_eq (by omega) (by omega) (by omega) (by omega)).mp hb3
        omega
      · have hTb := tcs_b hC b (qN D) 0 (Nat.le_refl _) (by omega)
        have huniq : ∀ b', b' < 2 ^ (qN D - 1) → L1 37 21 = zL (tcs D b' (qN D) 0) → I1 37 20 = nI b' → b' = b := fun b' q1 q2 q3 => by
          rw [hb4] at q3
          exact ((nI_eq (by omega) (by omega)).mp q3).symm
        rw [hb3, hb4, l_m1, m_cmpE, m_cmpE, cmp_lt, zL_eq (by omega) (by omega) (by omega) (by omega), zL_eq (by omega) (by omega) (by omega) (by omega), zL_lt (by omega) (by omega) (by omega) (by omega)]
        refine ⟨fun z => by omega, fun _ => ⟨fun z => put (fun b' q1 q2 q3 q4 q5 => by rw [huniq b' q1 q3 q4]; exact Or.inl z) v5, fun z => ⟨fun z2 => cont I1 L1 f1 f1' o1 ?_, fun z2 => ?_⟩⟩⟩
        · refine Or.inr ⟨b, hb1, hb2, hb3, hb4, fun d hd hdk => ?_⟩
          rcases Nat.lt_succ_iff_lt_or_eq.mp hd with w | w
          · exact hb5 d w hdk
          · subst w
            intro q
            rcases q with q | ⟨q, -⟩ <;> omega
        · refine c_isShorter (by omega) ⟨fun s => b_M_isCut_160 ⟨fun z => absurd z (by decide), fun _ => put (fun b' q1 q2 q3 q4 q5 => by rw [huniq b' q1 q3 q4]; exact Or.inr ⟨z2, s⟩) v5⟩, fun s => b_M_isCut_160 ⟨fun _ => cont I1 L1 f1 f1' o1 ?_, fun z => absurd rfl z⟩⟩
          refine Or.inr ⟨b, hb1, hb2, hb3, hb4, fun d hd hdk => ?_⟩
          rcases Nat.lt_succ_iff_lt_or_eq.mp hd with w | w
          · exact hb5 d w hdk
          · subst w
            intro q
            rcases q with q | ⟨q, q'⟩
            · omega
            · exact s q'
    · rcases b1 with ⟨h1, h2⟩ | ⟨b, hb1, hb2, hb3, hb4, hb5⟩
      · refine Or.inl ⟨h1, fun d hd => ?_⟩
        rcases Nat.lt_succ_iff_lt_or_eq.mp hd with w | w
        · exact h2 d w
        · subst w; exact e
      · refine Or.inr ⟨b, hb1, hb2, hb3, hb4, fun d hd hdk => ?_⟩
        rcases Nat.lt_succ_iff_lt_or_eq.mp hd with w | w
        · exact hb5 d w hdk
        · subst w; exact absurd hdk e
theorem c_isCut1 (hC : okC D) (hI : mC I D) {k : Nat} (hk : k + 1 ≤ qN D)
    (hQ : ∀ I' L', cuF I I' L L' → (∀ p, p < qN D → I' 52 p = nI (odf D p)) → L' 37 21 = zL (dpv D (k + 1) 0).1 → I' 37 20 = nI (dpm D (k + 1) 0) → (∀ b, b ≠ 21 → L' 37 b = L 37 b) → Q (some (Value.int 1)) (xSH, xRF, I', L')) : xi_V (xG L0 xs) 164 0 [some (Value.ref 37), some (Value.int (nI (k + 1))), none, none, none, none, none] [] (xSH, xRF, I, L) 0 0 Q := by
  have h10 := hC.1
  refine b_M_isCut_0 ?_
  rw [hI.1]
  refine pk_lt (k + 1) 1 (fun c => absurd c (by omega)) (fun _ => pk_le (k + 1) (qN D) (fun _ => c_orders hC hI (fun I1 f1 o1 => b_M_isCut_19 ?_)) (fun c => absurd c (by omega)))
  exact c_cut28 (I := I) (L := L) hC hI hk hQ (2 ^ (qN D - 1)) 0 I1 _ (Nat.zero_add _) ⟨fun a a1 _ => f1 a a1, fun b hb => by rw [f1 37 (by decide)], fun a ha => xi_un ha⟩ (fun b hb => xi_uj hb) o1 (Or.inl ⟨xi_us, fun d hd => absurd hd (Nat.not_lt_zero d)⟩)
theorem c_isCut0 (hI : mC I D) {v : Int32} (hv : v < 1 ∨ ¬ v ≤ nI (qN D)) (hQ : Q (some (Value.int 0)) (xSH, xRF, I, L)) : xi_V (xG L0 xs) 164 0 [some (Value.ref 37), some (Value.int v), none, none, none, none, none] [] (xSH, xRF, I, L) 0 0 Q := by
  refine b_M_isCut_0 ?_
  rw [hI.1]
  exact ⟨fun _ => ⟨by decide, hQ⟩, fun c => ⟨fun c2 => absurd c2 (hv.resolve_left c), fun _ => ⟨by decide, hQ⟩⟩⟩
theorem mR_cu {I' : Nat → Nat → Int32} {L' : Nat → Nat → Int64} (h : mR I L D sl x y) (f : cuF I I' L L') : mR I' L' D sl x y ∧ mFr I I' L L' := by
  refine ⟨⟨h.1, mC_cu f h.2.1, ?_, mS_of (f.1 39 (by decide) (by decide)) (f.1 40 (by decide) (by decide)) (f.2.2 41 (by decide)) h.2.2.2.1, ?_, ?_, ?_⟩, fun a ha => f.1 a (by omega) (by omega), fun a ha => f.2.2 a (by omega)⟩
  · have := h.2.2.1
    unfold mD at this ⊢
    rw [f.2.1 11 (by decide), f.2.1 12 (by decide), f.1 46 (by decide) (by decide)]
    exact this
  · rw [f.2.2 38 (by decide)]; exact h.2.2.2.2.1
  · rw [f.2.2 38 (by decide)]; exact h.2.2.2.2.2.1
  · rw [f.2.2 38 (by decide), f.2.1 1 (by decide)]; exact h.2.2.2.2.2.2
theorem o_mBands (h : mR I L D sl x y) {k : Nat} (hk : k + 1 ≤ qN D)
    (hQ : ∀ I' L', mFr I I' L L' → mR I' L' D sl x y → Q (some (Value.int (zI (dpv D (k + 1) 0).1))) (xSH, xRF, I', L')) : xi_V (xG L0 xs) 166 0 [some (Value.ref 37), some (Value.int (nI (k + 1)))] [] (xSH, xRF, I, L) 0 0 Q := by
  have ht := dpm_tcs (D := D) (k := k) (a := 0) (by omega)
  have hb := tcs_b h.1.1 (dpm D (k + 1) 0) (qN D) 0 (Nat.le_refl _) (by omega)
  have h10 := h.1.1.1
  rw [Nat.sub_zero] at ht
  rw [ht] at hb
  refine b_M_bands_0 (c_isCut1 h.1.1 h.2.1 hk (fun I' L' f o e21 e20 _ => b_M_bands_5 ⟨fun c => absurd c (by decide), fun _ => ?_⟩))
  have := mR_cu h f
  rw [e21, l2i, zL_t (by omega) (by omega)]
  exact hQ _ _ this.2 this.1
theorem o_mBands0 (h : mR I L D sl x y) {v : Int32} (hv : v < 1 ∨ ¬ v ≤ nI (qN D)) (hQ : Q (some (Value.int (-1))) (xSH, xRF, I, L)) : xi_V (xG L0 xs) 166 0 [some (Value.ref 37), some (Value.int v)] [] (xSH, xRF, I, L) 0 0 Q :=
  b_M_bands_0 (c_isCut0 h.2.1 hv (b_M_bands_5 ⟨fun _ => hQ, fun c => absurd rfl c⟩))
theorem c_band_lp (hC : okC D) {v1 : Int32} {i m : Nat} (hi : i < qN D) (hm : m < 1024) (ho : ∀ p, p < qN D → I 52 p = nI (odf D p)) (h20 : I 37 20 = nI m) (hQ : Q (some (Value.int (nI (bc m (rk D i))))) (xSH, xRF, I, L)) :
    ∀ n p : Nat, p + n = rk D i → xi_V (xG L0 xs) 167 23 [some (Value.ref 37), some (Value.int v1), some (Value.int (nI i)), some (Value.int (nI (bc m p))), some (Value.int (nI p))] [] (xSH, xRF, I, L) 0 0 Q := by
  have h10 := hC.1
  have hr := rk_lt hi
  intro n
  induction n with
  | zero =>
    intro p hp
    refine b_M_band_23 ⟨pk_in p 10 (by omega), ?_⟩
    rw [nI_clamp (by omega), ho p (by omega), show p = rk D i by omega, odf_rk hi]
    exact ⟨fun _ => hQ, fun c => absurd rfl c⟩
  | succ n ih =>
    intro p hp
    have hpi := odf_is (show p < qN D by omega)
    refine b_M_band_23 ⟨pk_in p 10 (by omega), ?_⟩
    rw [nI_clamp (by omega), ho p (by omega), h20, bt_I (by omega) (by omega), nI_add, nI_1]
    refine pk_eq (odf D p) i (fun e => ?_) (fun _ => ih (p + 1) (by omega))
    rw [e] at hpi
    omega
theorem o_mBand (h : mR I L D sl x y) {k i : Nat} (hk : k + 1 ≤ qN D) (hi : i < qN D)
    (hQ : ∀ I' L', mFr I I' L L' → mR I' L' D sl x y → Q (some (Value.int (nI (bc (dpm D (k + 1) 0) (rk D i))))) (xSH, xRF, I', L')) : xi_V (xG L0 xs) 167 0 [some (Value.ref 37), some (Value.int (nI (k + 1))), some (Value.int (nI i)), none, none] [] (xSH, xRF, I, L) 0 0 Q := by
  have h10 := h.1.1.1
  have hm := or_lt (D := D) (k := k) (a := 0) (by omega)
  have hp2 : 2 ^ (qN D - 1) ≤ 1024 := p2_lt (by omega)
  refine b_M_band_0 (c_mIsName1 h.1.1 h.2.1 hi (b_M_band_5 ⟨fun c => absurd c (by decide), fun _ => c_isCut1 h.1.1 h.2.1 hk (fun I' L' f o e21 e20 _ => b_M_band_13 ⟨fun _ => ?_, fun c => absurd c (by decide)⟩)⟩))
  have := mR_cu h f
  exact c_band_lp h.1.1 hi (by omega) o e20 (hQ _ _ this.2 this.1) (rk D i) 0 (Nat.zero_add _)
theorem o_mBand0 (h : mR I L D sl x y) {v w : Int32} (hv : (v < 1 ∨ ¬ v ≤ nI (qN D)) ∨ (w < 0 ∨ nI (qN D) ≤ w)) (hQ : Q (some (Value.int (-1))) (xSH, xRF, I, L)) : xi_V (xG L0 xs) 167 0 [some (Value.ref 37), some (Value.int v), some (Value.int w), none, none] [] (xSH, xRF, I, L) 0 0 Q := by
  have h10 := h.1.1.1
  rcases pk_ix w (n := qN D) (by omega) with z | z | ⟨j, hj, ej⟩
  · exact b_M_band_0 (c_mIsName0 h.2.1 (Or.inl z) (b_M_band_5 ⟨fun _ => hQ, fun c => absurd rfl c⟩))
  · exact b_M_band_0 (c_mIsName0 h.2.1 (Or.inr z) (b_M_band_5 ⟨fun _ => hQ, fun c => absurd rfl c⟩))
  · subst ej
    have hv2 := hv.resolve_right (fun z => by
      rcases z with z | z
      · exact absurd z (nI_pos (by omega))
      · exact absurd z (nI_ge hj (by omega)))
    exact b_M_band_0 (c_mIsName1 h.1.1 h.2.1 hj (b_M_band_5 ⟨fun c => absurd c (by decide), fun _ => c_isCut0 h.2.1 hv2 (b_M_band_13 ⟨fun c => absurd rfl c, fun _ => hQ⟩)⟩))
end MB
