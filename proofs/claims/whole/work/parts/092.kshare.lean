/-! share and least of the class -/
def msR (I : Nat → Nat → Int32) (L : Nat → Nat → Int64) (D : xD) : Prop := ∀ h, h < 4 → I 29 h = nI (hN D h) ∧ I 28 h = nI (slo D h) ∧ L 30 h = zL (vD D h)
def skR (I : Nat → Nat → Int32) (L : Nat → Nat → Int64) : yT → Prop
  | none => L 26 1 = -1
  | some q => (0 ≤ q.1 ∧ q.1 ≤ 300000000000000) ∧ L 26 1 = zL q.1 ∧ I 27 0 = nI q.2.1 ∧ I 27 1 = nI q.2.2.1 ∧ I 27 2 = nI q.2.2.2.1 ∧ I 27 3 = nI q.2.2.2.2
def skF (I I' : Nat → Nat → Int32) (L L' : Nat → Nat → Int64) : Prop := (∀ a, a ≠ 27 → I' a = I a) ∧ ∀ a, a ≠ 26 → L' a = L a
theorem skF_tr {I I' I2 : Nat → Nat → Int32} {L L' L2 : Nat → Nat → Int64} (h : skF I I' L L') (h2 : skF I' I2 L' L2) : skF I I2 L L2 := ⟨fun a ha => (h2.1 a ha).trans (h.1 a ha), fun a ha => (h2.2 a ha).trans (h.2 a ha)⟩
theorem msR_F {I I' : Nat → Nat → Int32} {L L' : Nat → Nat → Int64} {D : xD} (f : skF I I' L L') (h : msR I L D) : msR I' L' D := by
  unfold msR at *
  rw [f.1 29 (by decide), f.1 28 (by decide), f.2 30 (by decide)]
  exact h
section KSH
variable {L0 : Nat} {xs : Nat → Int32} {Q : xiQ} {I : Nat → Nat → Int32} {L : Nat → Nat → Int64}
variable {D : xD} {sl : xL} {x y : Int}
theorem c_kMeas_lp (hC : okC D) (hI : kC I D)
    (hQ : ∀ I' L', (∀ a, a ≠ 28 → a ≠ 29 → I' a = I a) → (∀ a, a ≠ 30 → L' a = L a) → msR I' L' D → Q none (xSH, xRF, I', L')) :
    ∀ (m h : Nat) (I1 : Nat → Nat → Int32) (L1 : Nat → Nat → Int64), h + m = 4 → (∀ a, a ≠ 28 → a ≠ 29 → I1 a = I a) → (∀ a, a ≠ 30 → L1 a = L a) → (∀ k, k < h → I1 29 k = nI (hN D k) ∧ I1 28 k = nI (slo D k) ∧ L1 30 k = zL (vD D k)) → xi_V (xG L0 xs) 55 2 [some (Value.ref 26), some (Value.ref 5), some (Value.int (nI h))] [] (xSH, xRF, I1, L1) 0 0 Q
  | 0, h, I1, L1, hm, f1, f2, hk => by
    exact b_Sharing_measure_2 (pk_le 4 h (fun c => hQ I1 L1 f1 f2 (fun k hk2 => hk k (by omega))) (fun c => absurd c (by omega)))
  | m + 1, h, I1, L1, hm, f1, f2, hk => by
    have h10 := hC.1
    have n1 := hn_le D h (qN D)
    have e1 : hN D h = hn D h (qN D) := rfl
    have hI1 : kC I1 D := kC_of (fun a a1 a2 => f1 a (by omega) (by omega)) hI
    have hv := v_same hC h
    have hvb := v_b hC h
    refine b_Sharing_measure_2 (pk_le 4 h (fun c => absurd c (by omega)) (fun c => c_kHeapNames hC hI1 c (b_Sharing_measure_17 ?_)))
    rw [nI_clamp (by omega), xi_us]
    refine ⟨pk_in h 4 c, pk_in h 4 c, b_Math_min_0 ?_⟩
    have go : xi_V (xG L0 xs) 55 33 [some (Value.ref 26), some (Value.ref 5), some (Value.int (nI h))] [Value.int (nI (slo D h)), Value.int (nI h), Value.ref 28] (xSH, xRF, xi_u I1 29 h (nI (hN D h)), L1) 0 0 Q := by
      refine b_Sharing_measure_33 ⟨pk_in h 4 c, ?_⟩
      rw [nI_clamp (by omega)]
      have hI2 : kC (xi_u (xi_u I1 29 h (nI (hN D h))) 28 h (nI (slo D h))) D := kC_of (fun a a1 a2 => by rw [xi_un (by omega), xi_un (by omega)]) hI1
      refine c_kTop hC hI2 c (b_Sharing_measure_44 (c_kBot hC hI2 c (b_Sharing_measure_53 ⟨fun e => ?_, pk_in h 4 c, ?_⟩)))
      · have := congrArg Int64.toInt e
        rw [zL_t (by omega) (by omega), m_z0] at this
        omega
      · rw [nI_clamp (by omega), nI_1, l_2520, zL_mul, zL_div (by omega) (by omega) (by omega) (by omega), hv.1, Int.mul_ediv_cancel _ (by omega)]
        refine c_kMeas_lp hC hI hQ m (h + 1) _ _ (by omega) (fun a a1 a2 => by rw [xi_un a1, xi_un a2]; exact f1 a a1 a2) (fun a ha => (xi_un ha).trans (f2 a ha)) (fun k hk2 => ?_)
        by_cases e : k = h
        · subst e
          refine ⟨?_, xi_us, xi_us⟩
          rw [xi_un (by decide), xi_us]
        · have := hk k (by omega)
          rw [xi_un (show 29 ≠ 28 by decide), xi_uj e, xi_uj e, xi_uj e, xi_un (show 28 ≠ 29 by decide)]
          exact this
    refine ⟨fun c2 => ?_, fun c2 => ?_⟩
    · rw [show (1 : Int32) = nI 1 from rfl, nI_ltI (by omega) (by decide)] at c2
      rw [show slo D h = hN D h by unfold slo; rw [if_pos (by omega)]; omega] at go
      exact go
    · rw [show (1 : Int32) = nI 1 from rfl, nI_ltI (by omega) (by decide)] at c2
      rw [show slo D h = 1 by unfold slo; rw [if_neg (by omega)]] at go
      exact go
theorem c_kCost (hC : okC D) (hm : msR I L D) {h n : Nat} (hh : h < 4) (hn : n ≤ 10) (hQ : Q (some (Value.long (zL (adD D h n)))) (xSH, xRF, I, L)) : xi_V (xG L0 xs) 57 0 [some (Value.ref 26), some (Value.int (nI h)), some (Value.int (nI n))] [] (xSH, xRF, I, L) 0 0 Q := by
  unfold adD at hQ
  refine b_Sharing_cost_0 (pk_le 1 n (fun c => ⟨pk_in h 4 hh, ?_⟩) (fun c => ?_))
  · rw [if_neg (by omega)] at hQ
    rw [nI_clamp (by omega), (hm h hh).2.2, nI_L (by omega)]
    refine ⟨fun z => ?_, ?_⟩
    · have := congrArg Int64.toInt z
      rw [zL_t (by omega) (by omega), m_z0] at this
      omega
    · rw [l_2520, zL_div (by decide) (by decide) (by omega) (by omega), zL_mul]
      exact hQ
  · rw [if_pos (by omega)] at hQ
    exact hQ
theorem c_kC (hC : okC D) (hm : msR I L D) {t a b : Nat} (ht : t ≤ 10) (ha : a ≤ 10) (hb : b ≤ 10) {st0 : yT}
    (hQ : ∀ I' L', skF I I' L L' → skR I' L' st0 → xi_V (xG L0 xs) 54 37 [some (Value.ref 26), some (Value.ref 5), some (Value.int (nI t)), some (Value.int (nI a)), some (Value.int (nI b + (-1))), none, none] [] (xSH, xRF, I', L') 0 0 Q) :
    ∀ (k : Nat) (I1 : Nat → Nat → Int32) (L1 : Nat → Nat → Int64) (st : yT), skF I I1 L L1 → skR I1 L1 st → shC D t a b k st = st0 → slo D 2 + k ≤ hN D 2 + 1 →
      xi_V (xG L0 xs) 54 56 [some (Value.ref 26), some (Value.ref 5), some (Value.int (nI t)), some (Value.int (nI a)), some (Value.int (nI b)), some (Value.int (zI ((slo D 2 : Int) + (k : Int) - 1))), none] [] (xSH, xRF, I1, L1) 0 0 Q := by
  have h10 := hC.1
  have l2 := slo_le D 2
  have l3 := slo_le D 3
  have n2 := hn_le D 2 (qN D)
  have n3 := hn_le D 3 (qN D)
  have e2 : hN D 2 = hn D 2 (qN D) := rfl
  have e3 : hN D 3 = hn D 3 (qN D) := rfl
  intro k
  induction k with
  | zero =>
    intro I1 L1 st hF hR hst hk
    have m1 := msR_F hF hm
    refine b_Sharing_shareOut_56 ⟨pk_in 2 4 (by decide), ?_⟩
    rw [show (2 : Int32).toNatClampNeg = 2 from rfl, (m1 2 (by decide)).2.1]
    refine ⟨fun _ => ?_, fun c => absurd ?_ c⟩
    · rw [← hst] at hQ
      exact hQ I1 L1 hF hR
    · rw [zI_n, zI_lt (by omega) (by omega) (by omega) (by omega)]
      omega
  | succ k ih =>
    intro I1 L1 st hF hR hst hk
    have m1 := msR_F hF hm
    have ec : zI ((slo D 2 : Int) + ((k + 1 : Nat) : Int) - 1) = nI (slo D 2 + k) := by rw [zI_n]; congr 1; omega
    rw [ec]
    have cont : ∀ I2 L2 st2 v6, skF I I2 L L2 → skR I2 L2 st2 → shC D t a b k st2 = st0 → xi_V (xG L0 xs) 54 111 [some (Value.ref 26), some (Value.ref 5), some (Value.int (nI t)), some (Value.int (nI a)), some (Value.int (nI b)), some (Value.int (nI (slo D 2 + k))), some (Value.int v6)] [] (xSH, xRF, I2, L2) 0 0 Q := by
      intro I2 L2 st2 v6 f2 r2 s2
      refine b_Sharing_shareOut_111 ?_
      have := ih I2 L2 st2 f2 r2 s2 (by omega)
      rw [show nI (slo D 2 + k) + (-1) = zI ((slo D 2 : Int) + (k : Int) - 1) by rw [show (-1 : Int32) = zI (-1) by decide, zI_n, zI_add]; congr 1]
      exact this
    have ed : nI t - nI a - nI b - nI (slo D 2 + k) = zI ((t : Int) - a - b - (slo D 2 + k : Nat)) := by rw [zI_n, zI_n, zI_n, zI_n, zI_sub, zI_sub, zI_sub]
    have hstp := hst
    rw [shC] at hstp
    refine b_Sharing_shareOut_56 ⟨pk_in 2 4 (by decide), ?_⟩
    rw [show (2 : Int32).toNatClampNeg = 2 from rfl, show (3 : Int32).toNatClampNeg = 3 from rfl, (m1 2 (by decide)).2.1, (m1 3 (by decide)).2.1, (m1 3 (by decide)).1, ed]
    refine ⟨fun c => absurd c (nI_nlt (by omega) (by omega)), fun _ => ⟨pk_in 3 4 (by decide), ?_⟩⟩
    rw [zI_n (slo D 3), zI_n (hN D 3), zI_lt (by omega) (by omega) (by omega) (by omega), zI_lt (by omega) (by omega) (by omega) (by omega)]
    refine ⟨fun c => cont I1 L1 st _ hF hR ?_, fun c => ⟨pk_in 3 4 (by decide), fun c' => cont I1 L1 st _ hF hR ?_, fun c' => ?_⟩⟩
    · rw [← hstp]
      unfold stp
      rw [if_neg (by omega)]
    · rw [← hstp]
      unfold stp
      rw [if_neg (by omega)]
    · have ed2 : zI ((t : Int) - a - b - (slo D 2 + k : Nat)) = nI (t - (a + b + (slo D 2 + k))) := by rw [zI_n]; congr 1; omega
      rw [ed2]
      unfold stp at hstp
      rw [if_pos (by omega)] at hstp
      refine b_Sharing_offer_0 (c_kCost hC m1 (h := 0) (by decide) ha (b_Sharing_offer_6 (c_kCost hC m1 (h := 1) (by decide) hb (b_Sharing_offer_12 (c_kCost hC m1 (h := 2) (by decide) (by omega) (b_Sharing_offer_19 (c_kCost hC m1 (h := 3) (by decide) (by omega) (b_Sharing_offer_27 ?_))))))))
      rw [zL_add, zL_add, zL_add]
      have b0 := ad_b hC 0 a
      have b1 := ad_b hC 1 b
      have b2 := ad_b hC 2 (slo D 2 + k)
      have b3 := ad_b hC 3 (t - (a + b + (slo D 2 + k)))
      have es : adD D 0 a + adD D 1 b + adD D 2 (slo D 2 + k) + adD D 3 (t - (a + b + (slo D 2 + k))) = scs D a b (slo D 2 + k) (t - (a + b + (slo D 2 + k))) := rfl
      have bs : 0 ≤ scs D a b (slo D 2 + k) (t - (a + b + (slo D 2 + k))) ∧ scs D a b (slo D 2 + k) (t - (a + b + (slo D 2 + k))) ≤ 300000000000000 := by rw [← es]; omega
      rw [es]
      have put : shC D t a b k (some (scs D a b (slo D 2 + k) (t - (a + b + (slo D 2 + k))), a, b, slo D 2 + k, t - (a + b + (slo D 2 + k)))) = st0 → vp_in (0 : Int32) 4 ∧ vp_in (1 : Int32) 4 ∧ vp_in (2 : Int32) 4 ∧ vp_in (3 : Int32) 4 ∧ xi_V (xG L0 xs) 54 111 [some (Value.ref 26), some (Value.ref 5), some (Value.int (nI t)), some (Value.int (nI a)), some (Value.int (nI b)), some (Value.int (nI (slo D 2 + k))), some (Value.int (nI (t - (a + b + (slo D 2 + k)))))] [] (xSH, xRF, xi_u (xi_u (xi_u (xi_u I1 27 0 (nI a)) 27 1 (nI b)) 27 2 (nI (slo D 2 + k))) 27 3 (nI (t - (a + b + (slo D 2 + k)))), xi_u L1 26 1 (zL (scs D a b (slo D 2 + k) (t - (a + b + (slo D 2 + k)))))) 0 0 Q := by
        intro hs2
        refine ⟨pk_in 0 4 (by decide), pk_in 1 4 (by decide), pk_in 2 4 (by decide), pk_in 3 4 (by decide), cont _ _ (some (scs D a b (slo D 2 + k) (t - (a + b + (slo D 2 + k))), a, b, slo D 2 + k, t - (a + b + (slo D 2 + k)))) _ (skF_tr hF ⟨fun a ha => by rw [xi_un ha, xi_un ha, xi_un ha, xi_un ha], fun a ha => xi_un ha⟩) ⟨bs, xi_us, ?_, ?_, ?_, xi_us⟩ hs2⟩
        · rw [xi_uj (by decide), xi_uj (by decide), xi_uj (by decide), xi_us]
        · rw [xi_uj (by decide), xi_uj (by decide), xi_us]
        · rw [xi_uj (by decide), xi_us]
      cases st with
      | none =>
        have hR : L1 26 1 = -1 := hR
        rw [hR]
        refine ⟨fun _ => b_Sharing_offer_51 ?_, fun z => absurd (m_cmpE.mpr rfl) z⟩
        rw [show (0 : Int32).toNatClampNeg = 0 from rfl, show (1 : Int32).toNatClampNeg = 1 from rfl, show (2 : Int32).toNatClampNeg = 2 from rfl, show (3 : Int32).toNatClampNeg = 3 from rfl]
        exact put hstp
      | some q =>
        obtain ⟨hq, hL, hrest⟩ := hR
        rw [hL]
        refine ⟨fun z => ?_, fun _ => ?_⟩
        · have z1 := congrArg Int64.toInt (m_cmpE.mp z)
          rw [zL_t (by omega) (by omega), show (-1 : Int64).toInt = -1 by decide] at z1
          omega
        · rw [m_cmp0, zL_lt (by omega) (by omega) (by omega) (by omega)]
          refine ⟨fun z => cont I1 L1 (some q) _ hF ⟨hq, hL, hrest⟩ ?_, fun z => b_Sharing_offer_51 ?_⟩
          · simp only [if_neg z] at hstp
            exact hstp
          · simp only [if_pos (Decidable.not_not.mp z)] at hstp
            rw [show (0 : Int32).toNatClampNeg = 0 from rfl, show (1 : Int32).toNatClampNeg = 1 from rfl, show (2 : Int32).toNatClampNeg = 2 from rfl, show (3 : Int32).toNatClampNeg = 3 from rfl]
            exact put hstp
theorem c_kB (hC : okC D) (hm : msR I L D) {t a : Nat} (ht : t ≤ 10) (ha : a ≤ 10) {st0 : yT}
    (hQ : ∀ I' L', skF I I' L L' → skR I' L' st0 → xi_V (xG L0 xs) 54 19 [some (Value.ref 26), some (Value.ref 5), some (Value.int (nI t)), some (Value.int (nI a + (-1))), none, none, none] [] (xSH, xRF, I', L') 0 0 Q) :
    ∀ (k : Nat) (I1 : Nat → Nat → Int32) (L1 : Nat → Nat → Int64) (st : yT), skF I I1 L L1 → skR I1 L1 st → shB D t a k st = st0 → slo D 1 + k ≤ hN D 1 + 1 →
      xi_V (xG L0 xs) 54 37 [some (Value.ref 26), some (Value.ref 5), some (Value.int (nI t)), some (Value.int (nI a)), some (Value.int (zI ((slo D 1 : Int) + (k : Int) - 1))), none, none] [] (xSH, xRF, I1, L1) 0 0 Q := by
  have h10 := hC.1
  have l1 := slo_le D 1
  have n1 := hn_le D 1 (qN D)
  have e1 : hN D 1 = hn D 1 (qN D) := rfl
  intro k
  induction k with
  | zero =>
    intro I1 L1 st hF hR hst hk
    have m1 := msR_F hF hm
    refine b_Sharing_shareOut_37 ⟨pk_in 1 4 (by decide), ?_⟩
    rw [show (1 : Int32).toNatClampNeg = 1 from rfl, (m1 1 (by decide)).2.1]
    refine ⟨fun _ => ?_, fun c => absurd ?_ c⟩
    · rw [← hst] at hQ
      exact hQ I1 L1 hF hR
    · rw [zI_n, zI_lt (by omega) (by omega) (by omega) (by omega)]
      omega
  | succ k ih =>
    intro I1 L1 st hF hR hst hk
    have m1 := msR_F hF hm
    have ec : zI ((slo D 1 : Int) + ((k + 1 : Nat) : Int) - 1) = nI (slo D 1 + k) := by rw [zI_n]; congr 1; omega
    rw [ec]
    refine b_Sharing_shareOut_37 ⟨pk_in 1 4 (by decide), ?_⟩
    rw [show (1 : Int32).toNatClampNeg = 1 from rfl, show (2 : Int32).toNatClampNeg = 2 from rfl, (m1 1 (by decide)).2.1, (m1 2 (by decide)).1]
    refine ⟨fun c => absurd c (nI_nlt (by omega) (by omega)), fun _ => ⟨pk_in 2 4 (by decide), ?_⟩⟩
    have e5 : nI (hN D 2) = zI ((slo D 2 : Int) + (nh D 2 : Int) - 1) := by
      have := nh_e D 2
      rw [zI_n]; congr 1; omega
    have go := c_kC (Q := Q) (L0 := L0) (xs := xs) (I := I) (L := L) (st0 := shC D t a (slo D 1 + k) (nh D 2) st) hC hm ht ha (show slo D 1 + k ≤ 10 by omega) (fun I2 L2 f2 r2 => by
      have := ih I2 L2 _ f2 r2 (by rw [shB] at hst; exact hst) (by omega)
      rw [show nI (slo D 1 + k) + (-1) = zI ((slo D 1 : Int) + (k : Int) - 1) by rw [show (-1 : Int32) = zI (-1) by decide, zI_n, zI_add]; congr 1]
      exact this) (nh D 2) I1 L1 st hF hR rfl (by have := nh_e D 2; omega)
    rw [← e5] at go
    exact go
theorem c_kA (hC : okC D) (hm : msR I L D) {t : Nat} (ht : t ≤ 10) {st0 : yT}
    (hQ : ∀ I' L', skF I I' L L' → skR I' L' st0 → Q none (xSH, xRF, I', L')) :
    ∀ (k : Nat) (I1 : Nat → Nat → Int32) (L1 : Nat → Nat → Int64) (st : yT), skF I I1 L L1 → skR I1 L1 st → shA D t k st = st0 → slo D 0 + k ≤ hN D 0 + 1 →
      xi_V (xG L0 xs) 54 19 [some (Value.ref 26), some (Value.ref 5), some (Value.int (nI t)), some (Value.int (zI ((slo D 0 : Int) + (k : Int) - 1))), none, none, none] [] (xSH, xRF, I1, L1) 0 0 Q := by
  have h10 := hC.1
  have l1 := slo_le D 0
  have n1 := hn_le D 0 (qN D)
  have e1 : hN D 0 = hn D 0 (qN D) := rfl
  intro k
  induction k with
  | zero =>
    intro I1 L1 st hF hR hst hk
    have m1 := msR_F hF hm
    refine b_Sharing_shareOut_19 ⟨pk_in 0 4 (by decide), ?_⟩
    rw [show (0 : Int32).toNatClampNeg = 0 from rfl, (m1 0 (by decide)).2.1]
    refine ⟨fun _ => ?_, fun c => absurd ?_ c⟩
    · rw [← hst] at hQ
      exact hQ I1 L1 hF hR
    · rw [zI_n, zI_lt (by omega) (by omega) (by omega) (by omega)]
      omega
  | succ k ih =>
    intro I1 L1 st hF hR hst hk
    have m1 := msR_F hF hm
    have ec : zI ((slo D 0 : Int) + ((k + 1 : Nat) : Int) - 1) = nI (slo D 0 + k) := by rw [zI_n]; congr 1; omega
    rw [ec]
    refine b_Sharing_shareOut_19 ⟨pk_in 0 4 (by decide), ?_⟩
    rw [show (0 : Int32).toNatClampNeg = 0 from rfl, show (1 : Int32).toNatClampNeg = 1 from rfl, (m1 0 (by decide)).2.1, (m1 1 (by decide)).1]
    refine ⟨fun c => absurd c (nI_nlt (by omega) (by omega)), fun _ => ⟨pk_in 1 4 (by decide), ?_⟩⟩
    have e5 : nI (hN D 1) = zI ((slo D 1 : Int) + (nh D 1 : Int) - 1) := by
      have := nh_e D 1
      rw [zI_n]; congr 1; omega
    have go := c_kB (Q := Q) (L0 := L0) (xs := xs) (I := I) (L := L) (st0 := shB D t (slo D 0 + k) (nh D 1) st) hC hm ht (show slo D 0 + k ≤ 10 by omega) (fun I2 L2 f2 r2 => by
      have := ih I2 L2 _ f2 r2 (by rw [shA] at hst; exact hst) (by omega)
      rw [show nI (slo D 0 + k) + (-1) = zI ((slo D 0 : Int) + (k : Int) - 1) by rw [show (-1 : Int32) = zI (-1) by decide, zI_n, zI_add]; congr 1]
      exact this) (nh D 1) I1 L1 st hF hR rfl (by have := nh_e D 1; omega)
    rw [← e5] at go
    exact go
theorem c_kShareOut (hC : okC D) (hI : kC I D) {t : Nat} (ht : t ≤ 10)
    (hQ : ∀ I' L', (∀ a, a ≠ 27 → a ≠ 28 → a ≠ 29 → I' a = I a) → (∀ a, a ≠ 26 → a ≠ 30 → L' a = L a) → skR I' L' (shA D t (nh D 0) none) → Q none (xSH, xRF, I', L')) : xi_V (xG L0 xs) 54 0 [some (Value.ref 26), some (Value.ref 5), some (Value.int (nI t)), none, none, none, none] [] (xSH, xRF, I, L) 0 0 Q := by
  refine b_Sharing_shareOut_0 (b_Sharing_measure_0 (c_kMeas_lp hC hI (fun I1 L1 f1 f2 m1 => b_Sharing_shareOut_5 ⟨pk_in 0 4 (by decide), ?_⟩) 4 0 I L rfl (fun _ _ _ => rfl) (fun _ _ => rfl) (fun k hk => absurd hk (Nat.not_lt_zero k))))
  have e5 : nI (hN D 0) = zI ((slo D 0 : Int) + (nh D 0 : Int) - 1) := by
    have := nh_e D 0
    rw [zI_n]; congr 1; omega
  rw [show (0 : Int32).toNatClampNeg = 0 from rfl, (m1 0 (by decide)).1, e5]
  refine c_kA (I := I1) (L := L1) (st0 := shA D t (nh D 0) none) hC m1 ht (fun I2 L2 g r => hQ I2 L2 (fun a a1 a2 a3 => (g.1 a a1).trans (f1 a a2 a3)) (fun a a1 a2 => (g.2 a a1).trans (f2 a a2)) r) (nh D 0) I1 _ none ⟨fun _ _ => rfl, fun a ha => xi_un ha⟩ xi_us rfl (by have := nh_e D 0; omega)
theorem kR_sh {I' : Nat → Nat → Int32} {L' : Nat → Nat → Int64} (h : kR I L D sl x y) (f1 : ∀ a, a ≠ 27 → a ≠ 28 → a ≠ 29 → I' a = I a) (f2 : ∀ a, a ≠ 26 → a ≠ 30 → L' a = L a) : kR I' L' D sl x y ∧ kFr I I' L L' := by
  refine ⟨⟨h.1, kC_of (fun a _ _ => f1 a (by omega) (by omega) (by omega)) h.2.1, kD_of (fun a ha => f1 a (by omega) (by omega) (by omega)) h.2.2.1, kS_of (f1 3 (by decide) (by decide) (by decide)) (f1 4 (by decide) (by decide) (by decide)) (f2 2 (by decide) (by decide)) h.2.2.2.1, kRes_of (f1 14 (by decide) (by decide) (by decide)) (f2 16 (by decide) (by decide)) (f2 18 (by decide) (by decide)) h.2.2.2.2.1, fun z => ?_⟩, fun a ha => f1 a (by omega) (by omega) (by omega), fun a ha => f2 a (by omega) (by omega)⟩
  rw [f1 10 (by decide) (by decide) (by decide)] at z
  exact kW_of (f2 10 (by decide) (by decide)) (f2 12 (by decide) (by decide)) (f2 13 (by decide) (by decide)) (h.2.2.2.2.2 z)
theorem c_kCan1 (hC : okC D) (hI : kC I D) {t : Nat} (h1 : shn D 4 ≤ t) (h2 : t ≤ qN D) (hQ : Q (some (Value.int 1)) (xSH, xRF, I, L)) : xi_V (xG L0 xs) 99 0 [some (Value.ref 0), some (Value.int (nI t))] [] (xSH, xRF, I, L) 0 0 Q := by
  have h10 := hC.1
  refine b_D_canShareOut_0 (c_kHeapsW hC hI (b_D_canShareOut_8 ?_))
  rw [hI.1]
  exact pk_lt t (shn D 4) (fun c => absurd c (by omega)) (fun _ => pk_lt (qN D) t (fun c => absurd c (by omega)) (fun _ => ⟨by decide, hQ⟩))
theorem c_kCan0 (hC : okC D) (hI : kC I D) {v : Int32} (hv : v < nI (shn D 4) ∨ nI (qN D) < v) (hQ : Q (some (Value.int 0)) (xSH, xRF, I, L)) : xi_V (xG L0 xs) 99 0 [some (Value.ref 0), some (Value.int v)] [] (xSH, xRF, I, L) 0 0 Q := by
  refine b_D_canShareOut_0 (c_kHeapsW hC hI (b_D_canShareOut_8 ?_))
  rw [hI.1]
  exact ⟨fun _ => ⟨by decide, hQ⟩, fun c => ⟨fun _ => ⟨by decide, hQ⟩, fun c2 => absurd (hv.resolve_left c) c2⟩⟩
theorem o_kShare (h : kR I L D sl x y) {t k : Nat} (hk : k < 4) (h1 : shn D 4 ≤ t) (h2 : t ≤ qN D) {q : Int × Nat × Nat × Nat × Nat} (hq : shA D t (nh D 0) none = some q)
    (hQ : ∀ I' L', kFr I I' L L' → kR I' L' D sl x y → Q (some (Value.int (nI (bqi q k)))) (xSH, xRF, I', L')) : xi_V (xG L0 xs) 86 0 [some (Value.ref 0), some (Value.int (nI t)), some (Value.int (nI k))] [] (xSH, xRF, I, L) 0 0 Q := by
  have h10 := h.1.1.1
  refine b_D_share_0 (c_kIsHeap1 hk (b_D_share_4 ⟨fun _ => c_kCan1 h.1.1 h.2.1 h1 h2 (b_D_share_15 ⟨fun _ => c_kShareOut h.1.1 h.2.1 (by omega) (fun I' L' f1 f2 r => b_D_share_33 ⟨pk_in k 4 hk, ?_⟩), fun c => absurd c (by decide)⟩), fun c => absurd c (by decide)⟩))
  rw [hq] at r
  obtain ⟨-, -, r0, r1, r2, r3⟩ := r
  have := kR_sh h f1 f2
  have e : I' 27 k = nI (bqi q k) := by
    unfold bqi
    rcases (show k = 0 ∨ k = 1 ∨ k = 2 ∨ k = 3 by omega) with e | e | e | e <;> subst e
    · exact r0
    · exact r1
    · exact r2
    · exact r3
  rw [nI_clamp (by omega), e]
  exact hQ _ _ this.2 this.1
theorem o_kShare0 {v w : Int32} (hv : w < 0 ∨ 3 < w) (hQ : Q (some (Value.int (-2))) (xSH, xRF, I, L)) : xi_V (xG L0 xs) 86 0 [some (Value.ref 0), some (Value.int v), some (Value.int w)] [] (xSH, xRF, I, L) 0 0 Q :=
  b_D_share_0 (c_kIsHeap0 hv (b_D_share_4 ⟨fun c => absurd rfl c, fun _ => hQ⟩))
theorem o_kShare1 (h : kR I L D sl x y) {v : Int32} {k : Nat} (hk : k < 4) (hv : v < nI (shn D 4) ∨ nI (qN D) < v) (hQ : Q (some (Value.int (-4))) (xSH, xRF, I, L)) : xi_V (xG L0 xs) 86 0 [some (Value.ref 0), some (Value.int v), some (Value.int (nI k))] [] (xSH, xRF, I, L) 0 0 Q :=
  b_D_share_0 (c_kIsHeap1 hk (b_D_share_4 ⟨fun _ => c_kCan0 h.1.1 h.2.1 hv (b_D_share_15 ⟨fun c => absurd rfl c, fun _ => hQ⟩), fun c => absurd c (by decide)⟩))
theorem o_kLeast (h : kR I L D sl x y) {t : Nat} (h1 : shn D 4 ≤ t) (h2 : t ≤ qN D) {q : Int × Nat × Nat × Nat × Nat} (hq : shA D t (nh D 0) none = some q)
    (hQ : ∀ I' L', kFr I I' L L' → kR I' L' D sl (rN q.1 6350400) (rD q.1 6350400) → Q (some (Value.int 1)) (xSH, xRF, I', L')) : xi_V (xG L0 xs) 87 0 [some (Value.ref 0), some (Value.int (nI t))] [] (xSH, xRF, I, L) 0 0 Q := by
  have h10 := h.1.1.1
  refine b_D_least_0 (c_kCan1 h.1.1 h.2.1 h1 h2 (b_D_least_5 ⟨fun _ => c_kShareOut h.1.1 h.2.1 (by omega) (fun I' L' f1 f2 r => b_D_least_22 ?_), fun c => absurd c (by decide)⟩))
  rw [hq] at r
  obtain ⟨r0, r1, -⟩ := r
  have h' := kR_sh h f1 f2
  rw [r1, show (6350400 : Int64) = zL 6350400 by decide]
  refine c_fPut (by omega) (by decide) (fun I2 L2 g1 g2 r2 => b_D_least_39 ⟨by decide, ?_⟩)
  have := kR_res h'.1 g1 (fun a a1 a2 a3 _ _ => g2 a a1 a2 a3) r2
  exact hQ _ _ ⟨fun a ha => (this.2.1 a ha).trans (h'.2.1 a ha), fun a ha => (this.2.2 a ha).trans (h'.2.2 a ha)⟩ this.1
theorem o_kLeast0 (h : kR I L D sl x y) {v : Int32} (hv : v < nI (shn D 4) ∨ nI (qN D) < v) (hQ : Q (some (Value.int 0)) (xSH, xRF, I, L)) : xi_V (xG L0 xs) 87 0 [some (Value.ref 0), some (Value.int v)] [] (xSH, xRF, I, L) 0 0 Q :=
  b_D_least_0 (c_kCan0 h.1.1 h.2.1 hv (b_D_least_5 ⟨fun c => absurd rfl c, fun _ => ⟨by decide, hQ⟩⟩))
end KSH
