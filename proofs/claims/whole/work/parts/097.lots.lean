/-! the class makes its weights -/
theorem bt_and (a b i : Nat) : bt (a &&& b) i = bt a i * bt b i := by
  rw [bt_tb, bt_tb, bt_tb, Nat.testBit_and]
  cases a.testBit i <;> cases b.testBit i <;> rfl
theorem hb_bc {D : xD} (s h : Nat) {N : Nat} : ∀ n, n ≤ N → bc (s &&& hS D h N) n = hb D s h n
  | 0, _ => rfl
  | n + 1, hn' => by
    rw [bc, hb, hb_bc s h n (by omega), bt_and, hS_bt D h N n (by omega)]
    by_cases c : qH D n = h
    · rw [if_pos c, if_pos c, Nat.mul_one]
    · rw [if_neg c, if_neg c, Nat.mul_zero]
theorem hb_10 {D : xD} (hC : okC D) (s h : Nat) : bc (s &&& hS D h (qN D)) 10 = hb D s h (qN D) := by
  have hlt : s &&& hS D h (qN D) < 2 ^ qN D := Nat.lt_of_le_of_lt Nat.and_le_right (hS_lt D h (qN D))
  rw [bc_10 hlt hC.1.2, hb_bc s h _ (Nat.le_refl _)]
/-! the set that a beginning draws, as the class finds it -/
def hit (D : xD) (r i : Nat) : Prop := ((r : Int) - ((qn D * sz D i : Nat) : Int)) % (qT D : Int) < ((qn D * qZ D i : Nat) : Int)
noncomputable def ksS (D : xD) (r : Nat) : Nat → Nat
  | 0 => 0
  | i + 1 => ksS D r i ||| (@ite Nat (hit D r i) (Classical.propDecidable _) (2 ^ i) 0)
theorem ksS_lt (D : xD) (r : Nat) : ∀ i, ksS D r i < 2 ^ i
  | 0 => by show 0 < 1; decide
  | i + 1 => by
    have h1 := ksS_lt D r i
    have h2 : 2 ^ i < 2 ^ (i + 1) := Nat.pow_lt_pow_right (by decide) (Nat.lt_succ_self i)
    rw [ksS]
    split
    · exact Nat.or_lt_two_pow (by omega) h2
    · rw [Nat.or_zero]; omega
theorem ksS_bt (D : xD) (r : Nat) : ∀ n i, i < n → (bt (ksS D r n) i = 1 ↔ hit D r i)
  | 0, i, hi => absurd hi (Nat.not_lt_zero i)
  | n + 1, i, hi => by
    rw [ksS]
    by_cases c : hit D r n
    · rw [if_pos c, bt_set]
      rcases Nat.lt_succ_iff_lt_or_eq.mp hi with z | z
      · rw [if_neg (by omega)]; exact ksS_bt D r n i z
      · subst z; rw [if_pos rfl]; simp [c]
    · rw [if_neg c, Nat.or_zero]
      rcases Nat.lt_succ_iff_lt_or_eq.mp hi with z | z
      · exact ksS_bt D r n i z
      · subst z
        rw [bt_hi (ksS_lt D r i)]
        simp [c]
theorem stS_bt (D : xD) (r : Nat) : ∀ j i, bt (stS D r j) i = 1 ↔ ∃ k, k < j ∧ stA D (r + k * qT D) (qN D) = i
  | 0, i => by
    rw [stS, bt_zero]
    constructor
    · intro h; exact absurd h (by decide)
    · rintro ⟨k, hk, _⟩; exact absurd hk (Nat.not_lt_zero k)
  | j + 1, i => by
    rw [stS, bt_set]
    by_cases c : i = stA D (r + j * qT D) (qN D)
    · rw [if_pos c]
      simp only [true_iff]
      exact ⟨j, Nat.lt_succ_self j, c.symm⟩
    · rw [if_neg c, stS_bt D r j i]
      constructor
      · rintro ⟨k, hk, e⟩; exact ⟨k, by omega, e⟩
      · rintro ⟨k, hk, e⟩
        rcases Nat.lt_succ_iff_lt_or_eq.mp hk with z | z
        · exact ⟨k, z, e⟩
        · subst z; exact absurd e.symm c
/-- a place, and who stands there -/
theorem stA_at {D : xD} {p i : Nat} (hp : p < qn D * qT D) (hi : i < qN D) : stA D p (qN D) = i ↔ (qn D * sz D i ≤ p ∧ p < qn D * sz D (i + 1)) := by
  constructor
  · intro e
    -- who stands there
    have ex : ∃ j, j < qN D ∧ qn D * sz D j ≤ p ∧ p < qn D * sz D (j + 1) := by
      have : ∀ m, m ≤ qN D → p < qn D * sz D m → ∃ j, j < m ∧ qn D * sz D j ≤ p ∧ p < qn D * sz D (j + 1) := by
        intro m
        induction m with
        | zero => intro _ h; rw [show sz D 0 = 0 from rfl, Nat.mul_zero] at h; exact absurd h (Nat.not_lt_zero p)
        | succ m ih =>
          intro hm h
          rcases Nat.lt_or_ge p (qn D * sz D m) with z | z
          · obtain ⟨j, h1, h2⟩ := ih (by omega) z
            exact ⟨j, by omega, h2⟩
          · exact ⟨m, Nat.lt_succ_self m, z, h⟩
      exact this (qN D) (Nat.le_refl _) hp
    obtain ⟨j, hj, h1, h2⟩ := ex
    have := stA_is h1 h2 (qN D)
    rw [if_neg (by omega)] at this
    rw [this] at e
    subst e
    exact ⟨h1, h2⟩
  · rintro ⟨h1, h2⟩
    rw [stA_is h1 h2, if_neg (by omega)]
theorem hit_is {D : xD} (hD : okD D) (hK : qK D = 2) {r i : Nat} (hr : r < qT D) (hi : i < qN D) : hit D r i ↔ ∃ k, k < qn D ∧ stA D (r + k * qT D) (qN D) = i := by
  have hst := (hD.2.2.2.1 hK).2 i hi
  have hZ : qn D * qZ D i ≤ qT D := by rw [Nat.mul_comm]; exact hst
  have hsz : qn D * sz D (i + 1) = qn D * sz D i + qn D * qZ D i := by rw [sz, Nat.mul_add]
  have htop : qn D * sz D (i + 1) ≤ qn D * qT D := Nat.mul_le_mul_left _ (sz_le2 (by omega))
  have hpl : ∀ k, k < qn D → r + k * qT D < qn D * qT D := by
    intro k hk
    have : (k + 1) * qT D ≤ qn D * qT D := Nat.mul_le_mul_right _ hk
    rw [Nat.add_mul, Nat.one_mul] at this
    omega
  unfold hit
  generalize hb : qn D * sz D i = b at *
  generalize hz : qn D * qZ D i = z at *
  constructor
  · intro h
    have h0 := Int.emod_nonneg ((r : Int) - (b : Int)) (show (qT D : Int) ≠ 0 by omega)
    have he := Int.mul_ediv_add_emod ((r : Int) - (b : Int)) (qT D : Int)
    generalize ((r : Int) - (b : Int)) % (qT D : Int) = m at *
    generalize hq : ((r : Int) - (b : Int)) / (qT D : Int) = q at *
    have hq0 : q ≤ 0 := by
      rcases Int.lt_or_le 0 q with w | w
      · have : (qT D : Int) * 1 ≤ (qT D : Int) * q := Int.mul_le_mul_of_nonneg_left (by omega) (by omega)
        omega
      · exact w
    obtain ⟨k, hk⟩ : ∃ k : Nat, q = -(k : Int) := ⟨q.natAbs, by omega⟩
    have e2 : (r : Int) + ((k * qT D : Nat) : Int) = (b : Int) + m := by
      rw [hk, Int.mul_neg] at he
      rw [Int.natCast_mul, Int.mul_comm]
      omega
    have hlt : r + k * qT D < b + z := by omega
    have hkn : k < qn D := by
      rcases Nat.lt_or_ge k (qn D) with w | w
      · exact w
      · have : qn D * qT D ≤ k * qT D := Nat.mul_le_mul_right _ w
        omega
    refine ⟨k, hkn, (stA_at (hpl k hkn) hi).mpr ⟨by omega, by omega⟩⟩
  · rintro ⟨k, hk, e⟩
    obtain ⟨h1, h2⟩ := (stA_at (hpl k hk) hi).mp e
    rw [hb] at h1
    have e3 : (r : Int) - (b : Int) = ((r : Int) + ((k * qT D : Nat) : Int) - (b : Int)) + (-(k : Int)) * (qT D : Int) := by
      rw [Int.natCast_mul, Int.neg_mul]; omega
    rw [e3, Int.add_mul_emod_self_right, Int.emod_eq_of_lt (by omega) (by omega)]
    omega
theorem ks_st {D : xD} (hD : okD D) (hK : qK D = 2) {r : Nat} (hr : r < qT D) : ksS D r (qN D) = stS D r (qn D) := by
  refine bt_ext (ksS_lt D r _) (stS_lt hD.1.1.1 hr _ (Nat.le_refl _)) (fun i hi => ?_)
  have h1 := (ksS_bt D r (qN D) i hi).trans ((hit_is hD hK hr hi).trans (stS_bt D r (qn D) i).symm)
  rcases bt_01 (ksS D r (qN D)) i with z | z <;> rcases bt_01 (stS D r (qn D)) i with w | w
  · rw [z, w]
  · have := h1.mpr w; omega
  · have := h1.mp z; omega
  · rw [z, w]
section LT
variable {L0 : Nat} {xs : Nat → Int32} {Q : xiQ} {I : Nat → Nat → Int32} {L : Nat → Nat → Int64}
variable {D : xD}
theorem i_neg {x : Int32} : x < 0 ↔ x.toBitVec.msb = true := by
  show x.toBitVec.slt 0#32 = true ↔ _
  exact BitVec.slt_zero_iff_msb_cond
theorem i_xor {x y : Int32} (hy : ¬ y < 0) : (0 : Int32) ≤ x ^^^ y ↔ ¬ x < 0 := by
  have h : (x ^^^ y) < 0 ↔ x < 0 := by
    rw [i_neg, i_neg, Int32.toBitVec_xor, BitVec.msb_xor]
    rw [i_neg] at hy
    have : y.toBitVec.msb = false := by simpa using hy
    rw [this]; simp
  rw [← h, Int32.lt_iff_toInt_lt, Int32.le_iff_toInt_le]
  omega
theorem c_floorModI {a t : Int} (ha : -1000000 ≤ a ∧ a ≤ 1000000) (ht : 1 ≤ t ∧ t ≤ 1000000) (hQ : Q (some (Value.int (zI (a % t)))) (xSH, xRF, I, L)) : xi_V (xG L0 xs) 2 0 [some (Value.int (zI a)), some (Value.int (zI t)), none] [] (xSH, xRF, I, L) 0 0 Q := by
  have ta : (zI a).toInt = a := zI_t (by omega) (by omega)
  have tt : (zI t).toInt = t := zI_t (by omega) (by omega)
  have t0 : (0 : Int32).toInt = 0 := by decide
  have ne : ¬ zI t = 0 := fun e => by
    have := congrArg Int32.toInt e
    rw [tt, t0] at this
    omega
  have hm1 := Int.tmod_lt_of_pos a (show 0 < t by omega)
  have hm2 : -t < a.tmod t := by
    have := Int.tmod_lt_of_pos (-a) (show 0 < t by omega)
    rw [Int.neg_tmod] at this
    omega
  have em := Int.mul_tdiv_add_tmod a t
  rw [Int.mul_comm] at em
  have ed : (zI a / zI t).toInt = a.tdiv t := by
    rw [Int32.toInt_div_of_ne_right _ _ (fun e => by
      have := congrArg Int32.toInt e
      rw [tt] at this
      have e1 : (-1 : Int32).toInt = -1 := by decide
      omega), ta, tt]
  have er : zI a - zI a / zI t * zI t = zI (a.tmod t) := by
    apply Int32.toInt_inj.mp
    have e2 : (zI a / zI t * zI t).toInt = a.tdiv t * t := by rw [fb_mulI (by rw [ed, tt]; omega) (by rw [ed, tt]; omega), ed, tt]
    rw [fb_subI (by rw [ta, e2]; omega) (by rw [ta, e2]; omega), ta, e2, zI_t (by omega) (by omega)]
    omega
  have hee := Int.mul_ediv_add_emod a t
  have h0 := Int.emod_nonneg a (show t ≠ 0 by omega)
  have h1 := Int.emod_lt_of_pos a (show 0 < t by omega)
  have hneg : ¬ zI t < 0 := by rw [Int32.lt_iff_toInt_lt, tt, t0]; omega
  refine b_Math_floorModI_0 ⟨ne, ?_⟩
  rw [er, i_xor hneg, Int32.lt_iff_toInt_lt, ta, t0]
  refine ⟨fun c => ?_, fun c => ⟨fun c2 => ?_, fun c2 => ?_⟩⟩
  · rw [Int.tmod_eq_emod_of_nonneg (by omega)]; exact hQ
  · have c2 := congrArg Int32.toInt c2
    rw [zI_t (by omega) (by omega), t0] at c2
    have : a % t = 0 := by
      have hd : t ∣ a := Int.dvd_of_tmod_eq_zero c2
      exact Int.emod_eq_zero_of_dvd hd
    rw [this] at hQ
    rw [c2]; exact hQ
  · rw [zI_add]
    have c3 : a.tmod t ≠ 0 := fun e => c2 (by rw [e]; rfl)
    have hneg2 : a.tmod t < 0 := by
      have : 0 ≤ (-a).tmod t := Int.tmod_nonneg t (by omega)
      rw [Int.neg_tmod] at this
      omega
    have e : a.tmod t + t = a % t := by
      have e2 : (a.tdiv t * t + a.tmod t) % t = a.tmod t % t := by rw [Int.add_comm, Int.add_mul_emod_self_right]
      rw [em] at e2
      have e1 : a % t = (a.tmod t + t) % t := by rw [e2, Int.add_emod_right]
      rw [e1, Int.emod_eq_of_lt (by omega) (by omega)]
    rw [e]; exact hQ
theorem c_kFitH_lp (hD0 : okD D) (hI : kC I D) (hD : kD I D) {s : Nat} (hs : s < 1024)
    (hQ : (byH D s → Q (some (Value.int 1)) (xSH, xRF, I, L)) ∧ (¬ byH D s → Q (some (Value.int 0)) (xSH, xRF, I, L))) :
    ∀ n h : Nat, h + n = 4 → (∀ k, k < h → hb D s k (qN D) = qd D k) → xi_V (xG L0 xs) 45 2 [some (Value.ref 10), some (Value.ref 5), some (Value.int (nI s)), some (Value.int (nI h))] [] (xSH, xRF, I, L) 0 0 Q
  | 0, h, hn', hk => by
    exact b_Lots_fitsHeaps_2 (pk_le 4 h (fun c => ⟨by decide, hQ.1 (fun k hk2 => hk k (by omega))⟩) (fun c => absurd c (by omega)))
  | n + 1, h, hn', hk => by
    have h10 := hD0.1.1
    have h1 := hD0.2.2.2.2.1 h (by omega)
    have h2 := hn_le D h (qN D)
    have h3 := hb_le D s h (qN D)
    have e1 : hN D h = hn D h (qN D) := rfl
    have hle : s &&& hS D h (qN D) ≤ s := Nat.and_le_left
    refine b_Lots_fitsHeaps_2 (pk_le 4 h (fun c => absurd c (by omega)) (fun c => ⟨pk_in h 4 (by omega), ?_⟩))
    rw [nI_clamp (by omega), hI.2.2 h (by omega), nI_and]
    refine c_bitCount (by omega) (b_Lots_fitsHeaps_18 ⟨pk_in h 4 (by omega), ?_⟩)
    rw [nI_clamp (by omega), hD.2.2 h (by omega), hb_10 hD0.1, nI_1]
    refine pk_eq (hb D s h (qN D)) (qd D h) (fun e => c_kFitH_lp hD0 hI hD hs hQ n (h + 1) (by omega) (fun k hk2 => ?_)) (fun e => ⟨by decide, hQ.2 (fun z => e (z h (by omega)))⟩)
    by_cases e2 : k = h
    · subst e2; exact e
    · exact hk k (by omega)
theorem c_kFitS_lp (hC : okC D) (hI : kC I D) {s : Nat} (hs : s < 1024)
    (hQ : (fits D s → Q (some (Value.int 1)) (xSH, xRF, I, L)) ∧ (¬ fits D s → Q (some (Value.int 0)) (xSH, xRF, I, L))) :
    ∀ n i : Nat, i + n = qN D → (∀ k, k < i → qS D k ≠ (if bt s k = 1 then 0 else 100)) → xi_V (xG L0 xs) 46 2 [some (Value.ref 10), some (Value.ref 5), some (Value.int (nI s)), some (Value.int (nI i)), none] [] (xSH, xRF, I, L) 0 0 Q
  | 0, i, hn', hk => by
    have h10 := hC.1
    refine b_Lots_fitsShares_2 ?_
    rw [hI.1]
    exact pk_le (qN D) i (fun c => ⟨by decide, hQ.1 (fun k hk2 => hk k (by omega))⟩) (fun c => absurd c (by omega))
  | n + 1, i, hn', hk => by
    have h10 := hC.1
    have go : ∀ b : Nat, b = (if bt s i = 1 then 0 else 100) → i < qN D → xi_V (xG L0 xs) 46 25 [some (Value.ref 10), some (Value.ref 5), some (Value.int (nI s)), some (Value.int (nI i)), none] [Value.int (nI b)] (xSH, xRF, I, L) 0 0 Q := by
      intro b eb hi
      have hS' := (hC.2 i hi).2.2.2
      refine b_Lots_fitsShares_25 ⟨pk_in i 10 (by omega), ?_⟩
      rw [nI_clamp (by omega), (hI.2.1 i hi).2.2, nI_1]
      have hb100 : b ≤ 100 := by rw [eb]; split <;> omega
      refine ⟨fun e => c_kFitS_lp hC hI hs hQ n (i + 1) (by omega) (fun k hk2 => ?_), fun e => ⟨by decide, hQ.2 (fun z => z i hi ?_)⟩⟩
      · by_cases e2 : k = i
        · subst e2; rw [← eb]; exact fun z => e (by rw [z])
        · exact hk k (by omega)
      · rw [← eb]; exact (nI_eq (by omega) (by omega)).mp e
    refine b_Lots_fitsShares_2 ?_
    rw [hI.1, bt_I (by omega) (by omega), bt_is1]
    exact pk_le (qN D) i (fun c => absurd c (by omega)) (fun c => ⟨fun e => go 100 (by rw [if_neg e]) c, fun e => go 0 (by rw [if_pos e]) c⟩)
theorem c_kProd_lp (hC : okC D) (hI : kC I D) {s : Nat} (hs : s < 1024) (hQ : Q (some (Value.long (zL (pb (f4 D) s (qN D))))) (xSH, xRF, I, L)) :
    ∀ n i : Nat, i + n = qN D → xi_V (xG L0 xs) 47 18 [some (Value.ref 10), some (Value.ref 5), some (Value.int (nI s)), some (Value.long (zL (pb (f4 D) s i))), none, some (Value.int (nI i))] [] (xSH, xRF, I, L) 0 0 Q
  | 0, i, hn' => by
    have h10 := hC.1
    refine b_Lots_product_18 ?_
    rw [hI.1]
    refine pk_le (qN D) i (fun c => ?_) (fun c => absurd c (by omega))
    rw [show i = qN D by omega]; exact hQ
  | n + 1, i, hn' => by
    have h10 := hC.1
    have ih := c_kProd_lp hC hI hs hQ n (i + 1) (by omega)
    rw [pb] at ih
    refine b_Lots_product_18 ?_
    rw [hI.1, bt_I (by omega) (by omega), bt_is1, nI_1, nI_clamp (by omega)]
    refine pk_le (qN D) i (fun c => absurd c (by omega)) (fun c => ⟨fun e => ?_, fun e => ⟨pk_in i 10 (by omega), ?_⟩⟩)
    · rw [show f4 D i (bt s i) = 1 by show (if bt s i = 1 then (qZ D i : Int) else 1) = 1; rw [if_neg e], Int.mul_one] at ih
      exact ih
    · have hZ := (hC.2 i c).2.1
      rw [show f4 D i (bt s i) = (qZ D i : Int) by show (if bt s i = 1 then (qZ D i : Int) else 1) = _; rw [if_pos e]] at ih
      rw [(hI.2.1 i c).2.1, nI_L (by omega), zL_mul]
      exact ih
/-- weigh -/
theorem c_kWeigh (hD0 : okD D) (hI : kC I D) (hD : kD I D) {s : Nat} (hs : s < 1024) (hQ : Q (some (Value.long (if qK D = 2 then 0 else zL (wk D s)))) (xSH, xRF, I, L)) : xi_V (xG L0 xs) 44 0 [some (Value.ref 10), some (Value.ref 5), some (Value.int (nI s))] [] (xSH, xRF, I, L) 0 0 Q := by
  have h10 := hD0.1.1
  have hK4 := hD0.2.1
  have hn10 := hD0.2.2.1
  have hbc := bc_le s 10
  have tK : (I 10 0).toInt = (qK D : Int) := by rw [hD.1]; exact nI_toInt (by omega)
  refine b_Lots_weigh_0 ?_
  rw [tK]
  unfold wk at hQ
  refine ⟨fun c => absurd c (by omega), fun c => ?_, fun c => ?_, fun c => ?_, fun c => ?_, fun c => ?_, trivial⟩
  · have e : qK D = 0 := by omega
    rw [if_neg (by omega), if_pos e] at hQ
    refine c_bitCount hs (b_Lots_weigh_44 ?_)
    rw [hD.2.1]
    unfold w0 at hQ
    refine (pk_eq (bc s 10) (qn D) (fun z => ?_) (fun z => ?_)).symm
    · rw [if_pos z] at hQ; exact hQ
    · rw [if_neg z] at hQ; exact hQ
  · have e : qK D = 1 := by omega
    rw [if_neg (by omega), if_neg (by omega), if_pos e] at hQ
    unfold w1 at hQ
    refine b_Lots_fitsHeaps_0 (c_kFitH_lp hD0 hI hD hs ⟨fun z => b_Lots_weigh_63 ⟨fun c => absurd c (by decide), fun _ => ?_⟩, fun z => b_Lots_weigh_63 ⟨fun _ => ?_, fun c => absurd rfl c⟩⟩ 4 0 rfl (fun k hk => absurd hk (Nat.not_lt_zero k)))
    · rw [if_pos z] at hQ; exact hQ
    · rw [if_neg z] at hQ; exact hQ
  · rw [if_pos (by omega)] at hQ; exact hQ
  · have e : qK D = 3 := by omega
    rw [if_neg (by omega), if_neg (by omega), if_neg (by omega), if_neg (by omega), if_pos e] at hQ
    unfold w3k at hQ
    refine b_Lots_fitsShares_0 (c_kFitS_lp hD0.1 hI hs ⟨fun z => b_Lots_weigh_78 ⟨fun c => absurd c (by decide), fun _ => ?_⟩, fun z => b_Lots_weigh_78 ⟨fun _ => ?_, fun c => absurd rfl c⟩⟩ (qN D) 0 (Nat.zero_add _) (fun k hk => absurd hk (Nat.not_lt_zero k)))
    · rw [if_pos z] at hQ; exact hQ
    · rw [if_neg z] at hQ; exact hQ
  · rw [if_neg (by omega), if_neg (by omega), if_neg (by omega), if_neg (by omega), if_neg (by omega)] at hQ
    refine c_bitCount hs (b_Lots_weigh_91 ?_)
    rw [hD.2.1]
    refine (pk_eq (bc s 10) (qn D) (fun z => b_Lots_product_0 ?_) (fun z => ?_)).symm
    · rw [hD.2.1, hI.1]
      have e0 : w0 D s = 1 := by unfold w0; rw [if_pos z]
      refine ⟨fun e => ?_, fun e => b_Lots_weigh_104 ?_⟩
      · rw [if_neg (fun w => e (by rw [w])), w4_pb, e0, Int.one_mul] at hQ
        exact c_kProd_lp hD0.1 hI hs (b_Lots_weigh_104 hQ) (qN D) 0 (Nat.zero_add _)
      · rw [if_pos ((nI_eq (by omega) (by omega)).mp e), e0] at hQ
        exact hQ
    · have e0 : w0 D s = 0 := by unfold w0; rw [if_neg z]
      have e4 : (if qn D = qN D then w0 D s else w4 D s (qN D)) = 0 := by
        split
        · exact e0
        · rw [w4_pb, e0, Int.zero_mul]
      rw [e4] at hQ
      exact hQ
theorem c_kSetF_lp (hD0 : okD D) (hI : kC I D) (hD : kD I D) {r : Nat} (hr : r < qT D) (hQ : Q (some (Value.int (nI (ksS D r (qN D))))) (xSH, xRF, I, L)) :
    ∀ n i : Nat, i + n = qN D → xi_V (xG L0 xs) 49 9 [some (Value.ref 10), some (Value.ref 5), some (Value.int (nI r)), some (Value.int (nI (qT D))), some (Value.int (nI (ksS D r i))), some (Value.int (nI (qn D * sz D i))), some (Value.int (nI i)), none] [] (xSH, xRF, I, L) 0 0 Q
  | 0, i, hn' => by
    have h10 := hD0.1.1
    refine b_Lots_setFrom_9 ?_
    rw [hI.1]
    refine pk_le (qN D) i (fun c => ?_) (fun c => absurd c (by omega))
    rw [show i = qN D by omega]; exact hQ
  | n + 1, i, hn' => by
    have h10 := hD0.1.1
    have hn10 := hD0.2.2.1
    have hT := qT_le hD0.1
    have hi : i < qN D := by omega
    have hZ := (hD0.1.2 i hi).2.1
    have hsl : qn D * sz D i ≤ 10 * 500 := Nat.mul_le_mul (by omega) (Nat.le_trans (sz_le2 (show i ≤ qN D by omega)) hT)
    have hzl : qn D * qZ D i ≤ 10 * 50 := Nat.mul_le_mul (by omega) hZ.2
    have ih := c_kSetF_lp hD0 hI hD hr hQ n (i + 1) (by omega)
    rw [sz, Nat.mul_add] at ih
    refine b_Lots_setFrom_9 ?_
    rw [hI.1, nI_clamp (by omega), hD.2.1, (hI.2.1 i hi).2.1, pk_mul]
    refine pk_le (qN D) i (fun c => absurd c (by omega)) (fun _ => ⟨pk_in i 10 (by omega), ?_⟩)
    rw [zI_n r, zI_n (qn D * sz D i), zI_sub, zI_n (qT D)]
    refine c_floorModI (by omega) (by omega) (b_Lots_setFrom_40 ?_)
    have h0 := Int.emod_nonneg ((r : Int) - ((qn D * sz D i : Nat) : Int)) (show (qT D : Int) ≠ 0 by omega)
    have h1 := Int.emod_lt_of_pos ((r : Int) - ((qn D * sz D i : Nat) : Int)) (show (0 : Int) < (qT D : Int) by omega)
    rw [zI_n (qn D * qZ D i), zI_le (by omega) (by omega) (by omega) (by omega)]
    rw [ksS] at ih
    refine ⟨fun c => b_Lots_setFrom_54 ?_, fun c => b_Lots_setFrom_54 ?_⟩
    · rw [if_neg (show ¬ hit D r i by unfold hit; omega), Nat.or_zero] at ih
      rw [zI_nn, zI_nn, zI_nn, zI_nn, nI_add, nI_1]
      exact ih
    · rw [if_pos (show hit D r i by unfold hit; omega)] at ih
      rw [zI_nn, zI_nn, zI_nn, zI_nn, nI_add, nI_1, sh_1 (by omega), nI_or]
      exact ih
theorem c_kStarts_lp (hD0 : okD D) (hI : kC I D) (hD : kD I D) (hK : qK D = 2)
    (hQ : ∀ L', (∀ a, a ≠ 12 → L' a = L a) → (∀ s, s < 2 ^ qN D → L' 12 s = zL (wS D s (qT D))) → Q none (xSH, xRF, I, L')) :
    ∀ (n r : Nat) (L1 : Nat → Nat → Int64), r + n = qT D → (∀ a, a ≠ 12 → L1 a = L a) → (∀ s, s < 2 ^ qN D → L1 12 s = zL (wS D s r)) → xi_V (xG L0 xs) 48 7 [some (Value.ref 10), some (Value.ref 5), some (Value.int (nI (qT D))), some (Value.int (nI r))] [] (xSH, xRF, I, L1) 0 0 Q
  | 0, r, L1, hn', f, hw => by
    have hT := qT_le hD0.1
    refine b_Lots_weighStarts_7 (pk_le (qT D) r (fun c => hQ L1 f ?_) (fun c => absurd c (by omega)))
    rw [show qT D = r by omega]; exact hw
  | n + 1, r, L1, hn', f, hw => by
    have h10 := hD0.1.1
    have hp := p2_lt h10.2
    have hT := qT_le hD0.1
    have hr : r < qT D := by omega
    have hlt := stS_lt h10.1 hr (qn D) (Nat.le_refl _)
    refine b_Lots_weighStarts_7 (pk_le (qT D) r (fun c => absurd c (by omega)) (fun _ => b_Lots_setFrom_0 (c_kSetF_lp hD0 hI hD hr (b_Lots_weighStarts_23 ?_) (qN D) 0 (Nat.zero_add _))))
    rw [ks_st hD0 hK hr, nI_clamp (by omega), nI_1, hw _ hlt, show (1 : Int64) = zL 1 by decide, zL_add]
    refine ⟨pk_in (stS D r (qn D)) 1024 (by omega), pk_in (stS D r (qn D)) 1024 (by omega), c_kStarts_lp hD0 hI hD hK hQ n (r + 1) _ (by omega) (fun a ha => (xi_un ha).trans (f a ha)) (fun s hs => ?_)⟩
    rw [wS]
    by_cases e : stS D r (qn D) = s
    · subst e; rw [xi_us, if_pos rfl]
    · rw [xi_uj (fun z => e z.symm), if_neg e, Int.add_zero]; exact hw s hs
end LT
