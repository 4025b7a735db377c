/-! crowd of the model -/
def fok (j : Nat) (v : Int) : Prop := (j % 4 = 0 → -100 ≤ v ∧ v ≤ 100) ∧ (j % 4 = 1 → 1 ≤ v ∧ v ≤ 50) ∧ (j % 4 = 2 → 0 ≤ v ∧ v ≤ 3) ∧ (j % 4 = 3 → 0 ≤ v ∧ v ≤ 100)
def crD (val : Nat → Int64) (N : Nat) : xD := (N, fun i => (val (1 + 4 * i)).toInt, fun i => (val (2 + 4 * i)).toInt.toNat, fun i => (val (3 + 4 * i)).toInt.toNat, fun i => (val (4 + 4 * i)).toInt.toNat, 0, 1, fun _ => 0)
theorem okD_cr {val : Nat → Int64} {N : Nat} (h1 : 1 ≤ N ∧ N ≤ 10) (h : ∀ k, k < 4 * N → fok k (val (k + 1)).toInt) : okD (crD val N) := by
  refine ⟨⟨h1, fun i hi => ⟨?_, ?_, ?_, ?_⟩⟩, Nat.zero_le 4, h1.1, fun z => absurd z (show ¬ (0 : Nat) = 2 by decide), fun k hk => Nat.zero_le _, fun z => ?_⟩
  · have hi : i < N := hi
    have := (h (4 * i) (by omega)).1 (by omega)
    rw [Nat.add_comm] at this
    exact this
  · have hi : i < N := hi
    have := (h (4 * i + 1) (by omega)).2.1 (by omega)
    rw [show 4 * i + 1 + 1 = 2 + 4 * i by omega] at this
    show 1 ≤ (val (2 + 4 * i)).toInt.toNat ∧ (val (2 + 4 * i)).toInt.toNat ≤ 50
    omega
  · have hi : i < N := hi
    have := (h (4 * i + 2) (by omega)).2.2.1 (by omega)
    rw [show 4 * i + 2 + 1 = 3 + 4 * i by omega] at this
    show (val (3 + 4 * i)).toInt.toNat ≤ 3
    omega
  · have hi : i < N := hi
    have := (h (4 * i + 3) (by omega)).2.2.2 (by omega)
    rw [show 4 * i + 3 + 1 = 4 + 4 * i by omega] at this
    show (val (4 + 4 * i)).toInt.toNat ≤ 100
    omega
  · rcases z with z | z
    · exact absurd z (show ¬ (0 : Nat) = 1 by decide)
    · exact absurd z (show ¬ (0 : Nat) = 3 by decide)
theorem l2i (v : Int64) : v.toInt32 = zI v.toInt := by
  apply Int32.toInt_inj.mp
  rw [Int64.toInt_toInt32, Int32.toInt_ofInt]
section MCR
variable {L0 : Nat} {xs : Nat → Int32} {Q : xiQ} {I : Nat → Nat → Int32} {L : Nat → Nat → Int64}
variable {D : xD} {sl : xL} {x y A P : Int}
/-- one fact -/
theorem c_mCrowd_st {s len N i : Nat} {v : Int64} (hs : s < 8) (hl : len ≤ 60) (hN : N ≤ 10) (hi : i + 1 < len) (hi2 : i < 4 * N) (hv : L 41 (60 * s + (i + 1)) = v)
    (hQ : (fok i v.toInt → xi_V (xG L0 xs) 129 235 [some (Value.ref 37), some (Value.int (nI s)), some (Value.int (nI len)), some (Value.int (nI (1 + 4 * N))), some (Value.int (nI (i + 1))), some (Value.long v), none, some (Value.int ((1 : Int32))), none] [] (xSH, xRF, I, L) 0 0 Q) ∧ (¬ fok i v.toInt → xi_V (xG L0 xs) 129 235 [some (Value.ref 37), some (Value.int (nI s)), some (Value.int (nI len)), some (Value.int (nI (1 + 4 * N))), some (Value.int (nI (i + 1))), some (Value.long v), none, some (Value.int ((0 : Int32))), none] [] (xSH, xRF, I, L) 0 0 Q)) :
    xi_V (xG L0 xs) 129 36 [some (Value.ref 37), some (Value.int (nI s)), some (Value.int (nI len)), some (Value.int (nI (1 + 4 * N))), some (Value.int (nI (i + 1))), none, none, none, none] [] (xSH, xRF, I, L) 0 0 Q := by
  have e1 : nI (i + 1) - 1 - (nI (i + 1) - 1) / 4 * 4 = nI (i % 4) := by rw [nI_pred, show (4 : Int32) = nI 4 from rfl, pk_rem (by omega) (by decide) (by decide)]
  have t0 : (0 : Int64).toInt = 0 := by decide
  have t1 : (1 : Int64).toInt = 1 := by decide
  have t3 : (3 : Int64).toInt = 3 := by decide
  have t50 : (50 : Int64).toInt = 50 := by decide
  have t100 : (100 : Int64).toInt = 100 := by decide
  have tm : (-100 : Int64).toInt = -100 := by decide
  refine b_M_crowd_36 ?_
  rw [e1, show (60 : Int32) = nI 60 from rfl, pk_mul, nI_add, nI_clamp (show 60 * s + (i + 1) < 2 ^ 31 by omega), hv]
  simp only [cmp_lt, cmp_gt, Int64.lt_iff_toInt_lt, t0, t1, t3, t50, t100, tm]
  refine pk_le (1 + 4 * N) (i + 1) (fun c => absurd c (by omega)) (fun _ => pk_lt (i + 1) len (fun _ => ⟨pk_in (60 * s + (i + 1)) 480 (by omega), ⟨fun _ => ⟨by decide, ?_⟩, fun c => absurd c (nI_ne0 (by omega) (by omega))⟩⟩) (fun c => absurd c (by omega)))
  have hm : i % 4 < 4 := Nat.mod_lt _ (by decide)
  have q : ∀ {k : Nat}, k < 4 → nI (i % 4) = nI k → i % 4 = k := fun hk z => (nI_eq (by omega) (by omega)).mp z
  refine ⟨fun a0 => ⟨fun a1 => ⟨fun a2 => ⟨fun c => hQ.2 (fun z => ?_), fun c => ⟨fun c2 => hQ.2 (fun z => ?_), fun c2 => hQ.1 ?_⟩⟩, fun a2 => ⟨fun c => hQ.2 (fun z => ?_), fun c => ⟨fun c2 => hQ.2 (fun z => ?_), fun c2 => hQ.1 ?_⟩⟩⟩, fun a1 => ⟨fun c => hQ.2 (fun z => ?_), fun c => ⟨fun c2 => hQ.2 (fun z => ?_), fun c2 => hQ.1 ?_⟩⟩⟩, fun a0 => ⟨fun c => hQ.2 (fun z => ?_), fun c => ⟨fun c2 => hQ.2 (fun z => ?_), fun c2 => hQ.1 ?_⟩⟩⟩
  · have b0 : i % 4 ≠ 0 := fun z => a0 (by rw [z]; rfl)
    have b1 : i % 4 ≠ 1 := fun z => a1 (by rw [z]; rfl)
    have b2 : i % 4 ≠ 2 := fun z => a2 (by rw [z]; rfl)
    have := z.2.2.2 (by omega); omega
  · have b0 : i % 4 ≠ 0 := fun z => a0 (by rw [z]; rfl)
    have b1 : i % 4 ≠ 1 := fun z => a1 (by rw [z]; rfl)
    have b2 : i % 4 ≠ 2 := fun z => a2 (by rw [z]; rfl)
    have := z.2.2.2 (by omega); omega
  · have b0 : i % 4 ≠ 0 := fun z => a0 (by rw [z]; rfl)
    have b1 : i % 4 ≠ 1 := fun z => a1 (by rw [z]; rfl)
    have b2 : i % 4 ≠ 2 := fun z => a2 (by rw [z]; rfl)
    exact ⟨fun z => by omega, fun z => by omega, fun z => by omega, fun z => by omega⟩
  · have := z.2.2.1 (q (by decide) a2); omega
  · have := z.2.2.1 (q (by decide) a2); omega
  · have e := q (k := 2) (by decide) a2
    exact ⟨fun z => by omega, fun z => by omega, fun z => by omega, fun z => by omega⟩
  · have := z.2.1 (q (by decide) a1); omega
  · have := z.2.1 (q (by decide) a1); omega
  · have e := q (k := 1) (by decide) a1
    exact ⟨fun z => by omega, fun z => by omega, fun z => by omega, fun z => by omega⟩
  · have := z.1 (q (by decide) a0); omega
  · have := z.1 (q (by decide) a0); omega
  · have e := q (k := 0) (by decide) a0
    exact ⟨fun z => by omega, fun z => by omega, fun z => by omega, fun z => by omega⟩
theorem c_mCrowd_lp {s len N j : Nat} {val : Nat → Int64} (hs : s < 8) (hl : len ≤ 60) (hN : N ≤ 10) (hj : j ≤ 4 * N) (hv : ∀ k, k < len → L 41 (60 * s + k) = val k) (hok : ∀ k, k < j → k + 1 < len ∧ fok k (val (k + 1)).toInt)
    (hQ : ∀ I', (∀ a, a ≠ 50 → I' a = I a) → (∀ k, k < j + 1 → I' 50 k = zI (val k).toInt) → xi_V (xG L0 xs) 129 36 [some (Value.ref 37), some (Value.int (nI s)), some (Value.int (nI len)), some (Value.int (nI (1 + 4 * N))), some (Value.int (nI (j + 1))), none, none, none, none] [] (xSH, xRF, I', L) 0 0 Q) :
    ∀ (m i : Nat) (I1 : Nat → Nat → Int32), i + m = j → (∀ a, a ≠ 50 → I1 a = I a) → (∀ k, k < i + 1 → I1 50 k = zI (val k).toInt) → xi_V (xG L0 xs) 129 36 [some (Value.ref 37), some (Value.int (nI s)), some (Value.int (nI len)), some (Value.int (nI (1 + 4 * N))), some (Value.int (nI (i + 1))), none, none, none, none] [] (xSH, xRF, I1, L) 0 0 Q
  | 0, i, I1, hm, h1, h2 => by
    rw [show i = j by omega] at h2 ⊢
    exact hQ I1 h1 h2
  | m + 1, i, I1, hm, h1, h2 => by
    have hk := hok i (by omega)
    refine c_mCrowd_st hs hl hN hk.1 (by omega) (hv (i + 1) hk.1) ⟨fun _ => b_M_crowd_235 ⟨fun _ => ⟨pk_in (i + 1) 41 (by omega), ?_⟩, fun c => absurd c (by decide)⟩, fun z => absurd hk.2 z⟩
    rw [nI_clamp (by omega), nI_1, l2i]
    refine c_mCrowd_lp hs hl hN hj hv hok hQ m (i + 1) _ (by omega) (fun a ha => (xi_un ha).trans (h1 a ha)) (fun k hk2 => ?_)
    by_cases e : k = i + 1
    · subst e; exact xi_us
    · rw [xi_uj e]; exact h2 k (by omega)
/-- the first number -/
theorem c_mCrowd_0 {s len : Nat} {val : Nat → Int64} (hs : s < 8) (hl : len ≤ 60) (h0 : 0 < len) (hv : ∀ k, k < len → L 41 (60 * s + k) = val k)
    (hQ : (∀ N : Nat, (val 0).toInt = (N : Int) → 1 ≤ N → N ≤ 10 → xi_V (xG L0 xs) 129 36 [some (Value.ref 37), some (Value.int (nI s)), some (Value.int (nI len)), some (Value.int (nI (1 + 4 * N))), some (Value.int (nI 1)), none, none, none, none] [] (xSH, xRF, xi_u I 50 0 (zI (val 0).toInt), L) 0 0 Q) ∧ (¬ (1 ≤ (val 0).toInt ∧ (val 0).toInt ≤ 10) → Q (some (Value.int (-4))) (xSH, xRF, I, L))) :
    xi_V (xG L0 xs) 129 36 [some (Value.ref 37), some (Value.int (nI s)), some (Value.int (nI len)), some (Value.int ((1 : Int32))), some (Value.int ((0 : Int32))), none, none, none, none] [] (xSH, xRF, I, L) 0 0 Q := by
  have t1 : (1 : Int64).toInt = 1 := by decide
  have t10 : (10 : Int64).toInt = 10 := by decide
  have bad : ¬ (1 ≤ (val 0).toInt ∧ (val 0).toInt ≤ 10) → xi_V (xG L0 xs) 129 90 [some (Value.ref 37), some (Value.int (nI s)), some (Value.int (nI len)), some (Value.int ((1 : Int32))), some (Value.int ((0 : Int32))), some (Value.long ((val 0))), none, none, none] [] (xSH, xRF, I, L) 0 0 Q := fun z =>
    b_M_crowd_90 (b_M_crowd_91 ⟨fun _ => b_M_crowd_109 (b_M_crowd_235 ⟨fun c => absurd rfl c, fun _ => hQ.2 z⟩), fun c => absurd rfl c⟩)
  refine b_M_crowd_36 ?_
  have e0 : (60 : Int32) * nI s + 0 = nI (60 * s) := by rw [show (60 : Int32) = nI 60 from rfl, pk_mul, show (0 : Int32) = nI 0 from rfl, nI_add]; rfl
  rw [e0, nI_clamp (show 60 * s < 2 ^ 31 by omega), show L 41 (60 * s) = val 0 from hv 0 h0]
  simp only [cmp_lt, cmp_gt, Int64.lt_iff_toInt_lt, t1, t10]
  refine pk_le 1 0 (fun c => absurd c (by decide)) (fun _ => pk_lt 0 len (fun _ => ⟨pk_in (60 * s) 480 (by omega), ⟨fun c => absurd trivial c, fun _ => ⟨fun c => bad (by omega), fun c => ⟨fun c2 => bad (by omega), fun c2 => ?_⟩⟩⟩⟩) (fun c => absurd c (by omega)))
  obtain ⟨N, hN⟩ : ∃ N : Nat, (val 0).toInt = (N : Int) := ⟨(val 0).toInt.toNat, by omega⟩
  refine b_M_crowd_91 ⟨fun c => absurd c (by decide), fun _ => b_M_crowd_109 (b_M_crowd_235 ⟨fun _ => ⟨pk_in 0 41 (by decide), ?_⟩, fun c => absurd c (by decide)⟩)⟩
  have := hQ.1 N hN (by omega) (by omega)
  rw [l2i, show (0 : Int32).toNatClampNeg = 0 from rfl]
  rw [hN] at this ⊢
  rw [show (1 : Int32) + 4 * zI (N : Int) = nI (1 + 4 * N) by rw [zI_nn, show (4 : Int32) = nI 4 from rfl, pk_mul, show (1 : Int32) = nI 1 from rfl, nI_add]]
  exact this
theorem c_mCrowd272 {s len N : Nat} {v3 : Int32} {val : Nat → Int64} {I0 : Nat → Nat → Int32} (hN : N ≤ 10)
    (hQ : ∀ I', (∀ a, a ≠ 42 → a ≠ 43 → a ≠ 44 → a ≠ 45 → I' a = I0 a) → (∀ k, k < N → I' 42 k = zI (val (1 + 4 * k)).toInt ∧ I' 43 k = zI (val (2 + 4 * k)).toInt ∧ I' 44 k = zI (val (3 + 4 * k)).toInt ∧ I' 45 k = zI (val (4 + 4 * k)).toInt) → xi_V (xG L0 xs) 129 362 [some (Value.ref 37), some (Value.int (nI s)), some (Value.int (nI len)), some (Value.int v3), some (Value.int ((0 : Int32))), none, none, none, none] [] (xSH, xRF, I', L) 0 0 Q) (h5 : I0 37 5 = nI N) (h50 : ∀ k, k < 1 + 4 * N → I0 50 k = zI (val k).toInt) :
    ∀ (m i : Nat) (I1 : Nat → Nat → Int32), i + m = N → (∀ a, a ≠ 42 → a ≠ 43 → a ≠ 44 → a ≠ 45 → I1 a = I0 a) → (∀ k, k < i → I1 42 k = zI (val (1 + 4 * k)).toInt ∧ I1 43 k = zI (val (2 + 4 * k)).toInt ∧ I1 44 k = zI (val (3 + 4 * k)).toInt ∧ I1 45 k = zI (val (4 + 4 * k)).toInt) → xi_V (xG L0 xs) 129 272 [some (Value.ref 37), some (Value.int (nI s)), some (Value.int (nI len)), some (Value.int v3), some (Value.int (nI i)), none, none, none, none] [] (xSH, xRF, I1, L) 0 0 Q
  | 0, i, I1, hm, h1, h2 => by
    refine b_M_crowd_272 ?_
    rw [h1 37 (by decide) (by decide) (by decide) (by decide), h5]
    exact pk_le N i (fun c => hQ I1 h1 (fun k hk => h2 k (by omega))) (fun c => absurd c (by omega))
  | m + 1, i, I1, hm, h1, h2 => by
    refine b_M_crowd_272 ?_
    have e1 : (1 : Int32) + 4 * nI i = nI (1 + 4 * i) := by rw [show (4 : Int32) = nI 4 from rfl, pk_mul, show (1 : Int32) = nI 1 from rfl, nI_add]
    have e2 : (2 : Int32) + 4 * nI i = nI (2 + 4 * i) := by rw [show (4 : Int32) = nI 4 from rfl, pk_mul, show (2 : Int32) = nI 2 from rfl, nI_add]
    have e3 : (3 : Int32) + 4 * nI i = nI (3 + 4 * i) := by rw [show (4 : Int32) = nI 4 from rfl, pk_mul, show (3 : Int32) = nI 3 from rfl, nI_add]
    have e4 : (4 : Int32) + 4 * nI i = nI (4 + 4 * i) := by rw [show (4 : Int32) = nI 4 from rfl, pk_mul, nI_add]
    rw [e1, e2, e3, e4, h1 37 (by decide) (by decide) (by decide) (by decide), h5, nI_clamp (show i < 2 ^ 31 by omega), nI_clamp (show 1 + 4 * i < 2 ^ 31 by omega), nI_clamp (show 2 + 4 * i < 2 ^ 31 by omega), nI_clamp (show 3 + 4 * i < 2 ^ 31 by omega), nI_clamp (show 4 + 4 * i < 2 ^ 31 by omega), nI_1]
    refine pk_le N i (fun c => absurd c (by omega)) (fun c => ⟨pk_in _ 41 (show 1 + 4 * i < 41 by omega), pk_in i 10 (by omega), pk_in _ 41 (show 2 + 4 * i < 41 by omega), pk_in i 10 (by omega), pk_in _ 41 (show 3 + 4 * i < 41 by omega), pk_in i 10 (by omega), pk_in _ 41 (show 4 + 4 * i < 41 by omega), pk_in i 10 (by omega), ?_⟩)
    have r50 : I1 50 = I0 50 := h1 50 (by decide) (by decide) (by decide) (by decide)
    simp only [xi_un (show 50 ≠ 42 by decide), xi_un (show 50 ≠ 43 by decide), xi_un (show 50 ≠ 44 by decide), r50, h50 (1 + 4 * i) (by omega), h50 (2 + 4 * i) (by omega), h50 (3 + 4 * i) (by omega), h50 (4 + 4 * i) (by omega)]
    refine c_mCrowd272 hN hQ h5 h50 m (i + 1) _ (by omega) (fun a a1 a2 a3 a4 => ?_) (fun k hk => ?_)
    · rw [xi_un a4, xi_un a3, xi_un a2, xi_un a1]; exact h1 a a1 a2 a3 a4
    · rw [xi_un (show 42 ≠ 45 by decide), xi_un (show 42 ≠ 44 by decide), xi_un (show 42 ≠ 43 by decide), xi_un (show 43 ≠ 45 by decide), xi_un (show 43 ≠ 44 by decide), xi_un (show 44 ≠ 45 by decide)]
      by_cases e : k = i
      · subst e
        exact ⟨xi_us, by rw [xi_us], by rw [xi_us], xi_us⟩
      · have := h2 k (by omega)
        refine ⟨by rw [xi_uj e]; exact this.1, ?_, ?_, ?_⟩
        · rw [xi_uj e, xi_un (by decide)]; exact this.2.1
        · rw [xi_uj e, xi_un (by decide), xi_un (by decide)]; exact this.2.2.1
        · rw [xi_uj e, xi_un (by decide), xi_un (by decide), xi_un (by decide)]; exact this.2.2.2
theorem c_mCrowd362 {s len : Nat} {v3 : Int32} {I0 : Nat → Nat → Int32}
    (hQ : ∀ I', (∀ a, a ≠ 46 → I' a = I0 a) → (∀ k, k < 4 → I' 46 k = 0) → Q (some (Value.int (I' 37 5))) (xSH, xRF, xi_u (xi_u (xi_u I' 37 11 0) 37 12 1) 37 1 0, L)) :
    ∀ (m i : Nat) (I1 : Nat → Nat → Int32), i + m = 4 → (∀ a, a ≠ 46 → I1 a = I0 a) → (∀ k, k < i → I1 46 k = 0) → xi_V (xG L0 xs) 129 362 [some (Value.ref 37), some (Value.int (nI s)), some (Value.int (nI len)), some (Value.int v3), some (Value.int (nI i)), none, none, none, none] [] (xSH, xRF, I1, L) 0 0 Q
  | 0, i, I1, hm, h1, h2 => by
    refine b_M_crowd_362 (pk_le 4 i (fun c => ⟨by decide, ?_⟩) (fun c => absurd c (by omega)))
    rw [xi_uj (show 5 ≠ 1 by decide), xi_uj (show 5 ≠ 12 by decide), xi_uj (show 5 ≠ 11 by decide)]
    exact hQ I1 h1 (fun k hk => h2 k (by omega))
  | m + 1, i, I1, hm, h1, h2 => by
    refine b_M_crowd_362 (pk_le 4 i (fun c => absurd c (by omega)) (fun c => ⟨pk_in i 4 (by omega), ?_⟩))
    rw [nI_clamp (by omega), nI_1]
    refine c_mCrowd362 hQ m (i + 1) _ (by omega) (fun a ha => (xi_un ha).trans (h1 a ha)) (fun k hk => ?_)
    by_cases e : k = i
    · subst e; exact xi_us
    · rw [xi_uj e]; exact h2 k (by omega)
/-- how a crowd's row fails, or doesn't -/
def crOk (val : Nat → Int64) (len N j : Nat) : Prop := 0 < len ∧ (val 0).toInt = (N : Int) ∧ (1 ≤ N ∧ N ≤ 10) ∧ j ≤ 4 * N ∧ ∀ k, k < j → k + 1 < len ∧ fok k (val (k + 1)).toInt
theorem c_mCrowd_j (h : mR I L D sl x y) {s N j : Nat} (hs : s < 8) (he : (sl s).1 ≠ 0) (hok : crOk (sl s).2.2 ((sl s).1 - 1) N j)
    (hQ : ∀ I', (∀ a, a ≠ 50 → I' a = I a) → (∀ k, k < j + 1 → I' 50 k = zI ((sl s).2.2 k).toInt) → xi_V (xG L0 xs) 129 36 [some (Value.ref 37), some (Value.int (nI s)), some (Value.int (nI ((sl s).1 - 1))), some (Value.int (nI (1 + 4 * N))), some (Value.int (nI (j + 1))), none, none, none, none] [] (xSH, xRF, I', L) 0 0 Q) : xi_V (xG L0 xs) 129 0 [some (Value.ref 37), some (Value.int (nI s)), none, none, none, none, none, none, none] [] (xSH, xRF, I, L) 0 0 Q := by
  have hm := h.2.2.2.1 s hs
  have hm1 := hm.1
  have hm3 := hm.2.2 he
  have hv : ∀ k, k < (sl s).1 - 1 → L 41 (60 * s + k) = (sl s).2.2 k := fun k hk => hm3.2.2 k (by omega)
  have e1 : nI (sl s).1 - 1 = nI ((sl s).1 - 1) := by rw [show (1 : Int32) = nI 1 from rfl, pk_sub (by omega)]
  obtain ⟨h0, hN, hN1, hj, hk⟩ := hok
  refine b_M_crowd_0 (c_mIsSlot1 hs (b_M_crowd_4 ⟨fun _ => ⟨pk_in s 8 hs, ?_⟩, fun c => absurd c (by decide)⟩))
  rw [nI_clamp (by omega), hm.2.1, e1]
  refine ⟨fun _ => ⟨pk_in s 8 hs, ?_⟩, fun c => absurd c (nI_ne0 (by omega) (by omega))⟩
  refine c_mCrowd_0 hs (by omega) h0 hv ⟨fun N' hN' _ _ => ?_, fun z => absurd (show 1 ≤ ((sl s).2.2 0).toInt ∧ ((sl s).2.2 0).toInt ≤ 10 by omega) z⟩
  have : N' = N := by omega
  subst this
  refine c_mCrowd_lp (I := I) (val := (sl s).2.2) hs (by omega) hN1.2 hj hv hk hQ j 0 _ (Nat.zero_add j) (fun a ha => xi_un ha) (fun k hk => ?_)
  rw [show k = 0 by omega]; exact xi_us
theorem o_mCrowd (h : mR I L D sl x y) {s N : Nat} (hs : s < 8) (he : (sl s).1 ≠ 0) (hok : crOk (sl s).2.2 ((sl s).1 - 1) N (4 * N))
    (hQ : ∀ I' L', mFr I I' L L' → mR I' L' (crD (sl s).2.2 N) sl x y → Q (some (Value.int (nI N))) (xSH, xRF, I', L')) : xi_V (xG L0 xs) 129 0 [some (Value.ref 37), some (Value.int (nI s)), none, none, none, none, none, none, none] [] (xSH, xRF, I, L) 0 0 Q := by
  have hN1 := hok.2.2.1
  have ok := okD_cr (val := (sl s).2.2) hN1 (fun k hk => (hok.2.2.2.2 k hk).2)
  refine c_mCrowd_j h hs he hok (fun I' f1 f2 => b_M_crowd_36 (pk_le (1 + 4 * N) (4 * N + 1) (fun _ => ⟨pk_in 0 41 (by decide), ?_⟩) (fun c => absurd c (by omega))))
  rw [show (0 : Int32).toNatClampNeg = 0 from rfl, f2 0 (by omega), hok.2.1, zI_nn]
  refine c_mCrowd272 (val := (sl s).2.2) (I0 := xi_u I' 37 5 (nI N)) hN1.2 (fun I2 g1 g2 => ?_) xi_us (fun k hk => by rw [xi_un (by decide)]; exact f2 k (by omega)) N 0 _ (Nat.zero_add N) (fun a _ _ _ _ => rfl) (fun k hk => absurd hk (Nat.not_lt_zero k))
  refine c_mCrowd362 (I0 := I2) (fun I3 k1 k2 => ?_) 4 0 I2 rfl (fun a _ => rfl) (fun k hk => absurd hk (Nat.not_lt_zero k))
  have hfr : ∀ a, a ≠ 37 → a ≠ 42 → a ≠ 43 → a ≠ 44 → a ≠ 45 → a ≠ 46 → a ≠ 50 → xi_u (xi_u (xi_u I3 37 11 0) 37 12 1) 37 1 (0 : Int32) a = I a := fun a b1 b2 b3 b4 b5 b6 b7 => by
    rw [xi_un b1, xi_un b1, xi_un b1, k1 a b6, g1 a b2 b3 b4 b5, xi_un b1, f1 a b7]
  have h5 : I3 37 5 = nI N := by rw [k1 37 (by decide), g1 37 (by decide) (by decide) (by decide) (by decide)]; exact xi_us
  rw [h5]
  refine hQ _ _ ⟨fun a ha => hfr a (by omega) (by omega) (by omega) (by omega) (by omega) (by omega) (by omega), fun a ha => rfl⟩ ⟨ok, ?_, ?_, mS_of (hfr 39 (by decide) (by decide) (by decide) (by decide) (by decide) (by decide) (by decide)) (hfr 40 (by decide) (by decide) (by decide) (by decide) (by decide) (by decide) (by decide)) rfl h.2.2.2.1, h.2.2.2.2.1, h.2.2.2.2.2.1, fun z => absurd xi_us z⟩
  · have hz : ∀ k, k < N → ∀ j, j < 4 → fok (4 * k + j) ((sl s).2.2 (4 * k + j + 1)).toInt := fun k hk j hj => (hok.2.2.2.2 _ (by omega)).2
    refine ⟨?_, fun i hi => ?_⟩
    · rw [xi_uj (by decide), xi_uj (by decide), xi_uj (by decide)]; exact h5
    · have hi : i < N := hi
      rw [xi_un (show 42 ≠ 37 by decide), xi_un (show 42 ≠ 37 by decide), xi_un (show 42 ≠ 37 by decide), xi_un (show 43 ≠ 37 by decide), xi_un (show 43 ≠ 37 by decide), xi_un (show 43 ≠ 37 by decide), xi_un (show 44 ≠ 37 by decide), xi_un (show 44 ≠ 37 by decide), xi_un (show 44 ≠ 37 by decide), xi_un (show 45 ≠ 37 by decide), xi_un (show 45 ≠ 37 by decide), xi_un (show 45 ≠ 37 by decide), k1 42 (by decide), k1 43 (by decide), k1 44 (by decide), k1 45 (by decide)]
      obtain ⟨q1, q2, q3, q4⟩ := g2 i hi
      refine ⟨q1, ?_, ?_, ?_⟩
      · have := (hz i hi 1 (by decide)).2.1 (by omega)
        rw [show 4 * i + 1 + 1 = 2 + 4 * i by omega] at this
        rw [q2]
        show _ = nI ((sl s).2.2 (2 + 4 * i)).toInt.toNat
        rw [zI_n]; congr 1; omega
      · have := (hz i hi 2 (by decide)).2.2.1 (by omega)
        rw [show 4 * i + 2 + 1 = 3 + 4 * i by omega] at this
        rw [q3]
        show _ = nI ((sl s).2.2 (3 + 4 * i)).toInt.toNat
        rw [zI_n]; congr 1; omega
      · have := (hz i hi 3 (by decide)).2.2.2 (by omega)
        rw [show 4 * i + 3 + 1 = 4 + 4 * i by omega] at this
        rw [q4]
        show _ = nI ((sl s).2.2 (4 + 4 * i)).toInt.toNat
        rw [zI_n]; congr 1; omega
  · refine ⟨?_, ?_, fun k hk => ?_⟩
    · rw [xi_uj (by decide), xi_uj (by decide), xi_us]; rfl
    · rw [xi_uj (by decide), xi_us]; rfl
    · rw [xi_un (by decide), xi_un (by decide), xi_un (by decide)]
      exact k2 k hk
theorem o_mCrowd2 {v : Int32} (hv : v < 0 ∨ 7 < v) (hQ : Q (some (Value.int (-2))) (xSH, xRF, I, L)) : xi_V (xG L0 xs) 129 0 [some (Value.ref 37), some (Value.int v), none, none, none, none, none, none, none] [] (xSH, xRF, I, L) 0 0 Q :=
  b_M_crowd_0 (c_mIsSlot0 hv (b_M_crowd_4 ⟨fun c => absurd rfl c, fun _ => hQ⟩))
theorem o_mCrowd5 (h : mR I L D sl x y) {s : Nat} (hs : s < 8) (he : (sl s).1 = 0) (hQ : Q (some (Value.int (-5))) (xSH, xRF, I, L)) : xi_V (xG L0 xs) 129 0 [some (Value.ref 37), some (Value.int (nI s)), none, none, none, none, none, none, none] [] (xSH, xRF, I, L) 0 0 Q := by
  have hm := h.2.2.2.1 s hs
  refine b_M_crowd_0 (c_mIsSlot1 hs (b_M_crowd_4 ⟨fun _ => ⟨pk_in s 8 hs, ?_⟩, fun c => absurd c (by decide)⟩))
  rw [nI_clamp (by omega), hm.2.1, he]
  exact ⟨fun c => absurd rfl c, fun _ => hQ⟩
theorem o_mCrowdF (h : mR I L D sl x y) {s : Nat} (hs : s < 8) (he : (sl s).1 ≠ 0) (hQ : (0 = (sl s).1 - 1 → Q (some (Value.int (-6))) (xSH, xRF, I, L)) ∧ (0 < (sl s).1 - 1 → ¬ (1 ≤ ((sl s).2.2 0).toInt ∧ ((sl s).2.2 0).toInt ≤ 10) → Q (some (Value.int (-4))) (xSH, xRF, I, L))) (hc : 0 = (sl s).1 - 1 ∨ ¬ (1 ≤ ((sl s).2.2 0).toInt ∧ ((sl s).2.2 0).toInt ≤ 10)) : xi_V (xG L0 xs) 129 0 [some (Value.ref 37), some (Value.int (nI s)), none, none, none, none, none, none, none] [] (xSH, xRF, I, L) 0 0 Q := by
  have hm := h.2.2.2.1 s hs
  have hm1 := hm.1
  have hm3 := hm.2.2 he
  have hv : ∀ k, k < (sl s).1 - 1 → L 41 (60 * s + k) = (sl s).2.2 k := fun k hk => hm3.2.2 k (by omega)
  have e1 : nI (sl s).1 - 1 = nI ((sl s).1 - 1) := by rw [show (1 : Int32) = nI 1 from rfl, pk_sub (by omega)]
  refine b_M_crowd_0 (c_mIsSlot1 hs (b_M_crowd_4 ⟨fun _ => ⟨pk_in s 8 hs, ?_⟩, fun c => absurd c (by decide)⟩))
  rw [nI_clamp (by omega), hm.2.1, e1]
  refine ⟨fun _ => ⟨pk_in s 8 hs, ?_⟩, fun c => absurd c (nI_ne0 (by omega) (by omega))⟩
  by_cases z : 0 = (sl s).1 - 1
  · rw [← z]
    exact b_M_crowd_36 (pk_le 1 0 (fun c => absurd c (by decide)) (fun _ => pk_lt 0 0 (fun c => absurd c (by decide)) (fun _ => hQ.1 z)))
  · exact c_mCrowd_0 hs (by omega) (by omega) hv ⟨fun N hN h1 h2 => absurd (show 1 ≤ ((sl s).2.2 0).toInt ∧ ((sl s).2.2 0).toInt ≤ 10 by omega) (hc.resolve_left z), fun z2 => hQ.2 (by omega) z2⟩
theorem o_mCrowd6 (h : mR I L D sl x y) {s N j : Nat} (hs : s < 8) (he : (sl s).1 ≠ 0) (hok : crOk (sl s).2.2 ((sl s).1 - 1) N j) (hj : j < 4 * N) (hl : (sl s).1 - 1 ≤ j + 1)
    (hQ : ∀ I' L', mFr I I' L L' → mR I' L' D sl x y → Q (some (Value.int (-6))) (xSH, xRF, I', L')) : xi_V (xG L0 xs) 129 0 [some (Value.ref 37), some (Value.int (nI s)), none, none, none, none, none, none, none] [] (xSH, xRF, I, L) 0 0 Q := by
  have hm1 := (h.2.2.2.1 s hs).1
  have hN1 := hok.2.2.1
  refine c_mCrowd_j h hs he hok (fun I' f1 f2 => b_M_crowd_36 (pk_le (1 + 4 * N) (j + 1) (fun c => absurd c (by omega)) (fun _ => pk_lt (j + 1) ((sl s).1 - 1) (fun c => absurd c (by omega)) (fun _ => ?_))))
  refine hQ _ _ ⟨fun a ha => f1 a (by omega), fun a ha => rfl⟩ ⟨h.1, mC_of (fun a ha => f1 a (by omega)) h.2.1, mD_of (fun a ha => f1 a (by omega)) h.2.2.1, mS_of (f1 39 (by decide)) (f1 40 (by decide)) rfl h.2.2.2.1, h.2.2.2.2.1, h.2.2.2.2.2.1, ?_⟩
  rw [f1 37 (by decide)]; exact h.2.2.2.2.2.2
theorem o_mCrowd4 (h : mR I L D sl x y) {s N j : Nat} (hs : s < 8) (he : (sl s).1 ≠ 0) (hok : crOk (sl s).2.2 ((sl s).1 - 1) N j) (hj : j < 4 * N) (hl : j + 1 < (sl s).1 - 1) (hf : ¬ fok j ((sl s).2.2 (j + 1)).toInt)
    (hQ : ∀ I' L', mFr I I' L L' → mR I' L' D sl x y → Q (some (Value.int (-4))) (xSH, xRF, I', L')) : xi_V (xG L0 xs) 129 0 [some (Value.ref 37), some (Value.int (nI s)), none, none, none, none, none, none, none] [] (xSH, xRF, I, L) 0 0 Q := by
  have hm := h.2.2.2.1 s hs
  have hm1 := hm.1
  have hN1 := hok.2.2.1
  refine c_mCrowd_j h hs he hok (fun I' f1 f2 => c_mCrowd_st hs (by omega) hN1.2 hl hj ((hm.2.2 he).2.2 (j + 1) (by omega)) ⟨fun z => absurd z hf, fun _ => b_M_crowd_235 ⟨fun c => absurd rfl c, fun _ => ?_⟩⟩)
  refine hQ _ _ ⟨fun a ha => f1 a (by omega), fun a ha => rfl⟩ ⟨h.1, mC_of (fun a ha => f1 a (by omega)) h.2.1, mD_of (fun a ha => f1 a (by omega)) h.2.2.1, mS_of (f1 39 (by decide)) (f1 40 (by decide)) rfl h.2.2.2.1, h.2.2.2.2.1, h.2.2.2.2.2.1, ?_⟩
  rw [f1 37 (by decide)]; exact h.2.2.2.2.2.2
end MCR
