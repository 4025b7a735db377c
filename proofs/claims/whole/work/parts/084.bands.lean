/-! how the crowd is cut: masks of cuts, and the way that wins -/
/-- what is to come: r places left, the band begun at a -/
def tcs (D : xD) (c : Nat) : Nat → Nat → Int
  | 0, _ => 0
  | r + 1, a => if qN D - (r + 1) + 1 = qN D ∨ bt c (qN D - (r + 1)) = 1 then cst D a (qN D - (r + 1) + 1) + tcs D c r (qN D - (r + 1) + 1) else tcs D c r a
/-- the first of the least -/
def bestE (f : Nat → Int) (lo : Nat) : Nat → Int × Nat
  | 0 => (f lo, lo)
  | d + 1 => if f (lo + d + 1) < (bestE f lo d).1 then (f (lo + d + 1), lo + d + 1) else bestE f lo d
theorem bestE_is (f : Nat → Int) (lo : Nat) : ∀ d, (bestE f lo d).1 = f (bestE f lo d).2 ∧ lo ≤ (bestE f lo d).2 ∧ (bestE f lo d).2 ≤ lo + d ∧ (∀ e, lo ≤ e → e ≤ lo + d → (bestE f lo d).1 ≤ f e) ∧ ∀ e, lo ≤ e → e < (bestE f lo d).2 → (bestE f lo d).1 < f e
  | 0 => ⟨rfl, Nat.le_refl _, Nat.le_refl _, fun e h1 h2 => by rw [show e = lo by omega]; exact Int.le_refl _, fun e h1 h2 => by have h2 : e < lo := h2; omega⟩
  | d + 1 => by
    obtain ⟨i1, i2, i3, i4, i5⟩ := bestE_is f lo d
    rw [bestE]
    by_cases c : f (lo + d + 1) < (bestE f lo d).1
    · rw [if_pos c]
      refine ⟨rfl, by show lo ≤ lo + d + 1; omega, by show lo + d + 1 ≤ lo + (d + 1); omega, fun e h1 h2 => ?_, fun e h1 h2 => ?_⟩
      · show f (lo + d + 1) ≤ f e
        by_cases z : e = lo + d + 1
        · rw [z]; exact Int.le_refl _
        · have := i4 e h1 (by omega); omega
      · have h2 : e < lo + d + 1 := h2
        show f (lo + d + 1) < f e
        have := i4 e h1 (by omega); omega
    · rw [if_neg c]
      refine ⟨i1, i2, by omega, fun e h1 h2 => ?_, i5⟩
      by_cases z : e = lo + d + 1
      · rw [z]; omega
      · exact i4 e h1 (by omega)
/-- k bands from place a on: the least sum, and where the first band ends -/
def dpv (D : xD) : Nat → Nat → Int × Nat
  | 0, _ => (0, 0)
  | 1, a => (cst D a (qN D), qN D)
  | k + 2, a => bestE (fun e => cst D a e + (dpv D (k + 1) e).1) (a + 1) (qN D - (k + 2) - a)
/-- its cuts -/
def dpm (D : xD) : Nat → Nat → Nat
  | 0, _ => 0
  | 1, _ => 0
  | k + 2, a => dpm D (k + 1) (dpv D (k + 2) a).2 ||| 2 ^ ((dpv D (k + 2) a).2 - 1)
/-- cuts of c at places from a on -/
def cnt (c a : Nat) : Nat → Nat
  | 0 => 0
  | d + 1 => cnt c a d + bt c (a + d)
/-- at places from a on, x has the first cut that one of them has alone -/
def shr (x c a : Nat) : Prop := ∃ p, a ≤ p ∧ bt x p = 1 ∧ bt c p = 0 ∧ ∀ q, a ≤ q → q < p → bt x q = bt c q
theorem dpv_2 {D : xD} {k a : Nat} (h : a + (k + 2) ≤ qN D) : a + 1 ≤ (dpv D (k + 2) a).2 ∧ (dpv D (k + 2) a).2 + (k + 1) ≤ qN D := by
  have := bestE_is (fun e => cst D a e + (dpv D (k + 1) e).1) (a + 1) (qN D - (k + 2) - a)
  rw [dpv]
  exact ⟨this.2.1, by have := this.2.2.1; omega⟩
theorem cnt_split (c a : Nat) (m : Nat) : ∀ n, cnt c a (m + n) = cnt c a m + cnt c (a + m) n
  | 0 => rfl
  | n + 1 => by
    show cnt c a (m + n) + bt c (a + (m + n)) = cnt c a m + (cnt c (a + m) n + bt c (a + m + n))
    rw [cnt_split c a m n, Nat.add_assoc, Nat.add_assoc]
theorem cnt_le (c a : Nat) : ∀ n, cnt c a n ≤ n
  | 0 => Nat.le_refl 0
  | n + 1 => by have := cnt_le c a n; have := bt_le c (a + n); rw [cnt]; omega
theorem cnt_0 {c a : Nat} : ∀ {n : Nat}, cnt c a n = 0 → ∀ q, q < n → bt c (a + q) = 0
  | 0, _, q, hq => absurd hq (Nat.not_lt_zero q)
  | n + 1, h, q, hq => by
    rw [cnt] at h
    rcases Nat.lt_succ_iff_lt_or_eq.mp hq with z | z
    · exact cnt_0 (by omega) q z
    · rw [z]; omega
theorem cnt_z {c a : Nat} : ∀ {n : Nat}, (∀ q, q < n → bt c (a + q) = 0) → cnt c a n = 0
  | 0, _ => rfl
  | n + 1, h => by rw [cnt, cnt_z (fun q hq => h q (by omega)), h n (Nat.lt_succ_self n)]
/-- the first cut -/
theorem cnt_first {c a : Nat} : ∀ {n : Nat}, 0 < cnt c a n → ∃ d, d < n ∧ bt c (a + d) = 1 ∧ ∀ q, q < d → bt c (a + q) = 0
  | 0, h => absurd h (Nat.lt_irrefl 0)
  | n + 1, h => by
    by_cases z : 0 < cnt c a n
    · obtain ⟨d, h1, h2, h3⟩ := cnt_first z
      exact ⟨d, by omega, h2, h3⟩
    · rw [cnt] at h
      exact ⟨n, Nat.lt_succ_self n, by have := bt_le c (a + n); omega, cnt_0 (by omega)⟩
/-- places without a cut -/
theorem tcs_skip {D : xD} {c s : Nat} {p : Nat} : ∀ d, p + d + 1 ≤ qN D → (∀ q, q < d → bt c (p + q) = 0) → tcs D c (qN D - p) s = tcs D c (qN D - (p + d)) s
  | 0, _, _ => rfl
  | d + 1, h, hz => by
    rw [tcs_skip d (by omega) (fun q hq => hz q (by omega))]
    obtain ⟨r, hr⟩ : ∃ r, qN D - (p + d) = r + 1 := ⟨qN D - (p + d) - 1, by omega⟩
    have e1 : qN D - (r + 1) = p + d := by omega
    rw [hr, tcs, e1, if_neg (by have := hz d (by omega); omega)]
    congr 1
    omega
/-- to the end of a band -/
theorem tcs_cut {D : xD} {c a e : Nat} (h1 : a < e) (h2 : e ≤ qN D) (hz : ∀ q, a ≤ q → q + 1 < e → bt c q = 0) (hc : e = qN D ∨ bt c (e - 1) = 1) : tcs D c (qN D - a) a = cst D a e + tcs D c (qN D - e) e := by
  rw [tcs_skip (p := a) (s := a) (e - 1 - a) (by omega) (fun q hq => hz _ (by omega) (by omega)), show a + (e - 1 - a) = e - 1 by omega]
  obtain ⟨r, hr⟩ : ∃ r, qN D - (e - 1) = r + 1 := ⟨qN D - (e - 1) - 1, by omega⟩
  have e1 : qN D - (r + 1) = e - 1 := by omega
  rw [hr, tcs, e1, show e - 1 + 1 = e by omega, if_pos (by omega), show qN D - e = r by omega]
/-- the way that wins: its bits -/
theorem dpm_bits {D : xD} : ∀ {k a : Nat}, a + (k + 1) ≤ qN D → ∀ p, bt (dpm D (k + 1) a) p = 1 → a ≤ p ∧ p + 1 < qN D
  | 0, a, h, p, hp => by rw [dpm, bt_zero] at hp; exact absurd hp (by decide)
  | k + 1, a, h, p, hp => by
    have h2 := dpv_2 (D := D) (k := k) (a := a) h
    rw [dpm, bt_set] at hp
    by_cases e : p = (dpv D (k + 2) a).2 - 1
    · omega
    · rw [if_neg e] at hp
      have := dpm_bits (k := k) (a := (dpv D (k + 2) a).2) (by omega) p hp
      omega
theorem dpm_lo {D : xD} {k a q : Nat} (h : a + (k + 1) ≤ qN D) (hq : q < a ∨ qN D ≤ q + 1) : bt (dpm D (k + 1) a) q = 0 := by
  rcases bt_01 (dpm D (k + 1) a) q with z | z
  · exact z
  · have := dpm_bits h q z; omega
theorem dpm_cnt {D : xD} : ∀ {k a : Nat}, a + (k + 1) ≤ qN D → cnt (dpm D (k + 1) a) a (qN D - 1 - a) = k
  | 0, a, h => cnt_z (fun q hq => by rw [dpm, bt_zero])
  | k + 1, a, h => by
    have h2 := dpv_2 (D := D) (k := k) (a := a) h
    generalize hE : (dpv D (k + 2) a).2 = E at *
    have hb : ∀ q, bt (dpm D (k + 2) a) q = if q = E - 1 then 1 else bt (dpm D (k + 1) E) q := fun q => by rw [dpm, hE, bt_set]
    have e1 : qN D - 1 - a = (E - 1 - a) + (1 + (qN D - 1 - E)) := by omega
    have c1 : cnt (dpm D (k + 2) a) a (E - 1 - a) = 0 := cnt_z (fun q hq => by rw [hb, if_neg (by omega)]; exact dpm_lo (by omega) (by omega))
    have c2 : cnt (dpm D (k + 2) a) (a + (E - 1 - a)) 1 = 1 := by
      rw [cnt, cnt, hb, if_pos (by omega)]
    have c3 : cnt (dpm D (k + 2) a) (a + (E - 1 - a) + 1) (qN D - 1 - E) = cnt (dpm D (k + 1) E) E (qN D - 1 - E) := by
      rw [show a + (E - 1 - a) + 1 = E by omega]
      have : ∀ n, cnt (dpm D (k + 2) a) E n = cnt (dpm D (k + 1) E) E n := by
        intro n
        induction n with
        | zero => rfl
        | succ n ih => rw [cnt, cnt, ih, hb, if_neg (by omega)]
      exact this _
    rw [e1, cnt_split, c1, cnt_split, c2, c3, dpm_cnt (by omega)]
    omega
theorem dpm_tcs {D : xD} : ∀ {k a : Nat}, a + (k + 1) ≤ qN D → tcs D (dpm D (k + 1) a) (qN D - a) a = (dpv D (k + 1) a).1
  | 0, a, h => by
    rw [tcs_cut (e := qN D) (by omega) (Nat.le_refl _) (fun q _ _ => by rw [dpm, bt_zero]) (Or.inl rfl), Nat.sub_self, tcs, dpv, Int.add_zero]
  | k + 1, a, h => by
    have h2 := dpv_2 (D := D) (k := k) (a := a) h
    have h3 := (bestE_is (fun e => cst D a e + (dpv D (k + 1) e).1) (a + 1) (qN D - (k + 2) - a)).1
    have h3' : (dpv D (k + 2) a).1 = cst D a (dpv D (k + 2) a).2 + (dpv D (k + 1) (dpv D (k + 2) a).2).1 := by rw [dpv]; exact h3
    generalize hE : (dpv D (k + 2) a).2 = E at *
    have hb : ∀ q, bt (dpm D (k + 2) a) q = if q = E - 1 then 1 else bt (dpm D (k + 1) E) q := fun q => by rw [dpm, hE, bt_set]
    rw [tcs_cut (e := E) (by omega) (by omega) (fun q q1 q2 => by rw [hb, if_neg (by omega)]; exact dpm_lo (by omega) (by omega)) (Or.inr (by rw [hb, if_pos rfl])), h3', ← dpm_tcs (k := k) (a := E) (by omega)]
    congr 1
    have : ∀ r s, r ≤ qN D - E → tcs D (dpm D (k + 2) a) r s = tcs D (dpm D (k + 1) E) r s := by
      intro r
      induction r with
      | zero => intro s _; rfl
      | succ r ih =>
        intro s hr
        rw [tcs, tcs, hb, if_neg (show ¬ qN D - (r + 1) = E - 1 by omega), ih _ (by omega), ih _ (by omega)]
    exact this _ _ (Nat.le_refl _)
/-- no other way is better -/
theorem dpm_best {D : xD} : ∀ {k a : Nat}, a + (k + 1) ≤ qN D → ∀ c, cnt c a (qN D - 1 - a) = k → (dpv D (k + 1) a).1 ≤ tcs D c (qN D - a) a ∧ ((dpv D (k + 1) a).1 = tcs D c (qN D - a) a → (∀ q, a ≤ q → q + 1 < qN D → bt (dpm D (k + 1) a) q = bt c q) ∨ shr (dpm D (k + 1) a) c a)
  | 0, a, h, c, hc => by
    have hz := cnt_0 hc
    have e : tcs D c (qN D - a) a = cst D a (qN D) := by
      rw [tcs_cut (e := qN D) (by omega) (Nat.le_refl _) (fun q q1 q2 => by have := hz (q - a) (by omega); rw [show a + (q - a) = q by omega] at this; exact this) (Or.inl rfl), Nat.sub_self, tcs, Int.add_zero]
    rw [e, dpv]
    refine ⟨Int.le_refl _, fun _ => Or.inl (fun q q1 q2 => ?_)⟩
    have := hz (q - a) (by omega)
    rw [show a + (q - a) = q by omega] at this
    rw [this, dpm, bt_zero]
  | k + 1, a, h, c, hc => by
    show (dpv D (k + 2) a).1 ≤ tcs D c (qN D - a) a ∧ ((dpv D (k + 2) a).1 = tcs D c (qN D - a) a → (∀ q, a ≤ q → q + 1 < qN D → bt (dpm D (k + 2) a) q = bt c q) ∨ shr (dpm D (k + 2) a) c a)
    have h2 := dpv_2 (D := D) (k := k) (a := a) h
    have hbe := bestE_is (fun e => cst D a e + (dpv D (k + 1) e).1) (a + 1) (qN D - (k + 2) - a)
    have hv : dpv D (k + 2) a = bestE (fun e => cst D a e + (dpv D (k + 1) e).1) (a + 1) (qN D - (k + 2) - a) := by rw [dpv]
    rw [← hv] at hbe
    obtain ⟨d, hd, hd1, hd0⟩ := cnt_first (c := c) (a := a) (n := qN D - 1 - a) (by omega)
    obtain ⟨e, he⟩ : ∃ e, e = a + d + 1 := ⟨_, rfl⟩
    have hz : ∀ q, a ≤ q → q + 1 < e → bt c q = 0 := fun q q1 q2 => by
      have := hd0 (q - a) (by omega)
      rw [show a + (q - a) = q by omega] at this
      exact this
    have h1e : bt c (e - 1) = 1 := by rw [show e - 1 = a + d by omega]; exact hd1
    have hce : cnt c e (qN D - 1 - e) = k := by
      have s1 := cnt_split c a d (1 + (qN D - 1 - e))
      rw [show d + (1 + (qN D - 1 - e)) = qN D - 1 - a by omega, hc, cnt_z hd0, cnt_split] at s1
      rw [show cnt c (a + d) 1 = bt c (a + d) by rw [cnt, cnt, Nat.zero_add, Nat.add_zero], hd1, show a + d + 1 = e by omega] at s1
      omega
    have hle := cnt_le c e (qN D - 1 - e)
    have hke : e + (k + 1) ≤ qN D := by omega
    obtain ⟨ih1, ih2⟩ := dpm_best (k := k) (a := e) hke c hce
    rw [tcs_cut (e := e) (by omega) (by omega) hz (Or.inr h1e)]
    have hmin := hbe.2.2.2.1 e (by omega) (by omega)
    refine ⟨by have hmin : (dpv D (k + 2) a).1 ≤ cst D a e + (dpv D (k + 1) e).1 := hmin
               omega, fun heq => ?_⟩
    have hmin : (dpv D (k + 2) a).1 ≤ cst D a e + (dpv D (k + 1) e).1 := hmin
    have heq2 : (dpv D (k + 1) e).1 = tcs D c (qN D - e) e := by omega
    have heq3 : (dpv D (k + 2) a).1 = cst D a e + (dpv D (k + 1) e).1 := by omega
    have hEle : (dpv D (k + 2) a).2 ≤ e := by
      rcases Nat.lt_or_ge e (dpv D (k + 2) a).2 with z | z
      · have hlt : (dpv D (k + 2) a).1 < cst D a e + (dpv D (k + 1) e).1 := hbe.2.2.2.2 e (by omega) z
        omega
      · exact z
    generalize hE : (dpv D (k + 2) a).2 = E at *
    have hb : ∀ q, bt (dpm D (k + 2) a) q = if q = E - 1 then 1 else bt (dpm D (k + 1) E) q := fun q => by rw [dpm, hE, bt_set]
    rcases Nat.lt_or_eq_of_le hEle with z | z
    · refine Or.inr ⟨E - 1, by omega, by rw [hb, if_pos rfl], hz _ (by omega) (by omega), fun q q1 q2 => ?_⟩
      rw [hb, if_neg (by omega), hz q q1 (by omega)]
      exact dpm_lo (by omega) (by omega)
    · subst z
      have low : ∀ q, a ≤ q → q < E → bt (dpm D (k + 2) a) q = bt c q := fun q q1 q2 => by
        rw [hb]
        by_cases w : q = E - 1
        · rw [if_pos w, w, h1e]
        · rw [if_neg w, hz q q1 (by omega)]; exact dpm_lo (by omega) (by omega)
      rcases ih2 heq2 with w | ⟨p, p1, p2, p3, p4⟩
      · refine Or.inl (fun q q1 q2 => ?_)
        rcases Nat.lt_or_ge q E with v | v
        · exact low q q1 v
        · rw [hb, if_neg (by omega)]; exact w q v q2
      · refine Or.inr ⟨p, by omega, by rw [hb, if_neg (by omega)]; exact p2, p3, fun q q1 q2 => ?_⟩
        rcases Nat.lt_or_ge q E with v | v
        · exact low q q1 v
        · rw [hb, if_neg (by omega)]; exact p4 q v q2
/-- the first cut that only one has -/
def sh0 (x c : Nat) : Prop := ∃ p, bt x p = 1 ∧ bt c p = 0 ∧ ∀ q, q < p → bt x q = bt c q
theorem sh0_tr {x y z : Nat} (h1 : sh0 x y) (h2 : sh0 y z) : sh0 x z := by
  obtain ⟨p, p1, p2, p3⟩ := h1
  obtain ⟨q, q1, q2, q3⟩ := h2
  rcases Nat.lt_trichotomy p q with e | e | e
  · exact ⟨p, p1, by rw [← q3 p e]; exact p2, fun r hr => by rw [p3 r hr, q3 r (by omega)]⟩
  · subst e; omega
  · exact ⟨q, by rw [p3 q e]; exact q1, q2, fun r hr => by rw [p3 r (by omega), q3 r hr]⟩
theorem sh0_ir {x : Nat} : ¬ sh0 x x := fun ⟨p, p1, p2, _⟩ => by omega
/-- x is better than c -/
def btr (D : xD) (x c : Nat) : Prop := tcs D x (qN D) 0 < tcs D c (qN D) 0 ∨ (tcs D x (qN D) 0 = tcs D c (qN D) 0 ∧ sh0 x c)
theorem btr_tr {D : xD} {x y z : Nat} (h1 : btr D x y) (h2 : btr D y z) : btr D x z := by
  unfold btr at *
  rcases h1 with a | ⟨a, b⟩ <;> rcases h2 with c | ⟨c, d⟩
  · exact Or.inl (by omega)
  · exact Or.inl (by omega)
  · exact Or.inl (by omega)
  · exact Or.inr ⟨by omega, sh0_tr b d⟩
theorem btr_ir {D : xD} {x : Nat} : ¬ btr D x x := fun h => by
  rcases h with a | ⟨-, b⟩
  · omega
  · exact sh0_ir b
theorem bt_ext {x y n : Nat} (hx : x < 2 ^ n) (hy : y < 2 ^ n) (h : ∀ i, i < n → bt x i = bt y i) : x = y := by
  apply Nat.eq_of_testBit_eq
  intro i
  have : bt x i = bt y i := by
    rcases Nat.lt_or_ge i n with z | z
    · exact h i z
    · rw [bt_big hx z, bt_big hy z]
  rw [bt_tb, bt_tb] at this
  revert this
  cases x.testBit i <;> cases y.testBit i <;> simp
theorem cnt_bc (c : Nat) : ∀ n, cnt c 0 n = bc c n
  | 0 => rfl
  | n + 1 => by rw [cnt, bc, cnt_bc c n, Nat.zero_add]
theorem or_lt {D : xD} : ∀ {k a : Nat}, a + (k + 1) ≤ qN D → dpm D (k + 1) a < 2 ^ (qN D - 1)
  | 0, a, h => Nat.pow_pos (by decide)
  | k + 1, a, h => by
    have h2 := dpv_2 (D := D) (k := k) (a := a) h
    rw [dpm]
    exact Nat.or_lt_two_pow (or_lt (by omega)) (Nat.pow_lt_pow_right (by decide) (by omega))
/-- k bands of all: the one that wins -/
theorem dpm_wins {D : xD} (hC : okC D) {k : Nat} (hk : k + 1 ≤ qN D) {c : Nat} (hc : c < 2 ^ (qN D - 1)) (hb : bc c 10 = k) : c = dpm D (k + 1) 0 ∨ btr D (dpm D (k + 1) 0) c := by
  have h10 := hC.1
  have hcc : cnt c 0 (qN D - 1 - 0) = k := by rw [cnt_bc, Nat.sub_zero, ← bc_10 hc (by omega)]; exact hb
  have hm := or_lt (D := D) (k := k) (a := 0) (by omega)
  obtain ⟨h1, h2⟩ := dpm_best (D := D) (k := k) (a := 0) (by omega) c hcc
  have ht := dpm_tcs (D := D) (k := k) (a := 0) (by omega)
  rw [Nat.sub_zero] at h1 h2 ht
  rcases Int.lt_or_eq_of_le h1 with z | z
  · exact Or.inr (Or.inl (by rw [ht]; exact z))
  · rcases h2 z with w | ⟨p, p1, p2, p3, p4⟩
    · exact Or.inl (bt_ext hc hm (fun i hi => (w i (Nat.zero_le i) (by omega)).symm))
    · exact Or.inr (Or.inr ⟨by rw [ht]; exact z, p, p2, p3, fun q hq => p4 q (Nat.zero_le q) hq⟩)
theorem dpm_bc {D : xD} (hC : okC D) {k : Nat} (hk : k + 1 ≤ qN D) : bc (dpm D (k + 1) 0) 10 = k := by
  have h10 := hC.1
  have := dpm_cnt (D := D) (k := k) (a := 0) (by omega)
  rw [cnt_bc, Nat.sub_zero] at this
  rw [bc_10 (or_lt (by omega)) (by omega)]
  exact this
