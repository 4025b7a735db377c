/-! the model's long rows: n (38), left (47), right (48), both (49); its easy number methods -/
def mL (L : Nat → Nat → Int64) (f p q r : Nat → Int64) : Nat → Nat → Int64 := fun a => if a = 38 then f else if a = 47 then p else if a = 48 then q else if a = 49 then r else L a
section ML
variable {L : Nat → Nat → Int64} {f p q r g : Nat → Int64} {j : Nat} {x : Int64}
theorem mL_38 : mL L f p q r 38 = f := rfl
theorem mL_47 : mL L f p q r 47 = p := rfl
theorem mL_48 : mL L f p q r 48 = q := rfl
theorem mL_49 : mL L f p q r 49 = r := rfl
theorem mL_o {a : Nat} (h : a ≠ 38 ∧ a ≠ 47 ∧ a ≠ 48 ∧ a ≠ 49) : mL L f p q r a = L a := by simp [mL, h]
theorem mL_r38 : m_r (mL L f p q r) 38 g = mL L g p q r := by funext a; simp only [m_r, mL]; split <;> rfl
theorem mL_r47 : m_r (mL L f p q r) 47 g = mL L f g q r := by
  funext a; simp only [m_r, mL]; split
  · rename_i e; subst e; rfl
  · rename_i e; split <;> rfl
theorem mL_r48 : m_r (mL L f p q r) 48 g = mL L f p g r := by
  funext a; simp only [m_r, mL]; split
  · rename_i e; subst e; rfl
  · rename_i e; split <;> (try rfl)
theorem mL_r49 : m_r (mL L f p q r) 49 g = mL L f p q g := by
  funext a; simp only [m_r, mL]; split
  · rename_i e; subst e; rfl
  · rename_i e; split <;> (try rfl)
theorem mL_u38 : xi_u (mL L f p q r) 38 j x = mL L (m_u f j x) p q r := by rw [m_ur, mL_r38]; rfl
theorem mL_u47 : xi_u (mL L f p q r) 47 j x = mL L f (m_u p j x) q r := by rw [m_ur, mL_r47]; rfl
theorem mL_u48 : xi_u (mL L f p q r) 48 j x = mL L f p (m_u q j x) r := by rw [m_ur, mL_r48]; rfl
theorem mL_u49 : xi_u (mL L f p q r) 49 j x = mL L f p q (m_u r j x) := by rw [m_ur, mL_r49]; rfl
theorem mL_0 : mL L (L 38) (L 47) (L 48) (L 49) = L := by
  funext a; simp only [mL]
  split
  · rename_i e; rw [e]
  · split
    · rename_i e; rw [e]
    · split
      · rename_i e; rw [e]
      · split
        · rename_i e; rw [e]
        · rfl
theorem mL_s38 : m_r (mL L f p q r) 38 f = mL L f p q r := mL_r38
end ML
/-- how far a row has been written -/
def filI (f g : Nat → Int64) (a k : Nat) (x : Nat → Int64) : Prop := mF f g a ∧ (∀ i, i < k → g (44 * a + i) = x i) ∧ ∀ i, k ≤ i → i < 44 → g (44 * a + i) = f (44 * a + i)
theorem filI_0 {f : Nat → Int64} {a : Nat} {x : Nat → Int64} : filI f f a 0 x := ⟨mF_rf, fun i hi => absurd hi (Nat.not_lt_zero i), fun _ _ _ => rfl⟩
theorem filI_s {f g : Nat → Int64} {a k : Nat} {x : Nat → Int64} (h : filI f g a k x) (hk : k < 44) : filI f (m_u g (44 * a + k) (x k)) a (k + 1) x := by
  refine ⟨mF_tr h.1 (mF_u hk), fun i hi => ?_, fun i h1 h2 => ?_⟩
  · by_cases e : i = k
    · subst e; exact m_us
    · rw [m_un (by omega)]; exact h.2.1 i (by omega)
  · rw [m_un (by omega)]; exact h.2.2 i (by omega) h2
theorem filI_Z {f g : Nat → Int64} {a : Nat} {x : Nat → Int64} (h : filI f g a 44 x) {k : Nat} (hk : k < 44) : mZ g a k = (x k).toInt := by unfold mZ; rw [h.2.1 k hk]
theorem m_44 : (44 : Int32) = nI 44 := rfl
theorem m_z0 : (0 : Int64).toInt = 0 := by decide
theorem m_neg0 {x : Int64} : x < 0 ↔ x.toInt < 0 := by rw [Int64.lt_iff_toInt_lt, m_z0]
theorem m_eq0 {x : Int64} : x = 0 ↔ x.toInt = 0 := by rw [← Int64.toInt_inj, m_z0]
theorem Nm_rng {f : Nat → Int64} {a : Nat} {v : Int} (h : Nm f a v) {k : Nat} (hk : k < 44) : -1 ≤ mZ f a k ∧ mZ f a k < 1000000000 := by
  by_cases e : k = 43
  · subst e
    rw [h.2.1]
    split <;> omega
  · have := h.1 k (by omega)
    omega
theorem Nm_val {f : Nat → Int64} {a : Nat} {v : Int} (h : Nm f a v) : -(nB ^ 43) ≤ v ∧ v < nB ^ 43 := by
  have b := nS_bound (n := 43) h.1
  have e : nS (mZ f a) 43 + mZ f a 43 * nB ^ 43 = v := h.2.2
  have h2 := h.2.1
  have hp := nB_pow 43
  generalize nB ^ 43 = P at *
  rw [h2] at e
  split at e <;> omega
theorem Nm_uniq {f g : Nat → Int64} {a b : Nat} {v : Int} (h : Nm f a v) (h2 : Nm g b v) {k : Nat} (hk : k < 44) : mZ f a k = mZ g b k := by
  have t : mZ f a 43 = mZ g b 43 := by rw [h.2.1, h2.2.1]
  by_cases e : k = 43
  · subst e; exact t
  · refine nS_uniq (n := 43) h.1 h2.1 ?_ k (by omega)
    have e1 : nS (mZ f a) 43 + mZ f a 43 * nB ^ 43 = v := h.2.2
    have e2 : nS (mZ g b) 43 + mZ g b 43 * nB ^ 43 = v := h2.2.2
    rw [t] at e1
    omega
/-- 0 is all parts 0 -/
theorem Nm_zero {f : Nat → Int64} {a : Nat} {v : Int} (h : Nm f a v) : v = 0 ↔ ∀ k, k < 44 → mZ f a k = 0 := by
  constructor
  · intro e k hk
    subst e
    have h0 : Nm (fun _ => 0) 0 0 := ⟨fun k _ => by simp [mZ, m_z0], by simp [mZ, m_z0], by rw [nS_cong (w := fun _ => 0) (fun k _ => by simp [mZ, m_z0])]; exact nS_zero 44⟩
    rw [Nm_uniq h h0 hk]
    simp [mZ, m_z0]
  · intro hz
    rw [← h.2.2, nS_cong hz]
    exact nS_zero 44
section CM2
variable {L0 : Nat} {xs : Nat → Int32} {Q : xiQ} {I : Nat → Nat → Int32} {L : Nat → Nat → Int64} {f p q r : Nat → Int64}
theorem d_carry {a : Nat} (ha : a < 1067) {v : Int} (hf : ∀ k, k < 44 → -8000000000000000000 ≤ mZ f a k ∧ mZ f a k ≤ 8000000000000000000) (hv : nS (mZ f a) 44 = v) (h1 : -(nB ^ 43) ≤ v) (h2 : v < nB ^ 43) (hQ : ∀ g, mF f g a → Nm g a v → Q none (xSH, xRF, I, mL L g p q r)) :
    xi_V (xG L0 xs) 108 0 [some (Value.ref 37), some (Value.int (nI a)), none, none, none] [] (xSH, xRF, I, mL L f p q r) 0 0 Q := by
  rw [← mL_s38]
  exact c_carry ha hf hv h1 h2 (fun g h3 h4 => by rw [mL_r38]; exact hQ g h3 h4)
theorem c_put_loop {a : Nat} (ha : a < 1067) {w : Int64} (h1 : -8000000000000000000 ≤ w.toInt ∧ w.toInt ≤ 8000000000000000000) (hQ : ∀ g, mF f g a → Nm g a w.toInt → Q none (xSH, xRF, I, mL L g p q r)) :
    ∀ (n k : Nat) (g : Nat → Int64), k + n = 44 → filI f g a k (fun i => if i = 0 then w else 0) → xi_V (xG L0 xs) 109 3 [some (Value.ref 37), some (Value.int (nI a)), some (Value.long w), none, some (Value.int (nI k))] [] (xSH, xRF, I, mL L g p q r) 0 0 Q
  | 0, k, g, hk, hi => by
    have : k = 44 := by omega
    subst this
    have hz : ∀ k, k < 44 → mZ g a k = if k = 0 then w.toInt else 0 := fun k hk => by
      rw [filI_Z hi hk]
      split
      · rfl
      · exact m_z0
    refine b_M_put_3 ⟨fun _ => d_carry ha (v := w.toInt) (fun k hk => ?_) ?_ ?_ ?_ (fun g2 a1 a2 => b_M_put_43 (hQ g2 (mF_tr hi.1 a1) a2)), fun c => ?_⟩
    · rw [hz k hk]; split <;> omega
    · rw [nS_cong hz]; simp [nS]
    · exact Int.le_trans (by decide) h1.1
    · exact Int.lt_of_le_of_lt h1.2 (by decide)
    · exact absurd (by rw [m_44]; exact nI_le (by omega) (by omega)) c
  | n + 1, k, g, hk, hi => by
    have hk2 : k < 44 := by omega
    have hs := filI_s hi hk2
    refine b_M_put_3 ⟨fun c => ?_, fun _ => ⟨fun c => ?_, fun c => ?_⟩⟩
    · exact absurd c (by rw [m_44]; exact nI_ge hk2 (by omega))
    · rw [m_ix, m_cl ha hk2, mL_u38, nI_1]
      have : ¬ k = 0 := fun z => c (by rw [z]; rfl)
      rw [if_neg this] at hs
      exact ⟨m_in ha hk2, c_put_loop ha h1 hQ n (k + 1) _ (by omega) hs⟩
    · rw [m_ix, m_cl ha hk2, mL_u38, nI_1]
      have : k = 0 := by
        by_cases z : k = 0
        · exact z
        · exact absurd c (nI_ne0 (by omega) (by omega))
      rw [if_pos this] at hs
      exact ⟨m_in ha hk2, c_put_loop ha h1 hQ n (k + 1) _ (by omega) hs⟩
/-- put(a, w) -/
theorem c_put {a : Nat} (ha : a < 1067) {w : Int64} (h1 : -8000000000000000000 ≤ w.toInt ∧ w.toInt ≤ 8000000000000000000) (hQ : ∀ g, mF f g a → Nm g a w.toInt → Q none (xSH, xRF, I, mL L g p q r)) :
    xi_V (xG L0 xs) 109 0 [some (Value.ref 37), some (Value.int (nI a)), some (Value.long w), none, none] [] (xSH, xRF, I, mL L f p q r) 0 0 Q :=
  b_M_put_0 (c_put_loop ha h1 hQ 44 0 f rfl filI_0)
theorem c_copy_loop {a b : Nat} (ha : a < 1067) (hb : b < 1067) (hab : a ≠ b) (hQ : ∀ g, filI f g a 44 (fun i => f (44 * b + i)) → Q none (xSH, xRF, I, mL L g p q r)) :
    ∀ (n k : Nat) (g : Nat → Int64), k + n = 44 → filI f g a k (fun i => f (44 * b + i)) → xi_V (xG L0 xs) 110 2 [some (Value.ref 37), some (Value.int (nI a)), some (Value.int (nI b)), some (Value.int (nI k))] [] (xSH, xRF, I, mL L g p q r) 0 0 Q
  | 0, k, g, hk, hi => by
    have : k = 44 := by omega
    subst this
    exact b_M_copy_2 ⟨fun _ => hQ g hi, fun c => absurd (by rw [m_44]; exact nI_le (by omega) (by omega)) c⟩
  | n + 1, k, g, hk, hi => by
    have hk2 : k < 44 := by omega
    refine b_M_copy_2 ⟨fun c => absurd c (by rw [m_44]; exact nI_ge hk2 (by omega)), fun _ => ?_⟩
    rw [m_ix, m_ix, m_cl ha hk2, m_cl hb hk2, mL_u38, nI_1, mL_38]
    refine ⟨m_in hb hk2, m_in ha hk2, c_copy_loop ha hb hab hQ n (k + 1) _ (by omega) ?_⟩
    have hs := filI_s hi hk2
    have e : g (44 * b + k) = f (44 * b + k) := hi.1 _ (by omega)
    rw [e]
    exact hs
/-- copy(a, b), another row -/
theorem c_copy {a b : Nat} (ha : a < 1067) (hb : b < 1067) (hab : a ≠ b) {v : Int} (hv : Nm f b v) (hQ : ∀ g, mF f g a → Nm g a v → Q none (xSH, xRF, I, mL L g p q r)) :
    xi_V (xG L0 xs) 110 0 [some (Value.ref 37), some (Value.int (nI a)), some (Value.int (nI b)), none] [] (xSH, xRF, I, mL L f p q r) 0 0 Q := by
  refine b_M_copy_0 (c_copy_loop ha hb hab (fun g hg => hQ g hg.1 ?_) 44 0 f rfl filI_0)
  have hz : ∀ k, k < 44 → mZ g a k = mZ f b k := fun k hk => filI_Z hg hk
  exact ⟨fun k hk => by rw [hz k (by omega)]; exact hv.1 k hk, by rw [hz 43 (by omega)]; exact hv.2.1, by rw [nS_cong hz]; exact hv.2.2⟩
end CM2
