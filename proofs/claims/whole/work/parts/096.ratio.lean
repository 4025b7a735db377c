/-! the class's weights and the reference's: bounds, one ratio -/
theorem wt_nn {D : xD} (hC : okC D) (s : Nat) : 0 ≤ wt D s := by
  unfold wt
  split
  · exact (w0_01 D s).1
  · split
    · exact (w1_01 D s).1
    · split
      · exact (wS_b D s _).1
      · split
        · exact (w3_b hC s _ (Nat.le_refl _)).1
        · exact (w4_b hC s _ (Nat.le_refl _)).1
theorem w3k_01 (D : xD) (s : Nat) : 0 ≤ w3k D s ∧ w3k D s ≤ 1 := by unfold w3k; split <;> decide
theorem wk_nn {D : xD} (hC : okC D) (s : Nat) : 0 ≤ wk D s := by
  unfold wk
  split
  · exact (w0_01 D s).1
  · split
    · exact (w1_01 D s).1
    · split
      · exact (wS_b D s _).1
      · split
        · exact (w3k_01 D s).1
        · split
          · exact (w0_01 D s).1
          · exact (w4_b hC s _ (Nat.le_refl _)).1
theorem pZ_pos {D : xD} (hC : okC D) : 1 ≤ pZ D := by
  unfold pZ
  rw [← pb_all (D := D) (s := 2 ^ qN D - 1) (qN D) (fun k hk => by rw [ones_bt, if_pos hk])]
  exact (pb4_b hC _ _ (Nat.le_refl _)).1
theorem wk_c {D : xD} (hD : okD D) (hK : qK D ≠ 3) : ∃ c : Int, 0 < c ∧ ∀ s, s < 2 ^ qN D → wt D s = c * wk D s := by
  have h10 := hD.1.1
  by_cases e : qK D ≤ 2 ∨ ¬ qn D = qN D
  · refine ⟨1, by decide, fun s _ => ?_⟩
    rw [Int.one_mul]
    unfold wt wk
    split
    · rfl
    · split
      · rfl
      · split
        · rfl
        · rw [if_neg (show ¬ qn D = qN D by omega)]
  · refine ⟨pZ D, by have := pZ_pos hD.1; omega, fun s hs => ?_⟩
    unfold wt wk
    rw [if_neg (by omega), if_neg (by omega), if_neg (by omega), if_neg hK, if_neg (by omega), if_neg (by omega), if_neg (by omega), if_neg hK, if_pos (by omega), w4_pb]
    unfold w0
    by_cases c : bc s 10 = qn D
    · rw [if_pos c, Int.one_mul, Int.mul_one]
      rw [bc_10 hs h10.2] at c
      exact pb_all (qN D) (bc_all (by omega))
    · rw [if_neg c, Int.zero_mul, Int.mul_zero]
theorem al_sum {D : xD} (hD : okD D) : al D = sm (wt D) (2 ^ qN D) := by
  unfold al
  by_cases e : qK D = 2
  · rw [if_pos e, ← wS_sum hD.1.1.1 (qT D) (Nat.le_refl _)]
    exact sm_cong (fun s _ => by unfold wt; rw [e]; rfl)
  · rw [if_neg e]
theorem wk_pos {D : xD} (hD : okD D) (hK : qK D ≠ 3) : ∃ s, s < 2 ^ qN D ∧ 1 ≤ wk D s := by
  have h10 := hD.1.1
  have hn := hD.2.2.1
  by_cases e1 : qK D = 1
  · refine ⟨gSt D (qN D), gSt_lt D _, ?_⟩
    unfold wk
    rw [if_neg (by omega), if_pos e1]
    unfold w1
    rw [if_pos (gSt_by hD)]
    decide
  · by_cases e2 : qK D = 2
    · have hT : 1 ≤ qT D := by
        have hs := sz_le2 (D := D) (a := 1) (b := qN D) h10.1
        have hz := (hD.1.2 0 (by omega)).2.1
        have e : sz D 1 = 0 + qZ D 0 := rfl
        unfold qT
        omega
      refine ⟨stS D 0 (qn D), stS_lt h10.1 (by omega) _ (Nat.le_refl _), ?_⟩
      unfold wk
      rw [if_neg (by omega), if_neg e1, if_pos e2]
      have : ∀ r : Nat, 1 ≤ r → 1 ≤ wS D (stS D 0 (qn D)) r := by
        intro r
        induction r with
        | zero => intro h; omega
        | succ r ih =>
          intro _
          rw [wS]
          have hb := (wS_b D (stS D 0 (qn D)) r).1
          by_cases z : r = 0
          · subst z
            rw [if_pos rfl]; omega
          · have := ih (by omega)
            split <;> omega
      exact this _ hT
    · refine ⟨2 ^ qn D - 1, ones_lt hn, ?_⟩
      unfold wk
      rw [if_neg e1, if_neg e2, if_neg hK]
      split
      · rw [w0_ones hD]; decide
      · split
        · rw [w0_ones hD]; decide
        · rw [w4_pb, w0_ones hD, Int.one_mul]
          exact (pb4_b hD.1 _ _ (Nat.le_refl _)).1
theorem wk_sumb {D : xD} (hD : okD D) (hK : qK D ≠ 3) : sm (wk D) (2 ^ qN D) ≤ 19531250000000000 := by
  have h10 := hD.1.1
  have hp := p2_lt h10.2
  have one : (∀ s, wk D s ≤ 1) → sm (wk D) (2 ^ qN D) ≤ 19531250000000000 := by
    intro h
    have := sm_le (f := wk D) (g := fun _ => 1) (n := 2 ^ qN D) (fun s _ => h s)
    rw [sm_const] at this
    omega
  by_cases e0 : qK D = 0
  · exact one (fun s => by unfold wk; rw [if_pos e0]; exact (w0_01 D s).2)
  · by_cases e1 : qK D = 1
    · exact one (fun s => by unfold wk; rw [if_neg e0, if_pos e1]; exact (w1_01 D s).2)
    · by_cases e2 : qK D = 2
      · have e : sm (wk D) (2 ^ qN D) = (qT D : Int) := by
          rw [← wS_sum h10.1 (qT D) (Nat.le_refl _)]
          exact sm_cong (fun s _ => by unfold wk; rw [if_neg e0, if_neg e1, if_pos e2])
        have := qT_le hD.1
        omega
      · by_cases e4 : qn D = qN D
        · exact one (fun s => by unfold wk; rw [if_neg e0, if_neg e1, if_neg e2, if_neg hK, if_pos e4]; exact (w0_01 D s).2)
        · rw [sm_cong (g := fun s => w4 D s (qN D)) (fun s _ => by unfold wk; rw [if_neg e0, if_neg e1, if_neg e2, if_neg hK, if_neg e4])]
          exact w4_sum hD.1 (by have := hD.2.2.1; omega)
theorem Wk_b {D : xD} (hD : okD D) : 1 ≤ Wk D ∧ Wk D ≤ 19531250000000000 := by
  unfold Wk
  by_cases e : qK D = 3
  · rw [if_pos e]; decide
  · rw [if_neg e]
    refine ⟨?_, wk_sumb hD e⟩
    obtain ⟨s, hs, h1⟩ := wk_pos hD e
    have := sm_part (f := wk D) (fun k _ => wk_nn hD.1 k) hs
    omega
theorem wk_le {D : xD} (hD : okD D) {s : Nat} (hs : s < 2 ^ qN D) : wk D s ≤ 19531250000000000 := by
  by_cases e : qK D = 3
  · unfold wk
    rw [e]
    have := (w3k_01 D s).2
    show w3k D s ≤ _
    omega
  · exact Int.le_trans (sm_part (f := wk D) (fun k _ => wk_nn hD.1 k) hs) (wk_sumb hD e)
theorem bt2_le (s i j : Nat) : bt s i * bt s j ≤ 1 := by rcases bt2_01 s i j with z | z <;> omega
theorem pk_b {D : xD} (hD : okD D) {i j : Nat} (hi : i < qN D) (hj : j < qN D) : 0 ≤ pk D i j ∧ pk D i j ≤ Wk D := by
  unfold pk Wk
  by_cases e : qK D = 3
  · rw [if_pos e, if_pos e]
    have h1 := (hD.1.2 i hi).2.2.2
    have h2 := (hD.1.2 j hj).2.2.2
    split
    · omega
    · exact mulb (A := 100) (B := 100) (by omega) (by omega)
  · rw [if_neg e, if_neg e]
    refine ⟨sm_nn (fun k _ => Int.mul_nonneg (Int.natCast_nonneg _) (wk_nn hD.1 k)), sm_le (fun k _ => ?_)⟩
    have := wk_nn hD.1 k
    show ((bt k i * bt k j : Nat) : Int) * wk D k ≤ wk D k
    rcases bt2_01 k i j with z | z <;> rw [z] <;> simp <;> omega
theorem kw_al {D : xD} (hD : okD D) (hK : qK D ≠ 3) : ∃ c : Int, 0 < c ∧ (∀ s, s < 2 ^ qN D → wt D s = c * wk D s) ∧ al D = c * Wk D := by
  obtain ⟨c, h1, h2⟩ := wk_c hD hK
  refine ⟨c, h1, h2, ?_⟩
  unfold Wk
  rw [al_sum hD, if_neg hK, sm_cong h2, sm_mul]
theorem kw_wt {D : xD} (hD : okD D) (hK : qK D ≠ 3) {s : Nat} (hs : s < 2 ^ qN D) : Wk D * wt D s = al D * wk D s := by
  obtain ⟨c, h1, h2, h3⟩ := kw_al hD hK
  rw [h2 s hs, h3, Int.mul_left_comm, Int.mul_assoc]
theorem kw_c2 {D : xD} (hD : okD D) {i j : Nat} (hi : i < qN D) (hj : j < qN D) : Wk D * c2 D i j = al D * pk D i j := by
  by_cases hK : qK D = 3
  · have := own_c2 hK hi hj
    unfold Wk
    rw [if_pos hK]
    exact this
  · obtain ⟨c, h1, h2, h3⟩ := kw_al hD hK
    have e : c2 D i j = c * pk D i j := by
      unfold c2 pk
      rw [if_neg hK, ← sm_mul]
      exact sm_cong (fun s hs => by rw [h2 s hs, Int.mul_left_comm])
    rw [e, h3, Int.mul_left_comm, Int.mul_assoc]
theorem wk_0 {D : xD} (hD : okD D) {s : Nat} (hs : s < 2 ^ qN D) : wk D s = 0 ↔ wt D s = 0 := by
  by_cases hK : qK D = 3
  · have e1 : wt D s = w3 D s (qN D) := by unfold wt; rw [hK]; rfl
    have e2 : wk D s = w3k D s := by unfold wk; rw [hK]; rfl
    rw [e1, e2, w3_fits]
    unfold w3k
    by_cases f : fits D s
    · rw [if_pos f]; simp [f]
    · rw [if_neg f]; simp [f]
  · obtain ⟨c, h1, h2⟩ := wk_c hD hK
    rw [h2 s hs, Int.mul_eq_zero]
    constructor
    · intro z; exact Or.inr z
    · intro z; exact z.resolve_left (by omega)
theorem al_pos {D : xD} (hD : okD D) : 0 < al D := by
  by_cases hK : qK D = 3
  · rw [own_al hK]; exact Int.pow_pos (by decide)
  · obtain ⟨c, h1, h2, h3⟩ := kw_al hD hK
    rw [h3]
    exact Int.mul_pos h1 (by have := (Wk_b hD).1; omega)
theorem al_le {D : xD} (hD : okD D) : al D ≤ 100000000000000000000 := by
  have h10 := hD.1.1
  have hp := p2_lt h10.2
  by_cases hK : qK D = 3
  · rw [own_al hK]; exact p100 h10.2
  · rw [al_sum hD]
    have one : (∀ s, wt D s ≤ 1) → sm (wt D) (2 ^ qN D) ≤ 100000000000000000000 := by
      intro h
      have := sm_le (f := wt D) (g := fun _ => 1) (n := 2 ^ qN D) (fun s _ => h s)
      rw [sm_const] at this
      omega
    by_cases e0 : qK D = 0
    · exact one (fun s => by unfold wt; rw [if_pos e0]; exact (w0_01 D s).2)
    · by_cases e1 : qK D = 1
      · exact one (fun s => by unfold wt; rw [if_neg e0, if_pos e1]; exact (w1_01 D s).2)
      · by_cases e2 : qK D = 2
        · rw [sm_cong (g := fun s => wS D s (qT D)) (fun s _ => by unfold wt; rw [if_neg e0, if_neg e1, if_pos e2]), wS_sum h10.1 _ (Nat.le_refl _)]
          have := qT_le hD.1
          omega
        · have h1 : sm (wt D) (2 ^ qN D) ≤ sm (fun s => pb (f4 D) s (qN D)) (2 ^ qN D) := sm_le (fun s _ => by
            unfold wt
            rw [if_neg e0, if_neg e1, if_neg e2, if_neg hK, w4_pb]
            have hw := w0_01 D s
            have hb := (pb4_b hD.1 s (qN D) (Nat.le_refl _)).1
            have : w0 D s * pb (f4 D) s (qN D) ≤ 1 * pb (f4 D) s (qN D) := Int.mul_le_mul_of_nonneg_right hw.2 (by omega)
            omega)
          rw [psum] at h1
          have h2 := (pd_le (h := fun k => f4 D k 0 + f4 D k 1) (c := 100) (by decide) (n := qN D) (fun k hk => by
            have hz := (hD.1.2 k hk).2.1
            show 0 ≤ f4 D k 0 + f4 D k 1 ∧ f4 D k 0 + f4 D k 1 ≤ 100
            unfold f4
            rw [if_neg (by decide), if_pos rfl]
            omega)).2
          exact Int.le_trans h1 (Int.le_trans h2 (p100 h10.2))
theorem c1_c2 (D : xD) (i : Nat) : c1 D i = c2 D i i := by
  unfold c1 c2
  exact sm_cong (fun s _ => by rcases bt_01 s i with z | z <;> rw [z])
/-- the parts of a chance in lowest terms -/
theorem ov_b {D : xD} (hD : okD D) {i : Nat} (hi : i < qN D) : 0 ≤ ov D i ∧ ov D i ≤ 19531250000000000 ∧ 0 < un D i ∧ un D i ≤ 19531250000000000 := by
  have hW := Wk_b hD
  have hp := pk_b hD hi hi
  have he := rN_eq (a := c1 D i) (b := al D) (c := pk D i i) (d := Wk D) (al_pos hD) (by omega) (by rw [c1_c2, Int.mul_comm, kw_c2 hD hi hi, Int.mul_comm])
  have e1 : ov D i = rN (pk D i i) (Wk D) := he.1
  have e2 : un D i = rD (pk D i i) (Wk D) := he.2
  have ha := rN_abs (x := pk D i i) (y := Wk D) (by omega)
  have hle : (pk D i i).natAbs / Nat.gcd (pk D i i).natAbs (Wk D).natAbs ≤ (pk D i i).natAbs := Nat.div_le_self _ _
  have hle2 : (Wk D).natAbs / Nat.gcd (pk D i i).natAbs (Wk D).natAbs ≤ (Wk D).natAbs := Nat.div_le_self _ _
  have hnn : 0 ≤ rN (pk D i i) (Wk D) := Int.ediv_nonneg hp.1 (Int.natCast_nonneg _)
  rw [e1, e2]
  refine ⟨hnn, ?_, ha.2.2.2, ?_⟩
  · have := ha.1
    omega
  · rw [ha.2.1]
    have := Int.ofNat_le.mpr hle2
    omega
def bU : Int := 19531250000000000
theorem bU_mono {a b : Nat} (h : a ≤ b) : bU ^ a ≤ bU ^ b := by
  obtain ⟨d, rfl⟩ : ∃ d, b = a + d := ⟨b - a, by omega⟩
  rw [Int.pow_add]
  have h1 : 0 < bU ^ d := Int.pow_pos (by decide)
  have h2 : 0 < bU ^ a := Int.pow_pos (by decide)
  have : bU ^ a * 1 ≤ bU ^ a * bU ^ d := Int.mul_le_mul_of_nonneg_left (by omega) (Int.le_of_lt h2)
  omega
theorem cmn_b {D : xD} (hD : okD D) : ∀ m, m ≤ qN D → 1 ≤ cmn D m ∧ cmn D m ≤ bU ^ m ∧ ∀ i, i < m → ov D i ≠ 0 → ov D i ∣ cmn D m ∧ cmn D m ≤ ov D i * bU ^ (m - 1)
  | 0, _ => ⟨by rw [cmn]; decide, by rw [cmn, Int.pow_zero]; decide, fun i hi => absurd hi (Nat.not_lt_zero i)⟩
  | m + 1, hm => by
    obtain ⟨i1, i2, i3⟩ := cmn_b hD m (by omega)
    have ho := ov_b hD (show m < qN D by omega)
    have hU : (0 : Int) < bU ^ m := Int.pow_pos (by decide)
    have eU : bU ^ (m + 1) = bU ^ m * bU := Int.pow_succ bU m
    rw [cmn]
    by_cases c : ov D m = 0
    · rw [if_pos c]
      refine ⟨i1, Int.le_trans i2 (bU_mono (Nat.le_succ m)), fun i hi hne => ?_⟩
      have him : i < m := by
        rcases Nat.lt_succ_iff_lt_or_eq.mp hi with z | z
        · exact z
        · subst z; exact absurd c hne
      have := i3 i him hne
      refine ⟨this.1, Int.le_trans this.2 (Int.mul_le_mul_of_nonneg_left (bU_mono (by omega)) (ov_b hD (by omega)).1)⟩
    · rw [if_neg c]
      have hop : 0 < ov D m := by omega
      obtain ⟨g, hg⟩ : ∃ g : Int, g = ((Int.gcd (cmn D m) (ov D m) : Nat) : Int) := ⟨_, rfl⟩
      have hgp : 0 < g := by rw [hg]; exact gcd_pos2 hop
      have hd1 : g ∣ cmn D m := by rw [hg]; exact Int.gcd_dvd_left ..
      have hd2 : g ∣ ov D m := by rw [hg]; exact Int.gcd_dvd_right ..
      rw [← hg]
      obtain ⟨a, ha⟩ := hd1
      obtain ⟨b, hb⟩ := hd2
      have hq : ov D m / g = b := by rw [hb, Int.mul_ediv_cancel_left _ (by omega)]
      have hbp : 1 ≤ b := by
        rcases Int.lt_or_le 0 b with z | z
        · omega
        · have := Int.mul_nonpos_of_nonneg_of_nonpos (Int.le_of_lt hgp) z
          omega
      have hap : 1 ≤ a := by
        rcases Int.lt_or_le 0 a with z | z
        · omega
        · have := Int.mul_nonpos_of_nonneg_of_nonpos (Int.le_of_lt hgp) z
          omega
      have hbo : b ≤ ov D m := by
        have : 1 * b ≤ g * b := Int.mul_le_mul_of_nonneg_right (by omega) (by omega)
        omega
      have hac : a ≤ cmn D m := by
        have : 1 * a ≤ g * a := Int.mul_le_mul_of_nonneg_right (by omega) (by omega)
        omega
      have e1 : cmn D m * b = ov D m * a := by rw [ha, hb, Int.mul_assoc, Int.mul_assoc, Int.mul_comm a b]
      rw [hq]
      have hbU : b ≤ bU := Int.le_trans hbo ho.2.1
      refine ⟨?_, ?_, fun i hi hne => ?_⟩
      · have : 1 * 1 ≤ cmn D m * b := Int.mul_le_mul i1 hbp (by decide) (by omega)
        omega
      · rw [eU]
        exact (mulb (x := cmn D m) (y := b) ⟨by omega, i2⟩ ⟨by omega, hbU⟩).2
      · rw [Nat.add_sub_cancel]
        rcases Nat.lt_succ_iff_lt_or_eq.mp hi with z | z
        · obtain ⟨d1, d2⟩ := i3 i z hne
          refine ⟨Int.dvd_trans d1 (Int.dvd_mul_right _ _), ?_⟩
          have h1 := (mulb (x := cmn D m) (y := b) (A := ov D i * bU ^ (m - 1)) (B := bU) ⟨by omega, d2⟩ ⟨by omega, hbU⟩).2
          have e2 : ov D i * bU ^ (m - 1) * bU = ov D i * bU ^ m := by rw [Int.mul_assoc, ← Int.pow_succ, show (m - 1).succ = m by omega]
          rw [e2] at h1
          exact h1
        · subst z
          rw [e1]
          exact ⟨Int.dvd_mul_right _ _, Int.mul_le_mul_of_nonneg_left (Int.le_trans hac i2) (by omega)⟩
theorem okB_of {D : xD} (hD : okD D) : okB D 100000000000000000000 (bU ^ 10) := by
  have h10 := hD.1.1
  have hU1 : (1 : Int) ≤ bU ^ 10 := by decide +kernel
  have hUU : (19531250000000000 : Int) ≤ bU ^ 10 := by decide +kernel
  refine ⟨by decide, hU1, by decide +kernel, wt_nn hD.1, by rw [← al_sum hD]; exact al_le hD, ⟨al_pos hD, al_le hD⟩, fun i hi => ?_, fun m hm => ?_, fun i hi hne => ?_⟩
  · have := ov_b hD hi
    exact ⟨this.1, Int.le_trans this.2.1 hUU, this.2.2.1, Int.le_trans this.2.2.2 hUU⟩
  · have := cmn_b hD m hm
    exact ⟨this.1, Int.le_trans this.2.1 (bU_mono (by omega))⟩
  · have hc := cmn_b hD (qN D) (Nat.le_refl _)
    have ho := ov_b hD hi
    have hop : 0 < ov D i := by omega
    obtain ⟨d1, d2⟩ := hc.2.2 i hi hne
    have hq0 : 0 ≤ cmn D (qN D) / ov D i := Int.ediv_nonneg (by omega) (by omega)
    have hq1 : cmn D (qN D) / ov D i ≤ bU ^ (qN D - 1) := by
      have h1 : cmn D (qN D) / ov D i ≤ ov D i * bU ^ (qN D - 1) / ov D i := Int.ediv_le_ediv hop d2
      rw [Int.mul_ediv_cancel_left _ (by omega)] at h1
      exact h1
    have hm := mulb (x := cmn D (qN D) / ov D i) (y := un D i) (A := bU ^ (qN D - 1)) (B := bU) ⟨hq0, hq1⟩ ⟨by omega, ho.2.2.2⟩
    rw [← Int.pow_succ, show (qN D - 1).succ = qN D by omega] at hm
    exact ⟨hq0, Int.le_trans hq1 (bU_mono (by omega)), hm.1, Int.le_trans hm.2 (bU_mono (by omega))⟩
