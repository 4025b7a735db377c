/-! sums of the told: what the class makes of its weights is what the reference has -/
/-- over a product of bottoms, of the names that c picks -/
noncomputable def tv (p : Nat → Nat → Int) (c : Nat → Prop) : Nat → Int
  | 0 => 1
  | i + 1 => @ite Int (c i) (Classical.propDecidable _) (tv p c i * p i i) (tv p c i)
noncomputable def tu (a : Nat → Int) (p : Nat → Nat → Int) (c : Nat → Prop) : Nat → Int
  | 0 => 0
  | i + 1 => @ite Int (c i) (Classical.propDecidable _) (tu a p c i * p i i + tv p c i * a i) (tu a p c i)
noncomputable def sts (D : xD) (p : Nat → Nat → Int) (c : Nat → Prop) : Nat → Int
  | 0 => 0
  | i + 1 => @ite Int (c i) (Classical.propDecidable _) (sts D p c i * p i i + tv p c i * (qW D i * qW D i) + tu (fun j => qW D j * p i j) p c i * (2 * qW D i)) (sts D p c i)
theorem id_sum {K u v w p P t : Int} (h : K * u = v * t) (hp : p * P = K * w) : K * (u * p + v * w) = v * p * (t + P) := by grind
theorem id_au {K u v w p P t q : Int} (h : K * u = v * t) (hp : p * P = K * w) : K * (u * p + v * (w * q)) = v * p * (t + P * q) := by grind
theorem id_st {K st v w p P Qd S au : Int} (h : K * K * st = v * Qd) (ha : K * au = v * S) (hp : p * P = K * w) : K * K * (st * p + v * (w * w) + au * (2 * w)) = v * p * (Qd + P * P * p + 2 * P * S) := by grind
theorem id_g {G W al P c S Qd cS p : Int} (h : W * G = al * Qd) (h1 : W * c = al * p) (h2 : W * cS = al * S) : W * (G + P * P * c + 2 * P * cS) = al * (Qd + P * P * p + 2 * P * S) := by grind
theorem id_spread {W al cm st v G Qd wm F : Int} (hW : W ≠ 0) (h1 : (W * cm) * (W * cm) * st = v * Qd) (h2 : W * G = al * Qd) (hF : F = al * cm * wm) : (st * W + v * wm * (-wm)) * (al * cm * (al * cm)) = (G * al - F * F) * v := by
  have e : W * (st * W * (al * cm * (al * cm))) = W * (G * al * v) := by grind
  have e2 := Int.eq_of_mul_eq_mul_left hW e
  grind
theorem id_pc {p P al W c w cm : Int} (hal : al ≠ 0) (h1 : P * c = w * al * cm) (h2 : W * c = al * p) : p * P = (W * cm) * w := by
  have e : al * (p * P) = al * ((W * cm) * w) := by grind
  exact Int.eq_of_mul_eq_mul_left hal e
/-- the piece of a name by its weight -/
theorem pc_c1 {D : xD} (hD : okD D) {i : Nat} (hi : i < qN D) : (c1 D i = 0 → pc D i = 0) ∧ (c1 D i ≠ 0 → pc D i * c1 D i = qW D i * al D * cmn D (qN D)) := by
  have hal := al_pos hD
  obtain ⟨g, hg⟩ : ∃ g : Int, g = ((Int.gcd (c1 D i) (al D) : Nat) : Int) := ⟨_, rfl⟩
  have hgp : 0 < g := by rw [hg]; exact gcd_pos2 hal
  have hd1 : g ∣ c1 D i := by rw [hg]; exact Int.gcd_dvd_left ..
  have hd2 : g ∣ al D := by rw [hg]; exact Int.gcd_dvd_right ..
  have e1 : ov D i * g = c1 D i := by unfold ov; rw [← hg]; exact Int.ediv_mul_cancel hd1
  have e2 : un D i * g = al D := by unfold un; rw [← hg]; exact Int.ediv_mul_cancel hd2
  refine ⟨fun z => ?_, fun z => ?_⟩
  · have : ov D i = 0 := by
      rw [z] at e1
      exact (Int.mul_eq_zero.mp e1).resolve_right (by omega)
    unfold pc
    rw [if_pos this]
  · have ho : ov D i ≠ 0 := fun w => z (by rw [← e1, w, Int.zero_mul])
    have hdv := ((cmn_b hD (qN D) (Nat.le_refl _)).2.2 i hi ho).1
    have e3 : cmn D (qN D) / ov D i * ov D i = cmn D (qN D) := Int.ediv_mul_cancel hdv
    unfold pc
    rw [if_neg ho, ← e1, ← e2]
    generalize cmn D (qN D) / ov D i = q at *
    rw [← e3]
    grind
section SU
variable {D : xD} {W : Int} {p : Nat → Nat → Int}
/-- the weights of the names and of the pairs, in one ratio to the reference's -/
def rat (D : xD) (W : Int) (p : Nat → Nat → Int) : Prop := (1 ≤ W ∧ W ≤ bU) ∧ ∀ i j, j ≤ i → i < qN D → 0 ≤ p i j ∧ p i j ≤ W ∧ W * c2 D i j = al D * p i j
theorem rat_pc (hD : okD D) (hr : rat D W p) {i : Nat} (hi : i < qN D) : (p i i = 0 → pc D i = 0) ∧ (0 < p i i → p i i * pc D i = (W * cmn D (qN D)) * qW D i) := by
  have hal := al_pos hD
  obtain ⟨h1, h2, h3⟩ := hr.2 i i (Nat.le_refl i) hi
  have hW := hr.1.1
  have hp := pc_c1 hD hi
  rw [← c1_c2] at h3
  refine ⟨fun z => hp.1 ?_, fun z => ?_⟩
  · rw [z, Int.mul_zero] at h3
    exact (Int.mul_eq_zero.mp h3).resolve_left (by omega)
  · have hc : c1 D i ≠ 0 := fun e => by
      rw [e, Int.mul_zero] at h3
      have := Int.mul_pos hal z
      omega
    exact id_pc (by omega) (hp.2 hc) h3
theorem tu_sum (hD : okD D) (hr : rat D W p) (s : Nat) : ∀ n, n ≤ qN D → (W * cmn D (qN D)) * tu (qW D) p (fun i => bt s i = 1 ∧ 0 < p i i) n = tv p (fun i => bt s i = 1 ∧ 0 < p i i) n * tD D s n
  | 0, _ => by
    rw [tu, tv]
    show (W * cmn D (qN D)) * 0 = 1 * 0
    omega
  | n + 1, h => by
    have ih := tu_sum hD hr s n (by omega)
    have hp := rat_pc hD hr (show n < qN D by omega)
    have h0 := (hr.2 n n (Nat.le_refl n) (by omega)).1
    have et : tD D s (n + 1) = tD D s n + (bt s n : Int) * pc D n := rfl
    rw [tu, tv]
    by_cases c : bt s n = 1 ∧ 0 < p n n
    · rw [if_pos c, if_pos c, et, c.1, Int.natCast_one, Int.one_mul]
      exact id_sum ih (hp.2 c.2)
    · rw [if_neg c, if_neg c, et]
      have : (bt s n : Int) * pc D n = 0 := by
        rcases bt_01 s n with z | z
        · rw [z, Int.natCast_zero, Int.zero_mul]
        · rw [hp.1 (by omega), Int.mul_zero]
      rw [this, Int.add_zero]; exact ih
theorem tu_au (hD : okD D) (hr : rat D W p) (i : Nat) : ∀ n, n ≤ qN D → (W * cmn D (qN D)) * tu (fun j => qW D j * p i j) p (fun j => 0 < p j j) n = tv p (fun j => 0 < p j j) n * sm (fun j => pc D j * p i j) n
  | 0, _ => by
    rw [tu, tv]
    show (W * cmn D (qN D)) * 0 = 1 * 0
    omega
  | n + 1, h => by
    have ih := tu_au hD hr i n (by omega)
    have hp := rat_pc hD hr (show n < qN D by omega)
    have h0 := (hr.2 n n (Nat.le_refl n) (by omega)).1
    rw [tu, tv, sm_s]
    by_cases c : 0 < p n n
    · rw [if_pos c, if_pos c]
      exact id_au ih (hp.2 c)
    · rw [if_neg c, if_neg c, hp.1 (by omega), Int.zero_mul, Int.add_zero]
      exact ih
noncomputable def qdS (D : xD) (p : Nat → Nat → Int) : Nat → Int
  | 0 => 0
  | i + 1 => qdS D p i + pc D i * pc D i * p i i + 2 * pc D i * sm (fun j => pc D j * p i j) i
theorem sts_sum (hD : okD D) (hr : rat D W p) : ∀ n, n ≤ qN D → (W * cmn D (qN D)) * (W * cmn D (qN D)) * sts D p (fun j => 0 < p j j) n = tv p (fun j => 0 < p j j) n * qdS D p n
  | 0, _ => by
    rw [sts, tv]
    show _ * 0 = 1 * 0
    omega
  | n + 1, h => by
    have ih := sts_sum hD hr n (by omega)
    have ha := tu_au hD hr n n (by omega)
    have hp := rat_pc hD hr (show n < qN D by omega)
    have h0 := (hr.2 n n (Nat.le_refl n) (by omega)).1
    rw [sts, tv, qdS]
    by_cases c : 0 < p n n
    · rw [if_pos c, if_pos c]
      exact id_st ih ha (hp.2 c)
    · rw [if_neg c, if_neg c, hp.1 (by omega), Int.zero_mul, Int.zero_mul, Int.mul_zero, Int.zero_mul, Int.add_zero, Int.add_zero]
      exact ih
/-- the sum of the squares, name by name -/
theorem gD_n (D : xD) : ∀ n, sm (fun s => tD D s (n + 1) * wt D s * tD D s (n + 1)) (2 ^ qN D) = sm (fun s => tD D s n * wt D s * tD D s n) (2 ^ qN D) + pc D n * pc D n * c2 D n n + 2 * pc D n * sm (fun j => pc D j * c2 D n j) n := by
  intro n
  have e1 : sm (fun j => pc D j * c2 D n j) n = sm (fun s => (bt s n : Int) * tD D s n * wt D s) (2 ^ qN D) := by
    rw [sm_cong (g := fun j => sm (fun s => pc D j * (((bt s n * bt s j : Nat) : Int) * wt D s)) (2 ^ qN D)) (fun j _ => by unfold c2; rw [sm_mul]), sm_swap]
    refine sm_cong (fun s _ => ?_)
    unfold tD
    rw [← sm_mul, ← sm_mul']
    refine sm_cong (fun j _ => ?_)
    rw [Int.natCast_mul]
    grind
  rw [e1]
  unfold c2
  rw [← sm_mul, ← sm_mul, ← sm_add, ← sm_add]
  refine sm_cong (fun s _ => ?_)
  have et : tD D s (n + 1) = tD D s n + (bt s n : Int) * pc D n := rfl
  rw [et, Int.natCast_mul]
  grind
theorem gD_q (hr : rat D W p) : ∀ n, n ≤ qN D → W * sm (fun s => tD D s n * wt D s * tD D s n) (2 ^ qN D) = al D * qdS D p n
  | 0, _ => by
    rw [sm_cong (g := fun _ => 0) (fun s _ => by show (0 : Int) * wt D s * 0 = 0; rw [Int.mul_zero]), sm_zero]
    show W * 0 = al D * 0
    omega
  | n + 1, h => by
    have ih := gD_q hr n (by omega)
    have h1 := (hr.2 n n (Nat.le_refl n) (by omega)).2.2
    have h2 : W * sm (fun j => pc D j * c2 D n j) n = al D * sm (fun j => pc D j * p n j) n := by
      rw [← sm_mul, ← sm_mul]
      refine sm_cong (fun j hj => ?_)
      have := (hr.2 n j (by omega) (by omega)).2.2
      rw [Int.mul_left_comm, this, Int.mul_left_comm]
    rw [gD_n, qdS]
    exact id_g ih h1 h2
/-- the WORTH of those that may be drawn -/
noncomputable def wmD (D : xD) (p : Nat → Nat → Int) : Nat → Int
  | 0 => 0
  | i + 1 => wmD D p i + @ite Int (0 < p i i) (Classical.propDecidable _) (qW D i) 0
theorem fD_wm (hD : okD D) (hr : rat D W p) : fD D (2 ^ qN D) = al D * cmn D (qN D) * wmD D p (qN D) := by
  have e1 : fD D (2 ^ qN D) = sm (fun i => pc D i * c1 D i) (qN D) := by
    unfold fD
    rw [sm_cong (g := fun s => sm (fun i => pc D i * ((bt s i : Int) * wt D s)) (qN D)) (fun s _ => by
      unfold tD
      rw [← sm_mul']
      exact sm_cong (fun i _ => by grind)), sm_swap]
    exact sm_cong (fun i _ => by unfold c1; rw [sm_mul])
  rw [e1]
  have : ∀ n, n ≤ qN D → sm (fun i => pc D i * c1 D i) n = al D * cmn D (qN D) * wmD D p n := by
    intro n
    induction n with
    | zero => intro _; show (0 : Int) = _ * 0; omega
    | succ n ih =>
      intro h
      have hal := al_pos hD
      obtain ⟨h1, h2, h3⟩ := hr.2 n n (Nat.le_refl n) (by omega)
      have hW := hr.1.1
      have hp := pc_c1 hD (show n < qN D by omega)
      rw [← c1_c2] at h3
      rw [sm_s, wmD, ih (by omega), Int.mul_add]
      congr 1
      by_cases c : 0 < p n n
      · rw [if_pos c]
        have hc : c1 D n ≠ 0 := fun e => by
          rw [e, Int.mul_zero] at h3
          have := Int.mul_pos hal c
          omega
        rw [hp.2 hc]
        grind
      · rw [if_neg c]
        have hc : c1 D n = 0 := by
          rw [show p n n = 0 by omega, Int.mul_zero] at h3
          exact (Int.mul_eq_zero.mp h3).resolve_left (by omega)
        rw [hc, Int.mul_zero, Int.mul_zero]
  exact this _ (Nat.le_refl _)
theorem mu_av (D : xD) (p : Nat → Nat → Int) : ∀ n, tu (fun j => qW D j * p j j) p (fun j => 0 < p j j) n = tv p (fun j => 0 < p j j) n * wmD D p n
  | 0 => by
    rw [tu, tv]
    show (0 : Int) = 1 * 0
    omega
  | n + 1 => by
    rw [tu, tv, wmD, mu_av D p n]
    by_cases c : 0 < p n n
    · rw [if_pos c, if_pos c, if_pos c]; grind
    · rw [if_neg c, if_neg c, if_neg c, Int.add_zero]
theorem mn_sum (hD : okD D) (hr : rat D W p) : W * mnD D (2 ^ qN D) = al D * sm (fun i => p i i) (qN D) := by
  have e1 : mnD D (2 ^ qN D) = sm (fun i => c1 D i) (qN D) := by
    unfold mnD
    rw [sm_cong (g := fun s => sm (fun i => (bt s i : Int) * wt D s) (qN D)) (fun s hs => by
      rw [bc_10 hs hD.1.1.2, bc_sm, sm_mul', Int.mul_comm]), sm_swap]
    exact sm_cong (fun i _ => rfl)
  rw [e1, ← sm_mul, ← sm_mul]
  exact sm_cong (fun i hi => by rw [c1_c2]; exact (hr.2 i i (Nat.le_refl i) hi).2.2)
end SU
