/-! XI: how an abstract state stands in the heap -/
def xi_v (ad : Nat → Nat) : Value → Value
  | .ref k => .ref (ad k)
  | v => v
theorem xi_v_cat (ad : Nat → Nat) (v : Value) : (xi_v ad v).category = v.category := by cases v <;> rfl
def xi_l (ad : Nat → Nat) (ls : List (Option Value)) : List (Nat × Value) := (List.range ls.length).filterMap (fun i => match ls[i]? with
  | some (some v) => some (i, xi_v ad v)
  | _ => none)
theorem xi_l_mem {ad : Nat → Nat} {ls : List (Option Value)} {q : Nat × Value} : q ∈ xi_l ad ls ↔ ∃ v, ls[q.1]? = some (some v) ∧ q.2 = xi_v ad v := by
  unfold xi_l
  rw [List.mem_filterMap]
  constructor
  · rintro ⟨i, hi, h⟩
    split at h
    · rename_i v hv
      cases h
      exact ⟨v, hv, rfl⟩
    · cases h
  · rintro ⟨v, hv, h2⟩
    refine ⟨q.1, List.mem_range.mpr (List.getElem?_eq_some_iff.mp hv).1, ?_⟩
    rw [hv]
    show some (q.1, xi_v ad v) = some q
    rw [← h2]
theorem xi_has {lsA : Array Slot} {nL : Nat} {l l' : List (Nat × Value)} (h : lv_has lsA nL l) (hs : ∀ q ∈ l', q ∈ l) : lv_has lsA nL l' := ⟨h.1, h.2.1, fun q hq => h.2.2 q (hs q hq)⟩
theorem xi_at {lsA : Array Slot} {nL : Nat} {ad : Nat → Nat} {ls : List (Option Value)} (h : lv_has lsA nL (xi_l ad ls)) {i : Nat} {v : Value} (hi : ls[i]? = some (some v)) : lsA[i]? = some (.val (xi_v ad v)) := h.2.2 (i, xi_v ad v) (xi_l_mem.mpr ⟨v, hi, rfl⟩)
theorem xi_is2_of {o : Option (Option Value)} (h : ¬ xi_is2 o = true) {v : Value} (hv : o = some (some v)) : v.category ≠ 2 := by
  subst hv
  cases v <;> simp_all [xi_is2, Value.category]
theorem xi_kill_at {ls : List (Option Value)} {i j : Nat} {v : Value} (h : (xi_kill ls i)[j]? = some (some v)) : ls[j]? = some (some v) ∧ ¬ (j + 1 = i ∧ v.category = 2) := by
  cases i with
  | zero => exact ⟨h, fun q => by omega⟩
  | succ k =>
    unfold xi_kill at h
    dsimp only at h
    split at h
    · rename_i h2
      rw [List.getElem?_set] at h
      split at h
      · split at h
        · cases h
        · cases h
      · exact ⟨h, fun q => by omega⟩
    · rename_i h2
      refine ⟨h, fun q => ?_⟩
      have e : j = k := by omega
      subst e
      exact xi_is2_of (by rw [h2]; decide) h q.2
theorem xi_kill_len (ls : List (Option Value)) (i : Nat) : (xi_kill ls i).length = ls.length := by
  cases i with
  | zero => rfl
  | succ k => unfold xi_kill; dsimp only; split <;> simp
theorem xi_store1 {lsA : Array Slot} {nL i : Nat} {ad : Nat → Nat} {ls : List (Option Value)} {v w : Value} (hw : w = xi_v ad v) (h : lv_has lsA nL ((i, w) :: (xi_l ad ls).filter (fun q => !(q.1 == i) && !(q.1 + 1 == i && q.2.category == 2)))) : lv_has lsA nL (xi_l ad (xi_s1 ls i v)) := by
  refine xi_has h fun q hq => ?_
  obtain ⟨u, hu, h2⟩ := xi_l_mem.mp hq
  unfold xi_s1 at hu
  rw [List.getElem?_set] at hu
  split at hu
  · rename_i e
    split at hu
    · cases hu
      refine List.mem_cons.mpr (Or.inl ?_)
      rw [hw, e, ← h2]
    · cases hu
  · rename_i e
    obtain ⟨a, b⟩ := xi_kill_at hu
    refine List.mem_cons.mpr (Or.inr (List.mem_filter.mpr ⟨xi_l_mem.mpr ⟨u, a, h2⟩, ?_⟩))
    have b2 : ¬ (q.1 + 1 = i ∧ q.2.category = 2) := by rw [h2, xi_v_cat]; exact b
    have e2 : ¬ q.1 = i := fun z => e z.symm
    simp [e2]
    exact Decidable.not_and_iff_or_not.mp b2
theorem xi_store2 {lsA : Array Slot} {nL i : Nat} {ad : Nat → Nat} {ls : List (Option Value)} {v w : Value} (hw : w = xi_v ad v) (h : lv_has lsA nL ((i, w) :: (xi_l ad ls).filter (fun q => !(q.1 == i) && (!(q.1 == i + 1) && !(q.1 + 1 == i && q.2.category == 2))))) : lv_has lsA nL (xi_l ad (xi_s2 ls i v)) := by
  refine xi_has h fun q hq => ?_
  obtain ⟨u, hu, h2⟩ := xi_l_mem.mp hq
  unfold xi_s2 at hu
  rw [List.getElem?_set] at hu
  split at hu
  · split at hu
    · cases hu
    · cases hu
  · rename_i e3
    rw [List.getElem?_set] at hu
    split at hu
    · rename_i e
      split at hu
      · cases hu
        refine List.mem_cons.mpr (Or.inl ?_)
        rw [hw, e, ← h2]
      · cases hu
    · rename_i e
      obtain ⟨a, b⟩ := xi_kill_at hu
      refine List.mem_cons.mpr (Or.inr (List.mem_filter.mpr ⟨xi_l_mem.mpr ⟨u, a, h2⟩, ?_⟩))
      have b2 : ¬ (q.1 + 1 = i ∧ q.2.category = 2) := by rw [h2, xi_v_cat]; exact b
      have e2 : ¬ q.1 = i := fun z => e z.symm
      have e4 : ¬ q.1 = i + 1 := fun z => e3 z.symm
      simp [e2, e4]
      exact Decidable.not_and_iff_or_not.mp b2
theorem xi_fg_mem {ad : Nat → Nat} : ∀ (is : List Nat) (ls : List (Option Value)) (q : Nat × Value), q ∈ xi_l ad (xi_fg is ls) → q ∈ xi_l ad ls
  | [], _, _, h => h
  | i :: t, ls, q, h => by
    obtain ⟨v, hv, h2⟩ := xi_l_mem.mp (xi_fg_mem t (ls.set i none) q h)
    rw [List.getElem?_set] at hv
    split at hv
    · split at hv <;> cases hv
    · exact xi_l_mem.mpr ⟨v, hv, h2⟩
theorem xi_ent_mem {ad : Nat → Nat} {n : Nat} : ∀ (vs : List Value) (k : Nat) (i : Nat) (v : Value), (xi_ent1 vs ++ List.replicate n none)[i]? = some (some v) → (k + i, xi_v ad v) ∈ lv_args k (vs.map (xi_v ad))
  | [], k, i, v, h => by
    simp only [xi_ent1, List.nil_append] at h
    rw [List.getElem?_replicate] at h
    split at h <;> cases h
  | w :: t, k, i, v, h => by
    have ih1 := xi_ent_mem (ad := ad) (n := n) t (k + 1)
    have ih2 := xi_ent_mem (ad := ad) (n := n) t (k + 2)
    cases w with
    | long x =>
      match i, h with
      | 0, h => simp [xi_ent1] at h; subst h; simp [lv_args, xi_v]
      | 1, h => simp [xi_ent1] at h
      | i + 2, h =>
        simp [xi_ent1] at h
        have := ih2 i v h
        simp only [List.map_cons, xi_v, lv_args, Value.category, List.mem_cons]
        right
        rw [show k + (i + 2) = k + 2 + i by omega]
        exact this
    | double x =>
      match i, h with
      | 0, h => simp [xi_ent1] at h; subst h; simp [lv_args, xi_v]
      | 1, h => simp [xi_ent1] at h
      | i + 2, h =>
        simp [xi_ent1] at h
        have := ih2 i v h
        simp only [List.map_cons, xi_v, lv_args, Value.category, List.mem_cons]
        right
        rw [show k + (i + 2) = k + 2 + i by omega]
        exact this
    | int x =>
      match i, h with
      | 0, h => simp [xi_ent1] at h; subst h; simp [lv_args, xi_v]
      | i + 1, h =>
        simp [xi_ent1] at h
        have := ih1 i v h
        simp only [List.map_cons, xi_v, lv_args, Value.category, List.mem_cons]
        right
        rw [show k + (i + 1) = k + 1 + i by omega]
        exact this
    | float x =>
      match i, h with
      | 0, h => simp [xi_ent1] at h; subst h; simp [lv_args, xi_v]
      | i + 1, h =>
        simp [xi_ent1] at h
        have := ih1 i v h
        simp only [List.map_cons, xi_v, lv_args, Value.category, List.mem_cons]
        right
        rw [show k + (i + 1) = k + 1 + i by omega]
        exact this
    | null =>
      match i, h with
      | 0, h => simp [xi_ent1] at h; subst h; simp [lv_args, xi_v]
      | i + 1, h =>
        simp [xi_ent1] at h
        have := ih1 i v h
        simp only [List.map_cons, xi_v, lv_args, Value.category, List.mem_cons]
        right
        rw [show k + (i + 1) = k + 1 + i by omega]
        exact this
    | ref x =>
      match i, h with
      | 0, h => simp [xi_ent1] at h; subst h; simp [lv_args, xi_v]
      | i + 1, h =>
        simp [xi_ent1] at h
        have := ih1 i v h
        simp only [List.map_cons, xi_v, lv_args, Value.category, List.mem_cons]
        right
        rw [show k + (i + 1) = k + 1 + i by omega]
        exact this
    | retAddr x =>
      match i, h with
      | 0, h => simp [xi_ent1] at h; subst h; simp [lv_args, xi_v]
      | i + 1, h =>
        simp [xi_ent1] at h
        have := ih1 i v h
        simp only [List.map_cons, xi_v, lv_args, Value.category, List.mem_cons]
        right
        rw [show k + (i + 1) = k + 1 + i by omega]
        exact this
theorem xi_ent_len (ad : Nat → Nat) : ∀ vs : List Value, (lg_sl (vs.map (xi_v ad))).length = (xi_ent1 vs).length
  | [] => rfl
  | w :: t => by
    have ih := xi_ent_len ad t
    have e : lg_sl (xi_v ad w :: t.map (xi_v ad)) = (lg_sl [xi_v ad w]) ++ lg_sl (t.map (xi_v ad)) := by simp [lg_sl]
    rw [List.map_cons, e, List.length_append, ih]
    cases w <;> simp [xi_ent1, lg_sl, xi_v, Value.category] <;> omega
/-- refs that are known: what another address map that agrees says of them -/
def xi_A (σ : xiS) (ad : Nat → Nat) (σ' : xiS) (ad' : Nat → Nat) : Prop := (∀ k, k < σ.1.length → ad' k = ad k) ∧ (∀ k, xi_o ≤ k → ad' k = ad k) ∧ σ.1.length ≤ σ'.1.length
theorem xi_A_rf {σ : xiS} {ad : Nat → Nat} : xi_A σ ad σ ad := ⟨fun _ _ => rfl, fun _ _ => rfl, Nat.le_refl _⟩
theorem xi_A_tr {σ σ1 σ2 : xiS} {ad ad1 ad2 : Nat → Nat} (h : xi_A σ ad σ1 ad1) (h2 : xi_A σ1 ad1 σ2 ad2) : xi_A σ ad σ2 ad2 :=
  ⟨fun k hk => (h2.1 k (Nat.lt_of_lt_of_le hk h.2.2)).trans (h.1 k hk), fun k hk => (h2.2.1 k hk).trans (h.2.1 k hk), Nat.le_trans h.2.2 h2.2.2⟩
theorem xi_wf1_v {σ σ' : xiS} {ad ad' : Nat → Nat} (h : xi_A σ ad σ' ad') {v : Value} (hv : xi_wf1 σ.1.length v = true) : xi_v ad' v = xi_v ad v := by
  cases v with
  | ref k =>
    simp only [xi_wf1, Bool.or_eq_true] at hv
    show Value.ref (ad' k) = Value.ref (ad k)
    rcases hv with hv | hv
    · rw [h.1 k (Nat.blt_eq.mp hv)]
    · rw [h.2.1 k (Nat.ble_eq.mp hv)]
  | _ => rfl
theorem xi_wfs_v {σ σ' : xiS} {ad ad' : Nat → Nat} (h : xi_A σ ad σ' ad') : ∀ (st : List Value), xi_wfs σ.1.length st = true → st.map (xi_v ad') = st.map (xi_v ad)
  | [], _ => rfl
  | v :: t, hs => by
    unfold xi_wfs at hs
    split at hs
    · rename_i h1
      rw [List.map_cons, List.map_cons, xi_wf1_v h h1, xi_wfs_v h t hs]
    · cases hs
theorem xi_wfl_at {n : Nat} : ∀ (ls : List (Option Value)), xi_wfl n ls = true → ∀ (i : Nat) (v : Value), ls[i]? = some (some v) → xi_wf1 n v = true
  | [], _, i, v, h => by cases h
  | none :: t, hs, i, v, h => by
    cases i with
    | zero => cases h
    | succ i => exact xi_wfl_at t hs i v h
  | some w :: t, hs, i, v, h => by
    unfold xi_wfl at hs
    split at hs
    · rename_i h1
      cases i with
      | zero => cases h; exact h1
      | succ i => exact xi_wfl_at t hs i v h
    · cases hs
theorem xi_wfl_v {σ σ' : xiS} {ad ad' : Nat → Nat} (h : xi_A σ ad σ' ad') {ls : List (Option Value)} (hs : xi_wfl σ.1.length ls = true) (q : Nat × Value) (hq : q ∈ xi_l ad' ls) : q ∈ xi_l ad ls := by
  obtain ⟨v, hv, h2⟩ := xi_l_mem.mp hq
  exact xi_l_mem.mpr ⟨v, hv, by rw [h2, xi_wf1_v h (xi_wfl_at ls hs _ _ hv)]⟩
