/-! XI: the cells of an abstract state -/
def xi_cell (fk : List (List Nat)) (ad : Nat → Nat) (ca : Nat → ClassId) (σ : xiS) (k : Nat) (d : Nat × Nat) : va_E := match d.1 with
  | 0 => .inr (d.2, (List.range (fk.getD d.2 []).length).map (fun j => xi_v ad (xi_fld fk σ k d.2 j)))
  | 1 => .inl (ca k, d.2, .inl (σ.2.2.1 k))
  | _ => .inl (ca k, d.2, .inr (.inl (σ.2.2.2 k)))
def xi_ws (fk : List (List Nat)) (ad : Nat → Nat) (ca : Nat → ClassId) (σ : xiS) : va_W := σ.1.mapIdx (fun k d => (ad k, xi_cell fk ad ca σ k d))
theorem xi_ws_at {fk : List (List Nat)} {ad : Nat → Nat} {ca : Nat → ClassId} {σ : xiS} {k : Nat} {d : Nat × Nat} (h : σ.1[k]? = some d) : (xi_ws fk ad ca σ)[k]? = some (ad k, xi_cell fk ad ca σ k d) := by
  unfold xi_ws
  rw [List.getElem?_mapIdx, h]
  rfl
theorem xi_ws_of {fk : List (List Nat)} {ad : Nat → Nat} {ca : Nat → ClassId} {σ : xiS} {k : Nat} {q : Nat × va_E} (h : (xi_ws fk ad ca σ)[k]? = some q) : ∃ d, σ.1[k]? = some d ∧ q = (ad k, xi_cell fk ad ca σ k d) := by
  unfold xi_ws at h
  rw [List.getElem?_mapIdx] at h
  cases e : σ.1[k]? with
  | none => rw [e] at h; cases h
  | some d => rw [e] at h; cases h; exact ⟨d, rfl, rfl⟩
/-- one cell changed -/
theorem xi_ws_set {fk : List (List Nat)} {ad : Nat → Nat} {ca : Nat → ClassId} {σ σ' : xiS} {o : Nat} {d : Nat × Nat} (hs : σ'.1 = σ.1) (ho : σ.1[o]? = some d) (hr : ∀ k, k ≠ o → σ'.2.1 k = σ.2.1 k) (hi : ∀ k, k ≠ o → σ'.2.2.1 k = σ.2.2.1 k) (hl : ∀ k, k ≠ o → σ'.2.2.2 k = σ.2.2.2 k) : xi_ws fk ad ca σ' = (xi_ws fk ad ca σ).set o (ad o, xi_cell fk ad ca σ' o d) := by
  apply List.ext_getElem?
  intro k
  rw [List.getElem?_set]
  by_cases e : o = k
  · subst e
    rw [if_pos rfl]
    have h2 : σ'.1[o]? = some d := by rw [hs]; exact ho
    rw [xi_ws_at h2]
    have h3 := List.getElem?_eq_some_iff.mp (xi_ws_at (fk := fk) (ad := ad) (ca := ca) ho)
    rw [if_pos h3.1]
  · rw [if_neg e]
    have e' : k ≠ o := fun z => e z.symm
    cases e2 : σ.1[k]? with
    | none =>
      have n1 : (xi_ws fk ad ca σ)[k]? = none := by unfold xi_ws; rw [List.getElem?_mapIdx, e2]; rfl
      have n2 : (xi_ws fk ad ca σ')[k]? = none := by unfold xi_ws; rw [List.getElem?_mapIdx, hs, e2]; rfl
      rw [n1, n2]
    | some d2 =>
      have h2 : σ'.1[k]? = some d2 := by rw [hs]; exact e2
      rw [xi_ws_at e2, xi_ws_at h2]
      congr 2
      unfold xi_cell
      split
      · congr 2
        apply List.map_congr_left
        intro j _
        unfold xi_fld
        rw [hr k e', hi k e', hl k e']
      · rw [hi k e']
      · rw [hl k e']
theorem xi_cell_obj {fk : List (List Nat)} {ad : Nat → Nat} {ca : Nat → ClassId} {σ : xiS} {k ci : Nat} : xi_cell fk ad ca σ k (0, ci) = .inr (ci, (List.range (fk.getD ci []).length).map (fun j => xi_v ad (xi_fld fk σ k ci j))) := rfl
/-- a field's value put: the row of its values -/
theorem xi_fs_set {fk : List (List Nat)} {ad : Nat → Nat} {σ σ' : xiS} {o ci j : Nat} {v : Value} (hj : xi_fld fk σ' o ci j = v) (hk : ∀ k, k ≠ j → xi_fld fk σ' o ci k = xi_fld fk σ o ci k) : (List.range (fk.getD ci []).length).map (fun k => xi_v ad (xi_fld fk σ' o ci k)) = ((List.range (fk.getD ci []).length).map (fun k => xi_v ad (xi_fld fk σ o ci k))).set j (xi_v ad v) := by
  apply List.ext_getElem?
  intro k
  rw [List.getElem?_set]
  by_cases e : j = k
  · subst e
    rw [if_pos rfl, List.length_map, List.length_range]
    by_cases h : j < (fk.getD ci []).length
    · rw [if_pos h, List.getElem?_map, List.getElem?_range h]
      show some (xi_v ad (xi_fld fk σ' o ci j)) = _
      rw [hj]
    · rw [if_neg h, List.getElem?_map, List.getElem?_eq_none (by rw [List.length_range]; omega)]
      rfl
  · rw [if_neg e, List.getElem?_map, List.getElem?_map]
    by_cases h : k < (fk.getD ci []).length
    · rw [List.getElem?_range h]
      show some (xi_v ad (xi_fld fk σ' o ci k)) = some (xi_v ad (xi_fld fk σ o ci k))
      rw [hk k (fun z => e z.symm)]
    · rw [List.getElem?_eq_none (by rw [List.length_range]; omega)]
      rfl
/-- a state with one cell more -/
theorem xi_ws_push {fk : List (List Nat)} {ad ad' : Nat → Nat} {ca ca' : Nat → ClassId} {σ σ' : xiS} {d : Nat × Nat} (hs : σ'.1 = σ.1 ++ [d]) (hr : ∀ k, k < σ.1.length → σ'.2.1 k = σ.2.1 k) (hi : ∀ k, k < σ.1.length → σ'.2.2.1 k = σ.2.2.1 k) (hl : ∀ k, k < σ.1.length → σ'.2.2.2 k = σ.2.2.2 k) (ha : ∀ k, k < σ.1.length → ad' k = ad k) (hc : ∀ k, k < σ.1.length → ca' k = ca k) (hw : ∀ k j q, k < σ.1.length → σ.2.1 k j = q + 1 → q < σ.1.length) : xi_ws fk ad' ca' σ' = xi_ws fk ad ca σ ++ [(ad' σ.1.length, xi_cell fk ad' ca' σ' σ.1.length d)] := by
  apply List.ext_getElem?
  intro k
  have hlen : (xi_ws fk ad ca σ).length = σ.1.length := by unfold xi_ws; rw [List.length_mapIdx]
  rcases Nat.lt_trichotomy k σ.1.length with h | h | h
  · rw [List.getElem?_append_left (by rw [hlen]; exact h)]
    have e2 : σ.1[k]? = some σ.1[k] := List.getElem?_eq_getElem h
    have e3 : σ'.1[k]? = some σ.1[k] := by rw [hs, List.getElem?_append_left h]; exact e2
    rw [xi_ws_at e2, xi_ws_at e3, ha k h]
    congr 2
    unfold xi_cell
    split
    · congr 2
      apply List.map_congr_left
      intro j _
      unfold xi_fld
      rw [hr k h, hi k h, hl k h]
      split
      · rfl
      · rfl
      · rfl
      · split
        · rfl
        · rename_i q e
          show Value.ref (ad' q) = Value.ref (ad q)
          rw [ha q (hw k j q h e)]
    · rw [hi k h, hc k h]
    · rw [hl k h, hc k h]
  · subst h
    have e3 : σ'.1[σ.1.length]? = some d := by rw [hs]; simp
    rw [xi_ws_at e3, List.getElem?_append_right (by rw [hlen]; exact Nat.le_refl _), hlen]
    simp
  · have e3 : σ'.1[k]? = none := by rw [hs]; exact List.getElem?_eq_none (by simp; omega)
    have n2 : (xi_ws fk ad' ca' σ')[k]? = none := by unfold xi_ws; rw [List.getElem?_mapIdx, e3]; rfl
    rw [n2]
    symm
    apply List.getElem?_eq_none
    simp [hlen]
    omega
