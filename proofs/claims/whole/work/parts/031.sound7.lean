section XIS4
variable {T : List Cond} {cl : List vw_C} {zs : xiZ} {tf : Nat → Nat → FieldType} {l : Launch} {G : xiG}
/-- the address map and the classes with one cell more -/
theorem xi_up_ne {α : Type} {f : Nat → α} {n : Nat} {x : α} {k : Nat} (h : k ≠ n) : (fun j => if j = n then x else f j) k = f k := if_neg h
theorem xi_up_eq {α : Type} {f : Nat → α} {n : Nat} {x : α} : (fun j => if j = n then x else f j) n = x := if_pos rfl
theorem xi_A_push {σ σ' : xiS} {ad : Nat → Nat} {q : Nat} {d : Nat × Nat} (hs : σ'.1 = σ.1 ++ [d]) (hn : σ.1.length < xi_o) : xi_A σ ad σ' (fun j => if j = σ.1.length then q else ad j) :=
  ⟨fun k hk => if_neg (by omega), fun k hk => if_neg (by omega), by rw [hs]; simp⟩
theorem xi_O_ad {A : Nat → Prop} {ad ad' : Nat → Nat} {U : State} {H : Heap} (h : xi_O zs G A ad U H) (ha : ∀ k, xi_o ≤ k → ad' k = ad k) : xi_O zs G A ad' U H := by
  refine ⟨fun j q hq => ?_, fun j z hz => ?_, h.2.2⟩
  · rw [ha _ (Nat.le_add_right _ _)]; exact h.1 j q hq
  · rw [ha _ (Nat.le_add_right _ _)]; exact h.2.1 j z hz
theorem xi_F_push {σ σ' : xiS} {d : Nat × Nat} (hF : xi_F σ) (hs : σ'.1 = σ.1 ++ [d]) (hr : σ'.2.1 = xi_z σ.2.1 σ.1.length 0) (hn : σ.1.length + 1 < xi_o) : xi_F σ' := by
  have hl : σ'.1.length = σ.1.length + 1 := by rw [hs]; simp
  refine ⟨fun k j q hk hq => ?_, by omega⟩
  rw [hr] at hq
  by_cases e : k = σ.1.length
  · subst e
    rw [xi_zeq] at hq
    cases hq
  · rw [xi_zne e] at hq
    have := hF.1 k j q (by omega) hq
    omega
theorem xi_s_newa1 {X' : xiX} (hX' : ∀ μ pc ls st σ nc ns Q, X' μ pc ls st σ nc ns Q → xi_OK T cl zs l G μ pc ls st σ nc ns Q) {μ pc : Nat} {ls : List (Option Value)} {st : List Value} {σ : xiS} {nc ns : Nat} {Q : xiQ} {md : xiM} (hmd : G.1[μ]? = some md) {p : Program} {e : Env} {s : State} {m : MethodId} {args : Array Value} {below : List Frame} {meth : Method} {c : Code} {R : Room} {Z : State → Prop} {D : va_G} {A : Nat → Prop} {ad : Nat → Nat} {ca : Nat → ClassId} {H : Heap} {locs : List Loc} {lsA : Array Slot}
    (hC : xi_C T cl G D p s m args meth c R md A) (hO : xi_O zs G A ad s s.heap) (hR : xi_R cl G D s A ad ca σ H locs) (hl : lv_has lsA md.2.1.1 (xi_l ad ls))
    (hret : ∀ (r : Option Value) (σ' : xiS) (ad' : Nat → Nat) (ca' : Nat → ClassId) (H' : Heap) (locs' : List Loc) (nc' ns' pc' : Nat) (lsA' : Array Slot), Q r σ' → xi_R cl G D s A ad' ca' σ' H' locs' → xi_A σ ad σ' ad' → nc' ≤ md.2.2.1.2.2.1 → ns' ≤ md.2.2.1.2.2.2 → xi_ret md pc' r →
      W p l e R s m args below meth c H' locs' nc' ns' Z (F0 m pc' lsA' (r.toList.map (xi_v ad'))))
    {n : Int32} {t : List Value} (hst : st = .int n :: t) (hd : decode md.1.2.2 pc = .ok (.newarray .int, 2)) (hw : Cond.arrayClass (newarray.typeOf .int) ∈ T) (hn : ¬ n < 0) (h1 : nc + 1 ≤ md.2.2.1.2.2.1) (h2 : ns + n.toNatClampNeg ≤ md.2.2.1.2.2.2) (h3 : n.toNatClampNeg ≤ 65536) (h4 : σ.1.length + 1 < xi_o) (h5 : xi_wfl σ.1.length ls = true) (h6 : xi_wfs σ.1.length t = true) (h : X' μ (pc + 2) ls (.ref σ.1.length :: t) (σ.1 ++ [(1, n.toNatClampNeg)], xi_z σ.2.1 σ.1.length 0, xi_z σ.2.2.1 σ.1.length 0, xi_z σ.2.2.2 σ.1.length 0) (nc + 1) (ns + n.toNatClampNeg) Q) : W p l e R s m args below meth c H locs nc ns Z (F0 m pc lsA (st.map (xi_v ad))) := by
  obtain ⟨hx, hb, hml, hown, hts, hA, hKc, hfr, hlo, hce, hsl, hin⟩ := id hC
  obtain ⟨hP, hD, hS, hT, hF⟩ := id hR
  subst hst
  refine va_newa (ty := .int) (tys := []) (a0 := (n.toNatClampNeg, .inl (fun _ => 0))) hx hb (hts _ hw) rfl (xi_K0 hKc) hP hD hS hA (fun cA => rfl) hn rfl ?_ (Nat.le_trans h1 hce) (Nat.le_trans h2 hsl) hd (fun q cA H1 hK1 hP1 hD1 hS1 => ?_)
  · show n.toNatClampNeg * 4 ≤ 536870912; omega
  obtain ⟨ad', ead⟩ : ∃ f : Nat → Nat, f = fun j => if j = σ.1.length then q else ad j := ⟨_, rfl⟩
  obtain ⟨ca', eca⟩ : ∃ f : Nat → ClassId, f = fun j => if j = σ.1.length then cA else ca j := ⟨_, rfl⟩
  obtain ⟨σ', es⟩ : ∃ z : xiS, z = (σ.1 ++ [(1, n.toNatClampNeg)], xi_z σ.2.1 σ.1.length 0, xi_z σ.2.2.1 σ.1.length 0, xi_z σ.2.2.2 σ.1.length 0) := ⟨_, rfl⟩
  rw [← es] at h
  have s1 : σ'.1 = σ.1 ++ [(1, n.toNatClampNeg)] := by rw [es]
  have hA2 : xi_A σ ad σ' ad' := by rw [ead]; exact xi_A_push s1 (by omega)
  have e1 : xi_ws G.2.1 ad' ca' σ' = xi_ws G.2.1 ad ca σ ++ [(q, .inl (cA, (n.toNatClampNeg, .inl (fun _ => 0))))] := by
    rw [xi_ws_push (ad := ad) (ca := ca) (ad' := ad') (ca' := ca') s1 (fun k hk => by rw [es]; exact xi_zne (by omega)) (fun k hk => by rw [es]; exact xi_zne (by omega)) (fun k hk => by rw [es]; exact xi_zne (by omega)) hA2.1 (fun k hk => by rw [eca]; exact if_neg (by omega)) hF.1]
    have a1 : ad' σ.1.length = q := by rw [ead]; exact if_pos rfl
    have a2 : ca' σ.1.length = cA := by rw [eca]; exact if_pos rfl
    rw [a1]
    congr 3
    show Sum.inl (ca' σ.1.length, n.toNatClampNeg, Sum.inl (σ'.2.2.1 σ.1.length)) = _
    rw [a2, es]
    show Sum.inl (cA, n.toNatClampNeg, Sum.inl ((xi_z σ.2.2.1 σ.1.length 0) σ.1.length)) = _
    rw [xi_zeq]
  have hP2 : va_P D cl (xi_ws G.2.1 ad' ca' σ') H1 := by rw [e1]; exact hP1
  have hD2 : va_D A (xi_ws G.2.1 ad' ca' σ') := by rw [e1]; exact hD1
  have hT2 : xi_T ca' σ' s := by
    intro k d hk
    rw [s1] at hk
    by_cases e : k = σ.1.length
    · subst e
      have : d = (1, n.toNatClampNeg) := by simpa using hk.symm
      subst this
      have a2 : ca' σ.1.length = cA := by rw [eca]; exact if_pos rfl
      rw [a2]
      exact ⟨fun z => hK1.2 0 _ rfl, fun z => absurd (show (1 : Nat) = 2 from z) (by decide)⟩
    · have e2 : k < σ.1.length := by
        have := (List.getElem?_eq_some_iff.mp hk).1
        simp at this
        omega
      rw [List.getElem?_append_left e2] at hk
      have a2 : ca' k = ca k := by rw [eca]; exact if_neg e
      rw [a2]
      exact hT k d hk
  have hF2 : xi_F σ' := xi_F_push hF s1 (by rw [es]) h4
  have a1 : ad' σ.1.length = q := by rw [ead]; exact if_pos rfl
  have est : Value.ref q :: t.map (xi_v ad) = (Value.ref σ.1.length :: t).map (xi_v ad') := by
    rw [List.map_cons, xi_wfs_v hA2 t h6]
    show _ = Value.ref (ad' σ.1.length) :: _
    rw [a1]
  rw [show (Value.ref q :: List.map (xi_v ad) t) = (Value.ref σ.1.length :: t).map (xi_v ad') from est]
  exact hX' _ _ _ _ _ _ _ _ h md hmd p e s m args below meth c R Z D A ad' ca' H1 locs lsA hC (xi_O_ad hO hA2.2.1) ⟨hP2, hD2, hS1, hT2, hF2⟩ (xi_has hl (xi_wfl_v hA2 h5)) (fun r σ2 ad2 ca2 H2 locs2 nc2 ns2 pc2 lsA2 hQ hR2 hA3 => hret r σ2 ad2 ca2 H2 locs2 nc2 ns2 pc2 lsA2 hQ hR2 (xi_A_tr hA2 hA3))
theorem xi_s_newa2 {X' : xiX} (hX' : ∀ μ pc ls st σ nc ns Q, X' μ pc ls st σ nc ns Q → xi_OK T cl zs l G μ pc ls st σ nc ns Q) {μ pc : Nat} {ls : List (Option Value)} {st : List Value} {σ : xiS} {nc ns : Nat} {Q : xiQ} {md : xiM} (hmd : G.1[μ]? = some md) {p : Program} {e : Env} {s : State} {m : MethodId} {args : Array Value} {below : List Frame} {meth : Method} {c : Code} {R : Room} {Z : State → Prop} {D : va_G} {A : Nat → Prop} {ad : Nat → Nat} {ca : Nat → ClassId} {H : Heap} {locs : List Loc} {lsA : Array Slot}
    (hC : xi_C T cl G D p s m args meth c R md A) (hO : xi_O zs G A ad s s.heap) (hR : xi_R cl G D s A ad ca σ H locs) (hl : lv_has lsA md.2.1.1 (xi_l ad ls))
    (hret : ∀ (r : Option Value) (σ' : xiS) (ad' : Nat → Nat) (ca' : Nat → ClassId) (H' : Heap) (locs' : List Loc) (nc' ns' pc' : Nat) (lsA' : Array Slot), Q r σ' → xi_R cl G D s A ad' ca' σ' H' locs' → xi_A σ ad σ' ad' → nc' ≤ md.2.2.1.2.2.1 → ns' ≤ md.2.2.1.2.2.2 → xi_ret md pc' r →
      W p l e R s m args below meth c H' locs' nc' ns' Z (F0 m pc' lsA' (r.toList.map (xi_v ad'))))
    {n : Int32} {t : List Value} (hst : st = .int n :: t) (hd : decode md.1.2.2 pc = .ok (.newarray .long, 2)) (hw : Cond.arrayClass (newarray.typeOf .long) ∈ T) (hn : ¬ n < 0) (h1 : nc + 1 ≤ md.2.2.1.2.2.1) (h2 : ns + n.toNatClampNeg ≤ md.2.2.1.2.2.2) (h3 : n.toNatClampNeg ≤ 65536) (h4 : σ.1.length + 1 < xi_o) (h5 : xi_wfl σ.1.length ls = true) (h6 : xi_wfs σ.1.length t = true) (h : X' μ (pc + 2) ls (.ref σ.1.length :: t) (σ.1 ++ [(2, n.toNatClampNeg)], xi_z σ.2.1 σ.1.length 0, xi_z σ.2.2.1 σ.1.length 0, xi_z σ.2.2.2 σ.1.length 0) (nc + 1) (ns + n.toNatClampNeg) Q) : W p l e R s m args below meth c H locs nc ns Z (F0 m pc lsA (st.map (xi_v ad))) := by
  obtain ⟨hx, hb, hml, hown, hts, hA, hKc, hfr, hlo, hce, hsl, hin⟩ := id hC
  obtain ⟨hP, hD, hS, hT, hF⟩ := id hR
  subst hst
  refine va_newa (ty := .long) (tys := []) (a0 := (n.toNatClampNeg, .inr (.inl (fun _ => 0)))) hx hb (hts _ hw) rfl (xi_K0 hKc) hP hD hS hA (fun cA => rfl) hn rfl ?_ (Nat.le_trans h1 hce) (Nat.le_trans h2 hsl) hd (fun q cA H1 hK1 hP1 hD1 hS1 => ?_)
  · show n.toNatClampNeg * 8 ≤ 536870912; omega
  obtain ⟨ad', ead⟩ : ∃ f : Nat → Nat, f = fun j => if j = σ.1.length then q else ad j := ⟨_, rfl⟩
  obtain ⟨ca', eca⟩ : ∃ f : Nat → ClassId, f = fun j => if j = σ.1.length then cA else ca j := ⟨_, rfl⟩
  obtain ⟨σ', es⟩ : ∃ z : xiS, z = (σ.1 ++ [(2, n.toNatClampNeg)], xi_z σ.2.1 σ.1.length 0, xi_z σ.2.2.1 σ.1.length 0, xi_z σ.2.2.2 σ.1.length 0) := ⟨_, rfl⟩
  rw [← es] at h
  have s1 : σ'.1 = σ.1 ++ [(2, n.toNatClampNeg)] := by rw [es]
  have hA2 : xi_A σ ad σ' ad' := by rw [ead]; exact xi_A_push s1 (by omega)
  have e1 : xi_ws G.2.1 ad' ca' σ' = xi_ws G.2.1 ad ca σ ++ [(q, .inl (cA, (n.toNatClampNeg, .inr (.inl (fun _ => 0)))))] := by
    rw [xi_ws_push (ad := ad) (ca := ca) (ad' := ad') (ca' := ca') s1 (fun k hk => by rw [es]; exact xi_zne (by omega)) (fun k hk => by rw [es]; exact xi_zne (by omega)) (fun k hk => by rw [es]; exact xi_zne (by omega)) hA2.1 (fun k hk => by rw [eca]; exact if_neg (by omega)) hF.1]
    have a1 : ad' σ.1.length = q := by rw [ead]; exact if_pos rfl
    have a2 : ca' σ.1.length = cA := by rw [eca]; exact if_pos rfl
    rw [a1]
    congr 3
    show Sum.inl (ca' σ.1.length, n.toNatClampNeg, Sum.inr (Sum.inl (σ'.2.2.2 σ.1.length))) = _
    rw [a2, es]
    show Sum.inl (cA, n.toNatClampNeg, Sum.inr (Sum.inl ((xi_z σ.2.2.2 σ.1.length 0) σ.1.length))) = _
    rw [xi_zeq]
  have hP2 : va_P D cl (xi_ws G.2.1 ad' ca' σ') H1 := by rw [e1]; exact hP1
  have hD2 : va_D A (xi_ws G.2.1 ad' ca' σ') := by rw [e1]; exact hD1
  have hT2 : xi_T ca' σ' s := by
    intro k d hk
    rw [s1] at hk
    by_cases e : k = σ.1.length
    · subst e
      have : d = (2, n.toNatClampNeg) := by simpa using hk.symm
      subst this
      have a2 : ca' σ.1.length = cA := by rw [eca]; exact if_pos rfl
      rw [a2]
      exact ⟨fun z => absurd (show (2 : Nat) = 1 from z) (by decide), fun z => hK1.2 0 _ rfl⟩
    · have e2 : k < σ.1.length := by
        have := (List.getElem?_eq_some_iff.mp hk).1
        simp at this
        omega
      rw [List.getElem?_append_left e2] at hk
      have a2 : ca' k = ca k := by rw [eca]; exact if_neg e
      rw [a2]
      exact hT k d hk
  have hF2 : xi_F σ' := xi_F_push hF s1 (by rw [es]) h4
  have a1 : ad' σ.1.length = q := by rw [ead]; exact if_pos rfl
  have est : Value.ref q :: t.map (xi_v ad) = (Value.ref σ.1.length :: t).map (xi_v ad') := by
    rw [List.map_cons, xi_wfs_v hA2 t h6]
    show _ = Value.ref (ad' σ.1.length) :: _
    rw [a1]
  rw [show (Value.ref q :: List.map (xi_v ad) t) = (Value.ref σ.1.length :: t).map (xi_v ad') from est]
  exact hX' _ _ _ _ _ _ _ _ h md hmd p e s m args below meth c R Z D A ad' ca' H1 locs lsA hC (xi_O_ad hO hA2.2.1) ⟨hP2, hD2, hS1, hT2, hF2⟩ (xi_has hl (xi_wfl_v hA2 h5)) (fun r σ2 ad2 ca2 H2 locs2 nc2 ns2 pc2 lsA2 hQ hR2 hA3 => hret r σ2 ad2 ca2 H2 locs2 nc2 ns2 pc2 lsA2 hQ hR2 (xi_A_tr hA2 hA3))
theorem xi_s_new {X' : xiX} (hX' : ∀ μ pc ls st σ nc ns Q, X' μ pc ls st σ nc ns Q → xi_OK T cl zs l G μ pc ls st σ nc ns Q) {μ pc : Nat} {ls : List (Option Value)} {st : List Value} {σ : xiS} {nc ns : Nat} {Q : xiQ} {md : xiM} (hmd : G.1[μ]? = some md) {p : Program} {e : Env} {s : State} {m : MethodId} {args : Array Value} {below : List Frame} {meth : Method} {c : Code} {R : Room} {Z : State → Prop} {D : va_G} {A : Nat → Prop} {ad : Nat → Nat} {ca : Nat → ClassId} {H : Heap} {locs : List Loc} {lsA : Array Slot}
    (hC : xi_C T cl G D p s m args meth c R md A) (hO : xi_O zs G A ad s s.heap) (hR : xi_R cl G D s A ad ca σ H locs) (hl : lv_has lsA md.2.1.1 (xi_l ad ls))
    (hret : ∀ (r : Option Value) (σ' : xiS) (ad' : Nat → Nat) (ca' : Nat → ClassId) (H' : Heap) (locs' : List Loc) (nc' ns' pc' : Nat) (lsA' : Array Slot), Q r σ' → xi_R cl G D s A ad' ca' σ' H' locs' → xi_A σ ad σ' ad' → nc' ≤ md.2.2.1.2.2.1 → ns' ≤ md.2.2.1.2.2.2 → xi_ret md pc' r →
      W p l e R s m args below meth c H' locs' nc' ns' Z (F0 m pc' lsA' (r.toList.map (xi_v ad'))))
    {i ci : Nat} {q0 : vw_C} (hd : decode md.1.2.2 pc = .ok (.new i, 3)) (hq : cl[ci]? = some q0) (hok : xi_okC T G.2.1 tf ci q0) (hw1 : Cond.classLink md.1.2.1.cls i q0.1 ∈ T) (hw2 : Cond.instantiable q0.1 q0.2.2 ∈ T) (hw3 : Cond.initialized q0.1 ∈ T) (h1 : nc + 1 ≤ md.2.2.1.2.2.1) (h2 : ns + (G.2.1.getD ci []).length ≤ md.2.2.1.2.2.2) (h4 : σ.1.length + 1 < xi_o) (h5 : xi_wfl σ.1.length ls = true) (h6 : xi_wfs σ.1.length st = true) (h : X' μ (pc + 3) ls (.ref σ.1.length :: st) (σ.1 ++ [(0, ci)], xi_z σ.2.1 σ.1.length 0, xi_z σ.2.2.1 σ.1.length 0, xi_z σ.2.2.2 σ.1.length 0) (nc + 1) (ns + (G.2.1.getD ci []).length) Q) : W p l e R s m args below meth c H locs nc ns Z (F0 m pc lsA (st.map (xi_v ad))) := by
  obtain ⟨hx, hb, hml, hown, hts, hA, hKc, hfr, hlo, hce, hsl, hin⟩ := id hC
  obtain ⟨hP, hD, hS, hT, hF⟩ := id hR
  obtain ⟨k1, k2, k3, k4, k5⟩ := hok
  obtain ⟨σ', es⟩ : ∃ z : xiS, z = (σ.1 ++ [(0, ci)], xi_z σ.2.1 σ.1.length 0, xi_z σ.2.2.1 σ.1.length 0, xi_z σ.2.2.2 σ.1.length 0) := ⟨_, rfl⟩
  rw [← es] at h
  have s1 : σ'.1 = σ.1 ++ [(0, ci)] := by rw [es]
  have hfv : ∀ (g : Nat → Nat) (j : Nat), j < q0.2.2 → defaultValue (tf ci j) = xi_v g (xi_fld G.2.1 σ' σ.1.length ci j) := by
    intro g j hj
    have z1 : σ'.2.1 σ.1.length j = 0 := by rw [es]; show (xi_z σ.2.1 σ.1.length 0) σ.1.length j = 0; rw [xi_zeq]
    have z2 : σ'.2.2.1 σ.1.length j = 0 := by rw [es]; show (xi_z σ.2.2.1 σ.1.length 0) σ.1.length j = 0; rw [xi_zeq]
    have z3 : σ'.2.2.2 σ.1.length j = 0 := by rw [es]; show (xi_z σ.2.2.2 σ.1.length 0) σ.1.length j = 0; rw [xi_zeq]
    unfold xi_fld
    rcases xi_fits (k5 j hj) with ⟨e, et⟩ | ⟨e, et⟩ | ⟨e, et⟩ | ⟨e, ⟨w, et⟩ | ⟨w, et⟩⟩ <;> rw [e, et]
    · show _ = xi_v g (.int (σ'.2.2.1 σ.1.length j)); rw [z2]; rfl
    · show _ = xi_v g (.int (σ'.2.2.1 σ.1.length j)); rw [z2]; rfl
    · show _ = xi_v g (.long (σ'.2.2.2 σ.1.length j)); rw [z3]; rfl
    · show _ = xi_v g (match σ'.2.1 σ.1.length j with | 0 => .null | q + 1 => .ref q); rw [z1]; rfl
    · show _ = xi_v g (match σ'.2.1 σ.1.length j with | 0 => .null | q + 1 => .ref q); rw [z1]; rfl
  refine va_new (C := q0.1) (T := q0.2.1) (N := q0.2.2) (fs := (List.range (G.2.1.getD ci []).length).map (fun j => xi_v ad (xi_fld G.2.1 σ' σ.1.length ci j))) hx hb hts k1 (tf ci) k4 hown (hts _ hw1) (hts _ hw2) (hts _ hw3) (xi_K0 hKc) hP hD hS hA hq (fun j hj => ?_) (Nat.le_trans h1 hce) (by rw [k2]; exact Nat.le_trans h2 hsl) hd (fun q H1 hP1 hD1 hS1 => ?_)
  · rw [hfv ad j hj]
    unfold vp_V
    rw [List.getD_eq_getElem?_getD, xi_getD (by rw [← k2]; exact hj)]
    rfl
  obtain ⟨ad', ead⟩ : ∃ f : Nat → Nat, f = fun j => if j = σ.1.length then q else ad j := ⟨_, rfl⟩
  have hA2 : xi_A σ ad σ' ad' := by rw [ead]; exact xi_A_push s1 (by omega)
  have a1 : ad' σ.1.length = q := by rw [ead]; exact if_pos rfl
  have e1 : xi_ws G.2.1 ad' ca σ' = xi_ws G.2.1 ad ca σ ++ [(q, .inr (ci, (List.range (G.2.1.getD ci []).length).map (fun j => xi_v ad (xi_fld G.2.1 σ' σ.1.length ci j))))] := by
    rw [xi_ws_push (ad := ad) (ca := ca) (ad' := ad') (ca' := ca) s1 (fun k hk => by rw [es]; exact xi_zne (by omega)) (fun k hk => by rw [es]; exact xi_zne (by omega)) (fun k hk => by rw [es]; exact xi_zne (by omega)) hA2.1 (fun k hk => rfl) hF.1, a1, xi_cell_obj]
    congr 5
    apply List.map_congr_left
    intro j hj
    have hj2 : j < q0.2.2 := by rw [k2]; exact List.mem_range.mp hj
    rw [← hfv ad' j hj2, ← hfv ad j hj2]
  have hP2 : va_P D cl (xi_ws G.2.1 ad' ca σ') H1 := by rw [e1]; exact hP1
  have hD2 : va_D A (xi_ws G.2.1 ad' ca σ') := by rw [e1]; exact hD1
  have hT2 : xi_T ca σ' s := by
    intro k d hk
    rw [s1] at hk
    by_cases e : k = σ.1.length
    · subst e
      have : d = (0, ci) := by simpa using hk.symm
      subst this
      exact ⟨fun z => absurd (show (0 : Nat) = 1 from z) (by decide), fun z => absurd (show (0 : Nat) = 2 from z) (by decide)⟩
    · have e2 : k < σ.1.length := by
        have := (List.getElem?_eq_some_iff.mp hk).1
        simp at this
        omega
      rw [List.getElem?_append_left e2] at hk
      exact hT k d hk
  have hF2 : xi_F σ' := xi_F_push hF s1 (by rw [es]) h4
  have est : Value.ref q :: st.map (xi_v ad) = (Value.ref σ.1.length :: st).map (xi_v ad') := by
    rw [List.map_cons, xi_wfs_v hA2 st h6]
    show _ = Value.ref (ad' σ.1.length) :: _
    rw [a1]
  rw [show (Value.ref q :: List.map (xi_v ad) st) = (Value.ref σ.1.length :: st).map (xi_v ad') from est, k2]
  exact hX' _ _ _ _ _ _ _ _ h md hmd p e s m args below meth c R Z D A ad' ca H1 locs lsA hC (xi_O_ad hO hA2.2.1) ⟨hP2, hD2, hS1, hT2, hF2⟩ (xi_has hl (xi_wfl_v hA2 h5)) (fun r σ2 ad2 ca2 H2 locs2 nc2 ns2 pc2 lsA2 hQ hR2 hA3 => hret r σ2 ad2 ca2 H2 locs2 nc2 ns2 pc2 lsA2 hQ hR2 (xi_A_tr hA2 hA3))
end XIS4
