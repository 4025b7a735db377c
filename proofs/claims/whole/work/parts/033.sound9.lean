section XIS6
variable {T : List Cond} {cl : List vw_C} {zs : xiZ} {tf : Nat → Nat → FieldType} {l : Launch} {G : xiG}
theorem xi_after {X' : xiX} (hX' : ∀ μ pc ls st σ nc ns Q, X' μ pc ls st σ nc ns Q → xi_OK T cl zs l G μ pc ls st σ nc ns Q) {μ pc : Nat} {ls : List (Option Value)} {st : List Value} {σ : xiS} {nc ns : Nat} {Q : xiQ} {md : xiM} (hmd : G.1[μ]? = some md) {p : Program} {e : Env} {s : State} {m : MethodId} {args : Array Value} {below : List Frame} {meth : Method} {c : Code} {R : Room} {Z : State → Prop} {D : va_G} {A : Nat → Prop} {ad : Nat → Nat} {ca : Nat → ClassId} {H : Heap} {locs : List Loc} {lsA : Array Slot}
    (hC : xi_C T cl G D p s m args meth c R md A) (hO : xi_O zs G A ad s s.heap) (hR : xi_R cl G D s A ad ca σ H locs) (hl : lv_has lsA md.2.1.1 (xi_l ad ls))
    (hret : ∀ (r : Option Value) (σ' : xiS) (ad' : Nat → Nat) (ca' : Nat → ClassId) (H' : Heap) (locs' : List Loc) (nc' ns' pc' : Nat) (lsA' : Array Slot), Q r σ' → xi_R cl G D s A ad' ca' σ' H' locs' → xi_A σ ad σ' ad' → nc' ≤ md.2.2.1.2.2.1 → ns' ≤ md.2.2.1.2.2.2 → xi_ret md pc' r →
      W p l e R s m args below meth c H' locs' nc' ns' Z (F0 m pc' lsA' (r.toList.map (xi_v ad'))))
    {mn : xiM} {rest : List Value} {a : Array Value} (hw1 : xi_wfl σ.1.length ls = true) (hw2 : xi_wfs σ.1.length rest = true)
    (hr : va_Run p l e R s m args below meth c H locs nc ns mn.2.2.1.2.2.1 mn.2.2.1.2.2.2 (F0 m pc lsA (st.map (xi_v ad))) (rest.map (xi_v ad)) (xi_Qc cl G D ad σ (va_A (xi_ws G.2.1 ad ca σ) H.size) (fun r σ' => X' μ (pc + 3) ls (r.toList ++ rest) σ' (nc + mn.2.2.1.2.2.1) (ns + mn.2.2.1.2.2.2) Q) a) (va_A (xi_ws G.2.1 ad ca σ) H.size)) : W p l e R s m args below meth c H locs nc ns Z (F0 m pc lsA (st.map (xi_v ad))) := by
  obtain ⟨hx, hb, hml, hown, hts, hA, hKc, hfr, hlo, hce, hsl, hin⟩ := id hC
  obtain ⟨hP, hD, hS, hT, hF⟩ := id hR
  have hA1 : ∀ q, va_A (xi_ws G.2.1 ad ca σ) H.size q → A q := by
    intro q hq
    rcases hq with ⟨k, e, hk⟩ | hq
    · exact hD.2 k _ hk
    · exact hA q (Nat.le_trans hS.1 hq)
  intro T0 hT0 X0
  obtain ⟨v, st₀, t, T', L, h0, X1, hL, e1, e2, ⟨⟨r, σ', ad', ca', hv, hQ, hA2, hP1, hD1, hT1, hF1⟩, hz, hk⟩, stp⟩ := hr T0 hT0 X0
  cases hv
  rw [h0] at hz hk
  have hS1 : va_S A s.heap T'.heap (locs ++ L) := ⟨Nat.le_trans hS.1 (by rw [e1]; exact hz), fun q h1 h2 => by rw [e1, hk q (Nat.lt_of_lt_of_le h1 hS.1) (fun z => h2 (hA1 q z))]; exact hS.2.1 q h1 h2, fun q hq => by
      rcases List.mem_append.mp hq with h | h
      · exact hS.2.2 q h
      · exact hA1 _ (hL q h)⟩
  have hvm : s.vm.Alike t.vm := by rw [← e2]; exact X1.warmed.alike
  have K := hX' _ _ _ _ _ _ _ _ hQ md hmd p e s m args below meth c R Z D A ad' ca' T'.heap (locs ++ L) lsA hC (xi_O_ad hO hA2.2.1) ⟨by rw [e1]; exact hP1, hD1.weaken (fun _ _ _ z => hA1 _ z), hS1, xi_T_moved hvm.symm hT1, hF1⟩ (xi_has hl (xi_wfl_v hA2 hw1)) (fun r2 σ2 ad2 ca2 H2 locs2 nc2 ns2 pc2 lsA2 hQ2 hR2 hA3 => hret r2 σ2 ad2 ca2 H2 locs2 nc2 ns2 pc2 lsA2 hQ2 hR2 (xi_A_tr hA2 hA3))
  obtain ⟨t2, a1, b1⟩ := K T' rfl X1
  refine ⟨t2, stp t2 ?_, b1⟩
  have est : (r.map (xi_v ad')).toList ++ rest.map (xi_v ad) = (r.toList ++ rest).map (xi_v ad') := by
    rw [List.map_append, xi_wfs_v hA2 rest hw2]
    cases r <;> rfl
  rw [est]
  exact a1

/-- what the callee asks holds at the call -/
theorem xi_pre {σ : xiS} {p : Program} {s : State} {m : MethodId} {args : Array Value} {meth : Method} {c : Code} {R : Room} {md : xiM} {D : va_G} {A : Nat → Prop} {ad : Nat → Nat} {ca : Nat → ClassId} {H : Heap} {locs : List Loc}
    (hC : xi_C T cl G D p s m args meth c R md A) (hO : xi_O zs G A ad s s.heap) (hR : xi_R cl G D s A ad ca σ H locs) {vs : List Value} (U : State) (hU : U.heap = H) (hW : s.WarmedH U.vm) : xi_Pc cl zs G D ad ca σ H.size vs (vs.map (xi_v ad)).toArray U := by
  obtain ⟨hx, hb, hml, hown, hts, hA, hKc, hfr, hlo, hce, hsl, hin⟩ := id hC
  obtain ⟨hP, hD, hS, hT, hF⟩ := id hR
  have hA1 : ∀ q, va_A (xi_ws G.2.1 ad ca σ) H.size q → A q := by
    intro q hq
    rcases hq with ⟨k, e, hk⟩ | hq
    · exact hD.2 k _ hk
    · exact hA q (Nat.le_trans hS.1 hq)
  refine ⟨rfl, by rw [hU], by rw [hU]; exact hP, hD.weaken (fun _ _ _ _ => trivial), fun c q hq => u_Kn_moved hW.alike (hKc c q hq), xi_T_moved hW.alike hT, ?_⟩
  rw [hU]
  exact xi_O_moved hW.alike (fun _ _ _ _ z => va_Nw.warmM hW z) (xi_O_narrow (xi_O_kept hO hS.2.1) hA1)
theorem xi_goodIn {mn : xiM} (hg : ∀ w ∈ T, goodWord w = true) (hc : Cond.code mn.1.2.1 mn.1.2.2 mn.2.1.1 mn.2.1.2.1 ∈ T) : GoodIn T (Cond.code mn.1.2.1 mn.1.2.2 mn.2.1.1 mn.2.1.2.1 :: T) := fun w hw => by
  rcases List.mem_cons.mp hw with rfl | h
  · exact ⟨hc, good_of_word (hg _ hc)⟩
  · exact ⟨h, good_of_word (hg _ h)⟩
theorem xi_goodInN {mn : xiM} (hg : ∀ w ∈ T, goodWord w = true) (hc : Cond.code mn.1.2.1 mn.1.2.2 mn.2.1.1 none ∈ T) : GoodIn T (Cond.code mn.1.2.1 mn.1.2.2 mn.2.1.1 none :: T) := fun w hw => by
  rcases List.mem_cons.mp hw with rfl | h
  · exact ⟨hc, good_of_word (hg _ hc)⟩
  · exact ⟨h, good_of_word (hg _ h)⟩
theorem xi_okM_of {mn : xiM} (h : xi_okM T mn = true) : plainFor mn.1.2.1 = true ∧ Cond.code mn.1.2.1 mn.1.2.2 mn.2.1.1 mn.2.1.2.1 ∈ T ∧ Cond.initialized mn.1.2.1.cls ∈ T ∧ mn.1.2.1.cls ≠ "java/lang/invoke/MethodHandle" ∧ mn.1.2.1.cls ≠ "java/lang/invoke/VarHandle" ∧ (parseMethodDescriptor mn.1.2.1.desc).map (fun d => d.parameters.length) = some mn.2.1.2.2 ∧ (mn.1.1 = "static" → Cond.static mn.1.2.1 ∈ T) ∧ (mn.1.1 = "virtual" → Cond.instanceMethod mn.1.2.1 ∈ T ∧ Cond.selects mn.1.2.1.cls mn.1.2.1 mn.1.2.1 ∈ T) ∧ (mn.1.1 = "init" → Cond.instanceMethod mn.1.2.1 ∈ T ∧ mn.1.2.1.name = "<init>" ∧ mn.2.1.2.1 = none) := by
  unfold xi_okM at h
  simp only [Bool.and_eq_true, decide_eq_true_eq] at h
  obtain ⟨⟨⟨⟨⟨⟨h1, h2⟩, h3⟩, h4⟩, h5⟩, h6⟩, h7⟩ := h
  refine ⟨h1, h2, h3, h4, h5, h6, fun z => ?_, fun z => ?_, fun z => ?_⟩
  · rw [z] at h7
    simpa using h7
  · rw [z] at h7
    simpa using h7
  · rw [z] at h7
    simp at h7
    exact ⟨h7.1.1, h7.1.2, h7.2⟩

set_option maxHeartbeats 4000000 in
theorem xi_s_static {X' : xiX} (hX' : ∀ μ pc ls st σ nc ns Q, X' μ pc ls st σ nc ns Q → xi_OK T cl zs l G μ pc ls st σ nc ns Q) {μ pc : Nat} {ls : List (Option Value)} {st : List Value} {σ : xiS} {nc ns : Nat} {Q : xiQ} {md : xiM} (hmd : G.1[μ]? = some md) {p : Program} {e : Env} {s : State} {m : MethodId} {args : Array Value} {below : List Frame} {meth : Method} {c : Code} {R : Room} {Z : State → Prop} {D : va_G} {A : Nat → Prop} {ad : Nat → Nat} {ca : Nat → ClassId} {H : Heap} {locs : List Loc} {lsA : Array Slot}
    (hC : xi_C T cl G D p s m args meth c R md A) (hO : xi_O zs G A ad s s.heap) (hR : xi_R cl G D s A ad ca σ H locs) (hl : lv_has lsA md.2.1.1 (xi_l ad ls))
    (hret : ∀ (r : Option Value) (σ' : xiS) (ad' : Nat → Nat) (ca' : Nat → ClassId) (H' : Heap) (locs' : List Loc) (nc' ns' pc' : Nat) (lsA' : Array Slot), Q r σ' → xi_R cl G D s A ad' ca' σ' H' locs' → xi_A σ ad σ' ad' → nc' ≤ md.2.2.1.2.2.1 → ns' ≤ md.2.2.1.2.2.2 → xi_ret md pc' r →
      W p l e R s m args below meth c H' locs' nc' ns' Z (F0 m pc' lsA' (r.toList.map (xi_v ad'))))
    (hg : ∀ w ∈ T, goodWord w = true) {i ν : Nat} {mn : xiM} (hmn : G.1[ν]? = some mn) (hok : xi_okM T mn = true) (hd : decode md.1.2.2 pc = .ok (.invokestatic i, 3)) (hk : mn.1.1 = "static") (hw : Cond.methodLink md.1.2.1.cls i mn.1.2.1 ∈ T) (hn : mn.2.1.2.2 ≤ st.length) (h : xi_call G X' md μ pc ls σ nc ns Q ν mn (st.take mn.2.1.2.2).reverse (st.drop mn.2.1.2.2)) : W p l e R s m args below meth c H locs nc ns Z (F0 m pc lsA (st.map (xi_v ad))) := by
  obtain ⟨hx, hb, hml, hown, hts, hA, hKc, hfr, hlo, hce, hsl, hin⟩ := id hC
  obtain ⟨hP, hD, hS, hT, hF⟩ := id hR
  unfold xi_call at h
  obtain ⟨hc, h⟩ := xi_b_of h
  simp only [Bool.and_eq_true, Nat.ble_eq] at hc
  obtain ⟨⟨⟨⟨⟨⟨⟨c1, c2⟩, c3⟩, c4⟩, c5⟩, c6⟩, c7⟩, c8⟩ := hc
  obtain ⟨o1, o2, o3, o4, o5, o6, o7, o8, o9⟩ := xi_okM_of hok
  have hM := xi_met (D := D) (ad := ad) (ca := ca) (sz := H.size) hmn o1 (fun z => (o9 z).2.1) c6 hF (hX' _ _ _ _ _ _ _ _ h)
  refine xi_after hX' hmd hC hO hR hl hret (mn := mn) (rest := st.drop mn.2.1.2.2) (a := ((st.take mn.2.1.2.2).reverse.map (xi_v ad)).toArray) c7 c8 ?_
  refine va_runS (As := (st.take mn.2.1.2.2).reverse.map (xi_v ad)) (n := mn.2.1.2.2) ⟨hx, hb, hml, hown, hts⟩ hM ⟨callB_of mn.2.1.2.2 hts (xi_goodIn hg o2) rfl rfl rfl (hts _ o3) (hts _ hw) ⟨o4, o5, o6⟩ ⟨Nat.le_trans c1 hfr, Nat.le_trans c2 hlo⟩, hts _ (o7 hk)⟩ ⟨xi_Pc_blind, fun U hU hW => xi_pre hC hO hR U hU hW⟩ rfl ?_ hl.1 ?_ ?_ hd ⟨Nat.le_trans c3 hce, Nat.le_trans c4 hsl⟩
  · rw [List.length_map, List.length_reverse, List.length_take]; omega
  · rw [← List.map_reverse, List.reverse_reverse, ← List.map_append, List.take_append_drop]
  · exact lv_room (by rw [xi_w8_eq]; exact c5)
set_option maxHeartbeats 4000000 in
theorem xi_s_virtual {X' : xiX} (hX' : ∀ μ pc ls st σ nc ns Q, X' μ pc ls st σ nc ns Q → xi_OK T cl zs l G μ pc ls st σ nc ns Q) {μ pc : Nat} {ls : List (Option Value)} {st : List Value} {σ : xiS} {nc ns : Nat} {Q : xiQ} {md : xiM} (hmd : G.1[μ]? = some md) {p : Program} {e : Env} {s : State} {m : MethodId} {args : Array Value} {below : List Frame} {meth : Method} {c : Code} {R : Room} {Z : State → Prop} {D : va_G} {A : Nat → Prop} {ad : Nat → Nat} {ca : Nat → ClassId} {H : Heap} {locs : List Loc} {lsA : Array Slot}
    (hC : xi_C T cl G D p s m args meth c R md A) (hO : xi_O zs G A ad s s.heap) (hR : xi_R cl G D s A ad ca σ H locs) (hl : lv_has lsA md.2.1.1 (xi_l ad ls))
    (hret : ∀ (r : Option Value) (σ' : xiS) (ad' : Nat → Nat) (ca' : Nat → ClassId) (H' : Heap) (locs' : List Loc) (nc' ns' pc' : Nat) (lsA' : Array Slot), Q r σ' → xi_R cl G D s A ad' ca' σ' H' locs' → xi_A σ ad σ' ad' → nc' ≤ md.2.2.1.2.2.1 → ns' ≤ md.2.2.1.2.2.2 → xi_ret md pc' r →
      W p l e R s m args below meth c H' locs' nc' ns' Z (F0 m pc' lsA' (r.toList.map (xi_v ad'))))
    (hg : ∀ w ∈ T, goodWord w = true) {i ν : Nat} {mn : xiM} (hmn : G.1[ν]? = some mn) (hok : xi_okM T mn = true) {o ci : Nat} {q : vw_C} {t : List Value} (hd : decode md.1.2.2 pc = .ok (.invokevirtual i, 3)) (hk : mn.1.1 = "virtual") (hw : Cond.methodLink md.1.2.1.cls i mn.1.2.1 ∈ T) (hdr : st.drop mn.2.1.2.2 = .ref o :: t) (ho : σ.1[o]? = some (0, ci)) (hq : cl[ci]? = some q) (hcl : mn.1.2.1.cls = q.1) (h : xi_call G X' md μ pc ls σ nc ns Q ν mn (.ref o :: (st.take mn.2.1.2.2).reverse) t) : W p l e R s m args below meth c H locs nc ns Z (F0 m pc lsA (st.map (xi_v ad))) := by
  obtain ⟨hx, hb, hml, hown, hts, hA, hKc, hfr, hlo, hce, hsl, hin⟩ := id hC
  obtain ⟨hP, hD, hS, hT, hF⟩ := id hR
  unfold xi_call at h
  obtain ⟨hc, h⟩ := xi_b_of h
  simp only [Bool.and_eq_true, Nat.ble_eq] at hc
  obtain ⟨⟨⟨⟨⟨⟨⟨c1, c2⟩, c3⟩, c4⟩, c5⟩, c6⟩, c7⟩, c8⟩ := hc
  obtain ⟨o1, o2, o3, o4, o5, o6, o7, o8, o9⟩ := xi_okM_of hok
  have hM := xi_met (D := D) (ad := ad) (ca := ca) (sz := H.size) hmn o1 (fun z => (o9 z).2.1) c6 hF (hX' _ _ _ _ _ _ _ _ h)
  have hlen : mn.2.1.2.2 ≤ st.length := by
    have := congrArg List.length hdr
    rw [List.length_drop] at this
    simp at this
    omega
  refine xi_after hX' hmd hC hO hR hl hret (mn := mn) (rest := t) (a := ((Value.ref o :: (st.take mn.2.1.2.2).reverse).map (xi_v ad)).toArray) c7 c8 ?_
  refine va_runV (C := q.1) (b := ad o) (As := (st.take mn.2.1.2.2).reverse.map (xi_v ad)) (n := mn.2.1.2.2) ⟨hx, hb, hml, hown, hts⟩ hM ⟨callB_of mn.2.1.2.2 hts (xi_goodIn hg o2) rfl rfl rfl (hts _ o3) (hts _ hw) ⟨o4, o5, o6⟩ ⟨Nat.le_trans c1 hfr, Nat.le_trans c2 hlo⟩, hts _ (o8 hk).1, by rw [← hcl]; exact hts _ (o8 hk).2⟩ ⟨xi_Pc_blind, va_recv (xi_K0 hKc) hP hq (xi_ws_at ho), fun U hU hW => xi_pre hC hO hR (vs := .ref o :: (st.take mn.2.1.2.2).reverse) U hU hW⟩ rfl ?_ hl.1 ?_ ?_ hd ⟨Nat.le_trans c3 hce, Nat.le_trans c4 hsl⟩
  · rw [List.length_map, List.length_reverse, List.length_take]; omega
  · show st.map (xi_v ad) = _
    have e : st = st.take mn.2.1.2.2 ++ (.ref o :: t) := by rw [← hdr, List.take_append_drop]
    rw [← List.map_reverse, List.reverse_reverse]
    conv => lhs; rw [e]
    rw [List.map_append]
    rfl
  · exact lv_room (by rw [xi_w8_eq]; exact c5)
set_option maxHeartbeats 4000000 in
theorem xi_s_special {X' : xiX} (hX' : ∀ μ pc ls st σ nc ns Q, X' μ pc ls st σ nc ns Q → xi_OK T cl zs l G μ pc ls st σ nc ns Q) {μ pc : Nat} {ls : List (Option Value)} {st : List Value} {σ : xiS} {nc ns : Nat} {Q : xiQ} {md : xiM} (hmd : G.1[μ]? = some md) {p : Program} {e : Env} {s : State} {m : MethodId} {args : Array Value} {below : List Frame} {meth : Method} {c : Code} {R : Room} {Z : State → Prop} {D : va_G} {A : Nat → Prop} {ad : Nat → Nat} {ca : Nat → ClassId} {H : Heap} {locs : List Loc} {lsA : Array Slot}
    (hC : xi_C T cl G D p s m args meth c R md A) (hO : xi_O zs G A ad s s.heap) (hR : xi_R cl G D s A ad ca σ H locs) (hl : lv_has lsA md.2.1.1 (xi_l ad ls))
    (hret : ∀ (r : Option Value) (σ' : xiS) (ad' : Nat → Nat) (ca' : Nat → ClassId) (H' : Heap) (locs' : List Loc) (nc' ns' pc' : Nat) (lsA' : Array Slot), Q r σ' → xi_R cl G D s A ad' ca' σ' H' locs' → xi_A σ ad σ' ad' → nc' ≤ md.2.2.1.2.2.1 → ns' ≤ md.2.2.1.2.2.2 → xi_ret md pc' r →
      W p l e R s m args below meth c H' locs' nc' ns' Z (F0 m pc' lsA' (r.toList.map (xi_v ad'))))
    (hg : ∀ w ∈ T, goodWord w = true) {i ν : Nat} {mn : xiM} (hmn : G.1[ν]? = some mn) (hok : xi_okM T mn = true) {o : Nat} {t : List Value} (hd : decode md.1.2.2 pc = .ok (.invokespecial i, 3)) (hk : mn.1.1 = "init") (hw : Cond.methodLink md.1.2.1.cls i mn.1.2.1 ∈ T) (hdr : st.drop mn.2.1.2.2 = .ref o :: t) (h : xi_call G X' md μ pc ls σ nc ns Q ν mn (.ref o :: (st.take mn.2.1.2.2).reverse) t) : W p l e R s m args below meth c H locs nc ns Z (F0 m pc lsA (st.map (xi_v ad))) := by
  obtain ⟨hx, hb, hml, hown, hts, hA, hKc, hfr, hlo, hce, hsl, hin⟩ := id hC
  obtain ⟨hP, hD, hS, hT, hF⟩ := id hR
  unfold xi_call at h
  obtain ⟨hc, h⟩ := xi_b_of h
  simp only [Bool.and_eq_true, Nat.ble_eq] at hc
  obtain ⟨⟨⟨⟨⟨⟨⟨c1, c2⟩, c3⟩, c4⟩, c5⟩, c6⟩, c7⟩, c8⟩ := hc
  obtain ⟨o1, o2, o3, o4, o5, o6, o7, o8, o9⟩ := xi_okM_of hok
  have hM := xi_met (D := D) (ad := ad) (ca := ca) (sz := H.size) hmn o1 (fun z => (o9 z).2.1) c6 hF (hX' _ _ _ _ _ _ _ _ h)
  have hlen : mn.2.1.2.2 ≤ st.length := by
    have := congrArg List.length hdr
    rw [List.length_drop] at this
    simp at this
    omega
  rw [(o9 hk).2.2] at hM o2
  refine xi_after hX' hmd hC hO hR hl hret (mn := mn) (rest := t) (a := ((Value.ref o :: (st.take mn.2.1.2.2).reverse).map (xi_v ad)).toArray) c7 c8 ?_
  refine va_runI (b := ad o) (As := (st.take mn.2.1.2.2).reverse.map (xi_v ad)) (n := mn.2.1.2.2) ⟨hx, hb, hml, hown, hts⟩ hM ⟨callB_of mn.2.1.2.2 hts (xi_goodInN hg o2) rfl rfl rfl (hts _ o3) (hts _ hw) ⟨o4, o5, o6⟩ ⟨Nat.le_trans c1 hfr, Nat.le_trans c2 hlo⟩, (o9 hk).2.1, hts _ (o9 hk).1⟩ ⟨xi_Pc_blind, fun U hU hW => xi_pre hC hO hR (vs := .ref o :: (st.take mn.2.1.2.2).reverse) U hU hW⟩ rfl ?_ hl.1 ?_ ?_ hd ⟨Nat.le_trans c3 hce, Nat.le_trans c4 hsl⟩
  · rw [List.length_map, List.length_reverse, List.length_take]; omega
  · show st.map (xi_v ad) = _
    have e : st = st.take mn.2.1.2.2 ++ (.ref o :: t) := by rw [← hdr, List.take_append_drop]
    rw [← List.map_reverse, List.reverse_reverse]
    conv => lhs; rw [e]
    rw [List.map_append]
    rfl
  · exact lv_room (by rw [xi_w8_eq]; exact c5)
set_option maxHeartbeats 4000000 in
theorem xi_s_specialN {X' : xiX} (hX' : ∀ μ pc ls st σ nc ns Q, X' μ pc ls st σ nc ns Q → xi_OK T cl zs l G μ pc ls st σ nc ns Q) {μ pc : Nat} {ls : List (Option Value)} {st : List Value} {σ : xiS} {nc ns : Nat} {Q : xiQ} {md : xiM} (hmd : G.1[μ]? = some md) {p : Program} {e : Env} {s : State} {m : MethodId} {args : Array Value} {below : List Frame} {meth : Method} {c : Code} {R : Room} {Z : State → Prop} {D : va_G} {A : Nat → Prop} {ad : Nat → Nat} {ca : Nat → ClassId} {H : Heap} {locs : List Loc} {lsA : Array Slot}
    (hC : xi_C T cl G D p s m args meth c R md A) (hO : xi_O zs G A ad s s.heap) (hR : xi_R cl G D s A ad ca σ H locs) (hl : lv_has lsA md.2.1.1 (xi_l ad ls))
    (hret : ∀ (r : Option Value) (σ' : xiS) (ad' : Nat → Nat) (ca' : Nat → ClassId) (H' : Heap) (locs' : List Loc) (nc' ns' pc' : Nat) (lsA' : Array Slot), Q r σ' → xi_R cl G D s A ad' ca' σ' H' locs' → xi_A σ ad σ' ad' → nc' ≤ md.2.2.1.2.2.1 → ns' ≤ md.2.2.1.2.2.2 → xi_ret md pc' r →
      W p l e R s m args below meth c H' locs' nc' ns' Z (F0 m pc' lsA' (r.toList.map (xi_v ad'))))
    (hg : ∀ w ∈ T, goodWord w = true) {i ν : Nat} {mn : xiM} (hmn : G.1[ν]? = some mn) (hok : xi_okM T mn = true) {o : Nat} {t : List Value} (hd : decode md.1.2.2 pc = .ok (.invokespecial i, 3)) (hk : mn.1.1 = "init") {host : String} (hnw : va_Nw (.methodLinkNest md.1.2.1.cls i mn.1.2.1 host) s) (hdr : st.drop mn.2.1.2.2 = .ref o :: t) (h : xi_call G X' md μ pc ls σ nc ns Q ν mn (.ref o :: (st.take mn.2.1.2.2).reverse) t) : W p l e R s m args below meth c H locs nc ns Z (F0 m pc lsA (st.map (xi_v ad))) := by
  obtain ⟨hx, hb, hml, hown, hts, hA, hKc, hfr, hlo, hce, hsl, hin⟩ := id hC
  obtain ⟨hP, hD, hS, hT, hF⟩ := id hR
  unfold xi_call at h
  obtain ⟨hc, h⟩ := xi_b_of h
  simp only [Bool.and_eq_true, Nat.ble_eq] at hc
  obtain ⟨⟨⟨⟨⟨⟨⟨c1, c2⟩, c3⟩, c4⟩, c5⟩, c6⟩, c7⟩, c8⟩ := hc
  obtain ⟨o1, o2, o3, o4, o5, o6, o7, o8, o9⟩ := xi_okM_of hok
  have hM := xi_met (D := D) (ad := ad) (ca := ca) (sz := H.size) hmn o1 (fun z => (o9 z).2.1) c6 hF (hX' _ _ _ _ _ _ _ _ h)
  have hlen : mn.2.1.2.2 ≤ st.length := by
    have := congrArg List.length hdr
    rw [List.length_drop] at this
    simp at this
    omega
  rw [(o9 hk).2.2] at hM o2
  refine xi_after hX' hmd hC hO hR hl hret (mn := mn) (rest := t) (a := ((Value.ref o :: (st.take mn.2.1.2.2).reverse).map (xi_v ad)).toArray) c7 c8 ?_
  refine va_runIN (host := host) (b := ad o) (As := (st.take mn.2.1.2.2).reverse.map (xi_v ad)) (n := mn.2.1.2.2) ⟨hx, hb, hml, hown, hts⟩ hM ⟨va_cnB mn.2.1.2.2 hts (xi_goodInN hg o2) rfl rfl rfl (hnw) (hts _ o3) ⟨o4, o5, o6⟩ ⟨Nat.le_trans c1 hfr, Nat.le_trans c2 hlo⟩, (o9 hk).2.1, hts _ (o9 hk).1⟩ ⟨xi_Pc_blind, fun U hU hW => xi_pre hC hO hR (vs := .ref o :: (st.take mn.2.1.2.2).reverse) U hU hW⟩ rfl ?_ hl.1 ?_ ?_ hd ⟨Nat.le_trans c3 hce, Nat.le_trans c4 hsl⟩
  · rw [List.length_map, List.length_reverse, List.length_take]; omega
  · show st.map (xi_v ad) = _
    have e : st = st.take mn.2.1.2.2 ++ (.ref o :: t) := by rw [← hdr, List.take_append_drop]
    rw [← List.map_reverse, List.reverse_reverse]
    conv => lhs; rw [e]
    rw [List.map_append]
    rfl
  · exact lv_room (by rw [xi_w8_eq]; exact c5)
end XIS6
