section XIS3
theorem xi_w8_eq (ad : Nat → Nat) : ∀ t : List Value, ((t.map (xi_v ad)).map fun v => v.category).sum = xi_w8 t
  | [] => rfl
  | v :: t => by
    have ih := xi_w8_eq ad t
    simp only [List.map_cons, List.sum_cons, xi_v_cat, xi_w8] at ih ⊢
    rw [ih]
variable {T : List Cond} {cl : List vw_C} {zs : xiZ} {tf : Nat → Nat → FieldType} {l : Launch} {G : xiG}
theorem xi_s_getfield {X' : xiX} (hX' : ∀ μ pc ls st σ nc ns Q, X' μ pc ls st σ nc ns Q → xi_OK T cl zs l G μ pc ls st σ nc ns Q) {μ pc : Nat} {ls : List (Option Value)} {st : List Value} {σ : xiS} {nc ns : Nat} {Q : xiQ} {md : xiM} (hmd : G.1[μ]? = some md) {p : Program} {e : Env} {s : State} {m : MethodId} {args : Array Value} {below : List Frame} {meth : Method} {c : Code} {R : Room} {Z : State → Prop} {D : va_G} {A : Nat → Prop} {ad : Nat → Nat} {ca : Nat → ClassId} {H : Heap} {locs : List Loc} {lsA : Array Slot}
    (hC : xi_C T cl G D p s m args meth c R md A) (hO : xi_O zs G A ad s s.heap) (hR : xi_R cl G D s A ad ca σ H locs) (hl : lv_has lsA md.2.1.1 (xi_l ad ls))
    (hret : ∀ (r : Option Value) (σ' : xiS) (ad' : Nat → Nat) (ca' : Nat → ClassId) (H' : Heap) (locs' : List Loc) (nc' ns' pc' : Nat) (lsA' : Array Slot), Q r σ' → xi_R cl G D s A ad' ca' σ' H' locs' → xi_A σ ad σ' ad' → nc' ≤ md.2.2.1.2.2.1 → ns' ≤ md.2.2.1.2.2.2 → xi_ret md pc' r →
      W p l e R s m args below meth c H' locs' nc' ns' Z (F0 m pc' lsA' (r.toList.map (xi_v ad'))))
    {i o ci j : Nat} {q : vw_C} {t : List Value} (hst : st = .ref o :: t) (hd : decode md.1.2.2 pc = .ok (.getfield i, 3)) (ho : σ.1[o]? = some (0, ci)) (hq : cl[ci]? = some q) (hok : xi_okC T G.2.1 tf ci q) (hj : j < q.2.2) (hw : Cond.fieldLink md.1.2.1.cls i (q.2.1 j).1 (q.2.1 j).2.1 (q.2.1 j).2.2.1 ∈ T) (h : X' μ (pc + 3) ls (xi_fld G.2.1 σ o ci j :: t) σ nc ns Q) : W p l e R s m args below meth c H locs nc ns Z (F0 m pc lsA (st.map (xi_v ad))) := by
  obtain ⟨hx, hb, hml, hown, hts, hA, hKc, hfr, hlo, hce, hsl, hin⟩ := id hC
  obtain ⟨hP, hD, hS, hT, hF⟩ := id hR
  subst hst
  obtain ⟨k1, k2, k3, k4, k5⟩ := hok
  exact va_get (C := q.1) (T := q.2.1) (N := q.2.2) hx hb hts k1 hown (xi_K0 hKc) hP o (xi_ws_at ho) hq j hj (hts _ hw) (fun _ z => z) (xi_getD (by rw [← k2]; exact hj)) hd (xi_keep hX' hmd hC hO hR hret _ _ _ h _ hl)
theorem xi_s_putfield {X' : xiX} (hX' : ∀ μ pc ls st σ nc ns Q, X' μ pc ls st σ nc ns Q → xi_OK T cl zs l G μ pc ls st σ nc ns Q) {μ pc : Nat} {ls : List (Option Value)} {st : List Value} {σ : xiS} {nc ns : Nat} {Q : xiQ} {md : xiM} (hmd : G.1[μ]? = some md) {p : Program} {e : Env} {s : State} {m : MethodId} {args : Array Value} {below : List Frame} {meth : Method} {c : Code} {R : Room} {Z : State → Prop} {D : va_G} {A : Nat → Prop} {ad : Nat → Nat} {ca : Nat → ClassId} {H : Heap} {locs : List Loc} {lsA : Array Slot}
    (hC : xi_C T cl G D p s m args meth c R md A) (hO : xi_O zs G A ad s s.heap) (hR : xi_R cl G D s A ad ca σ H locs) (hl : lv_has lsA md.2.1.1 (xi_l ad ls))
    (hret : ∀ (r : Option Value) (σ' : xiS) (ad' : Nat → Nat) (ca' : Nat → ClassId) (H' : Heap) (locs' : List Loc) (nc' ns' pc' : Nat) (lsA' : Array Slot), Q r σ' → xi_R cl G D s A ad' ca' σ' H' locs' → xi_A σ ad σ' ad' → nc' ≤ md.2.2.1.2.2.1 → ns' ≤ md.2.2.1.2.2.2 → xi_ret md pc' r →
      W p l e R s m args below meth c H' locs' nc' ns' Z (F0 m pc' lsA' (r.toList.map (xi_v ad'))))
    {i o ci j : Nat} {q : vw_C} {v : Value} {t : List Value} {σ' : xiS} (hst : st = v :: .ref o :: t) (hd : decode md.1.2.2 pc = .ok (.putfield i, 3)) (ho : σ.1[o]? = some (0, ci)) (hq : cl[ci]? = some q) (hok : xi_okC T G.2.1 tf ci q) (hj : j < q.2.2) (hw : Cond.fieldLink md.1.2.1.cls i (q.2.1 j).1 (q.2.1 j).2.1 (q.2.1 j).2.2.1 ∈ T) (hfin : xi_fin md (q.2.1 j) = true) (hnw : narrow (tf ci j) (xi_v ad v) = xi_v ad v) (hft : fits (tf ci j) (xi_v ad v) = true)
    (h1 : σ'.1 = σ.1) (h2 : ∀ k, k ≠ o → σ'.2.1 k = σ.2.1 k) (h3 : ∀ k, k ≠ o → σ'.2.2.1 k = σ.2.2.1 k) (h4 : ∀ k, k ≠ o → σ'.2.2.2 k = σ.2.2.2 k) (h5 : xi_fld G.2.1 σ' o ci j = v) (h6 : ∀ k, k ≠ j → xi_fld G.2.1 σ' o ci k = xi_fld G.2.1 σ o ci k) (h7 : xi_F σ') (h : X' μ (pc + 3) ls t σ' nc ns Q) : W p l e R s m args below meth c H locs nc ns Z (F0 m pc lsA (st.map (xi_v ad))) := by
  obtain ⟨hx, hb, hml, hown, hts, hA, hKc, hfr, hlo, hce, hsl, hin⟩ := id hC
  obtain ⟨hP, hD, hS, hT, hF⟩ := id hR
  subst hst
  obtain ⟨k1, k2, k3, k4, k5⟩ := hok
  have e1 := xi_ws_set (fk := G.2.1) (ad := ad) (ca := ca) h1 ho h2 h3 h4
  have e2 : xi_cell G.2.1 ad ca σ' o (0, ci) = .inr (ci, ((List.range (G.2.1.getD ci []).length).map (fun k => xi_v ad (xi_fld G.2.1 σ o ci k))).set j (xi_v ad v)) := by
    rw [xi_cell_obj, xi_fs_set h5 h6]
  rw [e2] at e1
  have hlen : j < ((List.range (G.2.1.getD ci []).length).map (fun k => xi_v ad (xi_fld G.2.1 σ o ci k))).length := by rw [List.length_map, List.length_range, ← k2]; exact hj
  have kk : ∀ (H1 : Heap) (locs1 : List Loc), va_P D cl ((xi_ws G.2.1 ad ca σ).set o (ad o, .inr (ci, ((List.range (G.2.1.getD ci []).length).map (fun k => xi_v ad (xi_fld G.2.1 σ o ci k))).set j (xi_v ad v)))) H1 → va_D A ((xi_ws G.2.1 ad ca σ).set o (ad o, .inr (ci, ((List.range (G.2.1.getD ci []).length).map (fun k => xi_v ad (xi_fld G.2.1 σ o ci k))).set j (xi_v ad v)))) → va_S A s.heap H1 locs1 → W p l e R s m args below meth c H1 locs1 nc ns Z (F0 m (pc + 3) lsA (t.map (xi_v ad))) := by
    intro H1 locs1 hP1 hD1 hS1
    rw [← e1] at hP1 hD1
    refine hX' _ _ _ _ _ _ _ _ h md hmd p e s m args below meth c R Z D A ad ca H1 locs1 lsA hC hO ⟨hP1, hD1, hS1, ?_, h7⟩ hl ?_
    · intro k d hk; rw [h1] at hk; exact hT k d hk
    · intro r σ2 ad2 ca2 H2 locs2 nc2 ns2 pc2 lsA2 hQ hR2 hA2; exact hret r σ2 ad2 ca2 H2 locs2 nc2 ns2 pc2 lsA2 hQ hR2 ⟨fun k hk => hA2.1 k (by rw [h1]; exact hk), hA2.2.1, by rw [← h1]; exact hA2.2.2⟩
  cases hff : (q.2.1 j).2.2.2 with
  | false => exact va_put (C := q.1) (T := q.2.1) (N := q.2.2) hx hb hts k1 (tf ci) k4 k3 hown (xi_K0 hKc) hP hD hS o (xi_ws_at ho) hq j hj (hts _ hw) (fun _ z => z) hff (k4 j hj) hnw hft hlen hd kk
  | true =>
    unfold xi_fin at hfin
    rw [hff] at hfin
    simp only [Bool.and_eq_true, decide_eq_true_eq] at hfin
    exact va_putF (C := q.1) (T := q.2.1) (N := q.2.2) hx hb hts k1 (tf ci) k4 k3 hown (xi_K0 hKc) hP hD hS o (xi_ws_at ho) hq j hj (hts _ hw) (fun _ z => z) hff (hin hfin.1) hfin.2 (k4 j hj) hnw hft hlen hd kk
theorem xi_s_getstatic {X' : xiX} (hX' : ∀ μ pc ls st σ nc ns Q, X' μ pc ls st σ nc ns Q → xi_OK T cl zs l G μ pc ls st σ nc ns Q) {μ pc : Nat} {ls : List (Option Value)} {st : List Value} {σ : xiS} {nc ns : Nat} {Q : xiQ} {md : xiM} (hmd : G.1[μ]? = some md) {p : Program} {e : Env} {s : State} {m : MethodId} {args : Array Value} {below : List Frame} {meth : Method} {c : Code} {R : Room} {Z : State → Prop} {D : va_G} {A : Nat → Prop} {ad : Nat → Nat} {ca : Nat → ClassId} {H : Heap} {locs : List Loc} {lsA : Array Slot}
    (hC : xi_C T cl G D p s m args meth c R md A) (hO : xi_O zs G A ad s s.heap) (hR : xi_R cl G D s A ad ca σ H locs) (hl : lv_has lsA md.2.1.1 (xi_l ad ls))
    (hret : ∀ (r : Option Value) (σ' : xiS) (ad' : Nat → Nat) (ca' : Nat → ClassId) (H' : Heap) (locs' : List Loc) (nc' ns' pc' : Nat) (lsA' : Array Slot), Q r σ' → xi_R cl G D s A ad' ca' σ' H' locs' → xi_A σ ad σ' ad' → nc' ≤ md.2.2.1.2.2.1 → ns' ≤ md.2.2.1.2.2.2 → xi_ret md pc' r →
      W p l e R s m args below meth c H' locs' nc' ns' Z (F0 m pc' lsA' (r.toList.map (xi_v ad'))))
    {i j : Nat} {z : String × String × String} (hd : decode md.1.2.2 pc = .ok (.getstatic i, 3)) (hz : zs.1[j]? = some z) (hw : Cond.fieldLink md.1.2.1.cls i z.1 z.2.1 z.2.2 ∈ T) (h : X' μ (pc + 3) ls (.ref (xi_o + (j + 1)) :: st) σ nc ns Q) : W p l e R s m args below meth c H locs nc ns Z (F0 m pc lsA (st.map (xi_v ad))) := by
  obtain ⟨hx, hb, hml, hown, hts, hA, hKc, hfr, hlo, hce, hsl, hin⟩ := id hC
  obtain ⟨hP, hD, hS, hT, hF⟩ := id hR
  exact va_gets hx hb (hO.2.1 j z hz) hS hown (hts _ hw) (fun _ z => z) hd (xi_keep hX' hmd hC hO hR hret _ _ _ h _ hl)
theorem xi_s_iaload {X' : xiX} (hX' : ∀ μ pc ls st σ nc ns Q, X' μ pc ls st σ nc ns Q → xi_OK T cl zs l G μ pc ls st σ nc ns Q) {μ pc : Nat} {ls : List (Option Value)} {st : List Value} {σ : xiS} {nc ns : Nat} {Q : xiQ} {md : xiM} (hmd : G.1[μ]? = some md) {p : Program} {e : Env} {s : State} {m : MethodId} {args : Array Value} {below : List Frame} {meth : Method} {c : Code} {R : Room} {Z : State → Prop} {D : va_G} {A : Nat → Prop} {ad : Nat → Nat} {ca : Nat → ClassId} {H : Heap} {locs : List Loc} {lsA : Array Slot}
    (hC : xi_C T cl G D p s m args meth c R md A) (hO : xi_O zs G A ad s s.heap) (hR : xi_R cl G D s A ad ca σ H locs) (hl : lv_has lsA md.2.1.1 (xi_l ad ls))
    (hret : ∀ (r : Option Value) (σ' : xiS) (ad' : Nat → Nat) (ca' : Nat → ClassId) (H' : Heap) (locs' : List Loc) (nc' ns' pc' : Nat) (lsA' : Array Slot), Q r σ' → xi_R cl G D s A ad' ca' σ' H' locs' → xi_A σ ad σ' ad' → nc' ≤ md.2.2.1.2.2.1 → ns' ≤ md.2.2.1.2.2.2 → xi_ret md pc' r →
      W p l e R s m args below meth c H' locs' nc' ns' Z (F0 m pc' lsA' (r.toList.map (xi_v ad'))))
    {a n : Nat} {j : Int32} {t : List Value} (hst : st = .int j :: .ref a :: t) (hd : decode md.1.2.2 pc = .ok (.iaload, 1)) (ha : σ.1[a]? = some (1, n)) (hj : vp_in j n) (h : X' μ (pc + 1) ls (.int (σ.2.2.1 a j.toNatClampNeg) :: t) σ nc ns Q) : W p l e R s m args below meth c H locs nc ns Z (F0 m pc lsA (st.map (xi_v ad))) := by
  obtain ⟨hx, hb, hml, hown, hts, hA, hKc, hfr, hlo, hce, hsl, hin⟩ := id hC
  obtain ⟨hP, hD, hS, hT, hF⟩ := id hR
  subst hst
  exact va_iald hx hb (xi_K1 hKc ((hT a _ ha).1 rfl)) hP a 0 (xi_ws_at ha) rfl hj hd (xi_keep hX' hmd hC hO hR hret _ _ _ h _ hl)
theorem xi_s_laload {X' : xiX} (hX' : ∀ μ pc ls st σ nc ns Q, X' μ pc ls st σ nc ns Q → xi_OK T cl zs l G μ pc ls st σ nc ns Q) {μ pc : Nat} {ls : List (Option Value)} {st : List Value} {σ : xiS} {nc ns : Nat} {Q : xiQ} {md : xiM} (hmd : G.1[μ]? = some md) {p : Program} {e : Env} {s : State} {m : MethodId} {args : Array Value} {below : List Frame} {meth : Method} {c : Code} {R : Room} {Z : State → Prop} {D : va_G} {A : Nat → Prop} {ad : Nat → Nat} {ca : Nat → ClassId} {H : Heap} {locs : List Loc} {lsA : Array Slot}
    (hC : xi_C T cl G D p s m args meth c R md A) (hO : xi_O zs G A ad s s.heap) (hR : xi_R cl G D s A ad ca σ H locs) (hl : lv_has lsA md.2.1.1 (xi_l ad ls))
    (hret : ∀ (r : Option Value) (σ' : xiS) (ad' : Nat → Nat) (ca' : Nat → ClassId) (H' : Heap) (locs' : List Loc) (nc' ns' pc' : Nat) (lsA' : Array Slot), Q r σ' → xi_R cl G D s A ad' ca' σ' H' locs' → xi_A σ ad σ' ad' → nc' ≤ md.2.2.1.2.2.1 → ns' ≤ md.2.2.1.2.2.2 → xi_ret md pc' r →
      W p l e R s m args below meth c H' locs' nc' ns' Z (F0 m pc' lsA' (r.toList.map (xi_v ad'))))
    {a n : Nat} {j : Int32} {t : List Value} (hst : st = .int j :: .ref a :: t) (hd : decode md.1.2.2 pc = .ok (.laload, 1)) (ha : σ.1[a]? = some (2, n)) (hj : vp_in j n) (h : X' μ (pc + 1) ls (.long (σ.2.2.2 a j.toNatClampNeg) :: t) σ nc ns Q) : W p l e R s m args below meth c H locs nc ns Z (F0 m pc lsA (st.map (xi_v ad))) := by
  obtain ⟨hx, hb, hml, hown, hts, hA, hKc, hfr, hlo, hce, hsl, hin⟩ := id hC
  obtain ⟨hP, hD, hS, hT, hF⟩ := id hR
  subst hst
  exact va_lald hx hb (xi_K1 hKc ((hT a _ ha).2 rfl)) hP a 0 (xi_ws_at ha) rfl hj hd (xi_keep hX' hmd hC hO hR hret _ _ _ h _ hl)
theorem xi_s_iastore {X' : xiX} (hX' : ∀ μ pc ls st σ nc ns Q, X' μ pc ls st σ nc ns Q → xi_OK T cl zs l G μ pc ls st σ nc ns Q) {μ pc : Nat} {ls : List (Option Value)} {st : List Value} {σ : xiS} {nc ns : Nat} {Q : xiQ} {md : xiM} (hmd : G.1[μ]? = some md) {p : Program} {e : Env} {s : State} {m : MethodId} {args : Array Value} {below : List Frame} {meth : Method} {c : Code} {R : Room} {Z : State → Prop} {D : va_G} {A : Nat → Prop} {ad : Nat → Nat} {ca : Nat → ClassId} {H : Heap} {locs : List Loc} {lsA : Array Slot}
    (hC : xi_C T cl G D p s m args meth c R md A) (hO : xi_O zs G A ad s s.heap) (hR : xi_R cl G D s A ad ca σ H locs) (hl : lv_has lsA md.2.1.1 (xi_l ad ls))
    (hret : ∀ (r : Option Value) (σ' : xiS) (ad' : Nat → Nat) (ca' : Nat → ClassId) (H' : Heap) (locs' : List Loc) (nc' ns' pc' : Nat) (lsA' : Array Slot), Q r σ' → xi_R cl G D s A ad' ca' σ' H' locs' → xi_A σ ad σ' ad' → nc' ≤ md.2.2.1.2.2.1 → ns' ≤ md.2.2.1.2.2.2 → xi_ret md pc' r →
      W p l e R s m args below meth c H' locs' nc' ns' Z (F0 m pc' lsA' (r.toList.map (xi_v ad'))))
    {a n : Nat} {j : Int32} {x : Int32} {t : List Value} (hst : st = .int x :: .int j :: .ref a :: t) (hd : decode md.1.2.2 pc = .ok (.iastore, 1)) (ha : σ.1[a]? = some (1, n)) (hj : vp_in j n) (h : X' μ (pc + 1) ls t (σ.1, σ.2.1, xi_u σ.2.2.1 a j.toNatClampNeg x, σ.2.2.2) nc ns Q) : W p l e R s m args below meth c H locs nc ns Z (F0 m pc lsA (st.map (xi_v ad))) := by
  obtain ⟨hx, hb, hml, hown, hts, hA, hKc, hfr, hlo, hce, hsl, hin⟩ := id hC
  obtain ⟨hP, hD, hS, hT, hF⟩ := id hR
  subst hst
  have e1 := xi_ws_set (fk := G.2.1) (ad := ad) (ca := ca) (σ := σ) (σ' := (σ.1, σ.2.1, xi_u σ.2.2.1 a j.toNatClampNeg x, σ.2.2.2)) (o := a) (d := (1, n)) rfl ha (fun k hk => rfl) (fun k hk => xi_une hk) (fun k hk => rfl)
  have e2 : xi_cell G.2.1 ad ca (σ.1, σ.2.1, xi_u σ.2.2.1 a j.toNatClampNeg x, σ.2.2.2) a (1, n) = .inl (ca a, n, .inl (upd (σ.2.2.1 a) j.toNatClampNeg x)) := by
    show Sum.inl (ca a, n, Sum.inl ((xi_u σ.2.2.1 a j.toNatClampNeg x) a)) = _
    rw [xi_upd]
  rw [e2] at e1
  refine va_iast hx hb (xi_K1 hKc ((hT a _ ha).1 rfl)) hP hD hS a 0 (xi_ws_at ha) rfl hj hd (fun H1 locs1 hP1 hD1 hS1 => ?_)
  have hP2 : va_P D cl (xi_ws G.2.1 ad ca (σ.1, σ.2.1, xi_u σ.2.2.1 a j.toNatClampNeg x, σ.2.2.2)) H1 := by rw [e1]; exact hP1
  have hD2 : va_D A (xi_ws G.2.1 ad ca (σ.1, σ.2.1, xi_u σ.2.2.1 a j.toNatClampNeg x, σ.2.2.2)) := by rw [e1]; exact hD1
  exact hX' _ _ _ _ _ _ _ _ h md hmd p e s m args below meth c R Z D A ad ca H1 locs1 lsA hC hO ⟨hP2, hD2, hS1, hT, hF⟩ hl hret
theorem xi_s_lastore {X' : xiX} (hX' : ∀ μ pc ls st σ nc ns Q, X' μ pc ls st σ nc ns Q → xi_OK T cl zs l G μ pc ls st σ nc ns Q) {μ pc : Nat} {ls : List (Option Value)} {st : List Value} {σ : xiS} {nc ns : Nat} {Q : xiQ} {md : xiM} (hmd : G.1[μ]? = some md) {p : Program} {e : Env} {s : State} {m : MethodId} {args : Array Value} {below : List Frame} {meth : Method} {c : Code} {R : Room} {Z : State → Prop} {D : va_G} {A : Nat → Prop} {ad : Nat → Nat} {ca : Nat → ClassId} {H : Heap} {locs : List Loc} {lsA : Array Slot}
    (hC : xi_C T cl G D p s m args meth c R md A) (hO : xi_O zs G A ad s s.heap) (hR : xi_R cl G D s A ad ca σ H locs) (hl : lv_has lsA md.2.1.1 (xi_l ad ls))
    (hret : ∀ (r : Option Value) (σ' : xiS) (ad' : Nat → Nat) (ca' : Nat → ClassId) (H' : Heap) (locs' : List Loc) (nc' ns' pc' : Nat) (lsA' : Array Slot), Q r σ' → xi_R cl G D s A ad' ca' σ' H' locs' → xi_A σ ad σ' ad' → nc' ≤ md.2.2.1.2.2.1 → ns' ≤ md.2.2.1.2.2.2 → xi_ret md pc' r →
      W p l e R s m args below meth c H' locs' nc' ns' Z (F0 m pc' lsA' (r.toList.map (xi_v ad'))))
    {a n : Nat} {j : Int32} {x : Int64} {t : List Value} (hst : st = .long x :: .int j :: .ref a :: t) (hd : decode md.1.2.2 pc = .ok (.lastore, 1)) (ha : σ.1[a]? = some (2, n)) (hj : vp_in j n) (h : X' μ (pc + 1) ls t (σ.1, σ.2.1, σ.2.2.1, xi_u σ.2.2.2 a j.toNatClampNeg x) nc ns Q) : W p l e R s m args below meth c H locs nc ns Z (F0 m pc lsA (st.map (xi_v ad))) := by
  obtain ⟨hx, hb, hml, hown, hts, hA, hKc, hfr, hlo, hce, hsl, hin⟩ := id hC
  obtain ⟨hP, hD, hS, hT, hF⟩ := id hR
  subst hst
  have e1 := xi_ws_set (fk := G.2.1) (ad := ad) (ca := ca) (σ := σ) (σ' := (σ.1, σ.2.1, σ.2.2.1, xi_u σ.2.2.2 a j.toNatClampNeg x)) (o := a) (d := (2, n)) rfl ha (fun k hk => rfl) (fun k hk => rfl) (fun k hk => xi_une hk)
  have e2 : xi_cell G.2.1 ad ca (σ.1, σ.2.1, σ.2.2.1, xi_u σ.2.2.2 a j.toNatClampNeg x) a (2, n) = .inl (ca a, n, .inr (.inl (vp_updL (σ.2.2.2 a) j.toNatClampNeg x))) := by
    show Sum.inl (ca a, n, Sum.inr (Sum.inl ((xi_u σ.2.2.2 a j.toNatClampNeg x) a))) = _
    rw [xi_updL]
  rw [e2] at e1
  refine va_last hx hb (xi_K1 hKc ((hT a _ ha).2 rfl)) hP hD hS a 0 (xi_ws_at ha) rfl hj hd (fun H1 locs1 hP1 hD1 hS1 => ?_)
  have hP2 : va_P D cl (xi_ws G.2.1 ad ca (σ.1, σ.2.1, σ.2.2.1, xi_u σ.2.2.2 a j.toNatClampNeg x)) H1 := by rw [e1]; exact hP1
  have hD2 : va_D A (xi_ws G.2.1 ad ca (σ.1, σ.2.1, σ.2.2.1, xi_u σ.2.2.2 a j.toNatClampNeg x)) := by rw [e1]; exact hD1
  exact hX' _ _ _ _ _ _ _ _ h md hmd p e s m args below meth c R Z D A ad ca H1 locs1 lsA hC hO ⟨hP2, hD2, hS1, hT, hF⟩ hl hret
theorem xi_s_aloadO {X' : xiX} (hX' : ∀ μ pc ls st σ nc ns Q, X' μ pc ls st σ nc ns Q → xi_OK T cl zs l G μ pc ls st σ nc ns Q) {μ pc : Nat} {ls : List (Option Value)} {st : List Value} {σ : xiS} {nc ns : Nat} {Q : xiQ} {md : xiM} (hmd : G.1[μ]? = some md) {p : Program} {e : Env} {s : State} {m : MethodId} {args : Array Value} {below : List Frame} {meth : Method} {c : Code} {R : Room} {Z : State → Prop} {D : va_G} {A : Nat → Prop} {ad : Nat → Nat} {ca : Nat → ClassId} {H : Heap} {locs : List Loc} {lsA : Array Slot}
    (hC : xi_C T cl G D p s m args meth c R md A) (hO : xi_O zs G A ad s s.heap) (hR : xi_R cl G D s A ad ca σ H locs) (hl : lv_has lsA md.2.1.1 (xi_l ad ls))
    (hret : ∀ (r : Option Value) (σ' : xiS) (ad' : Nat → Nat) (ca' : Nat → ClassId) (H' : Heap) (locs' : List Loc) (nc' ns' pc' : Nat) (lsA' : Array Slot), Q r σ' → xi_R cl G D s A ad' ca' σ' H' locs' → xi_A σ ad σ' ad' → nc' ≤ md.2.2.1.2.2.1 → ns' ≤ md.2.2.1.2.2.2 → xi_ret md pc' r →
      W p l e R s m args below meth c H' locs' nc' ns' Z (F0 m pc' lsA' (r.toList.map (xi_v ad'))))
    {j0 : Nat} {q : Nat × (Nat → Int32)} {j : Int32} {t : List Value} (hst : st = .int j :: .ref (xi_o + j0) :: t) (hd : decode md.1.2.2 pc = .ok (.iaload, 1)) (hq : G.2.2[j0]? = some q) (hj : vp_in j q.1) (h : X' μ (pc + 1) ls (.int (q.2 j.toNatClampNeg) :: t) σ nc ns Q) : W p l e R s m args below meth c H locs nc ns Z (F0 m pc lsA (st.map (xi_v ad))) := by
  obtain ⟨hx, hb, hml, hown, hts, hA, hKc, hfr, hlo, hce, hsl, hin⟩ := id hC
  obtain ⟨hP, hD, hS, hT, hF⟩ := id hR
  subst hst
  exact va_ti hx hb (hO.1 j0 q hq) hS hj rfl hd (xi_keep hX' hmd hC hO hR hret _ _ _ h _ hl)
theorem xi_s_alenO {X' : xiX} (hX' : ∀ μ pc ls st σ nc ns Q, X' μ pc ls st σ nc ns Q → xi_OK T cl zs l G μ pc ls st σ nc ns Q) {μ pc : Nat} {ls : List (Option Value)} {st : List Value} {σ : xiS} {nc ns : Nat} {Q : xiQ} {md : xiM} (hmd : G.1[μ]? = some md) {p : Program} {e : Env} {s : State} {m : MethodId} {args : Array Value} {below : List Frame} {meth : Method} {c : Code} {R : Room} {Z : State → Prop} {D : va_G} {A : Nat → Prop} {ad : Nat → Nat} {ca : Nat → ClassId} {H : Heap} {locs : List Loc} {lsA : Array Slot}
    (hC : xi_C T cl G D p s m args meth c R md A) (hO : xi_O zs G A ad s s.heap) (hR : xi_R cl G D s A ad ca σ H locs) (hl : lv_has lsA md.2.1.1 (xi_l ad ls))
    (hret : ∀ (r : Option Value) (σ' : xiS) (ad' : Nat → Nat) (ca' : Nat → ClassId) (H' : Heap) (locs' : List Loc) (nc' ns' pc' : Nat) (lsA' : Array Slot), Q r σ' → xi_R cl G D s A ad' ca' σ' H' locs' → xi_A σ ad σ' ad' → nc' ≤ md.2.2.1.2.2.1 → ns' ≤ md.2.2.1.2.2.2 → xi_ret md pc' r →
      W p l e R s m args below meth c H' locs' nc' ns' Z (F0 m pc' lsA' (r.toList.map (xi_v ad'))))
    {j0 : Nat} {q : Nat × (Nat → Int32)} {t : List Value} (hst : st = .ref (xi_o + j0) :: t) (hd : decode md.1.2.2 pc = .ok (.arraylength, 1)) (hq : G.2.2[j0]? = some q) (h : X' μ (pc + 1) ls (.int (Int32.ofNat q.1) :: t) σ nc ns Q) : W p l e R s m args below meth c H locs nc ns Z (F0 m pc lsA (st.map (xi_v ad))) := by
  obtain ⟨hx, hb, hml, hown, hts, hA, hKc, hfr, hlo, hce, hsl, hin⟩ := id hC
  obtain ⟨hP, hD, hS, hT, hF⟩ := id hR
  subst hst
  exact va_tlen hx hb (hO.1 j0 q hq) hS rfl hd (xi_keep hX' hmd hC hO hR hret _ _ _ h _ hl)
theorem xi_s_alen1 {X' : xiX} (hX' : ∀ μ pc ls st σ nc ns Q, X' μ pc ls st σ nc ns Q → xi_OK T cl zs l G μ pc ls st σ nc ns Q) {μ pc : Nat} {ls : List (Option Value)} {st : List Value} {σ : xiS} {nc ns : Nat} {Q : xiQ} {md : xiM} (hmd : G.1[μ]? = some md) {p : Program} {e : Env} {s : State} {m : MethodId} {args : Array Value} {below : List Frame} {meth : Method} {c : Code} {R : Room} {Z : State → Prop} {D : va_G} {A : Nat → Prop} {ad : Nat → Nat} {ca : Nat → ClassId} {H : Heap} {locs : List Loc} {lsA : Array Slot}
    (hC : xi_C T cl G D p s m args meth c R md A) (hO : xi_O zs G A ad s s.heap) (hR : xi_R cl G D s A ad ca σ H locs) (hl : lv_has lsA md.2.1.1 (xi_l ad ls))
    (hret : ∀ (r : Option Value) (σ' : xiS) (ad' : Nat → Nat) (ca' : Nat → ClassId) (H' : Heap) (locs' : List Loc) (nc' ns' pc' : Nat) (lsA' : Array Slot), Q r σ' → xi_R cl G D s A ad' ca' σ' H' locs' → xi_A σ ad σ' ad' → nc' ≤ md.2.2.1.2.2.1 → ns' ≤ md.2.2.1.2.2.2 → xi_ret md pc' r →
      W p l e R s m args below meth c H' locs' nc' ns' Z (F0 m pc' lsA' (r.toList.map (xi_v ad'))))
    {a n : Nat} {t : List Value} (hst : st = .ref a :: t) (hd : decode md.1.2.2 pc = .ok (.arraylength, 1)) (ha : σ.1[a]? = some (1, n)) (h : X' μ (pc + 1) ls (.int (Int32.ofNat n) :: t) σ nc ns Q) : W p l e R s m args below meth c H locs nc ns Z (F0 m pc lsA (st.map (xi_v ad))) := by
  obtain ⟨hx, hb, hml, hown, hts, hA, hKc, hfr, hlo, hce, hsl, hin⟩ := id hC
  obtain ⟨hP, hD, hS, hT, hF⟩ := id hR
  subst hst
  exact va_alen hx hb (xi_K1 hKc ((hT a _ ha).1 rfl)) hP a 0 (xi_ws_at ha) rfl rfl hd (xi_keep hX' hmd hC hO hR hret _ _ _ h _ hl)
theorem xi_s_alen2 {X' : xiX} (hX' : ∀ μ pc ls st σ nc ns Q, X' μ pc ls st σ nc ns Q → xi_OK T cl zs l G μ pc ls st σ nc ns Q) {μ pc : Nat} {ls : List (Option Value)} {st : List Value} {σ : xiS} {nc ns : Nat} {Q : xiQ} {md : xiM} (hmd : G.1[μ]? = some md) {p : Program} {e : Env} {s : State} {m : MethodId} {args : Array Value} {below : List Frame} {meth : Method} {c : Code} {R : Room} {Z : State → Prop} {D : va_G} {A : Nat → Prop} {ad : Nat → Nat} {ca : Nat → ClassId} {H : Heap} {locs : List Loc} {lsA : Array Slot}
    (hC : xi_C T cl G D p s m args meth c R md A) (hO : xi_O zs G A ad s s.heap) (hR : xi_R cl G D s A ad ca σ H locs) (hl : lv_has lsA md.2.1.1 (xi_l ad ls))
    (hret : ∀ (r : Option Value) (σ' : xiS) (ad' : Nat → Nat) (ca' : Nat → ClassId) (H' : Heap) (locs' : List Loc) (nc' ns' pc' : Nat) (lsA' : Array Slot), Q r σ' → xi_R cl G D s A ad' ca' σ' H' locs' → xi_A σ ad σ' ad' → nc' ≤ md.2.2.1.2.2.1 → ns' ≤ md.2.2.1.2.2.2 → xi_ret md pc' r →
      W p l e R s m args below meth c H' locs' nc' ns' Z (F0 m pc' lsA' (r.toList.map (xi_v ad'))))
    {a n : Nat} {t : List Value} (hst : st = .ref a :: t) (hd : decode md.1.2.2 pc = .ok (.arraylength, 1)) (ha : σ.1[a]? = some (2, n)) (h : X' μ (pc + 1) ls (.int (Int32.ofNat n) :: t) σ nc ns Q) : W p l e R s m args below meth c H locs nc ns Z (F0 m pc lsA (st.map (xi_v ad))) := by
  obtain ⟨hx, hb, hml, hown, hts, hA, hKc, hfr, hlo, hce, hsl, hin⟩ := id hC
  obtain ⟨hP, hD, hS, hT, hF⟩ := id hR
  subst hst
  exact va_alen hx hb (xi_K1 hKc ((hT a _ ha).2 rfl)) hP a 0 (xi_ws_at ha) rfl rfl hd (xi_keep hX' hmd hC hO hR hret _ _ _ h _ hl)
theorem xi_s_objInit {X' : xiX} (hX' : ∀ μ pc ls st σ nc ns Q, X' μ pc ls st σ nc ns Q → xi_OK T cl zs l G μ pc ls st σ nc ns Q) {μ pc : Nat} {ls : List (Option Value)} {st : List Value} {σ : xiS} {nc ns : Nat} {Q : xiQ} {md : xiM} (hmd : G.1[μ]? = some md) {p : Program} {e : Env} {s : State} {m : MethodId} {args : Array Value} {below : List Frame} {meth : Method} {c : Code} {R : Room} {Z : State → Prop} {D : va_G} {A : Nat → Prop} {ad : Nat → Nat} {ca : Nat → ClassId} {H : Heap} {locs : List Loc} {lsA : Array Slot}
    (hC : xi_C T cl G D p s m args meth c R md A) (hO : xi_O zs G A ad s s.heap) (hR : xi_R cl G D s A ad ca σ H locs) (hl : lv_has lsA md.2.1.1 (xi_l ad ls))
    (hret : ∀ (r : Option Value) (σ' : xiS) (ad' : Nat → Nat) (ca' : Nat → ClassId) (H' : Heap) (locs' : List Loc) (nc' ns' pc' : Nat) (lsA' : Array Slot), Q r σ' → xi_R cl G D s A ad' ca' σ' H' locs' → xi_A σ ad σ' ad' → nc' ≤ md.2.2.1.2.2.1 → ns' ≤ md.2.2.1.2.2.2 → xi_ret md pc' r →
      W p l e R s m args below meth c H' locs' nc' ns' Z (F0 m pc' lsA' (r.toList.map (xi_v ad'))))
    {i o : Nat} {t : List Value} (hst : st = .ref o :: t) (hd : decode md.1.2.2 pc = .ok (.invokespecial i, 3)) (hw : Cond.methodLink md.1.2.1.cls i Lib.objectInit ∈ T) (hw2 : Cond.instanceMethod Lib.objectInit ∈ T) (hw3 : Cond.code Lib.objectInit ⟨#[0xb1]⟩ 1 none ∈ T) (h : xi_b (Nat.ble 1 md.2.2.1.1 && Nat.ble (xi_w8 t + 12) md.2.2.1.2.1) (X' μ (pc + 3) ls t σ nc ns Q)) : W p l e R s m args below meth c H locs nc ns Z (F0 m pc lsA (st.map (xi_v ad))) := by
  obtain ⟨hx, hb, hml, hown, hts, hA, hKc, hfr, hlo, hce, hsl, hin⟩ := id hC
  obtain ⟨hP, hD, hS, hT, hF⟩ := id hR
  subst hst
  obtain ⟨hc, h⟩ := xi_b_of h
  simp only [Bool.and_eq_true, Nat.ble_eq] at hc
  refine W.objInit hx hb hown (hts _ hw) (hts _ hw2) (hts _ hw3) rfl (by rw [hml]; exact hl.1) rfl hd (Nat.le_trans hc.1 hfr) ?_ (xi_keep hX' hmd hC hO hR hret _ _ _ h _ hl)
  have e : ((t.map (xi_v ad)).map fun v => v.category).sum = xi_w8 t := xi_w8_eq ad t
  rw [e]
  have : 2 * (F0 m pc lsA ((Value.ref o :: t).map (xi_v ad))).monitorRoom = 0 := rfl
  omega
end XIS3
