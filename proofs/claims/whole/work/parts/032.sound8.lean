section XIS5
variable {T : List Cond} {cl : List vw_C} {zs : xiZ} {tf : Nat → Nat → FieldType} {l : Launch} {G : xiG}
theorem xi_T_moved {ca : Nat → ClassId} {σ : xiS} {u U : State} (hvm : u.vm.Alike U.vm) (h : xi_T ca σ u) : xi_T ca σ U := fun k d hk => ⟨fun z => ⟨arrOfT_moved hvm ((h k d hk).1 z).1, ((h k d hk).1 z).2.moved hvm⟩, fun z => ⟨arrOfT_moved hvm ((h k d hk).2 z).1, ((h k d hk).2 z).2.moved hvm⟩⟩
theorem xi_O_moved {A : Nat → Prop} {ad : Nat → Nat} {u U : State} {H : Heap} (hvm : u.vm.Alike U.vm) (hn : ∀ (a : String) (i : Nat) (x : MethodName) (h : String), va_Nw (.methodLinkNest a i x h) u → va_Nw (.methodLinkNest a i x h) U) (h : xi_O zs G A ad u H) : xi_O zs G A ad U H := ⟨fun j q hq => va_T.moved hvm (h.1 j q hq), fun j z hz => va_Z.moved hvm (h.2.1 j z hz), fun q hq => hn _ _ _ _ (h.2.2 q hq)⟩
theorem xi_O_kept {A : Nat → Prop} {ad : Nat → Nat} {U : State} {H H1 : Heap} (h : xi_O zs G A ad U H) (hq : ∀ a : Nat, a < H.size → ¬ A a → H1[a]? = H[a]?) : xi_O zs G A ad U H1 := ⟨fun j q e => va_T.kept (h.1 j q e) hq, fun j z e => va_Z.kept (h.2.1 j z e) hq, h.2.2⟩
theorem xi_O_narrow {A B : Nat → Prop} {ad : Nat → Nat} {U : State} {H : Heap} (h : xi_O zs G A ad U H) (hAB : ∀ q, B q → A q) : xi_O zs G B ad U H := ⟨fun j q e => va_T.narrow (h.1 j q e) hAB, fun j z e => va_Z.narrow (h.2.1 j z e) hAB, h.2.2⟩
def xi_Pc (cl : List vw_C) (zs : xiZ) (G : xiG) (D : va_G) (ad : Nat → Nat) (ca : Nat → ClassId) (σ : xiS) (sz : Nat) (vs : List Value) : Array Value → State → Prop :=
  va_Pc (vs.map (xi_v ad)) (fun U => U.heap.size = sz ∧ va_P D cl (xi_ws G.2.1 ad ca σ) U.heap ∧ va_D (fun _ => True) (xi_ws G.2.1 ad ca σ) ∧ (∀ (c : Nat) (q : vw_C), cl[c]? = some q → u_Kn U q.1 q.2.1 q.2.2 (D.1 c) (D.2 c)) ∧ xi_T ca σ U ∧ xi_O zs G (va_A (xi_ws G.2.1 ad ca σ) sz) ad U U.heap)
def xi_Qc (cl : List vw_C) (G : xiG) (D : va_G) (ad : Nat → Nat) (σ : xiS) (A1 : Nat → Prop) (Q0 : xiQ) : Array Value → State → Outcome → State → Prop := fun _ st oc t =>
  (∃ (r : Option Value) (σ' : xiS) (ad' : Nat → Nat) (ca' : Nat → ClassId), oc = .returned (r.map (xi_v ad')) ∧ Q0 r σ' ∧ xi_A σ ad σ' ad' ∧ va_P D cl (xi_ws G.2.1 ad' ca' σ') t.heap ∧ va_D A1 (xi_ws G.2.1 ad' ca' σ') ∧ xi_T ca' σ' t ∧ xi_F σ') ∧ va_F A1 st t
/-- a contract out of a walk, for a method that no entry of the machine's own stands for -/
theorem xi_ofW {y : MethodName} {ws ws' : List Cond} {rm : Room} {Pc : Array Value → State → Prop} {Qc : Array Value → State → Outcome → State → Prop} {mc ms : Nat} {free : Addr → Prop} {cc : ByteArray} {maxL : Nat} {ret : Option FieldType} (hy : plainFor y = true) (hw : ws = Cond.code y cc maxL ret :: ws')
    (body : ∀ p e s m args below meth c s₁, BodyLoose p l y (headSpec ws rm) cc maxL ret e s m args below meth c s₁ → c.maxLocals = maxL → Pc args s → W p l e (headSpec ws rm).room s m args below meth c s.heap [] 0 0 (MQ below Qc args s mc ms free) (entryFrame m args maxL)) : Met l y ws rm Pc Qc mc ms free := by
  refine MetFree.of_bodySF (code := cc) (maxLocals := maxL) (ret := ret) hy (fun args s m h hn => ?_) (fun p e s m args below meth c s₁ B hml hP _ => ?_)
  · obtain ⟨meth, c, h1, h2, h3, h4, h5, h6, -, -⟩ := Cond.code_spec hn (atoms_spec (ws := ws) h _ (by rw [hw]; exact List.mem_cons_self))
    exact ⟨meth, c, h1, h2, h3, h4, h5, h6⟩
  · obtain ⟨t, a1, o, b1, b2, b3⟩ := body p e s m args below meth c s₁ B hml hP s₁ (by rw [B.state]; rfl) (Stand.of_body B)
    exact ⟨t, o, a1, b1, b2, b3.1, b3.2⟩
def xi_rm (mn : xiM) : Room := { frames := mn.2.2.1.1, cells := mn.2.2.1.2.2.1, slots := mn.2.2.1.2.2.2, locals := mn.2.2.1.2.1 }
theorem xi_Pc_blind {D : va_G} {ad : Nat → Nat} {ca : Nat → ClassId} {σ : xiS} {sz : Nat} {vs : List Value} : FrameBlind (xi_Pc cl zs G D ad ca σ sz vs) := by
  intro a U g mk h
  obtain ⟨h1, h2, h3, h4, h5, h6, h7⟩ := h
  exact ⟨h1, h2, h3, h4, fun c q hq => u_Kn_moved (u := U) (U := U.calling g mk a) (Vm.Alike.refl U.vm) (h5 c q hq), xi_T_moved (u := U) (U := U.calling g mk a) (Vm.Alike.refl U.vm) h6, xi_O_moved (u := U) (U := U.calling g mk a) (Vm.Alike.refl U.vm) (fun _ _ _ _ z => va_Nw.same rfl rfl z) h7⟩
set_option maxHeartbeats 4000000 in
theorem xi_met {ν : Nat} {mn : xiM} (hmn : G.1[ν]? = some mn) (hpl : plainFor mn.1.2.1 = true) (hnm : mn.1.1 = "init" → mn.1.2.1.name = "<init>") {vs : List Value} {σ : xiS} {Q0 : xiQ} {ad : Nat → Nat} {ca : Nat → ClassId} {D : va_G} {sz : Nat} (hlen : (xi_ent1 vs).length ≤ mn.2.1.1) (hF : xi_F σ) (h : xi_OK T cl zs l G ν 0 (xi_ent vs mn.2.1.1) [] σ 0 0 Q0) :
    Met l mn.1.2.1 (Cond.code mn.1.2.1 mn.1.2.2 mn.2.1.1 mn.2.1.2.1 :: T) (xi_rm mn) (xi_Pc cl zs G D ad ca σ sz vs) (xi_Qc cl G D ad σ (va_A (xi_ws G.2.1 ad ca σ) sz) Q0) mn.2.2.1.2.2.1 mn.2.2.1.2.2.2 (va_A (xi_ws G.2.1 ad ca σ) sz) := by
  refine xi_ofW (cc := mn.1.2.2) (maxL := mn.2.1.1) (ret := mn.2.1.2.1) hpl rfl ?_
  intro p e s m args below meth c s₁ B hml hv
  obtain ⟨rfl, hsz, hP, hD0, hKc, hT, hO⟩ := hv
  subst hsz
  have hts := atoms_spec (ws := Cond.code mn.1.2.1 mn.1.2.2 mn.2.1.1 mn.2.1.2.1 :: T) B.pre
  have hown : s.vm.findClass mn.1.2.1.cls = some m.cls := findClass_of_methodNamed B.named
  have hlocks := B.notSynchronized
  have hr := B.returns
  have hx := B.exec
  have hb := B.bytes
  have hl := lv_entry (vs.map (xi_v ad)) (n := mn.2.1.1) (by rw [xi_ent_len]; exact hlen)
  rw [lg_entry_eq]
  generalize (lg_sl (vs.map (xi_v ad)) ++ List.replicate (mn.2.1.1 - (lg_sl (vs.map (xi_v ad))).length) Slot.unset).toArray = ls at hl ⊢
  have hl2 : lv_has ls mn.2.1.1 (xi_l ad (xi_ent vs mn.2.1.1)) := by
    refine xi_has hl fun q hq => ?_
    obtain ⟨v, hv, h2⟩ := xi_l_mem.mp hq
    have := xi_ent_mem (ad := ad) vs 0 q.1 v hv
    rw [Nat.zero_add, ← h2] at this
    exact this
  refine h mn hmn p e s m _ below meth c (xi_rm mn) _ D (va_A (xi_ws G.2.1 ad ca σ) s.heap.size) ad ca s.heap [] ls ⟨hx, hb, hml, hown, fun w hw => hts w (List.mem_cons_of_mem _ hw), fun q hq => Or.inr hq, hKc, Nat.le_refl _, Nat.le_refl _, Nat.le_refl _, Nat.le_refl _, fun z => (name_of_methodNamed B.named B.method).1.trans (hnm z)⟩ hO ⟨hP, hD0.self, va_S.rf, hT, hF⟩ hl2 ?_
  intro r σ' ad' ca' H' locs' nc' ns' pc' lsA' hQ hR hA hnc hns hre
  refine W.widen hnc hns ?_
  have hf : ∀ q ∈ locs', (va_A (xi_ws G.2.1 ad ca σ) s.heap.size) q.base := hR.2.2.1.2.2
  have hq : ∀ t : State, t.heap = H' → s.WarmedH t.vm → xi_Qc cl G D ad σ (va_A (xi_ws G.2.1 ad ca σ) s.heap.size) Q0 (vs.map (xi_v ad)).toArray s (.returned (r.map (xi_v ad'))) t := fun t ht hW => ⟨⟨r, σ', ad', ca', rfl, hQ, hA, by rw [ht]; exact hR.1, hR.2.1, xi_T_moved hW.alike hR.2.2.2.1, hR.2.2.2.2⟩, hR.2.2.1.F ht⟩
  unfold xi_ret at hre
  split at hre
  · exact W.vret hx hb (hr.trans hre.2) hq hf hre.1
  · rename_i v
    rcases hre.2 with h1 | ⟨h1, h2⟩
    · exact W.iret hx hb (hr.trans h1) hq hf hre.1
    · exact W.zret hx hb (hr.trans h1) (xi_bool h2).1 hq hf hre.1
  · exact W.lret hx hb (hr.trans hre.2) hq hf hre.1
  · exact hre.elim
end XIS5
