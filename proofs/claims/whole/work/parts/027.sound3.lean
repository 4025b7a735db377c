/-! XI: what is asked of the tables, what a frame knows, and what it is that the machine keeps an abstract promise -/
abbrev xiZ : Type := List (String × String × String) × List (String × Nat × MethodName × String)
def xi_len : Instr → Nat
  | .iconst _ | .lconst _ | .iload_n _ | .lload_n _ | .aload_n _ | .istore_n _ | .lstore_n _ | .astore_n _ => 1
  | .bipush _ | .ldc _ | .iload _ | .lload _ | .aload _ | .istore _ | .lstore _ | .newarray _ => 2
  | .sipush _ | .ldc_w _ | .ldc2_w _ | .iinc _ _ | .ifCond _ _ | .if_icmp _ _ | .goto _ | .getfield _ | .putfield _ | .getstatic _ | .new _ | .invokestatic _ | .invokevirtual _ | .invokespecial _ => 3
  | _ => 1
/-- a target ahead of the method's beginning can't be -/
def xi_tg (pc : Nat) (off : Int) : Bool := decide (0 ≤ (pc : Int) + off)
def xi_kt (k : Nat) (ty : FieldType) : Bool := match k, ty with
  | 0, .int => true
  | 1, .boolean => true
  | 2, .long => true
  | 3, .object _ => true
  | 3, .array _ => true
  | _, _ => false
def xi_fin (md : xiM) (q : String × String × String × Bool) : Bool := match q.2.2.2 with
  | true => decide (md.1.1 = "init") && decide (q.1 = md.1.2.1.cls)
  | false => true
/-- an entry of a method's table is right: its bytes, its length, the words of what it is resolved to -/
def xi_okE (T : List Cond) (cl : List vw_C) (zs : xiZ) (G : xiG) (md : xiM) (q : xiE) : Bool :=
  decide (decode md.1.2.2 q.1 = .ok (q.2.1, q.2.2.1)) && (match q with
  | (pc, ins, len, ra, rb, rc) => match ins with
    | .ifCond _ off => Nat.beq len 3 && xi_tg pc off
    | .if_icmp _ off => Nat.beq len 3 && xi_tg pc off
    | .goto off => Nat.beq len 3 && xi_tg pc off
    | .getfield i => Nat.beq len 3 && (match cl[ra]? with
      | some (_, t, n) => Nat.blt rb n && decide (T[rc]? = some (.fieldLink md.1.2.1.cls i (t rb).1 (t rb).2.1 (t rb).2.2.1))
      | none => false)
    | .putfield i => Nat.beq len 3 && (match cl[ra]? with
      | some (_, t, n) => Nat.blt rb n && decide (T[rc]? = some (.fieldLink md.1.2.1.cls i (t rb).1 (t rb).2.1 (t rb).2.2.1)) && xi_fin md (t rb)
      | none => false)
    | .getstatic i => Nat.beq len 3 && (match ra with
      | 0 => false
      | j + 1 => match zs.1[j]? with
        | some z => decide (T[rc]? = some (.fieldLink md.1.2.1.cls i z.1 z.2.1 z.2.2))
        | none => false)
    | .ldc i => Nat.beq len 2 && decide (T[rc]? = some (.constant md.1.2.1.cls i (Int32.ofNat ra)))
    | .ldc_w i => Nat.beq len 3 && decide (T[rc]? = some (.constant md.1.2.1.cls i (Int32.ofNat ra)))
    | .ldc2_w i => Nat.beq len 3 && decide (T[rc]? = some (.constantLong md.1.2.1.cls i (Int64.ofNat ra)))
    | .new i => Nat.beq len 3 && (match cl[ra]? with
      | some (c, _, n) => decide (T[rc]? = some (.classLink md.1.2.1.cls i c)) && decide (Cond.instantiable c n ∈ T) && decide (Cond.initialized c ∈ T)
      | none => false)
    | .newarray ty => Nat.beq len 2 && decide (Cond.arrayClass (newarray.typeOf ty) ∈ T)
    | .invokestatic i => Nat.beq len 3 && (match G.1[ra]? with
      | some mn => decide (T[rc]? = some (.methodLink md.1.2.1.cls i mn.1.2.1)) && decide (mn.1.1 = "static")
      | none => false)
    | .invokevirtual i => Nat.beq len 3 && (match G.1[ra]?, cl[rb]? with
      | some mn, some (c, _, _) => decide (T[rc]? = some (.methodLink md.1.2.1.cls i mn.1.2.1)) && decide (mn.1.1 = "virtual") && decide (mn.1.2.1.cls = c)
      | _, _ => false)
    | .invokespecial i => Nat.beq len 3 && (match rb with
      | 0 => match G.1[ra]? with
        | some mn => decide (mn.1.1 = "init") && decide (T[rc]? = some (.methodLink md.1.2.1.cls i mn.1.2.1))
        | none => false
      | 2 => match G.1[ra]? with
        | some mn => decide (mn.1.1 = "init") && (match zs.2[rc]? with
          | some (o, j, y, _) => decide (o = md.1.2.1.cls) && Nat.beq j i && decide (y = mn.1.2.1)
          | _ => false)
        | none => false
      | 1 => decide (T[rc]? = some (.methodLink md.1.2.1.cls i Lib.objectInit)) && decide (Cond.instanceMethod Lib.objectInit ∈ T) && decide (Cond.code Lib.objectInit ⟨#[0xb1]⟩ 1 none ∈ T)
      | _ => false)
    | .tableswitch d lo hi offs => Nat.beq offs.toList.length (hi - lo + 1).toNat && xi_tg pc d && offs.toList.all (xi_tg pc)
    | i => Nat.beq len (xi_len i))
/-- a method that is called: its words -/
def xi_okM (T : List Cond) (md : xiM) : Bool :=
  plainFor md.1.2.1 && decide (Cond.code md.1.2.1 md.1.2.2 md.2.1.1 md.2.1.2.1 ∈ T) && decide (Cond.initialized md.1.2.1.cls ∈ T) && decide (md.1.2.1.cls ≠ "java/lang/invoke/MethodHandle") && decide (md.1.2.1.cls ≠ "java/lang/invoke/VarHandle") && decide ((parseMethodDescriptor md.1.2.1.desc).map (fun d => d.parameters.length) = some md.2.1.2.2) &&
  (match decide (md.1.1 = "static") with
  | true => decide (Cond.static md.1.2.1 ∈ T)
  | false => match decide (md.1.1 = "virtual") with
    | true => decide (Cond.instanceMethod md.1.2.1 ∈ T) && decide (Cond.selects md.1.2.1.cls md.1.2.1 md.1.2.1 ∈ T)
    | false => decide (md.1.1 = "init") && decide (Cond.instanceMethod md.1.2.1 ∈ T) && decide (md.1.2.1.name = "<init>") && decide (md.2.1.2.1 = none))
def xi_okC (T : List Cond) (fk : List (List Nat)) (tf : Nat → Nat → FieldType) (ci : Nat) (q : vw_C) : Prop :=
  (∀ w ∈ u_ws q.1 q.2.1 q.2.2, w ∈ T) ∧ q.2.2 = (fk.getD ci []).length ∧ (∀ a, a < q.2.2 → ∀ b, b < q.2.2 → a ≠ b → (q.2.1 a).2.1 ≠ (q.2.1 b).2.1) ∧ (∀ k, k < q.2.2 → parseFieldDescriptor (q.2.1 k).2.2.1 = some (tf ci k)) ∧ (∀ k, k < q.2.2 → xi_kt ((fk.getD ci []).getD k 9) (tf ci k) = true)
def xi_good (T : List Cond) (cl : List vw_C) (zs : xiZ) (tf : Nat → Nat → FieldType) (G : xiG) : Prop :=
  (∀ w ∈ T, goodWord w = true) ∧ (∀ (ci : Nat) (q : vw_C), cl[ci]? = some q → xi_okC T G.2.1 tf ci q) ∧ ∀ (μ : Nat) (md : xiM), G.1[μ]? = some md → (md.1.1 ≠ "law" → xi_okM T md = true) ∧ ∀ q ∈ md.2.2.2, xi_okE T cl zs G md q = true
theorem xi_look_mem {pc : Nat} {q : Instr × Nat × (Nat × Nat × Nat)} : ∀ (l : List xiE), xi_look l pc = some q → (pc, q) ∈ l
  | [], h => by cases h
  | a :: t, h => by
    unfold xi_look at h
    split at h
    · rename_i e
      cases h
      rw [← Nat.eq_of_beq_eq_true e]
      exact List.mem_cons_self
    · exact List.mem_cons_of_mem _ (xi_look_mem t h)
theorem xi_b_of {b : Bool} {P : Prop} (h : xi_b b P) : b = true ∧ P := by
  cases b with
  | true => exact ⟨rfl, h⟩
  | false => exact h.elim
theorem xi_I2_of {K : Int32 → Int32 → List Value → Prop} {st : List Value} (h : xi_I2 K st) : ∃ x y t, st = .int y :: .int x :: t ∧ K x y t := by
  unfold xi_I2 at h
  split at h
  · exact ⟨_, _, _, rfl, h⟩
  · exact h.elim
theorem xi_I1_of {K : Int32 → List Value → Prop} {st : List Value} (h : xi_I1 K st) : ∃ x t, st = .int x :: t ∧ K x t := by
  unfold xi_I1 at h
  split at h
  · exact ⟨_, _, rfl, h⟩
  · exact h.elim
theorem xi_L2_of {K : Int64 → Int64 → List Value → Prop} {st : List Value} (h : xi_L2 K st) : ∃ x y t, st = .long y :: .long x :: t ∧ K x y t := by
  unfold xi_L2 at h
  split at h
  · exact ⟨_, _, _, rfl, h⟩
  · exact h.elim
theorem xi_L1_of {K : Int64 → List Value → Prop} {st : List Value} (h : xi_L1 K st) : ∃ x t, st = .long x :: t ∧ K x t := by
  unfold xi_L1 at h
  split at h
  · exact ⟨_, _, rfl, h⟩
  · exact h.elim
theorem xi_ld_of {K : Value → Prop} {ls : List (Option Value)} {i : Nat} (h : xi_ld K ls i) : ∃ v, ls[i]? = some (some v) ∧ K v := by
  unfold xi_ld at h
  split at h
  · rename_i v e
    exact ⟨v, e, h⟩
  · exact h.elim
/-- what a frame knows from its beginning on -/
def xi_C (T : List Cond) (cl : List vw_C) (G : xiG) (D : va_G) (p : Program) (s : State) (m : MethodId) (args : Array Value) (meth : Method) (c : Code) (R : Room) (md : xiM) (A : Nat → Prop) : Prop :=
  p.tables.exec = Jvm.exec ∧ c.code = md.1.2.2 ∧ c.maxLocals = md.2.1.1 ∧ s.vm.findClass md.1.2.1.cls = some m.cls ∧ (∀ w ∈ T, w.before args s = true) ∧ (∀ q, s.heap.size ≤ q → A q) ∧ (∀ (c : Nat) (q : vw_C), cl[c]? = some q → u_Kn s q.1 q.2.1 q.2.2 (D.1 c) (D.2 c)) ∧
  md.2.2.1.1 ≤ R.frames ∧ md.2.2.1.2.1 ≤ R.locals ∧ md.2.2.1.2.2.1 ≤ R.cells ∧ md.2.2.1.2.2.2 ≤ R.slots ∧ (md.1.1 = "init" → meth.name = "<init>")
/-- rows that are read alone, and the statics that hold them -/
def xi_O (zs : xiZ) (G : xiG) (A : Nat → Prop) (ad : Nat → Nat) (U : State) (H : Heap) : Prop :=
  (∀ (j : Nat) (q : Nat × (Nat → Int32)), G.2.2[j]? = some q → va_T .int (ad (xi_o + j)) q.1 (fun t => .int (q.2 t)) A U H) ∧ (∀ (j : Nat) (z : String × String × String), zs.1[j]? = some z → va_Z z.1 z.2.1 z.2.2 (.ref (ad (xi_o + (j + 1)))) A U H) ∧ ∀ q ∈ zs.2, va_Nw (.methodLinkNest q.1 q.2.1 q.2.2.1 q.2.2.2) U
/-- the classes of the arrays -/
def xi_T (ca : Nat → ClassId) (σ : xiS) (U : State) : Prop := ∀ (k : Nat) (d : Nat × Nat), σ.1[k]? = some d → (d.1 = 1 → ArrOfT U (ca k) .int ∧ va_RA U (ca k) .int) ∧ (d.1 = 2 → ArrOfT U (ca k) .long ∧ va_RA U (ca k) .long)
def xi_F (σ : xiS) : Prop := (∀ k j q, k < σ.1.length → σ.2.1 k j = q + 1 → q < σ.1.length) ∧ σ.1.length < xi_o
def xi_R (cl : List vw_C) (G : xiG) (D : va_G) (s : State) (A : Nat → Prop) (ad : Nat → Nat) (ca : Nat → ClassId) (σ : xiS) (H : Heap) (locs : List Loc) : Prop :=
  va_P D cl (xi_ws G.2.1 ad ca σ) H ∧ va_D A (xi_ws G.2.1 ad ca σ) ∧ va_S A s.heap H locs ∧ xi_T ca σ s ∧ xi_F σ
def xi_ret (md : xiM) (pc : Nat) (r : Option Value) : Prop := match r with
  | none => decode md.1.2.2 pc = .ok (.return_, 1) ∧ md.2.1.2.1 = none
  | some (.int v) => decode md.1.2.2 pc = .ok (.ireturn, 1) ∧ (md.2.1.2.1 = some .int ∨ (md.2.1.2.1 = some .boolean ∧ (v = 0 ∨ v = 1)))
  | some (.long _) => decode md.1.2.2 pc = .ok (.lreturn, 1) ∧ md.2.1.2.1 = some .long
  | _ => False
/-- the machine keeps it: from every heap that holds the state, if every end that keeps Q goes on, this goes on -/
def xi_OK (T : List Cond) (cl : List vw_C) (zs : xiZ) (l : Launch) (G : xiG) : xiX := fun μ pc ls st σ nc ns Q =>
  ∀ (md : xiM), G.1[μ]? = some md → ∀ (p : Program) (e : Env) (s : State) (m : MethodId) (args : Array Value) (below : List Frame) (meth : Method) (c : Code) (R : Room) (Z : State → Prop) (D : va_G) (A : Nat → Prop) (ad : Nat → Nat) (ca : Nat → ClassId) (H : Heap) (locs : List Loc) (lsA : Array Slot),
    xi_C T cl G D p s m args meth c R md A → xi_O zs G A ad s s.heap → xi_R cl G D s A ad ca σ H locs → lv_has lsA md.2.1.1 (xi_l ad ls) →
    (∀ (r : Option Value) (σ' : xiS) (ad' : Nat → Nat) (ca' : Nat → ClassId) (H' : Heap) (locs' : List Loc) (nc' ns' pc' : Nat) (lsA' : Array Slot), Q r σ' → xi_R cl G D s A ad' ca' σ' H' locs' → xi_A σ ad σ' ad' → nc' ≤ md.2.2.1.2.2.1 → ns' ≤ md.2.2.1.2.2.2 → xi_ret md pc' r →
      W p l e R s m args below meth c H' locs' nc' ns' Z (F0 m pc' lsA' (r.toList.map (xi_v ad')))) →
    W p l e R s m args below meth c H locs nc ns Z (F0 m pc lsA (st.map (xi_v ad)))
