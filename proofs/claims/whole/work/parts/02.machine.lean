/-! XI: an abstract machine over numbered cells. A state: the kinds of the cells ((0, class), (1, n) ints, (2, n) longs), what their reference slots hold (0 null, k + 1 cell k), their int slots, their long slots. -/
abbrev xiS : Type := List (Nat × Nat) × (Nat → Nat → Nat) × (Nat → Nat → Int32) × (Nat → Nat → Int64)
abbrev xiE : Type := Nat × Instr × Nat × (Nat × Nat × Nat)
abbrev xiM : Type := (String × MethodName × ByteArray) × (Nat × Option FieldType × Nat) × (Nat × Nat × Nat × Nat) × List xiE
abbrev xiQ : Type := Option Value → xiS → Prop
abbrev xiX : Type := Nat → Nat → List (Option Value) → List Value → xiS → Nat → Nat → xiQ → Prop
/-- what a program is: words, methods, kinds of fields of each class, outer rows that are only read -/
abbrev xiG : Type := List xiM × List (List Nat) × List (Nat × (Nat → Int32))
def xi_o : Nat := 1000000
def xi_u {α : Type} (I : Nat → Nat → α) (k j : Nat) (x : α) : Nat → Nat → α := fun a b => if a = k then (if b = j then x else I k b) else I a b
def xi_z {α : Type} (I : Nat → Nat → α) (k : Nat) (x : α) : Nat → Nat → α := fun a b => if a = k then x else I a b
def xi_look : List xiE → Nat → Option (Instr × Nat × (Nat × Nat × Nat))
  | [], _ => none
  | q :: t, pc => match Nat.beq q.1 pc with
    | true => some q.2
    | false => xi_look t pc
def xi_is2 : Option (Option Value) → Bool
  | some (some (.long _)) => true
  | some (some (.double _)) => true
  | _ => false
def xi_kill (ls : List (Option Value)) : Nat → List (Option Value)
  | 0 => ls
  | j + 1 => match xi_is2 ls[j]? with
    | true => ls.set j none
    | false => ls
def xi_s1 (ls : List (Option Value)) (i : Nat) (v : Value) : List (Option Value) := (xi_kill ls i).set i (some v)
def xi_s2 (ls : List (Option Value)) (i : Nat) (v : Value) : List (Option Value) := ((xi_kill ls i).set i (some v)).set (i + 1) none
def xi_fld (fk : List (List Nat)) (σ : xiS) (o ci j : Nat) : Value := match (fk.getD ci []).getD j 9 with
  | 0 => .int (σ.2.2.1 o j)
  | 1 => .int (σ.2.2.1 o j)
  | 2 => .long (σ.2.2.2 o j)
  | _ => match σ.2.1 o j with
    | 0 => .null
    | q + 1 => .ref q
def xi_ent1 : List Value → List (Option Value)
  | [] => []
  | .long x :: t => some (.long x) :: none :: xi_ent1 t
  | .double x :: t => some (.double x) :: none :: xi_ent1 t
  | v :: t => some v :: xi_ent1 t
def xi_ent (vs : List Value) (n : Nat) : List (Option Value) := xi_ent1 vs ++ List.replicate (n - (xi_ent1 vs).length) none
def xi_wf1 (n : Nat) : Value → Bool
  | .ref k => Nat.blt k n || Nat.ble xi_o k
  | _ => true
def xi_wfl (n : Nat) : List (Option Value) → Bool
  | [] => true
  | none :: t => xi_wfl n t
  | some v :: t => match xi_wf1 n v with
    | true => xi_wfl n t
    | false => false
def xi_wfs (n : Nat) : List Value → Bool
  | [] => true
  | v :: t => match xi_wf1 n v with
    | true => xi_wfs n t
    | false => false
def xi_w8 : List Value → Nat
  | [] => 0
  | v :: t => v.category + xi_w8 t
def xi_b (b : Bool) (P : Prop) : Prop := match b with
  | true => P
  | false => False
def xi_tgt (pc : Nat) (off : Int) : Nat := match off with
  | .ofNat k => pc + k
  | .negSucc k => pc - (k + 1)
def xi_sw (K : Nat → Prop) (pc : Nat) (x : Int32) : Int → List Int → Prop
  | _, [] => True
  | k, off :: t => (x.toInt = k → K (xi_tgt pc off)) ∧ xi_sw K pc x (k + 1) t
/-- a call of method ν with these arguments: what is left on the stack -/
def xi_call (G : xiG) (X : xiX) (md : xiM) (μ pc : Nat) (ls : List (Option Value)) (σ : xiS) (nc ns : Nat) (Q : xiQ) (ν : Nat) (mn : xiM) (vs rest : List Value) : Prop :=
  xi_b (Nat.ble (mn.2.2.1.1 + 1) md.2.2.1.1 && Nat.ble (8 + (mn.2.1.1 + 11) + mn.2.2.1.2.1) md.2.2.1.2.1 && Nat.ble (nc + mn.2.2.1.2.2.1) md.2.2.1.2.2.1 && Nat.ble (ns + mn.2.2.1.2.2.2) md.2.2.1.2.2.2 && Nat.ble (xi_w8 rest) 8 && Nat.ble (xi_ent1 vs).length mn.2.1.1 && xi_wfl σ.1.length ls && xi_wfs σ.1.length rest)
    (X ν 0 (xi_ent vs mn.2.1.1) [] σ 0 0 (fun r σ' => X μ (pc + 3) ls (r.toList ++ rest) σ' (nc + mn.2.2.1.2.2.1) (ns + mn.2.2.1.2.2.2) Q))
def xi_put (fk : List (List Nat)) (K : xiS → Prop) (σ : xiS) (o ci j : Nat) (v : Value) : Prop := match (fk.getD ci []).getD j 9, v with
  | 0, .int x => K (σ.1, σ.2.1, xi_u σ.2.2.1 o j x, σ.2.2.2)
  | 1, .int x => (x = 0 ∨ x = 1) ∧ K (σ.1, σ.2.1, xi_u σ.2.2.1 o j x, σ.2.2.2)
  | 2, .long x => K (σ.1, σ.2.1, σ.2.2.1, xi_u σ.2.2.2 o j x)
  | 3, .ref q => xi_b (Nat.blt q σ.1.length) (K (σ.1, xi_u σ.2.1 o j (q + 1), σ.2.2.1, σ.2.2.2))
  | _, _ => False
def xi_if (c : Jvm.ClassFile.Cond) (x y : Int32) (K1 K2 : Prop) : Prop := match c with
  | .eq => (x = y → K1) ∧ (¬ x = y → K2)
  | .ne => (¬ x = y → K1) ∧ (x = y → K2)
  | .lt => (x < y → K1) ∧ (¬ x < y → K2)
  | .ge => (y ≤ x → K1) ∧ (¬ y ≤ x → K2)
  | .gt => (y < x → K1) ∧ (¬ y < x → K2)
  | .le => (x ≤ y → K1) ∧ (¬ x ≤ y → K2)
def xi_ld (K : Value → Prop) (ls : List (Option Value)) (i : Nat) : Prop := match ls[i]? with
  | some (some v) => K v
  | _ => False
def xi_I2 (K : Int32 → Int32 → List Value → Prop) (st : List Value) : Prop := match st with
  | .int y :: .int x :: t => K x y t
  | _ => False
def xi_I1 (K : Int32 → List Value → Prop) (st : List Value) : Prop := match st with
  | .int x :: t => K x t
  | _ => False
def xi_L2 (K : Int64 → Int64 → List Value → Prop) (st : List Value) : Prop := match st with
  | .long y :: .long x :: t => K x y t
  | _ => False
def xi_L1 (K : Int64 → List Value → Prop) (st : List Value) : Prop := match st with
  | .long x :: t => K x t
  | _ => False
/-- one instruction -/
def xi_step (G : xiG) (X : xiX) (μ pc : Nat) (ls : List (Option Value)) (st : List Value) (σ : xiS) (nc ns : Nat) (Q : xiQ) : Prop :=
  match G.1[μ]? with
  | none => False
  | some md => match xi_look md.2.2.2 pc with
    | none => False
    | some (ins, _, ra, rb, _) => match ins with
      | .iconst n => X μ (pc + 1) ls (.int (Int32.ofInt n) :: st) σ nc ns Q
      | .bipush n => X μ (pc + 2) ls (.int (Int8.ofInt n).toInt32 :: st) σ nc ns Q
      | .sipush n => X μ (pc + 3) ls (.int (Int16.ofInt n).toInt32 :: st) σ nc ns Q
      | .lconst n => X μ (pc + 1) ls (.long (Int64.ofNat (n : Nat)) :: st) σ nc ns Q
      | .ldc _ => X μ (pc + 2) ls (.int (Int32.ofNat ra) :: st) σ nc ns Q
      | .ldc_w _ => X μ (pc + 3) ls (.int (Int32.ofNat ra) :: st) σ nc ns Q
      | .ldc2_w _ => X μ (pc + 3) ls (.long (Int64.ofNat ra) :: st) σ nc ns Q
      | .iload_n k => xi_ld (fun v => match v with | .int x => X μ (pc + 1) ls (.int x :: st) σ nc ns Q | _ => False) ls (k : Nat)
      | .iload k => xi_ld (fun v => match v with | .int x => X μ (pc + 2) ls (.int x :: st) σ nc ns Q | _ => False) ls k
      | .lload_n k => xi_ld (fun v => match v with | .long x => X μ (pc + 1) ls (.long x :: st) σ nc ns Q | _ => False) ls (k : Nat)
      | .lload k => xi_ld (fun v => match v with | .long x => X μ (pc + 2) ls (.long x :: st) σ nc ns Q | _ => False) ls k
      | .aload_n k => xi_ld (fun v => match v with | .ref x => X μ (pc + 1) ls (.ref x :: st) σ nc ns Q | _ => False) ls (k : Nat)
      | .aload k => xi_ld (fun v => match v with | .ref x => X μ (pc + 2) ls (.ref x :: st) σ nc ns Q | _ => False) ls k
      | .istore_n k => xi_I1 (fun x t => xi_b (Nat.blt (k : Nat) md.2.1.1) (X μ (pc + 1) (xi_s1 ls (k : Nat) (.int x)) t σ nc ns Q)) st
      | .istore k => xi_I1 (fun x t => xi_b (Nat.blt k md.2.1.1) (X μ (pc + 2) (xi_s1 ls k (.int x)) t σ nc ns Q)) st
      | .lstore_n k => xi_L1 (fun x t => xi_b (Nat.blt ((k : Nat) + 1) md.2.1.1) (X μ (pc + 1) (xi_s2 ls (k : Nat) (.long x)) t σ nc ns Q)) st
      | .lstore k => xi_L1 (fun x t => xi_b (Nat.blt (k + 1) md.2.1.1) (X μ (pc + 2) (xi_s2 ls k (.long x)) t σ nc ns Q)) st
      | .astore_n k => match st with
        | .ref x :: t => xi_b (Nat.blt (k : Nat) md.2.1.1) (X μ (pc + 1) (xi_s1 ls (k : Nat) (.ref x)) t σ nc ns Q)
        | _ => False
      | .iinc k n => xi_ld (fun v => match v with | .int x => xi_b (Nat.blt k md.2.1.1) (X μ (pc + 3) (xi_s1 ls k (.int (x + Int32.ofInt n))) st σ nc ns Q) | _ => False) ls k
      | .iadd => xi_I2 (fun x y t => X μ (pc + 1) ls (.int (x + y) :: t) σ nc ns Q) st
      | .isub => xi_I2 (fun x y t => X μ (pc + 1) ls (.int (x - y) :: t) σ nc ns Q) st
      | .imul => xi_I2 (fun x y t => X μ (pc + 1) ls (.int (x * y) :: t) σ nc ns Q) st
      | .iand => xi_I2 (fun x y t => X μ (pc + 1) ls (.int (x &&& y) :: t) σ nc ns Q) st
      | .ior => xi_I2 (fun x y t => X μ (pc + 1) ls (.int (x ||| y) :: t) σ nc ns Q) st
      | .ixor => xi_I2 (fun x y t => X μ (pc + 1) ls (.int (x ^^^ y) :: t) σ nc ns Q) st
      | .irem => xi_I2 (fun x y t => ¬ y = 0 ∧ X μ (pc + 1) ls (.int (x - x / y * y) :: t) σ nc ns Q) st
      | .ishl => xi_I2 (fun x y t => X μ (pc + 1) ls (.int (x <<< (y &&& 31)) :: t) σ nc ns Q) st
      | .ishr => xi_I2 (fun x y t => X μ (pc + 1) ls (.int (x >>> (y &&& 31)) :: t) σ nc ns Q) st
      | .iushr => xi_I2 (fun x y t => X μ (pc + 1) ls (.int (x.toUInt32 >>> (y.toUInt32 &&& Int32.toUInt32 31)).toInt32 :: t) σ nc ns Q) st
      | .ineg => xi_I1 (fun x t => X μ (pc + 1) ls (.int (-x) :: t) σ nc ns Q) st
      | .i2l => xi_I1 (fun x t => X μ (pc + 1) ls (.long x.toInt64 :: t) σ nc ns Q) st
      | .i2b => xi_I1 (fun x t => X μ (pc + 1) ls (.int x.toInt8.toInt32 :: t) σ nc ns Q) st
      | .i2s => xi_I1 (fun x t => X μ (pc + 1) ls (.int x.toInt16.toInt32 :: t) σ nc ns Q) st
      | .l2i => xi_L1 (fun x t => X μ (pc + 1) ls (.int x.toInt32 :: t) σ nc ns Q) st
      | .lneg => xi_L1 (fun x t => X μ (pc + 1) ls (.long (-x) :: t) σ nc ns Q) st
      | .ladd => xi_L2 (fun x y t => X μ (pc + 1) ls (.long (x + y) :: t) σ nc ns Q) st
      | .lsub => xi_L2 (fun x y t => X μ (pc + 1) ls (.long (x - y) :: t) σ nc ns Q) st
      | .lmul => xi_L2 (fun x y t => X μ (pc + 1) ls (.long (x * y) :: t) σ nc ns Q) st
      | .land => xi_L2 (fun x y t => X μ (pc + 1) ls (.long (x &&& y) :: t) σ nc ns Q) st
      | .lor => xi_L2 (fun x y t => X μ (pc + 1) ls (.long (x ||| y) :: t) σ nc ns Q) st
      | .lxor => xi_L2 (fun x y t => X μ (pc + 1) ls (.long (x ^^^ y) :: t) σ nc ns Q) st
      | .ldiv => xi_L2 (fun x y t => ¬ y = 0 ∧ X μ (pc + 1) ls (.long (x / y) :: t) σ nc ns Q) st
      | .lrem => xi_L2 (fun x y t => ¬ y = 0 ∧ X μ (pc + 1) ls (.long (x - x / y * y) :: t) σ nc ns Q) st
      | .lcmp => xi_L2 (fun x y t => X μ (pc + 1) ls (.int (lg_cmp x y) :: t) σ nc ns Q) st
      | .lshl => match st with
        | .int y :: .long x :: t => X μ (pc + 1) ls (.long (x <<< (y.toInt64 &&& 63)) :: t) σ nc ns Q
        | _ => False
      | .dup => match st with
        | v :: t => xi_b (Nat.beq v.category 1) (X μ (pc + 1) ls (v :: v :: t) σ nc ns Q)
        | _ => False
      | .dup2 => match st with
        | va :: vb :: t => xi_b (Nat.beq va.category 1 && Nat.beq vb.category 1) (X μ (pc + 1) ls (va :: vb :: va :: vb :: t) σ nc ns Q)
        | _ => False
      | .pop2 => match st with
        | va :: t => xi_b (Nat.beq va.category 2) (X μ (pc + 1) ls t σ nc ns Q)
        | _ => False
      | .ifCond c off => xi_I1 (fun x t => xi_if c x 0 (X μ (xi_tgt pc off) ls t σ nc ns Q) (X μ (pc + 3) ls t σ nc ns Q)) st
      | .if_icmp c off => xi_I2 (fun x y t => xi_if c x y (X μ (xi_tgt pc off) ls t σ nc ns Q) (X μ (pc + 3) ls t σ nc ns Q)) st
      | .goto off => X μ (xi_tgt pc off) ls st σ nc ns Q
      | .tableswitch d lo hi offs => xi_I1 (fun x t => ((x.toInt < lo ∨ hi < x.toInt) → X μ (xi_tgt pc d) ls t σ nc ns Q) ∧ xi_sw (fun g => X μ g ls t σ nc ns Q) pc x lo offs.toList) st
      | .getfield _ => match st with
        | .ref o :: t => match σ.1[o]? with
          | some (0, ci) => xi_b (Nat.beq ci ra) (X μ (pc + 3) ls (xi_fld G.2.1 σ o ra rb :: t) σ nc ns Q)
          | _ => False
        | _ => False
      | .putfield _ => match st with
        | v :: .ref o :: t => match σ.1[o]? with
          | some (0, ci) => xi_b (Nat.beq ci ra) (xi_put G.2.1 (fun σ' => X μ (pc + 3) ls t σ' nc ns Q) σ o ra rb v)
          | _ => False
        | _ => False
      | .getstatic _ => X μ (pc + 3) ls (.ref (xi_o + ra) :: st) σ nc ns Q
      | .iaload => match st with
        | .int j :: .ref a :: t => match σ.1[a]? with
          | some (1, n) => vp_in j n ∧ X μ (pc + 1) ls (.int (σ.2.2.1 a j.toNatClampNeg) :: t) σ nc ns Q
          | none => xi_b (Nat.ble xi_o a) (match G.2.2[a - xi_o]? with
            | some (n, f) => vp_in j n ∧ X μ (pc + 1) ls (.int (f j.toNatClampNeg) :: t) σ nc ns Q
            | none => False)
          | _ => False
        | _ => False
      | .laload => match st with
        | .int j :: .ref a :: t => match σ.1[a]? with
          | some (2, n) => vp_in j n ∧ X μ (pc + 1) ls (.long (σ.2.2.2 a j.toNatClampNeg) :: t) σ nc ns Q
          | _ => False
        | _ => False
      | .iastore => match st with
        | .int x :: .int j :: .ref a :: t => match σ.1[a]? with
          | some (1, n) => vp_in j n ∧ X μ (pc + 1) ls t (σ.1, σ.2.1, xi_u σ.2.2.1 a j.toNatClampNeg x, σ.2.2.2) nc ns Q
          | _ => False
        | _ => False
      | .lastore => match st with
        | .long x :: .int j :: .ref a :: t => match σ.1[a]? with
          | some (2, n) => vp_in j n ∧ X μ (pc + 1) ls t (σ.1, σ.2.1, σ.2.2.1, xi_u σ.2.2.2 a j.toNatClampNeg x) nc ns Q
          | _ => False
        | _ => False
      | .arraylength => match st with
        | .ref a :: t => match σ.1[a]? with
          | some (1, n) => X μ (pc + 1) ls (.int (Int32.ofNat n) :: t) σ nc ns Q
          | some (2, n) => X μ (pc + 1) ls (.int (Int32.ofNat n) :: t) σ nc ns Q
          | none => xi_b (Nat.ble xi_o a) (match G.2.2[a - xi_o]? with
            | some (n, _) => X μ (pc + 1) ls (.int (Int32.ofNat n) :: t) σ nc ns Q
            | none => False)
          | _ => False
        | _ => False
      | .newarray ty => match st with
        | .int n :: t => xi_b (Nat.ble (nc + 1) md.2.2.1.2.2.1 && Nat.ble (ns + n.toNatClampNeg) md.2.2.1.2.2.2 && Nat.ble n.toNatClampNeg 65536 && Nat.blt (σ.1.length + 1) xi_o && xi_wfl σ.1.length ls && xi_wfs σ.1.length t) (¬ n < 0 ∧ (match ty with
          | .int => X μ (pc + 2) ls (.ref σ.1.length :: t) (σ.1 ++ [(1, n.toNatClampNeg)], xi_z σ.2.1 σ.1.length 0, xi_z σ.2.2.1 σ.1.length 0, xi_z σ.2.2.2 σ.1.length 0) (nc + 1) (ns + n.toNatClampNeg) Q
          | .long => X μ (pc + 2) ls (.ref σ.1.length :: t) (σ.1 ++ [(2, n.toNatClampNeg)], xi_z σ.2.1 σ.1.length 0, xi_z σ.2.2.1 σ.1.length 0, xi_z σ.2.2.2 σ.1.length 0) (nc + 1) (ns + n.toNatClampNeg) Q
          | _ => False))
        | _ => False
      | .new _ => xi_b (Nat.ble (nc + 1) md.2.2.1.2.2.1 && Nat.ble (ns + (G.2.1.getD ra []).length) md.2.2.1.2.2.2 && Nat.blt (σ.1.length + 1) xi_o && xi_wfl σ.1.length ls && xi_wfs σ.1.length st)
          (X μ (pc + 3) ls (.ref σ.1.length :: st) (σ.1 ++ [(0, ra)], xi_z σ.2.1 σ.1.length 0, xi_z σ.2.2.1 σ.1.length 0, xi_z σ.2.2.2 σ.1.length 0) (nc + 1) (ns + (G.2.1.getD ra []).length) Q)
      | .invokestatic _ => match G.1[ra]? with
        | some mn => xi_b (Nat.ble mn.2.1.2.2 st.length) (xi_call G X md μ pc ls σ nc ns Q ra mn (st.take mn.2.1.2.2).reverse (st.drop mn.2.1.2.2))
        | none => False
      | .invokevirtual _ => match G.1[ra]? with
        | some mn => match st.drop mn.2.1.2.2 with
          | .ref o :: t => match σ.1[o]? with
            | some (0, ci) => xi_b (Nat.beq ci rb) (xi_call G X md μ pc ls σ nc ns Q ra mn (.ref o :: (st.take mn.2.1.2.2).reverse) t)
            | _ => False
          | _ => False
        | none => False
      | .invokespecial _ => match rb with
        | 1 => match st with
          | .ref _ :: t => xi_b (Nat.ble 1 md.2.2.1.1 && Nat.ble (xi_w8 t + 12) md.2.2.1.2.1) (X μ (pc + 3) ls t σ nc ns Q)
          | _ => False
        | _ => match G.1[ra]? with
          | some mn => match st.drop mn.2.1.2.2 with
            | .ref o :: t => xi_call G X md μ pc ls σ nc ns Q ra mn (.ref o :: (st.take mn.2.1.2.2).reverse) t
            | _ => False
          | none => False
      | .ireturn => match st with
        | [.int v] => xi_b (Nat.ble nc md.2.2.1.2.2.1 && Nat.ble ns md.2.2.1.2.2.2) (match md.2.1.2.1 with
          | some .int => Q (some (.int v)) σ
          | some .boolean => (v = 0 ∨ v = 1) ∧ Q (some (.int v)) σ
          | _ => False)
        | _ => False
      | .lreturn => match st with
        | [.long v] => xi_b (Nat.ble nc md.2.2.1.2.2.1 && Nat.ble ns md.2.2.1.2.2.2) (match md.2.1.2.1 with
          | some .long => Q (some (.long v)) σ
          | _ => False)
        | _ => False
      | .return_ => match st with
        | [] => xi_b (Nat.ble nc md.2.2.1.2.2.1 && Nat.ble ns md.2.2.1.2.2.2) (match md.2.1.2.1 with
          | none => Q none σ
          | _ => False)
        | _ => False
      | _ => False
/-- fewer locals known -/
def xi_fg : List Nat → List (Option Value) → List (Option Value)
  | [], ls => ls
  | i :: t, ls => xi_fg t (ls.set i none)
/-- what the abstract machine promises: the least that every step keeps -/
def xi_cl (G : xiG) (X : xiX) : Prop := ∀ X' : xiX, (∀ μ pc ls st σ nc ns Q, X' μ pc ls st σ nc ns Q → X μ pc ls st σ nc ns Q) → ∀ μ pc ls st σ nc ns Q, (xi_step G X' μ pc ls st σ nc ns Q ∨ ∃ is : List Nat, X' μ pc (xi_fg is ls) st σ nc ns Q) → X μ pc ls st σ nc ns Q
def xi_V (G : xiG) : xiX := fun μ pc ls st σ nc ns Q => ∀ X : xiX, xi_cl G X → X μ pc ls st σ nc ns Q
def xi_stop : List (Nat × List Nat) → Nat → Option (List Nat)
  | [], _ => none
  | q :: t, pc => match Nat.beq q.1 pc with
    | true => some q.2
    | false => xi_stop t pc
/-- n steps of method M, but for the places where it stops -/
def xi_run (G : xiG) (M : Nat) (stops : List (Nat × List Nat)) : Nat → xiX
  | 0 => xi_V G
  | n + 1 => fun μ pc ls st σ nc ns Q => match Nat.beq μ M with
    | true => match xi_stop stops pc with
      | some is => xi_V G μ pc (xi_fg is ls) st σ nc ns Q
      | none => xi_step G (xi_run G M stops n) μ pc ls st σ nc ns Q
    | false => xi_V G μ pc ls st σ nc ns Q
theorem xi_V_step {G : xiG} {X' : xiX} (hX' : ∀ μ pc ls st σ nc ns Q, X' μ pc ls st σ nc ns Q → xi_V G μ pc ls st σ nc ns Q) {μ pc : Nat} {ls : List (Option Value)} {st : List Value} {σ : xiS} {nc ns : Nat} {Q : xiQ} (h : xi_step G X' μ pc ls st σ nc ns Q) : xi_V G μ pc ls st σ nc ns Q := by
  intro X hX
  exact hX X' (fun μ pc ls st σ nc ns Q h => hX' μ pc ls st σ nc ns Q h X hX) μ pc ls st σ nc ns Q (Or.inl h)
theorem xi_V_fg {G : xiG} (is : List Nat) {μ pc : Nat} {ls : List (Option Value)} {st : List Value} {σ : xiS} {nc ns : Nat} {Q : xiQ} (h : xi_V G μ pc (xi_fg is ls) st σ nc ns Q) : xi_V G μ pc ls st σ nc ns Q := by
  intro X hX
  exact hX (xi_V G) (fun μ pc ls st σ nc ns Q h => h X hX) μ pc ls st σ nc ns Q (Or.inr ⟨is, h⟩)
theorem xi_run_V {G : xiG} {M : Nat} {stops : List (Nat × List Nat)} : ∀ (n μ pc : Nat) (ls : List (Option Value)) (st : List Value) (σ : xiS) (nc ns : Nat) (Q : xiQ), xi_run G M stops n μ pc ls st σ nc ns Q → xi_V G μ pc ls st σ nc ns Q
  | 0, _, _, _, _, _, _, _, _, h => h
  | n + 1, μ, pc, ls, st, σ, nc, ns, Q, h => by
    unfold xi_run at h
    split at h
    · split at h
      · exact xi_V_fg _ h
      · exact xi_V_step (xi_run_V n) h
    · exact h
theorem xi_go {G : xiG} (M : Nat) (stops : List (Nat × List Nat)) (n : Nat) {pc : Nat} {ls : List (Option Value)} {st : List Value} {σ : xiS} {nc ns : Nat} {Q : xiQ} (h : xi_step G (xi_run G M stops n) M pc ls st σ nc ns Q) : xi_V G M pc ls st σ nc ns Q := xi_V_step (xi_run_V n) h
