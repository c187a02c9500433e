/-! the abstract machine: a store of ints, frames over it, what a walk of a method must show -/
abbrev St : Type := (Nat → Nat → Int32) × Int64
abbrev Ent : Type := Nat × Instr × Nat × Nat × Nat × List (Int32 × Nat) × Value × List Nat
def lay (q : Nat) : Lay := layL.getD q (9, 0, [])
def alen (q : Nat) : Nat := match lay q with
  | (1, n, _) => n
  | _ => 0
def zlen (q : Nat) : Nat := match lay q with
  | (2, n, _) => n
  | _ => 0
def blen (q : Nat) : Nat := if 200 ≤ q then slen.getD (q - 200) 0 else 0
def sby (q j : Nat) : Int32 := (sbyt.getD (q - 200) []).getD j 0
def tlen (q : Nat) : Nat := if 200 ≤ q then slen.getD (q - 200) 0 else (lay q).2.1
def isArr (q : Nat) : Bool := (200 ≤ q && q < 209) || (q < 68 && (lay q).1 == 1)
def sput (σ : St) (q k : Nat) (v : Int32) : St := (fun a b => if a = q ∧ b = k then v else σ.1 a b, σ.2)
def scpy (σ : St) (src sp dst dp n : Nat) : St := (fun a b => if a = dst ∧ dp ≤ b ∧ b < dp + n then σ.1 src (sp + (b - dp)) else σ.1 a b, σ.2)
def fkind (q ci k : Nat) : Option Nat := match lay q with
  | (0, c, fl) => cond (c == ci) fl[k]? none
  | _ => none
def isObj (q ci : Nat) : Bool := match lay q with
  | (0, c, _) => c == ci && ci < 12
  | _ => false
def pI (Q : Int32 → St → Prop) : Option Value → St → Prop := fun r σ => match r with
  | some (.int x) => Q x σ
  | _ => False
def pV (Q : St → Prop) : Option Value → St → Prop := fun r σ => match r with
  | none => Q σ
  | _ => False
def pR (Q : Nat → St → Prop) : Option Value → St → Prop := fun r σ => match r with
  | some (.ref q) => Q q σ
  | _ => False
def br (c : Jvm.ClassFile.Cond) (x y : Int32) (T F : Prop) : Prop := match c with
  | .eq => (x = y → T) ∧ (¬ x = y → F)
  | .ne => (x = y → F) ∧ (¬ x = y → T)
  | .lt => (x < y → T) ∧ (¬ x < y → F)
  | .ge => (x < y → F) ∧ (¬ x < y → T)
  | .gt => (y < x → T) ∧ (¬ y < x → F)
  | .le => (y < x → F) ∧ (¬ y < x → T)
noncomputable def sw (x : Int32) (go : Nat → Prop) (dflt : Prop) (ts : List (Int32 × Nat)) : Prop :=
  List.rec (motive := fun _ => Prop) dflt (fun t _ ih => (x = t.1 → go t.2) ∧ (¬ x = t.1 → ih)) ts
def okst (ls : List Value) (a : Nat) : Bool := Nat.blt a ls.length && (a == 0 || match ls[a - 1]? with
  | some (.long _) => false
  | some (.double _) => false
  | _ => true)
def okroom (st : List Value) : Bool := Nat.ble ((st.map fun v => v.category).sum) 8
def callP (KD : Nat → List Value → St → (Option Value → St → Prop) → Prop) (go : List Value → St → Prop) (a : Nat) (v : Value) (av rest : List Value) (σ : St) : Prop :=
  cond (okroom rest) (match v with
    | .int _ => KD a av σ (pI fun x σ' => go (.int x :: rest) σ')
    | .null => KD a av σ (pV fun σ' => go rest σ')
    | .ref _ => KD a av σ (pR fun q σ' => go (.ref q :: rest) σ')
    | _ => False) False
def rcv (cn q : Nat) (P : Prop) : Prop := cond (cn == 20) ((100 ≤ q ∧ q < 109) ∧ P) (cond (isObj q cn) P False)
def instP (KD : Nat → List Value → St → (Option Value → St → Prop) → Prop) (KR : Option Value → St → Prop) (rt : FieldType) (go : Nat → List Value → List Value → St → Prop) (ins : Instr) (nx a b : Nat) (ts : List (Int32 × Nat)) (v : Value) (ls st : List Value) (σ : St) : Prop :=
  match ins with
  | .iconst _ => go nx ls (v :: st) σ
  | .bipush _ => go nx ls (v :: st) σ
  | .sipush _ => go nx ls (v :: st) σ
  | .lconst _ => go nx ls (v :: st) σ
  | .ldc _ => go nx ls (v :: st) σ
  | .ldc_w _ => go nx ls (v :: st) σ
  | .ldc2_w _ => go nx ls (v :: st) σ
  | .getstatic _ => go nx ls (v :: st) σ
  | .iload _ => match ls[a]? with
    | some (.int x) => go nx ls (.int x :: st) σ
    | _ => False
  | .iload_n _ => match ls[a]? with
    | some (.int x) => go nx ls (.int x :: st) σ
    | _ => False
  | .aload _ => match ls[a]? with
    | some (.ref x) => go nx ls (.ref x :: st) σ
    | _ => False
  | .aload_n _ => match ls[a]? with
    | some (.ref x) => go nx ls (.ref x :: st) σ
    | _ => False
  | .lload_n _ => match ls[a]? with
    | some (.long x) => go nx ls (.long x :: st) σ
    | _ => False
  | .istore _ => match st with
    | .int x :: r => cond (okst ls a) (go nx (ls.set a (.int x)) r σ) False
    | _ => False
  | .istore_n _ => match st with
    | .int x :: r => cond (okst ls a) (go nx (ls.set a (.int x)) r σ) False
    | _ => False
  | .iinc _ _ => match ls[a]? with
    | some (.int x) => (match v with
      | .int c => cond (okst ls a) (go nx (ls.set a (.int (x + c))) st σ) False
      | _ => False)
    | _ => False
  | .iadd => match st with
    | .int y :: .int x :: r => go nx ls (.int (x + y) :: r) σ
    | _ => False
  | .isub => match st with
    | .int y :: .int x :: r => go nx ls (.int (x - y) :: r) σ
    | _ => False
  | .imul => match st with
    | .int y :: .int x :: r => go nx ls (.int (x * y) :: r) σ
    | _ => False
  | .idiv => match st with
    | .int y :: .int x :: r => (¬ y = 0) ∧ go nx ls (.int (x / y) :: r) σ
    | _ => False
  | .irem => match st with
    | .int y :: .int x :: r => (¬ y = 0) ∧ go nx ls (.int (x - x / y * y) :: r) σ
    | _ => False
  | .iand => match st with
    | .int y :: .int x :: r => go nx ls (.int (x &&& y) :: r) σ
    | _ => False
  | .ior => match st with
    | .int y :: .int x :: r => go nx ls (.int (x ||| y) :: r) σ
    | _ => False
  | .ixor => match st with
    | .int y :: .int x :: r => go nx ls (.int (x ^^^ y) :: r) σ
    | _ => False
  | .ishl => match st with
    | .int y :: .int x :: r => go nx ls (.int (x <<< (y &&& 31)) :: r) σ
    | _ => False
  | .ishr => match st with
    | .int y :: .int x :: r => go nx ls (.int (x >>> (y &&& 31)) :: r) σ
    | _ => False
  | .iushr => match st with
    | .int y :: .int x :: r => go nx ls (.int (x.toUInt32 >>> (y.toUInt32 &&& Int32.toUInt32 31)).toInt32 :: r) σ
    | _ => False
  | .i2c => match st with
    | .int x :: r => go nx ls (.int (x.toUInt32 % 65536).toInt32 :: r) σ
    | _ => False
  | .i2l => match st with
    | .int x :: r => go nx ls (.long x.toInt64 :: r) σ
    | _ => False
  | .l2i => match st with
    | .long x :: r => go nx ls (.int x.toInt32 :: r) σ
    | _ => False
  | .ladd => match st with
    | .long y :: .long x :: r => go nx ls (.long (x + y) :: r) σ
    | _ => False
  | .lsub => match st with
    | .long y :: .long x :: r => go nx ls (.long (x - y) :: r) σ
    | _ => False
  | .lmul => match st with
    | .long y :: .long x :: r => go nx ls (.long (x * y) :: r) σ
    | _ => False
  | .land => match st with
    | .long y :: .long x :: r => go nx ls (.long (x &&& y) :: r) σ
    | _ => False
  | .lshr => match st with
    | .int y :: .long x :: r => go nx ls (.long (x >>> (y.toInt64 &&& 63)) :: r) σ
    | _ => False
  | .lcmp => match st with
    | .long y :: .long x :: r => go nx ls (.int (lg_cmp x y) :: r) σ
    | _ => False
  | .dup => match st with
    | .ref x :: r => go nx ls (.ref x :: .ref x :: r) σ
    | .int x :: r => go nx ls (.int x :: .int x :: r) σ
    | _ => False
  | .pop => match st with
    | .int _ :: r => go nx ls r σ
    | _ => False
  | .dup2 => match st with
    | .int y :: .ref x :: r => go nx ls (.int y :: .ref x :: .int y :: .ref x :: r) σ
    | _ => False
  | .getfield _ => match st with
    | .ref q :: r => cond (a == 20) ((100 ≤ q ∧ q < 109) ∧ cond (b == 0) (go nx ls (.ref (q + 100) :: r) σ) (go nx ls (.int 0 :: r) σ)) (match fkind q a b with
      | some 0 => go nx ls (.int (σ.1 q b) :: r) σ
      | some 1 => go nx ls (.long σ.2 :: r) σ
      | some (t + 2) => go nx ls (.ref t :: r) σ
      | none => False)
    | _ => False
  | .putfield _ => match st with
    | .int x :: .ref q :: r => (match fkind q a b with
      | some 0 => go nx ls r (sput σ q b x)
      | _ => False)
    | .long x :: .ref q :: r => (match fkind q a b with
      | some 1 => go nx ls r (σ.1, x)
      | _ => False)
    | _ => False
  | .iaload => match st with
    | .int i :: .ref q :: r => vp_in i (alen q) ∧ go nx ls (.int (σ.1 q i.toNatClampNeg) :: r) σ
    | _ => False
  | .iastore => match st with
    | .int x :: .int i :: .ref q :: r => vp_in i (alen q) ∧ go nx ls r (sput σ q i.toNatClampNeg x)
    | _ => False
  | .baload => match st with
    | .int i :: .ref q :: r => cond (a == 1) (vp_in i (blen q) ∧ go nx ls (.int (sby q i.toNatClampNeg) :: r) σ) (vp_in i (zlen q) ∧ go nx ls (.int (σ.1 q i.toNatClampNeg) :: r) σ)
    | _ => False
  | .bastore => match st with
    | .int x :: .int i :: .ref q :: r => vp_in i (zlen q) ∧ vp_nar .boolean x = x ∧ go nx ls r (sput σ q i.toNatClampNeg x)
    | _ => False
  | .aaload => match st with
    | .int i :: .ref q :: r => (match lay q with
      | (3, n, fl) => vp_in i n ∧ go nx ls (.ref (fl.headD 0 + i.toNatClampNeg) :: r) σ
      | _ => False)
    | _ => False
  | .arraylength => match st with
    | .ref q :: r => isArr q = true ∧ go nx ls (.int (nI (tlen q)) :: r) σ
    | _ => False
  | .ifCond c _ => match st with
    | .int x :: r => br c x 0 (go a ls r σ) (go nx ls r σ)
    | _ => False
  | .if_icmp c _ => match st with
    | .int y :: .int x :: r => br c x y (go a ls r σ) (go nx ls r σ)
    | _ => False
  | .goto _ => go a ls st σ
  | .tableswitch _ _ _ _ => match st with
    | .int x :: r => sw x (fun t => go t ls r σ) (go a ls r σ) ts
    | _ => False
  | .invokevirtual _ => match st.drop b with
    | .ref q :: r => rcv (ts.headD (0, 99)).2 q (callP KD (fun st' σ' => go nx ls st' σ') a v (.ref q :: (st.take b).reverse) r σ)
    | _ => False
  | .invokestatic _ => cond (a == 999) (match st with
      | .int n :: .int dp :: .ref dq :: .int sp :: .ref sq :: r => (0 < alen sq ∧ 0 < alen dq ∧ ¬ sp < 0 ∧ ¬ dp < 0 ∧ ¬ n < 0 ∧ sp.toNatClampNeg + n.toNatClampNeg ≤ alen sq ∧ dp.toNatClampNeg + n.toNatClampNeg ≤ alen dq) ∧ cond (okroom r) (go nx ls r (scpy σ sq sp.toNatClampNeg dq dp.toNatClampNeg n.toNatClampNeg)) False
      | _ => False) (cond (a == 998) (match st with
      | .int y :: .int x :: r => cond (okroom r) (go nx ls (.int (if y < x then y else x) :: r) σ) False
      | _ => False) (cond (a == 997) (match st with
      | .int y :: .int x :: r => cond (okroom r) (go nx ls (.int (if x < y then y else x) :: r) σ) False
      | _ => False) (cond (Nat.ble b st.length) (callP KD (fun st' σ' => go nx ls st' σ') a v (st.take b).reverse (st.drop b) σ) False)))
  | .ireturn => match st with
    | [.int x] => (match rt with
      | .int => KR (some (.int x)) σ
      | _ => narrow rt (.int x) = .int x ∧ KR (some (.int x)) σ)
    | _ => False
  | .areturn => match st with
    | [.ref q] => KR (some (.ref q)) σ
    | _ => False
  | .return_ => match st with
    | [] => KR none σ
    | _ => False
  | _ => False
def stepP (KD : Nat → List Value → St → (Option Value → St → Prop) → Prop) (KR : Option Value → St → Prop) (rt : FieldType) (tbl : List Ent) (go : Nat → List Value → List Value → St → Prop) (pc : Nat) (ls st : List Value) (σ : St) : Prop :=
  match tbl.find? (fun e => e.1 == pc) with
  | some (_, ins, nx, a, b, ts, v, _) => instP KD KR rt go ins nx a b ts v ls st σ
  | none => False
noncomputable def wp (KA : Nat → List Value → List Value → St → Prop) (KD : Nat → List Value → St → (Option Value → St → Prop) → Prop) (KR : Option Value → St → Prop) (rt : FieldType) (stops : List Nat) (tbl : List Ent) (n : Nat) : Nat → List Value → List Value → St → Prop :=
  Nat.rec (motive := fun _ => Nat → List Value → List Value → St → Prop) KA (fun _ ih => stepP KD KR rt tbl (fun pc ls st σ => cond (stops.contains pc) (KA pc ls st σ) (ih pc ls st σ))) n
/-! ===== what the tables must hold ===== -/
def ilen : Instr → Nat
  | .iload _ => 2
  | .aload _ => 2
  | .istore _ => 2
  | .bipush _ => 2
  | .ldc _ => 2
  | .iinc _ _ => 3
  | .sipush _ => 3
  | .ldc_w _ => 3
  | .ldc2_w _ => 3
  | .getstatic _ => 3
  | .getfield _ => 3
  | .putfield _ => 3
  | .ifCond _ _ => 3
  | .if_icmp _ _ => 3
  | .goto _ => 3
  | .invokevirtual _ => 3
  | .invokestatic _ => 3
  | _ => 1
def hasW (i : Nat) (w : Cond) : Bool := decide (lw_tbl[i]? = some w) && goodWord w
def clsName (cn : Nat) : String := match cls[cn]? with
  | some c => c.1
  | none => "java/lang/String"
def okA (own : String) (pc : Nat) (ins : Instr) (a b : Nat) (ts : List (Int32 × Nat)) (v : Value) (wi : List Nat) : Bool :=
  match ins with
  | .iconst n => decide (v = .int (Int32.ofInt n))
  | .bipush n => decide (v = .int (Int8.ofInt n).toInt32)
  | .sipush n => decide (v = .int (Int16.ofInt n).toInt32)
  | .lconst n => decide (v = .long (Int64.ofNat n.val))
  | .ldc idx => decide (own = RX3 ∧ a < 9 ∧ sIdx.getD a 0 = idx ∧ v = .ref (100 + a))
  | .ldc_w idx => match v with
    | .int c => hasW (wi.getD 0 0) (.constant own idx c)
    | _ => false
  | .ldc2_w idx => match v with
    | .long c => hasW (wi.getD 0 0) (.constantLong own idx c)
    | _ => false
  | .getstatic idx => match a with
    | 0 => decide (v = .int 1) && hasW (wi.getD 0 0) (.fieldLink own idx "java/lang/String" "COMPACT_STRINGS" "Z")
    | _ => decide (v = .retAddr 300) && hasW (wi.getD 0 0) (.fieldLink own idx "jdk/internal/util/Preconditions" "SIOOBE_FORMATTER" "Ljava/util/function/BiFunction;")
  | .iload i => a == i
  | .aload i => a == i
  | .istore i => a == i
  | .iload_n k => a == k.val
  | .aload_n k => a == k.val
  | .istore_n k => a == k.val
  | .lload_n k => a == k.val
  | .iinc i n => a == i && decide (v = .int (Int32.ofInt n))
  | .ifCond _ off => decide ((pc : Int) + off = (a : Int))
  | .if_icmp _ off => decide ((pc : Int) + off = (a : Int))
  | .goto off => decide ((pc : Int) + off = (a : Int))
  | .tableswitch dflt lo hi offs => decide ((pc : Int) + dflt = (a : Int) ∧ ts.map (fun t => (t.2 : Int)) = offs.toList.map (fun o => (pc : Int) + o) ∧ ts.map (fun t => t.1.toInt) = (List.range ts.length).map (fun (j : Nat) => lo + (j : Int)) ∧ hi + 1 = lo + (ts.length : Int))
  | .getfield idx => cond (a == 20) (decide (b < 2) && hasW (wi.getD 0 0) (.fieldLink own idx "java/lang/String" (cond (b == 0) "value" "coder") (cond (b == 0) "[B" "B"))) (match cls[a]? with
    | some c => decide (b < c.2.2) && hasW (wi.getD 0 0) (.fieldLink own idx (c.2.1 b).1 (c.2.1 b).2.1 (c.2.1 b).2.2.1)
    | none => false)
  | .putfield idx => match cls[a]? with
    | some c => decide (b < c.2.2) && decide ((c.2.1 b).2.2.2 = false) && hasW (wi.getD 0 0) (.fieldLink own idx (c.2.1 b).1 (c.2.1 b).2.1 (c.2.1 b).2.2.1)
    | none => false
  | .invokevirtual idx => match sigs[a]? with
    | some g => hasW (wi.getD 0 0) (.methodLink own idx g.1) && hasW (wi.getD 1 0) (.instanceMethod g.1) && hasW (wi.getD 2 0) (.selects g.1.cls g.1 g.1) && hasW (wi.getD 3 0) (.initialized g.1.cls) && decide (g.1.cls = clsName (ts.headD (0, 99)).2 ∧ (parseMethodDescriptor g.1.desc).map (fun d => d.parameters.length) = some b)
    | none => false
  | .invokestatic idx => cond (a == 999) (hasW (wi.getD 0 0) (.methodLink own idx arraycopyName) && hasW (wi.getD 1 0) (.native arraycopyName) && hasW (wi.getD 2 0) (.static arraycopyName) && hasW (wi.getD 3 0) (.initialized "java/lang/System")) (cond (a == 998) (hasW (wi.getD 0 0) (.methodLink own idx Lib.Math.min.name) && hasW (wi.getD 1 0) (.static Lib.Math.min.name) && hasW (wi.getD 2 0) (.initialized "java/lang/Math") && hasW (wi.getD 3 0) (.code Lib.Math.min.name Lib.Math.min.code 2 (some .int))) (cond (a == 997) (hasW (wi.getD 0 0) (.methodLink own idx Lib.Math.max.name) && hasW (wi.getD 1 0) (.static Lib.Math.max.name) && hasW (wi.getD 2 0) (.initialized "java/lang/Math") && hasW (wi.getD 3 0) (.code Lib.Math.max.name Lib.Math.max.code 2 (some .int))) (match sigs[a]? with
    | some g => hasW (wi.getD 0 0) (.methodLink own idx g.1) && hasW (wi.getD 1 0) (.static g.1) && hasW (wi.getD 2 0) (.initialized g.1.cls) && decide ((parseMethodDescriptor g.1.desc).map (fun d => d.parameters.length) = some b)
    | none => false)))
  | _ => true
def okE (own : String) (bytes : ByteArray) (e : Ent) : Bool := match e with
  | (pc, ins, nx, a, b, ts, v, wi) => (match ins with
      | .tableswitch _ _ _ _ => decide (decode bytes pc = .ok (ins, nx - pc))
      | _ => decide (decode bytes pc = .ok (ins, ilen ins)) && nx == pc + ilen ins) && okA own pc ins a b ts v wi
/-- a signature's own words -/
def okS (g : Sig) (i : Nat) : Prop := Cond.code g.1 g.2.1 g.2.2.1 g.2.2.2 ∈ lw_tbl.filter goodWord ∧ plainName g.1.cls = true ∧ g.1.cls ≠ "java/lang/invoke/MethodHandle" ∧ g.1.cls ≠ "java/lang/invoke/VarHandle" ∧ g.2.2.1 ≤ 40
