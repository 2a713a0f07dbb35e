/-! WHAT IS TO BE SHOWN of a method's body: its bytes read as a formula (zgo), cut at the heads of its loops -/
section ZV
/-- pc, length, instruction, where it may go, its number -/
abbrev zI : Type := Nat × Nat × Instr × List Nat × Int32
/-- locals, operands, new cells, new places, the numbers -/
abbrev zJ : Type := zL → List Value → Nat → Nat → zF → Prop
/-- class, bytes, locals, answer's type, room, world, fields by index, callees by index -/
abbrev zM : Type := String × ByteArray × Nat × Option FieldType × Room × zU × (Nat → Option (Nat × Nat × Nat)) × (Bool → Nat → Option (Nat × Nat × Nat × zSp))
abbrev zMo (Y : zM) : String := Y.1
abbrev zMc (Y : zM) : ByteArray := Y.2.1
abbrev zMl (Y : zM) : Nat := Y.2.2.1
abbrev zMt (Y : zM) : Option FieldType := Y.2.2.2.1
abbrev zMr (Y : zM) : Room := Y.2.2.2.2.1
abbrev zMu (Y : zM) : zU := Y.2.2.2.2.2.1
abbrev zMf (Y : zM) : Nat → Option (Nat × Nat × Nat) := Y.2.2.2.2.2.2.1
abbrev zMk (Y : zM) : Bool → Nat → Option (Nat × Nat × Nat × zSp) := Y.2.2.2.2.2.2.2
def zget : zL → Nat → (Value → Prop) → Prop
  | some v :: _, 0, k => k v
  | _ :: r, n + 1, k => zget r n k
  | _, _, _ => False
def zset : zL → Nat → Value → (zL → Prop) → Prop
  | _ :: r, 0, v, k => k (some v :: r)
  | x :: r, n + 1, v, k => zset r n v (fun r' => k (x :: r'))
  | [], _, _, _ => False
def zpop : Nat → List Value → List Value → (List Value → List Value → Prop) → Prop
  | 0, st, acc, k => k acc st
  | n + 1, v :: st, acc, k => zpop n st (v :: acc) k
  | _ + 1, [], _, _ => False
def zw1 : Value → Nat
  | .long _ => 2
  | .double _ => 2
  | _ => 1
def zwt : List Value → Nat
  | [] => 0
  | v :: r => zw1 v + zwt r
/-- a jump: ahead it goes on; back it comes to a head -/
def zjmp (inv : Nat → Option zJ) (k : Nat → zJ) (pc t : Nat) : zJ := fun ls st kc ks F => match Nat.blt pc t with
  | true => k t ls st kc ks F
  | false => match inv t with
    | some I => I ls st kc ks F
    | none => False
def zif (j : zJ) (f : zJ) (ls : zL) (r : List Value) (kc ks : Nat) (F : zF) (c : Prop) : Prop := (c → j ls r kc ks F) ∧ (¬ c → f ls r kc ks F)
def zifn (j : zJ) (f : zJ) (ls : zL) (r : List Value) (kc ks : Nat) (F : zF) (c : Prop) : Prop := (¬ c → j ls r kc ks F) ∧ (c → f ls r kc ks F)
def zcmp0 (c : Jvm.ClassFile.Cond) (x : Int32) (j : zJ) (f : zJ) (ls : zL) (r : List Value) (kc ks : Nat) (F : zF) : Prop := match c with
  | .eq => zif j f ls r kc ks F (x = 0)
  | .ne => zifn j f ls r kc ks F (x = 0)
  | .lt => zif j f ls r kc ks F (x < 0)
  | .ge => zif j f ls r kc ks F (0 ≤ x)
  | .gt => zif j f ls r kc ks F (0 < x)
  | .le => zif j f ls r kc ks F (x ≤ 0)
def zcmp2 (c : Jvm.ClassFile.Cond) (x y : Int32) (j : zJ) (f : zJ) (ls : zL) (r : List Value) (kc ks : Nat) (F : zF) : Prop := match c with
  | .eq => zif j f ls r kc ks F (x = y)
  | .ne => zifn j f ls r kc ks F (x = y)
  | .lt => zif j f ls r kc ks F (x < y)
  | .ge => zif j f ls r kc ks F (y ≤ x)
  | .gt => zif j f ls r kc ks F (y < x)
  | .le => zif j f ls r kc ks F (x ≤ y)
/-- a switch's arms: the number from which the table goes on, the targets -/
def zsw (x : Int32) (j : Nat → Prop) : Int → List Nat → Prop
  | _, [] => True
  | n, t :: r => (x = Int32.ofInt n → j t) ∧ zsw x j (n + 1) r
def zcall (Y : zM) (ex : zX) (k : Nat → zJ) (b : Bool) (pc ix : Nat) : zJ := fun ls st kc ks F => match zMk Y b ix with
  | some (n, mc, ms, sp) => zpop n st [] fun as r => match as.all zsm && (Nat.ble (zwt r) 8 && (Nat.ble (kc + mc) (zMr Y).cells && Nat.ble (ks + ms) (zMr Y).slots)) with
    | true => sp as F (fun q F' => match q with
      | some v => k (pc + 3) ls (v :: r) (kc + mc) (ks + ms) F'
      | none => k (pc + 3) ls r (kc + mc) (ks + ms) F') ex
    | false => False
  | none => False
def zret (Y : zM) (ok : zO) (x : Int32) (F : zF) : Prop := match zMt Y with
  | some .int => ok (some (.int x)) F
  | some .boolean => ∃ _ : x = 0 ∨ x = 1, ok (some (.int x)) F
  | _ => False
/-- a place of an object that is read, or written -/
def zfld (Y : zM) (j ix : Nat) (k : Nat → Nat → Option Nat → Prop) : Prop := match Nat.blt j (zMu Y).1 with
  | true => match (zMu Y).2 j, zMf Y ix with
    | (0, ci, sl), some (ci', n, w) => match Nat.beq ci ci' with
      | true => match znth sl n with
        | some o => k n w o
        | none => False
      | false => False
    | _, _ => False
  | false => False
def zarr (Y : zM) (t j : Nat) (i : Int32) (k : Nat → Prop) : Prop := match Nat.blt j (zMu Y).1 with
  | true => match (zMu Y).2 j with
    | (t', n, _) => match Nat.beq t t' with
      | true => ∃ _ : vp_in i n, k n
      | false => False
  | false => False
def zstep (Y : zM) (ok : zO) (ex : zX) (inv : Nat → Option zJ) (k : Nat → zJ) (pc len : Nat) (i : Instr) (tg : List Nat) (v : Int32) : zJ := fun ls st kc ks F => match i with
  | .iconst _ => k (pc + len) ls (.int v :: st) kc ks F
  | .bipush _ => k (pc + len) ls (.int v :: st) kc ks F
  | .sipush _ => k (pc + len) ls (.int v :: st) kc ks F
  | .iload n => zget ls n fun x => match x with
    | .int z => k (pc + len) ls (.int z :: st) kc ks F
    | _ => False
  | .iload_n n => zget ls n.val fun x => match x with
    | .int z => k (pc + len) ls (.int z :: st) kc ks F
    | _ => False
  | .aload n => zget ls n fun x => match x with
    | .ref z => k (pc + len) ls (.ref z :: st) kc ks F
    | _ => False
  | .aload_n n => zget ls n.val fun x => match x with
    | .ref z => k (pc + len) ls (.ref z :: st) kc ks F
    | _ => False
  | .istore n => match st with
    | .int z :: r => zset ls n (.int z) fun l' => k (pc + len) l' r kc ks F
    | _ => False
  | .istore_n n => match st with
    | .int z :: r => zset ls n.val (.int z) fun l' => k (pc + len) l' r kc ks F
    | _ => False
  | .astore n => match st with
    | .ref z :: r => zset ls n (.ref z) fun l' => k (pc + len) l' r kc ks F
    | _ => False
  | .astore_n n => match st with
    | .ref z :: r => zset ls n.val (.ref z) fun l' => k (pc + len) l' r kc ks F
    | _ => False
  | .iinc n _ => zget ls n fun x => match x with
    | .int z => zset ls n (.int (z + v)) fun l' => k (pc + len) l' st kc ks F
    | _ => False
  | .iadd => match st with
    | .int y :: .int x :: r => k (pc + len) ls (.int (x + y) :: r) kc ks F
    | _ => False
  | .isub => match st with
    | .int y :: .int x :: r => k (pc + len) ls (.int (x - y) :: r) kc ks F
    | _ => False
  | .imul => match st with
    | .int y :: .int x :: r => k (pc + len) ls (.int (x * y) :: r) kc ks F
    | _ => False
  | .idiv => match st with
    | .int y :: .int x :: r => ∃ _ : ¬ y = 0, k (pc + len) ls (.int (x / y) :: r) kc ks F
    | _ => False
  | .ineg => match st with
    | .int x :: r => k (pc + len) ls (.int (-x) :: r) kc ks F
    | _ => False
  | .iand => match st with
    | .int y :: .int x :: r => k (pc + len) ls (.int (x &&& y) :: r) kc ks F
    | _ => False
  | .ior => match st with
    | .int y :: .int x :: r => k (pc + len) ls (.int (x ||| y) :: r) kc ks F
    | _ => False
  | .ixor => match st with
    | .int y :: .int x :: r => k (pc + len) ls (.int (x ^^^ y) :: r) kc ks F
    | _ => False
  | .ishl => match st with
    | .int y :: .int x :: r => k (pc + len) ls (.int (x <<< (y &&& 31)) :: r) kc ks F
    | _ => False
  | .ishr => match st with
    | .int y :: .int x :: r => k (pc + len) ls (.int (x >>> (y &&& 31)) :: r) kc ks F
    | _ => False
  | .iushr => match st with
    | .int y :: .int x :: r => k (pc + len) ls (.int (x.toUInt32 >>> (y.toUInt32 &&& Int32.toUInt32 31)).toInt32 :: r) kc ks F
    | _ => False
  | .dup => match st with
    | .int x :: r => k (pc + len) ls (.int x :: .int x :: r) kc ks F
    | .ref x :: r => k (pc + len) ls (.ref x :: .ref x :: r) kc ks F
    | _ => False
  | .dup_x1 => match st with
    | .int x :: .ref y :: r => k (pc + len) ls (.int x :: .ref y :: .int x :: r) kc ks F
    | _ => False
  | .dup_x2 => match st with
    | .int x :: .int y :: .ref z :: r => k (pc + len) ls (.int x :: .int y :: .ref z :: .int x :: r) kc ks F
    | _ => False
  | .dup2 => match st with
    | .int x :: .ref y :: r => k (pc + len) ls (.int x :: .ref y :: .int x :: .ref y :: r) kc ks F
    | _ => False
  | .pop => match st with
    | .int _ :: r => k (pc + len) ls r kc ks F
    | .ref _ :: r => k (pc + len) ls r kc ks F
    | _ => False
  | .ifCond c _ => match st, tg with
    | .int x :: r, t :: _ => zcmp0 c x (zjmp inv k pc t) (k (pc + len)) ls r kc ks F
    | _, _ => False
  | .if_icmp c _ => match st, tg with
    | .int y :: .int x :: r, t :: _ => zcmp2 c x y (zjmp inv k pc t) (k (pc + len)) ls r kc ks F
    | _, _ => False
  | .goto _ => match tg with
    | t :: _ => zjmp inv k pc t ls st kc ks F
    | _ => False
  | .ifnull _ => match st, tg with
    | .ref _ :: r, _ => k (pc + len) ls r kc ks F
    | .null :: r, t :: _ => zjmp inv k pc t ls r kc ks F
    | _, _ => False
  | .aconst_null => k (pc + len) ls (.null :: st) kc ks F
  | .tableswitch _ lo hi _ => match st, tg with
    | .int x :: r, d :: ts => zsw x (fun t => zjmp inv k pc t ls r kc ks F) lo ts ∧ (x.toInt < lo ∨ hi < x.toInt → zjmp inv k pc d ls r kc ks F)
    | _, _ => False
  | .getfield ix => match st with
    | .ref j :: r => zfld Y j ix fun n _ o => match o with
      | none => k (pc + len) ls (.int (F j n) :: r) kc ks F
      | some t => k (pc + len) ls (.ref t :: r) kc ks F
    | _ => False
  | .putfield ix => match st with
    | .int x :: .ref j :: r => zfld Y j ix fun n w o => match o, w with
      | none, 1 => k (pc + len) ls r kc ks (zup F j n x)
      | none, 2 => ∃ _ : x = 0 ∨ x = 1, k (pc + len) ls r kc ks (zup F j n x)
      | _, _ => False
    | _ => False
  | .iaload => match st with
    | .int x :: .ref j :: r => zarr Y 1 j x fun _ => k (pc + len) ls (.int (F j x.toNatClampNeg) :: r) kc ks F
    | _ => False
  | .iastore => match st with
    | .int y :: .int x :: .ref j :: r => zarr Y 1 j x fun _ => k (pc + len) ls r kc ks (zup F j x.toNatClampNeg y)
    | _ => False
  | .baload => match st with
    | .int x :: .ref j :: r => zarr Y 2 j x fun _ => k (pc + len) ls (.int (F j x.toNatClampNeg) :: r) kc ks F
    | _ => False
  | .bastore => match st with
    | .int y :: .int x :: .ref j :: r => zarr Y 2 j x fun _ => k (pc + len) ls r kc ks (zup F j x.toNatClampNeg (vp_nar .boolean y))
    | _ => False
  | .aaload => match st with
    | .int x :: .ref j :: r => zarr Y 3 j x fun _ => ∃ t, znth ((zMu Y).2 j).2.2 x.toNatClampNeg = some (some t) ∧ k (pc + len) ls (.ref t :: r) kc ks F
    | _ => False
  | .arraylength => match st with
    | .ref j :: r => match Nat.blt j (zMu Y).1 with
      | true => match Nat.blt 0 ((zMu Y).2 j).1 with
        | true => k (pc + len) ls (.int (Int32.ofNat ((zMu Y).2 j).2.1) :: r) kc ks F
        | false => False
      | false => False
    | _ => False
  | .i2d => match st with
    | .int x :: r => k (pc + len) ls (.double (FP.i2d x) :: r) kc ks F
    | _ => False
  | .ddiv => match st with
    | .double y :: .double x :: r => ∃ _ : vf_n64 (FP.ddiv x y), k (pc + len) ls (.double (FP.ddiv x y) :: r) kc ks F
    | _ => False
  | .ldc_w ix => ∃ _ : Jvm.Cond.constant (zMo Y) ix v ∈ zts, k (pc + len) ls (.int v :: st) kc ks F
  | .invokevirtual ix => zcall Y ex k true pc ix ls st kc ks F
  | .invokestatic ix => zcall Y ex k false pc ix ls st kc ks F
  | .ireturn => match st with
    | [.int x] => zret Y ok x F
    | _ => False
  | .return_ => match st, zMt Y with
    | [], none => ok none F
    | _, _ => False
  | .areturn => match st, zMt Y with
    | [.ref x], some (.object _) => ok (some (.ref x)) F
    | [.null], some (.object _) => ok (some .null) F
    | _, _ => False
  | .dreturn => match st, zMt Y with
    | [.double x], some .double => ok (some (.double x)) F
    | _, _ => False
  | _ => False
/-- from the instruction at tgt on, over the rows that are left -/
def zgo (Y : zM) (ok : zO) (ex : zX) (inv : Nat → Option zJ) : List zI → Nat → zJ
  | [], _ => fun _ _ _ _ _ => False
  | (pc, len, i, tg, v) :: rest, tgt => fun ls st kc ks F => match Nat.beq pc tgt with
    | true => match inv pc with
      | some I => I ls st kc ks F
      | none => zstep Y ok ex inv (zgo Y ok ex inv rest) pc len i tg v ls st kc ks F
    | false => zgo Y ok ex inv rest tgt ls st kc ks F
/-- the same, but the first instruction, a head, is not asked -/
def zat (Y : zM) (ok : zO) (ex : zX) (inv : Nat → Option zJ) : List zI → Nat → zJ
  | [], _ => fun _ _ _ _ _ => False
  | (pc, len, i, tg, v) :: rest, tgt => fun ls st kc ks F => match Nat.beq pc tgt with
    | true => zstep Y ok ex inv (zgo Y ok ex inv rest) pc len i tg v ls st kc ks F
    | false => zat Y ok ex inv rest tgt ls st kc ks F
def zi0 : Nat → Option zJ := fun _ => none
def zi1 (h : Nat) (I : zJ) : Nat → Option zJ := fun pc => match Nat.beq pc h with
  | true => some I
  | false => none
def zi2 (h : Nat) (I : zJ) (h' : Nat) (I' : zJ) : Nat → Option zJ := fun pc => match Nat.beq pc h with
  | true => some I
  | false => match Nat.beq pc h' with
    | true => some I'
    | false => none
/-- a row of the table says what the bytes say -/
def zck1 (pc : Nat) (len : Nat) (i : Instr) (tg : List Nat) (v : Int32) : Bool := match i with
  | .iconst n => len == 1 && v == Int32.ofInt n
  | .bipush n => len == 2 && v == (Int8.ofInt n).toInt32
  | .sipush n => len == 3 && v == (Int16.ofInt n).toInt32
  | .iload _ => len == 2
  | .aload _ => len == 2
  | .istore _ => len == 2
  | .astore _ => len == 2
  | .iinc _ n => len == 3 && v == Int32.ofInt n
  | .ifCond _ off => len == 3 && decide (∃ t ∈ tg.head?, (pc : Int) + off = (t : Int))
  | .if_icmp _ off => len == 3 && decide (∃ t ∈ tg.head?, (pc : Int) + off = (t : Int))
  | .goto off => len == 3 && decide (∃ t ∈ tg.head?, (pc : Int) + off = (t : Int))
  | .ifnull off => len == 3 && decide (∃ t ∈ tg.head?, (pc : Int) + off = (t : Int))
  | .tableswitch d lo hi offs => decide (∃ t ∈ tg.head?, (pc : Int) + d = (t : Int)) && (decide (offs.toList.map (fun o => (pc : Int) + o) = tg.tail.map (fun t : Nat => (t : Int))) && decide (hi < lo + offs.size))
  | .getfield _ => len == 3
  | .ldc_w _ => len == 3
  | .putfield _ => len == 3
  | .invokevirtual _ => len == 3
  | .invokestatic _ => len == 3
  | .new _ => len == 3
  | .invokespecial _ => len == 3
  | _ => len == 1
def zck (cc : ByteArray) (q : zI) : Bool := match decode cc q.1 with
  | .ok (i, len) => decide (i = q.2.2.1) && (len == q.2.1 && zck1 q.1 q.2.1 q.2.2.1 q.2.2.2.1 q.2.2.2.2)
  | _ => false
end ZV
