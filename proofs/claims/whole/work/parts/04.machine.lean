/-! A PURE MACHINE over a memory of ints: cells by number (0 to 77: the desk's and the reference's, 78: the script, 79: KINDS_OF); one instruction by hd_act, runs by hd_Ev -/
abbrev hd_Mem : Type := Nat → Nat → Int32
def hd_set (M : hd_Mem) (k j : Nat) (x : Int32) : hd_Mem := fun a b => if a = k ∧ b = j then x else M a b
def hd_cpy (M : hd_Mem) (k t sp dp n : Nat) : hd_Mem := fun a b => if a = t ∧ dp ≤ b ∧ b < dp + n then M k (sp + (b - dp)) else M a b
/-- an object: its class, of each field 'none' (an int) or the cell that it refers to; an int array; a boolean array; an array of int arrays (how many, the first's cell) -/
abbrev hd_Shp : Type := (Nat × List (Option Nat)) ⊕ (Nat ⊕ (Nat ⊕ (Nat × Nat)))
def hd_LAY : List hd_Shp := [
  .inl (7, [some 1, some 2, some 3, some 4, some 5, some 6, some 7, none]),
  .inl (3, [some 8, some 9, some 10, some 11, some 12, some 13, none]),
  .inl (4, [some 14, some 15, some 16, some 17, some 18, none]),
  .inl (2, [some 19, some 20, some 21, some 22, some 23, none, none, none, some 24]),
  .inl (0, [some 28, some 29, some 30, none]),
  .inl (6, [some 31, some 32, some 33]),
  .inl (1, [some 38, some 39, some 40, some 41, none, none]),
  .inl (5, [none, none, none, none, some 62, some 63, some 64, some 65, some 66]),
  .inr (.inl 8), .inr (.inl 8), .inr (.inl 8), .inr (.inl 8), .inr (.inl 8), .inr (.inl 8),
  .inr (.inl 3), .inr (.inl 3), .inr (.inr (.inl 3)), .inr (.inl 3), .inr (.inl 3),
  .inr (.inl 60), .inr (.inl 60), .inr (.inl 60), .inr (.inl 60), .inr (.inl 60),
  .inr (.inr (.inr (3, 25))), .inr (.inl 365), .inr (.inl 365), .inr (.inl 365),
  .inr (.inl 30), .inr (.inl 30), .inr (.inl 30),
  .inr (.inl 4), .inr (.inl 4), .inr (.inr (.inr (4, 34))), .inr (.inl 20), .inr (.inl 20), .inr (.inl 20), .inr (.inl 20),
  .inr (.inl 20), .inr (.inl 20), .inr (.inl 20), .inr (.inr (.inr (20, 42))),
  .inr (.inl 5), .inr (.inl 5), .inr (.inl 5), .inr (.inl 5), .inr (.inl 5), .inr (.inl 5), .inr (.inl 5), .inr (.inl 5), .inr (.inl 5), .inr (.inl 5),
  .inr (.inl 5), .inr (.inl 5), .inr (.inl 5), .inr (.inl 5), .inr (.inl 5), .inr (.inl 5), .inr (.inl 5), .inr (.inl 5), .inr (.inl 5), .inr (.inl 5),
  .inr (.inl 256), .inr (.inr (.inl 256)), .inr (.inl 256), .inr (.inl 256), .inr (.inl 256),
  .inl (8, [some 68, some 69, none, none, some 70, some 71, some 72, some 73, none, none, some 74, some 75, some 76, some 77]),
  .inr (.inl 459), .inr (.inl 9180), .inr (.inl 4), .inr (.inl 4), .inr (.inl 80), .inr (.inl 3), .inr (.inl 8), .inr (.inl 9), .inr (.inl 8), .inr (.inl 20)]
def hd_lay (k : Nat) : hd_Shp := hd_LAY.getD k (.inr (.inl 0))
theorem hd_lay_len : hd_LAY.length = 78 := by decide +kernel
/-- an int array that can be read: its length -/
def hd_arr (Ls k : Nat) : Option Nat := if k < 78 then (match hd_lay k with | .inr (.inl n) => some n | _ => none) else if k = 78 then some Ls else if k = 79 then some 4 else none
def hd_in (i : Int32) (n : Nat) : Prop := 0 ≤ i.toInt ∧ i.toInt < n
def hd_okR (Ls k : Nat) (i : Int32) : Prop := ∃ n, hd_arr Ls k = some n ∧ hd_in i n
def hd_okW (k : Nat) (i : Int32) : Prop := k < 78 ∧ ∃ n, hd_lay k = .inr (.inl n) ∧ hd_in i n
def hd_okZ (k : Nat) (i : Int32) : Prop := k < 78 ∧ ∃ n, hd_lay k = .inr (.inr (.inl n)) ∧ hd_in i n
def hd_okC (k : Nat) (sp n : Int32) : Prop := k < 78 ∧ ∃ z, hd_lay k = .inr (.inl z) ∧ 0 ≤ sp.toInt ∧ 0 ≤ n.toInt ∧ sp.toInt + n.toInt ≤ z
abbrev hd_It : Type := Instr × Nat × Nat × Nat × Nat × Int32
abbrev hd_S : Type := Nat × List Value × List Value × hd_Mem
/-- the next state; the answer; a call: the method, what it is given, the state behind it (its answer comes upon the stack) -/
abbrev hd_Re : Type := hd_S ⊕ ((Option Value × hd_Mem) ⊕ (Nat × List Value × hd_S))
def hd_len : Instr → Nat
  | .bipush _ => 2
  | .sipush _ => 3
  | .ldc _ => 2
  | .ldc_w _ => 3
  | .iload _ => 2
  | .istore _ => 2
  | .iinc _ _ => 3
  | .ifCond _ _ => 3
  | .if_icmp _ _ => 3
  | .goto _ => 3
  | .getfield _ => 3
  | .putfield _ => 3
  | .getstatic _ => 3
  | .invokevirtual _ => 3
  | .invokestatic _ => 3
  | _ => 1
def hd_lenok (i : Instr) (n : Nat) : Bool := match i with
  | .tableswitch .. => true
  | i => n == hd_len i
def hd_sw (x : Int32) (d lo hi : Int) (offs : Array Int) : Int := if x.toInt < lo ∨ hi < x.toInt then d else offs.getD (x.toInt - lo).toNat d
def hd_res (y pc : Nat) (i : Instr) (n : Nat) : Option hd_It := match i with
  | .iconst v => some (i, n, 0, 0, 0, Int32.ofInt v)
  | .bipush v => some (i, n, 0, 0, 0, (Int8.ofInt v).toInt32)
  | .sipush v => some (i, n, 0, 0, 0, (Int16.ofInt v).toInt32)
  | .iinc _ v => some (i, n, 0, 0, 0, Int32.ofInt v)
  | .ldc x => match hd_LT.find? (fun q => q.1 == hd_ow y && q.2.1 == x) with
    | some q => some (i, n, 0, 0, 0, q.2.2.1)
    | none => none
  | .ldc_w x => match hd_LT.find? (fun q => q.1 == hd_ow y && q.2.1 == x) with
    | some q => some (i, n, 0, 0, 0, q.2.2.1)
    | none => none
  | .ifCond _ o => if 0 ≤ (pc : Int) + o then some (i, n, ((pc : Int) + o).toNat, 0, 0, 0) else none
  | .if_icmp _ o => if 0 ≤ (pc : Int) + o then some (i, n, ((pc : Int) + o).toNat, 0, 0, 0) else none
  | .goto o => if 0 ≤ (pc : Int) + o then some (i, n, ((pc : Int) + o).toNat, 0, 0, 0) else none
  | .tableswitch d lo hi offs => if 0 ≤ (pc : Int) + d ∧ (∀ o ∈ offs.toList, 0 ≤ (pc : Int) + o) ∧ (hi - lo).toNat < offs.size then some (i, n, 0, 0, 0, 0) else none
  | .getfield x => match hd_FT.find? (fun q => q.1 == hd_ow y && q.2.1 == x) with
    | some q => some (i, n, q.2.2.1, q.2.2.2.1, 0, 0)
    | none => none
  | .putfield x => match hd_FT.find? (fun q => q.1 == hd_ow y && q.2.1 == x) with
    | some q => if ((hd_c q.2.2.1).2.1 q.2.2.2.1).2.2.2 = false ∧ hd_ty q.2.2.1 q.2.2.2.1 = .int then some (i, n, q.2.2.1, q.2.2.2.1, 0, 0) else none
    | none => none
  | .getstatic x => if hd_ow y = 3 ∧ x = 34 then some (i, n, 0, 0, 0, 0) else none
  | .invokevirtual x => match hd_CT.find? (fun q => q.1 == hd_ow y && q.2.1 == x) with
    | some q => if q.2.2.1 = 0 ∧ hd_fr q.2.2.2.1 + 1 ≤ hd_fr y ∧ 8 + (hd_mx q.2.2.2.1 + 11) + hd_lo q.2.2.2.1 ≤ hd_lo y ∧ hd_np q.2.2.2.1 + 1 ≤ hd_mx q.2.2.2.1 then some (i, n, q.2.2.2.1, hd_np q.2.2.2.1, hd_ow q.2.2.2.1, 0) else none
    | none => none
  | .invokestatic x => match hd_CT.find? (fun q => q.1 == hd_ow y && q.2.1 == x) with
    | some q => if (q.2.2.1 = 1 ∨ q.2.2.1 = 2) ∧ hd_fr q.2.2.2.1 + 1 ≤ hd_fr y ∧ 8 + (hd_mx q.2.2.2.1 + 11) + hd_lo q.2.2.2.1 ≤ hd_lo y ∧ hd_np q.2.2.2.1 ≤ hd_mx q.2.2.2.1 then some (i, n, q.2.2.2.1, hd_np q.2.2.2.1, 0, 0) else if (q.2.2.1 = 3 ∨ q.2.2.1 = 4 ∨ q.2.2.1 = 5) ∧ 1 ≤ hd_fr y ∧ 26 ≤ hd_lo y then some (i, n, 0, 0, q.2.2.1, 0) else none
    | none => none
  | _ => some (i, n, 0, 0, 0, 0)
def hd_fetch (y pc : Nat) : Option hd_It := match decode (hd_cd y) pc with
  | .ok q => if hd_lenok q.1 q.2 = true then hd_res y pc q.1 q.2 else none
  | .error _ => none
def hd_nx (pc : Nat) (L st : List Value) (M : hd_Mem) : Option (hd_Re × Prop) := some (.inl (pc, L, st, M), True)
def hd_nc (C : Prop) (pc : Nat) (L st : List Value) (M : hd_Mem) : Option (hd_Re × Prop) := some (.inl (pc, L, st, M), C)
def hd_br (o : ClassFile.Cond) (x y : Int32) (a b : Nat) : Nat := match o with
  | .eq => if x = y then a else b
  | .ne => if x = y then b else a
  | .lt => if x < y then a else b
  | .ge => if y ≤ x then a else b
  | .gt => if y < x then a else b
  | .le => if x ≤ y then a else b
def hd_ld (pc : Nat) (L st : List Value) (M : hd_Mem) (k : Nat) : Option (hd_Re × Prop) := match L[k]? with
  | some (.int x) => hd_nx pc L (.int x :: st) M
  | _ => none
def hd_la (pc : Nat) (L st : List Value) (M : hd_Mem) (k : Nat) : Option (hd_Re × Prop) := match L[k]? with
  | some (.ref x) => hd_nx pc L (.ref x :: st) M
  | _ => none
def hd_sto (pc : Nat) (L st : List Value) (M : hd_Mem) (k : Nat) : Option (hd_Re × Prop) := match st with
  | .int x :: r => if k < L.length then hd_nx pc (L.set k (.int x)) r M else none
  | _ => none
def hd_op2 (pc : Nat) (L st : List Value) (M : hd_Mem) (f : Int32 → Int32 → Int32) (C : Int32 → Prop) : Option (hd_Re × Prop) := match st with
  | .int y :: .int x :: r => hd_nc (C y) pc L (.int (f x y) :: r) M
  | _ => none
def hd_entry (y : Nat) (as : List Value) : List Value := as ++ List.replicate (hd_mx y - as.length) .null
def hd_cat1 (v : Value) : Bool := match v with
  | .int _ => true
  | .ref _ => true
  | _ => false
/-- one instruction -/
def hd_act (Ls : Nat) (rt : Option FieldType) (it : hd_It) (s : hd_S) : Option (hd_Re × Prop) :=
  match it.1 with
  | .iconst _ => hd_nx (s.1 + 1) s.2.1 (.int it.2.2.2.2.2 :: s.2.2.1) s.2.2.2
  | .bipush _ => hd_nx (s.1 + 2) s.2.1 (.int it.2.2.2.2.2 :: s.2.2.1) s.2.2.2
  | .sipush _ => hd_nx (s.1 + 3) s.2.1 (.int it.2.2.2.2.2 :: s.2.2.1) s.2.2.2
  | .ldc _ => hd_nx (s.1 + 2) s.2.1 (.int it.2.2.2.2.2 :: s.2.2.1) s.2.2.2
  | .ldc_w _ => hd_nx (s.1 + 3) s.2.1 (.int it.2.2.2.2.2 :: s.2.2.1) s.2.2.2
  | .iload_n k => hd_ld (s.1 + 1) s.2.1 s.2.2.1 s.2.2.2 k.val
  | .iload k => hd_ld (s.1 + 2) s.2.1 s.2.2.1 s.2.2.2 k
  | .aload_n k => hd_la (s.1 + 1) s.2.1 s.2.2.1 s.2.2.2 k.val
  | .istore_n k => hd_sto (s.1 + 1) s.2.1 s.2.2.1 s.2.2.2 k.val
  | .istore k => hd_sto (s.1 + 2) s.2.1 s.2.2.1 s.2.2.2 k
  | .iinc k _ => match s.2.1[k]? with
    | some (.int x) => hd_nx (s.1 + 3) (s.2.1.set k (.int (x + it.2.2.2.2.2))) s.2.2.1 s.2.2.2
    | _ => none
  | .iadd => hd_op2 (s.1 + 1) s.2.1 s.2.2.1 s.2.2.2 (fun x y => x + y) (fun _ => True)
  | .isub => hd_op2 (s.1 + 1) s.2.1 s.2.2.1 s.2.2.2 (fun x y => x - y) (fun _ => True)
  | .imul => hd_op2 (s.1 + 1) s.2.1 s.2.2.1 s.2.2.2 (fun x y => x * y) (fun _ => True)
  | .idiv => hd_op2 (s.1 + 1) s.2.1 s.2.2.1 s.2.2.2 (fun x y => x / y) (fun y => ¬ y = 0)
  | .irem => hd_op2 (s.1 + 1) s.2.1 s.2.2.1 s.2.2.2 (fun x y => x - x / y * y) (fun y => ¬ y = 0)
  | .iand => hd_op2 (s.1 + 1) s.2.1 s.2.2.1 s.2.2.2 (fun x y => x &&& y) (fun _ => True)
  | .ior => hd_op2 (s.1 + 1) s.2.1 s.2.2.1 s.2.2.2 (fun x y => x ||| y) (fun _ => True)
  | .ixor => hd_op2 (s.1 + 1) s.2.1 s.2.2.1 s.2.2.2 (fun x y => x ^^^ y) (fun _ => True)
  | .ishl => hd_op2 (s.1 + 1) s.2.1 s.2.2.1 s.2.2.2 (fun x y => x <<< (y &&& 31)) (fun _ => True)
  | .ishr => hd_op2 (s.1 + 1) s.2.1 s.2.2.1 s.2.2.2 (fun x y => x >>> (y &&& 31)) (fun _ => True)
  | .iushr => hd_op2 (s.1 + 1) s.2.1 s.2.2.1 s.2.2.2 (fun x y => (x.toUInt32 >>> (y.toUInt32 &&& Int32.toUInt32 31)).toInt32) (fun _ => True)
  | .i2l => match s.2.2.1 with
    | .int x :: r => hd_nx (s.1 + 1) s.2.1 (.long x.toInt64 :: r) s.2.2.2
    | _ => none
  | .i2b => match s.2.2.1 with
    | .int x :: r => hd_nx (s.1 + 1) s.2.1 (.int x.toInt8.toInt32 :: r) s.2.2.2
    | _ => none
  | .i2s => match s.2.2.1 with
    | .int x :: r => hd_nx (s.1 + 1) s.2.1 (.int x.toInt16.toInt32 :: r) s.2.2.2
    | _ => none
  | .ladd => match s.2.2.1 with
    | .long y :: .long x :: r => hd_nx (s.1 + 1) s.2.1 (.long (x + y) :: r) s.2.2.2
    | _ => none
  | .lcmp => match s.2.2.1 with
    | .long y :: .long x :: r => hd_nx (s.1 + 1) s.2.1 (.int (lg_cmp x y) :: r) s.2.2.2
    | _ => none
  | .dup => match s.2.2.1 with
    | a :: r => if hd_cat1 a = true then hd_nx (s.1 + 1) s.2.1 (a :: a :: r) s.2.2.2 else none
    | _ => none
  | .dup2 => match s.2.2.1 with
    | a :: b :: r => if hd_cat1 a = true ∧ hd_cat1 b = true then hd_nx (s.1 + 1) s.2.1 (a :: b :: a :: b :: r) s.2.2.2 else none
    | _ => none
  | .pop => match s.2.2.1 with
    | a :: r => if hd_cat1 a = true then hd_nx (s.1 + 1) s.2.1 r s.2.2.2 else none
    | _ => none
  | .ifCond o _ => match s.2.2.1 with
    | .int x :: r => hd_nx (hd_br o x 0 it.2.2.1 (s.1 + 3)) s.2.1 r s.2.2.2
    | _ => none
  | .if_icmp o _ => match s.2.2.1 with
    | .int y :: .int x :: r => hd_nx (hd_br o x y it.2.2.1 (s.1 + 3)) s.2.1 r s.2.2.2
    | _ => none
  | .goto _ => hd_nx it.2.2.1 s.2.1 s.2.2.1 s.2.2.2
  | .tableswitch d lo hi offs => match s.2.2.1 with
    | .int x :: r => hd_nx (((s.1 : Int) + hd_sw x d lo hi offs).toNat) s.2.1 r s.2.2.2
    | _ => none
  | .getfield _ => match s.2.2.1 with
    | .ref k :: r => if k < 78 then (match hd_lay k with
      | .inl (ci, fl) => if ci = it.2.2.1 then (match fl[it.2.2.2.1]? with
        | some none => hd_nx (s.1 + 3) s.2.1 (.int (s.2.2.2 k it.2.2.2.1) :: r) s.2.2.2
        | some (some t) => hd_nx (s.1 + 3) s.2.1 (.ref t :: r) s.2.2.2
        | none => none) else none
      | _ => none) else none
    | _ => none
  | .putfield _ => match s.2.2.1 with
    | .int x :: .ref k :: r => if k < 78 then (match hd_lay k with
      | .inl (ci, fl) => if ci = it.2.2.1 then (match fl[it.2.2.2.1]? with
        | some none => hd_nx (s.1 + 3) s.2.1 r (hd_set s.2.2.2 k it.2.2.2.1 x)
        | _ => none) else none
      | _ => none) else none
    | _ => none
  | .getstatic _ => hd_nx (s.1 + 3) s.2.1 (.ref 79 :: s.2.2.1) s.2.2.2
  | .iaload => match s.2.2.1 with
    | .int i :: .ref k :: r => hd_nc (hd_okR Ls k i) (s.1 + 1) s.2.1 (.int (s.2.2.2 k i.toNatClampNeg) :: r) s.2.2.2
    | _ => none
  | .iastore => match s.2.2.1 with
    | .int x :: .int i :: .ref k :: r => hd_nc (hd_okW k i) (s.1 + 1) s.2.1 r (hd_set s.2.2.2 k i.toNatClampNeg x)
    | _ => none
  | .baload => match s.2.2.1 with
    | .int i :: .ref k :: r => hd_nc (hd_okZ k i) (s.1 + 1) s.2.1 (.int (s.2.2.2 k i.toNatClampNeg) :: r) s.2.2.2
    | _ => none
  | .bastore => match s.2.2.1 with
    | .int x :: .int i :: .ref k :: r => hd_nc (hd_okZ k i ∧ (x = 0 ∨ x = 1)) (s.1 + 1) s.2.1 r (hd_set s.2.2.2 k i.toNatClampNeg x)
    | _ => none
  | .aaload => match s.2.2.1 with
    | .int i :: .ref k :: r => if k < 78 then (match hd_lay k with
      | .inr (.inr (.inr (n, b))) => hd_nc (hd_in i n) (s.1 + 1) s.2.1 (.ref (b + i.toNatClampNeg) :: r) s.2.2.2
      | _ => none) else none
    | _ => none
  | .arraylength => match s.2.2.1 with
    | .ref k :: r => if k = 78 then hd_nx (s.1 + 1) s.2.1 (.int (Int32.ofNat Ls) :: r) s.2.2.2 else none
    | _ => none
  | .ireturn => match s.2.2.1 with
    | [.int x] => (match rt with
      | some .int => some (.inr (.inl (some (.int x), s.2.2.2)), True)
      | some .boolean => some (.inr (.inl (some (.int x), s.2.2.2)), x = 0 ∨ x = 1)
      | _ => none)
    | _ => none
  | .return_ => match s.2.2.1 with
    | [] => (match rt with
      | none => some (.inr (.inl (none, s.2.2.2)), True)
      | _ => none)
    | _ => none
  | .invokevirtual _ => match s.2.2.1.drop it.2.2.2.1 with
    | .ref k :: r => if k < 78 ∧ (s.2.2.1.take it.2.2.2.1).length = it.2.2.2.1 ∧ r.length ≤ 8 ∧ (s.2.2.1.all hd_cat1 = true) then (match hd_lay k with
      | .inl (ci, _) => if ci = it.2.2.2.2.1 then some (.inr (.inr (it.2.2.1, .ref k :: (s.2.2.1.take it.2.2.2.1).reverse, s.1 + 3, s.2.1, r, s.2.2.2)), True) else none
      | _ => none) else none
    | _ => none
  | .invokestatic _ => if it.2.2.2.2.1 = 0 then (if (s.2.2.1.take it.2.2.2.1).length = it.2.2.2.1 ∧ (s.2.2.1.drop it.2.2.2.1).length ≤ 8 ∧ (s.2.2.1.all hd_cat1 = true) then some (.inr (.inr (it.2.2.1, (s.2.2.1.take it.2.2.2.1).reverse, s.1 + 3, s.2.1, s.2.2.1.drop it.2.2.2.1, s.2.2.2)), True) else none)
    else if it.2.2.2.2.1 = 3 then (match s.2.2.1 with
      | [.int n, .int dp, .ref t, .int sp, .ref k] => hd_nc (hd_okC k sp n ∧ hd_okC t dp n) (s.1 + 3) s.2.1 [] (hd_cpy s.2.2.2 k t sp.toNatClampNeg dp.toNatClampNeg n.toNatClampNeg)
      | _ => none)
    else if it.2.2.2.2.1 = 4 then (match s.2.2.1 with
      | .int y :: .int x :: r => if r.length ≤ 8 ∧ (r.all hd_cat1 = true) then hd_nx (s.1 + 3) s.2.1 (.int (if x < y then y else x) :: r) s.2.2.2 else none
      | _ => none)
    else if it.2.2.2.2.1 = 5 then (match s.2.2.1 with
      | .int y :: .int x :: r => if r.length ≤ 8 ∧ (r.all hd_cat1 = true) then hd_nx (s.1 + 3) s.2.1 (.int (if y < x then y else x) :: r) s.2.2.2 else none
      | _ => none)
    else none
  | _ => none
/-- from state s of method y, within n steps, the answer and the memory at the end have Q -/
def hd_Ev (Ls : Nat) : Nat → Nat → hd_S → (Option Value → hd_Mem → Prop) → Prop
  | 0, _, _, _ => False
  | n + 1, y, s, Q => ∃ (it : hd_It) (r : hd_Re) (C : Prop), hd_fetch y s.1 = some it ∧ hd_act Ls (hd_rt y) it s = some (r, C) ∧ C ∧
    (match r with
      | .inl s' => hd_Ev Ls n y s' Q
      | .inr (.inl v) => Q v.1 v.2
      | .inr (.inr c) => hd_Ev Ls n c.1 (0, hd_entry c.1 c.2.1, [], c.2.2.2.2.2) (fun v M' => hd_Ev Ls n y (c.2.2.1, c.2.2.2.1, v.toList ++ c.2.2.2.2.1, M') Q))
