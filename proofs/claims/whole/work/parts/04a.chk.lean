/-! WHAT IS CHECKED OF EACH INSTRUCTION -/
def ccI (c : ClassFile.Cond) : Int := match c with | .eq => 0 | .ne => 1 | .lt => 2 | .ge => 3 | .gt => 4 | .le => 5
/-- a switch's table as the small machine has it -/
def tabT (pc : Nat) (lo : Int) : List Int → List (Int × Nat)
  | [] => []
  | o :: r => (lo, ((pc : Int) + o).toNat) :: tabT pc (lo + 1) r
/-- a lookup switch's table -/
def lkT (pc : Nat) (ps : List (Int × Int)) : List (Int × Nat) := ps.map fun q => (q.1, ((pc : Int) + q.2).toNat)
def atyN (t : Nat) : ArrayType := match t with | 100 => .int | 101 => .long | _ => .char
def aty (t : Nat) : FieldType := match t with
  | 0 => .int
  | 1 => .long
  | 2 => .char
  | 3 => .object RX8
  | 4 => .object RX6
  | 5 => .object RX2
  | 6 => .array .int
  | _ => .array (.array .int)
abbrev fE (i : Nat) : Nat × Nat × Nat × Nat × Nat × Nat := FPl.getD i (0, 0, 99, 0, 0, 0)
abbrev mE (i : Nat) : Nat × Nat × Nat × Nat × Nat := MPl.getD i (0, 0, 0, 99, 0)
abbrev cE (i : Nat) : Nat × Nat × String × Nat := CPl.getD i (0, 0, "", 0)
abbrev kE (i : Nat) : Nat × Nat × Nat × Int × Nat := KPl.getD i (0, 0, 99, 0, 0)
def chkI (j pc len : Nat) (ins : Instr) (o : Op) (pp : Nat) : Bool := match ins with
  | .iconst n => decide (len = 1 ∧ o = (0, n, 0, []) ∧ w32 n = n)
  | .bipush n => decide (len = 2 ∧ o = (0, n, 0, []) ∧ w32 n = n ∧ (Int8.ofInt n).toInt32 = Int32.ofInt n)
  | .sipush n => decide (len = 3 ∧ o = (0, n, 0, []) ∧ w32 n = n ∧ (Int16.ofInt n).toInt32 = Int32.ofInt n)
  | .lconst n => decide (len = 1 ∧ o = (1, ((n : Nat) : Int), 0, []) ∧ w64 ((n : Nat) : Int) = ((n : Nat) : Int))
  | .ldc i => decide (len = 2 ∧ pp < KPl.length ∧ (kE pp).1 = Yc j ∧ (kE pp).2.1 = i ∧ (kE pp).2.2.1 = 0 ∧ o = (0, (kE pp).2.2.2.1, 0, []))
  | .ldc2_w i => decide (len = 3 ∧ pp < KPl.length ∧ (kE pp).1 = Yc j ∧ (kE pp).2.1 = i ∧ (kE pp).2.2.1 = 1 ∧ o = (1, (kE pp).2.2.2.1, 0, []))
  | .iload i => decide (len = 2 ∧ o = (2, 0, i, []))
  | .iload_n q => decide (len = 1 ∧ o = (2, 0, (q : Nat), []))
  | .lload i => decide (len = 2 ∧ o = (3, 0, i, []))
  | .lload_n q => decide (len = 1 ∧ o = (3, 0, (q : Nat), []))
  | .aload i => decide (len = 2 ∧ o = (4, 0, i, []))
  | .aload_n q => decide (len = 1 ∧ o = (4, 0, (q : Nat), []))
  | .istore i => decide (len = 2 ∧ o = (5, 0, i, []) ∧ i < Yl j)
  | .istore_n q => decide (len = 1 ∧ o = (5, 0, (q : Nat), []) ∧ (q : Nat) < Yl j)
  | .lstore i => decide (len = 2 ∧ o = (6, 0, i, []) ∧ i + 1 < Yl j)
  | .lstore_n q => decide (len = 1 ∧ o = (6, 0, (q : Nat), []) ∧ (q : Nat) + 1 < Yl j)
  | .astore i => decide (len = 2 ∧ o = (7, 0, i, []) ∧ i < Yl j)
  | .astore_n q => decide (len = 1 ∧ o = (7, 0, (q : Nat), []) ∧ (q : Nat) < Yl j)
  | .iinc i n => decide (len = 3 ∧ o = (8, n, i, []) ∧ i < Yl j)
  | .iadd => decide (len = 1 ∧ o = (9, 0, 0, []))
  | .isub => decide (len = 1 ∧ o = (10, 0, 0, []))
  | .imul => decide (len = 1 ∧ o = (11, 0, 0, []))
  | .idiv => decide (len = 1 ∧ o = (12, 0, 0, []))
  | .irem => decide (len = 1 ∧ o = (13, 0, 0, []))
  | .iand => decide (len = 1 ∧ o = (14, 0, 0, []))
  | .ishr => decide (len = 1 ∧ o = (15, 0, 0, []))
  | .iushr => decide (len = 1 ∧ o = (16, 0, 0, []))
  | .ladd => decide (len = 1 ∧ o = (17, 0, 0, []))
  | .lmul => decide (len = 1 ∧ o = (18, 0, 0, []))
  | .ldiv => decide (len = 1 ∧ o = (19, 0, 0, []))
  | .lrem => decide (len = 1 ∧ o = (20, 0, 0, []))
  | .land => decide (len = 1 ∧ o = (21, 0, 0, []))
  | .lor => decide (len = 1 ∧ o = (22, 0, 0, []))
  | .lshl => decide (len = 1 ∧ o = (23, 0, 0, []))
  | .lcmp => decide (len = 1 ∧ o = (24, 0, 0, []))
  | .i2l => decide (len = 1 ∧ o = (25, 0, 0, []))
  | .l2i => decide (len = 1 ∧ o = (26, 0, 0, []))
  | .i2c => decide (len = 1 ∧ o = (27, 0, 0, []))
  | .ifCond cc off => decide (len = 3 ∧ o = (28, ccI cc, o.2.2.1, []) ∧ (pc : Int) + off = (o.2.2.1 : Int))
  | .if_icmp cc off => decide (len = 3 ∧ o = (29, ccI cc, o.2.2.1, []) ∧ (pc : Int) + off = (o.2.2.1 : Int))
  | .goto off => decide (len = 3 ∧ o = (30, 0, o.2.2.1, []) ∧ (pc : Int) + off = (o.2.2.1 : Int))
  | .tableswitch d lo hi offs => decide (o = (31, 0, o.2.2.1, tabT pc lo offs.toList) ∧ (pc : Int) + d = (o.2.2.1 : Int) ∧ lo + offs.size = hi + 1) && offs.toList.all (fun x => decide (0 ≤ (pc : Int) + x))
  | .lookupswitch d ps => decide (o = (31, 0, o.2.2.1, lkT pc ps.toList) ∧ (pc : Int) + d = (o.2.2.1 : Int)) && ((ps.toList.zip (ps.toList.drop 1)).all (fun (a, next) => a.1 < next.1) && ps.toList.all (fun x => decide (0 ≤ (pc : Int) + x.2)))
  | .getfield i => decide (len = 3 ∧ pp < FPl.length ∧ (fE pp).1 = Yc j ∧ (fE pp).2.1 = i ∧ o = (if isR (fE pp).2.2.1 (fE pp).2.2.2.1 = true then 33 else 32, ((fE pp).2.2.1 : Int), (fE pp).2.2.2.1, []))
  | .putfield i => decide (len = 3 ∧ pp < FPl.length ∧ (fE pp).1 = Yc j ∧ (fE pp).2.1 = i ∧ o = (o.1, ((fE pp).2.2.1 : Int), (fE pp).2.2.2.1, []) ∧ ((o.1 = 34 ∧ tyXf (fE pp).2.2.1 (fE pp).2.2.2.1 = .int ∧ isR (fE pp).2.2.1 (fE pp).2.2.2.1 = false ∧ (TXf (fE pp).2.2.1 (fE pp).2.2.2.1).2.2.2 = false) ∨ (o.1 = 35 ∧ tyXf (fE pp).2.2.1 (fE pp).2.2.2.1 = .boolean ∧ isR (fE pp).2.2.1 (fE pp).2.2.2.1 = false ∧ (TXf (fE pp).2.2.1 (fE pp).2.2.2.1).2.2.2 = false) ∨ (o.1 = 36 ∧ (fE pp).2.2.2.2.1 = 0 ∧ (tyXf (fE pp).2.2.1 (fE pp).2.2.2.1).isReference = true ∧ isR (fE pp).2.2.1 (fE pp).2.2.2.1 = true ∧ (TXf (fE pp).2.2.1 (fE pp).2.2.2.1).2.2.2 = true ∧ (Yn j).name = "<init>" ∧ Yc j = (fE pp).2.2.1)))
  | .iaload => decide (len = 1 ∧ (o = (37, 0, 0, []) ∨ o = (63, 0, 0, [])))
  | .laload => decide (len = 1 ∧ o = (38, 0, 0, []))
  | .caload => decide (len = 1 ∧ o = (39, 0, 0, []))
  | .aaload => decide (len = 1 ∧ o = (40, 0, 0, []))
  | .iastore => decide (len = 1 ∧ o = (41, 0, 0, []))
  | .lastore => decide (len = 1 ∧ o = (42, 0, 0, []))
  | .castore => decide (len = 1 ∧ o = (43, 0, 0, []))
  | .aastore => decide (len = 1 ∧ o = (44, 0, 0, []))
  | .arraylength => decide (len = 1 ∧ (o = (45, 0, 0, []) ∨ o = (64, 0, 0, [])))
  | .new i => decide (len = 3 ∧ pp < CPl.length ∧ (cE pp).1 = Yc j ∧ (cE pp).2.1 = i ∧ (cE pp).2.2.1 = RC o.2.2.1 ∧ o.2.2.1 < 11 ∧ o = (46, (NFc o.2.2.1 : Int), o.2.2.1, []))
  | .newarray t => decide (len = 2 ∧ o = (47, 0, o.2.2.1, []) ∧ t = atyN o.2.2.1 ∧ (o.2.2.1 = 100 ∨ o.2.2.1 = 101 ∨ o.2.2.1 = 102))
  | .anewarray i => decide (len = 3 ∧ o = (48, 0, o.2.2.1, []) ∧ pp < CPl.length ∧ (cE pp).1 = Yc j ∧ (cE pp).2.1 = i ∧ (o.2.2.1 = 103 ∨ o.2.2.1 = 104 ∨ o.2.2.1 = 105) ∧ aty (o.2.2.1 - 100) = .object (cE pp).2.2.1)
  | .multianewarray i n => decide (len = 4 ∧ pp < CPl.length ∧ (cE pp).1 = Yc j ∧ (cE pp).2.1 = i ∧ ((n = 2 ∧ o = (49, 0, 0, []) ∧ (cE pp).2.2.1 = "[[I") ∨ (n = 3 ∧ o = (50, 0, 0, []) ∧ (cE pp).2.2.1 = "[[[I")))
  | .invokestatic i => decide (len = 3 ∧ pp < MPl.length ∧ (mE pp).1 = Yc j ∧ (mE pp).2.1 = i) && (decide (((mE pp).2.2.2.1 = 2 ∨ (mE pp).2.2.2.1 = 3) ∧ o = (51, (Yp (mE pp).2.2.1 : Int), (mE pp).2.2.1, [])) || (decide ((mE pp).2.2.2.1 = 7 ∧ o = (54, 0, 0, [])) || (decide ((mE pp).2.2.2.1 = 8 ∧ o = (55, 0, 0, [])) || decide ((mE pp).2.2.2.1 = 9 ∧ o = (56, 0, 0, [])))))
  | .invokevirtual i => decide (len = 3 ∧ pp < MPl.length ∧ (mE pp).1 = Yc j ∧ (mE pp).2.1 = i ∧ ((mE pp).2.2.2.1 = 0 ∨ (mE pp).2.2.2.1 = 1) ∧ Yc (mE pp).2.2.1 < 11 ∧ o = (52, ((Yp (mE pp).2.2.1 + 1 : Nat) : Int), (mE pp).2.2.1, [(0, Yc (mE pp).2.2.1)]))
  | .invokespecial i => decide (len = 3 ∧ pp < MPl.length ∧ (mE pp).1 = Yc j ∧ (mE pp).2.1 = i ∧ ((((mE pp).2.2.2.1 = 4 ∨ (mE pp).2.2.2.1 = 5) ∧ Yc (mE pp).2.2.1 < 11 ∧ o = (52, ((Yp (mE pp).2.2.1 + 1 : Nat) : Int), (mE pp).2.2.1, [(0, Yc (mE pp).2.2.1)])) ∨ ((mE pp).2.2.2.1 = 6 ∧ o = (53, 0, 0, []))))
  | .ireturn => decide (len = 1 ∧ ((o = (57, 0, 0, []) ∧ Yr j = some .int) ∨ (o = (58, 0, 0, []) ∧ Yr j = some .boolean) ∨ (o = (62, 0, 0, []) ∧ Yr j = some .char)))
  | .return_ => decide (len = 1 ∧ o = (59, 0, 0, []) ∧ Yr j = none)
  | .dup => decide (len = 1 ∧ o = (60, 0, 0, []))
  | .pop => decide (len = 1 ∧ o = (61, 0, 0, []))
  | _ => false
def chkE (j : Nat) (bt : ByteArray) (q : Nat × Nat × Instr × Op × Nat) : Bool := decide (decode bt q.1 = .ok (q.2.2.1, q.2.1)) && chkI j q.1 q.2.1 q.2.2.1 q.2.2.2.1 q.2.2.2.2
def lkC : List (Nat × Nat × Instr × Op × Nat) → Nat → Option (Nat × Op)
  | [], _ => none
  | q :: r, pc => if q.1 = pc then some (q.2.1, q.2.2.2.1) else lkC r pc
def FC (j : Nat) : CodeF := fun pc => lkC (cdL.getD j []) pc
theorem lkC_mem : ∀ (l : List (Nat × Nat × Instr × Op × Nat)) (pc : Nat) (x : Nat × Op), lkC l pc = some x → ∃ q ∈ l, q.1 = pc ∧ q.2.1 = x.1 ∧ q.2.2.2.1 = x.2
  | [], _, _, h => by cases h
  | q :: r, pc, x, h => by
    unfold lkC at h
    by_cases e : q.1 = pc
    · rw [if_pos e] at h; cases h; exact ⟨q, List.mem_cons_self, e, rfl, rfl⟩
    · rw [if_neg e] at h
      obtain ⟨q', h1, h2⟩ := lkC_mem r pc x h
      exact ⟨q', List.mem_cons_of_mem _ h1, h2⟩
def codeOK (j : Nat) : Prop := ∀ (pc : Nat) (x : Nat × Op), FC j pc = some x → ∃ (ins : Instr) (pp : Nat), decode (Yb j) pc = .ok (ins, x.1) ∧ chkI j pc x.1 ins x.2 pp = true
