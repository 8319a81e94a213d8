/-! WHAT THE TABLES AND THE CODE SAY, CHECKED BY PROGRAM -/
def TXf (c : Nat) : u_T := ((vwCl[c]?).map fun q => q.2.1).getD (fun _ => ("", "", "", false))
def tyXf (c : Nat) : Nat → FieldType := ([tyX0, tyX1, tyX2, tyX3, tyX4, tyX5, tyX6, tyX7, tyX8, tyX9, tyX10] : List (Nat → FieldType)).getD c (fun _ => .int)
def hostN : String := "RegularSequences"
def wAt (i : Nat) (w : Cond) : Bool := decide (lw_tbl[i]? = some w)
theorem wAt_mem {i : Nat} {w : Cond} (h : wAt i w = true) : w ∈ lw_tbl := List.mem_of_getElem? (of_decide_eq_true h)
def fpW (q : Nat × Nat × Nat × Nat × Nat × Nat) : Cond := if q.2.2.2.2.1 = 0 then .fieldLink (RC q.1) q.2.1 (RC q.2.2.1) (TXf q.2.2.1 q.2.2.2.1).2.1 (TXf q.2.2.1 q.2.2.2.1).2.2.1 else .fieldLinkNest (RC q.1) q.2.1 (RC q.2.2.1) (TXf q.2.2.1 q.2.2.2.1).2.1 (TXf q.2.2.1 q.2.2.2.1).2.2.1 hostN
def fpC (q : Nat × Nat × Nat × Nat × Nat × Nat) : Bool := wAt q.2.2.2.2.2 (fpW q) && (decide (q.2.2.1 < 11) && (decide (q.2.2.2.1 < NFc q.2.2.1) && decide ((TXf q.2.2.1 q.2.2.2.1).1 = RC q.2.2.1)))
def mpY (k j : Nat) : MethodName := if k ≤ 5 then Yn j else if k = 6 then Lib.objectInit else if k = 7 then arraycopyName else if k = 8 then Lib.Math.max.name else Lib.Math.min.name
def mpW (q : Nat × Nat × Nat × Nat × Nat) : Cond := if q.2.2.2.1 = 1 ∨ q.2.2.2.1 = 3 ∨ q.2.2.2.1 = 5 then .methodLinkNest (RC q.1) q.2.1 (mpY q.2.2.2.1 q.2.2.1) hostN else .methodLink (RC q.1) q.2.1 (mpY q.2.2.2.1 q.2.2.1)
def MWe (j : Nat) : Nat × Nat × Nat × Nat × Nat := MWl.getD j (0, 0, 0, 0, 0)
/-- a callee: its kind fits (0, 1: an instance method; 2, 3: static; 4, 5: a constructor) -/
def mwK (k j : Nat) : Bool := if k ≤ 1 then wAt (MWe j).2.1 (.instanceMethod (Yn j)) && wAt (MWe j).2.2.1 (.selects (RC (Yc j)) (Yn j) (Yn j)) else if k ≤ 3 then wAt (MWe j).2.2.2.1 (.static (Yn j)) else wAt (MWe j).2.1 (.instanceMethod (Yn j)) && (decide ((Yn j).name = "<init>") && decide (Yr j = none))
def cdO (w : Option Cond) (y : MethodName) (ml : Nat) (r : Option FieldType) : Bool := match w with | some (.code y' _ ml' r') => decide (y' = y) && (decide (ml' = ml) && decide (r' = r)) | _ => false
def mwC (j : Nat) : Bool := cdO (lw_tbl[(Ye j).2.1]?) (Yn j) (Yl j) (Yr j) && (wAt (MWe j).2.2.2.2 (.initialized (RC (Yc j))) && (decide ((Yn j).cls = RC (Yc j)) && (decide ((Yn j).cls ≠ "java/lang/invoke/MethodHandle") && (decide ((Yn j).cls ≠ "java/lang/invoke/VarHandle") && (decide ((parseMethodDescriptor (Yn j).desc).map (fun d => d.parameters.length) = some (Yp j)) && (decide (Yl j ≤ 40) && plainName (Yn j).cls))))))
def mpC (q : Nat × Nat × Nat × Nat × Nat) : Bool := wAt q.2.2.2.2 (mpW q) && (decide (5 < q.2.2.2.1) || (mwK q.2.2.2.1 q.2.2.1 && decide (q.2.2.1 < 215)))
def cpC (q : Nat × Nat × String × Nat) : Bool := wAt q.2.2.2 (.classLink (RC q.1) q.2.1 q.2.2.1)
def kpC (q : Nat × Nat × Nat × Int × Nat) : Bool := if q.2.2.1 = 0 then wAt q.2.2.2.2 (.constant (RC q.1) q.2.1 (Int32.ofInt q.2.2.2.1)) && decide (w32 q.2.2.2.1 = q.2.2.2.1) else wAt q.2.2.2.2 (.constantLong (RC q.1) q.2.1 (Int64.ofInt q.2.2.2.1)) && decide (w64 q.2.2.2.1 = q.2.2.2.1)
def cwC (c : Nat) : Bool := wAt (CWl.getD c (0, 0)).1 (.instantiable (RC c) (NFc c)) && wAt (CWl.getD c (0, 0)).2 (.initialized (RC c))
set_option maxRecDepth 100000 in
theorem fp_ok : FPl.all fpC = true := by decide +kernel
set_option maxRecDepth 100000 in
theorem mp_ok : MPl.all mpC = true := by decide +kernel
set_option maxRecDepth 100000 in
theorem cp_ok : CPl.all cpC = true := by decide +kernel
set_option maxRecDepth 100000 in
theorem kp_ok : KPl.all kpC = true := by decide +kernel
set_option maxRecDepth 100000 in
theorem mw_ok : (List.range 215).all mwC = true := by decide +kernel
set_option maxRecDepth 100000 in
theorem cw_ok : (List.range 11).all cwC = true := by decide +kernel
