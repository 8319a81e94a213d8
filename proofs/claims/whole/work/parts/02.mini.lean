/-! THE SMALL MACHINE: values, memory, one instruction, runs, calls. -/
/-- int, long, reference (0: null), nothing -/
abbrev MV : Type := Int ⊕ Int ⊕ Nat ⊕ Unit
abbrev vi (x : Int) : MV := .inl x
abbrev vl (x : Int) : MV := .inr (.inl x)
abbrev vr (k : Nat) : MV := .inr (.inr (.inl k))
abbrev vu : MV := .inr (.inr (.inr ()))
def w32 (x : Int) : Int := (Int32.ofInt x).toInt
def w64 (x : Int) : Int := (Int64.ofInt x).toInt
/-- kind, length, references -/
abbrev Shp : Type := List (Nat × Nat × List Nat)
abbrev Mem : Type := (Shp × Nat) × (Nat → Nat → Int)
abbrev Dat : Type := Nat → Nat → Int
/-- the entry at an address; address 1 is the script, whose length stands at (0, 0) -/
def ent (g : Shp × Nat) (k : Nat) : Nat × Nat × List Nat := g.1.getD (k - 2) (999, 0, [])
def kd (g : Shp × Nat) (k : Nat) : Nat := if k < 2 then 999 else (ent g k).1
def ln (g : Shp × Nat) (k : Nat) : Nat := (ent g k).2.1
def rf (g : Shp × Nat) (k i : Nat) : Nat := (ent g k).2.2.getD i 0
def upD (D : Dat) (k i : Nat) (v : Int) : Dat := fun a j => if a = k ∧ j = i then v else D a j
/-- kind, number, number, table -/
abbrev Op : Type := Nat × Int × Nat × List (Int × Nat)
abbrev Out : Type := (List MV × List MV × Mem) ⊕ (Nat × List MV × List MV × Mem) ⊕ (Option MV × Mem) ⊕ (Nat × List MV × List MV × List MV × Mem)
abbrev oN (ls st : List MV) (m : Mem) : Option Out := some (.inl (ls, st, m))
abbrev oJ (t : Nat) (ls st : List MV) (m : Mem) : Option Out := some (.inr (.inl (t, ls, st, m)))
abbrev oR (v : Option MV) (m : Mem) : Option Out := some (.inr (.inr (.inl (v, m))))
abbrev oC (j : Nat) (as ls st : List MV) (m : Mem) : Option Out := some (.inr (.inr (.inr (j, as, ls, st, m))))
def isL (v : MV) : Bool := match v with | .inr (.inl _) => true | _ => false
def clrL (ls : List MV) (i : Nat) : List MV := match i with | 0 => ls | i + 1 => if isL (ls.getD i vu) = true then ls.set i vu else ls
def put1 (ls : List MV) (i : Nat) (v : MV) : List MV := (clrL ls i).set i v
def put2 (ls : List MV) (i : Nat) (v : MV) : List MV := ((clrL ls i).set i v).set (i + 1) vu
def cnd (a : Int) (x y : Int) : Bool := if a = 0 then decide (x = y) else if a = 1 then decide (x ≠ y) else if a = 2 then decide (x < y) else if a = 3 then decide (y ≤ x) else if a = 4 then decide (y < x) else decide (x ≤ y)
def swt (t : List (Int × Nat)) (d : Nat) (x : Int) : Nat := match t with | [] => d | q :: r => if x = q.1 then q.2 else swt r d x
def catSum (st : List MV) : Nat := (st.map fun v => if isL v = true then 2 else 1).sum
def newE (m : Mem) (kd ln : Nat) : Mem := ((m.1.1 ++ [(kd, ln, [])], m.1.2 + ln), m.2)
/-- rows of length k: n of them, of kind t -/
def rowsE (t k n : Nat) : Shp := List.replicate n (t, k, [])
def new2E (m : Mem) (kd n kd1 k : Nat) : Mem := ((m.1.1 ++ [(kd, n, (List.range n).map fun i => m.1.1.length + 2 + 1 + i)] ++ rowsE kd1 k n, m.1.2 + n + n * k), m.2)
/-- new int[a][b][c]: the outer, then each middle one with its rows behind it -/
def mid3 (h b c : Nat) : Nat → Shp
  | 0 => []
  | i + 1 => mid3 h b c i ++ ([(106, b, (List.range b).map fun j => h + i * (b + 1) + 1 + j)] ++ rowsE 100 c b)
def new3E (m : Mem) (a b c : Nat) : Mem := ((m.1.1 ++ [(107, a, (List.range a).map fun i => m.1.1.length + 2 + 1 + i * (b + 1))] ++ mid3 (m.1.1.length + 2 + 1) b c a, m.1.2 + a + a * (b + b * c)), m.2)
def setR (g : Shp × Nat) (k i v : Nat) : Shp × Nat := (g.1.set (k - 2) ((ent g k).1, (ent g k).2.1, (((List.range (i + 1)).map fun j => (ent g k).2.2.getD j 0) ++ (ent g k).2.2.drop (i + 1)).set i v), g.2)
def cpy (D : Dat) (a sp b dp n : Nat) : Dat := fun k i => if k = b ∧ dp ≤ i ∧ i < dp + n then D a (sp + (i - dp)) else D k i
abbrev CodeF : Type := Nat → Option (Nat × Op)
