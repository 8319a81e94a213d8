/-! RUNNING THE SMALL MACHINE: blocks of instructions, by rewriting -/
def gL (ls : List MV) (i : Nat) : MV := ls.getD i vu
theorem gL_0 {a0 : MV} {l : List MV} : gL (a0 :: l) 0 = a0 := rfl
theorem p1_0 {a0 v : MV} {l : List MV} : put1 (a0 :: l) 0 v = v :: l := rfl
theorem p2_0 {a0 a1 v : MV} {l : List MV} : put2 (a0 :: a1 :: l) 0 v = v :: vu :: l := rfl
theorem gL_1 {a0 a1 : MV} {l : List MV} : gL (a0 :: a1 :: l) 1 = a1 := rfl
theorem p1_1 {a0 a1 v : MV} {l : List MV} : put1 (a0 :: a1 :: l) 1 v = (if isL a0 = true then vu else a0) :: v :: l := by
  unfold put1 clrL
  by_cases h : isL a0 = true
  · rw [if_pos h]; show List.set (if isL a0 = true then _ else _) _ _ = _; rw [if_pos h]; rfl
  · rw [if_neg h]; show List.set (if isL a0 = true then _ else _) _ _ = _; rw [if_neg h]; rfl
theorem p2_1 {a0 a1 w v : MV} {l : List MV} : put2 (a0 :: a1 :: w :: l) 1 v = (if isL a0 = true then vu else a0) :: v :: vu :: l := by
  unfold put2 clrL
  by_cases h : isL a0 = true
  · rw [if_pos h]; show List.set (List.set (if isL a0 = true then _ else _) _ _) _ _ = _; rw [if_pos h]; rfl
  · rw [if_neg h]; show List.set (List.set (if isL a0 = true then _ else _) _ _) _ _ = _; rw [if_neg h]; rfl
theorem gL_2 {a0 a1 a2 : MV} {l : List MV} : gL (a0 :: a1 :: a2 :: l) 2 = a2 := rfl
theorem p1_2 {a0 a1 a2 v : MV} {l : List MV} : put1 (a0 :: a1 :: a2 :: l) 2 v = a0 :: (if isL a1 = true then vu else a1) :: v :: l := by
  unfold put1 clrL
  by_cases h : isL a1 = true
  · rw [if_pos h]; show List.set (if isL a1 = true then _ else _) _ _ = _; rw [if_pos h]; rfl
  · rw [if_neg h]; show List.set (if isL a1 = true then _ else _) _ _ = _; rw [if_neg h]; rfl
theorem p2_2 {a0 a1 a2 w v : MV} {l : List MV} : put2 (a0 :: a1 :: a2 :: w :: l) 2 v = a0 :: (if isL a1 = true then vu else a1) :: v :: vu :: l := by
  unfold put2 clrL
  by_cases h : isL a1 = true
  · rw [if_pos h]; show List.set (List.set (if isL a1 = true then _ else _) _ _) _ _ = _; rw [if_pos h]; rfl
  · rw [if_neg h]; show List.set (List.set (if isL a1 = true then _ else _) _ _) _ _ = _; rw [if_neg h]; rfl
theorem gL_3 {a0 a1 a2 a3 : MV} {l : List MV} : gL (a0 :: a1 :: a2 :: a3 :: l) 3 = a3 := rfl
theorem p1_3 {a0 a1 a2 a3 v : MV} {l : List MV} : put1 (a0 :: a1 :: a2 :: a3 :: l) 3 v = a0 :: a1 :: (if isL a2 = true then vu else a2) :: v :: l := by
  unfold put1 clrL
  by_cases h : isL a2 = true
  · rw [if_pos h]; show List.set (if isL a2 = true then _ else _) _ _ = _; rw [if_pos h]; rfl
  · rw [if_neg h]; show List.set (if isL a2 = true then _ else _) _ _ = _; rw [if_neg h]; rfl
theorem p2_3 {a0 a1 a2 a3 w v : MV} {l : List MV} : put2 (a0 :: a1 :: a2 :: a3 :: w :: l) 3 v = a0 :: a1 :: (if isL a2 = true then vu else a2) :: v :: vu :: l := by
  unfold put2 clrL
  by_cases h : isL a2 = true
  · rw [if_pos h]; show List.set (List.set (if isL a2 = true then _ else _) _ _) _ _ = _; rw [if_pos h]; rfl
  · rw [if_neg h]; show List.set (List.set (if isL a2 = true then _ else _) _ _) _ _ = _; rw [if_neg h]; rfl
theorem gL_4 {a0 a1 a2 a3 a4 : MV} {l : List MV} : gL (a0 :: a1 :: a2 :: a3 :: a4 :: l) 4 = a4 := rfl
theorem p1_4 {a0 a1 a2 a3 a4 v : MV} {l : List MV} : put1 (a0 :: a1 :: a2 :: a3 :: a4 :: l) 4 v = a0 :: a1 :: a2 :: (if isL a3 = true then vu else a3) :: v :: l := by
  unfold put1 clrL
  by_cases h : isL a3 = true
  · rw [if_pos h]; show List.set (if isL a3 = true then _ else _) _ _ = _; rw [if_pos h]; rfl
  · rw [if_neg h]; show List.set (if isL a3 = true then _ else _) _ _ = _; rw [if_neg h]; rfl
theorem p2_4 {a0 a1 a2 a3 a4 w v : MV} {l : List MV} : put2 (a0 :: a1 :: a2 :: a3 :: a4 :: w :: l) 4 v = a0 :: a1 :: a2 :: (if isL a3 = true then vu else a3) :: v :: vu :: l := by
  unfold put2 clrL
  by_cases h : isL a3 = true
  · rw [if_pos h]; show List.set (List.set (if isL a3 = true then _ else _) _ _) _ _ = _; rw [if_pos h]; rfl
  · rw [if_neg h]; show List.set (List.set (if isL a3 = true then _ else _) _ _) _ _ = _; rw [if_neg h]; rfl
theorem gL_5 {a0 a1 a2 a3 a4 a5 : MV} {l : List MV} : gL (a0 :: a1 :: a2 :: a3 :: a4 :: a5 :: l) 5 = a5 := rfl
theorem p1_5 {a0 a1 a2 a3 a4 a5 v : MV} {l : List MV} : put1 (a0 :: a1 :: a2 :: a3 :: a4 :: a5 :: l) 5 v = a0 :: a1 :: a2 :: a3 :: (if isL a4 = true then vu else a4) :: v :: l := by
  unfold put1 clrL
  by_cases h : isL a4 = true
  · rw [if_pos h]; show List.set (if isL a4 = true then _ else _) _ _ = _; rw [if_pos h]; rfl
  · rw [if_neg h]; show List.set (if isL a4 = true then _ else _) _ _ = _; rw [if_neg h]; rfl
theorem p2_5 {a0 a1 a2 a3 a4 a5 w v : MV} {l : List MV} : put2 (a0 :: a1 :: a2 :: a3 :: a4 :: a5 :: w :: l) 5 v = a0 :: a1 :: a2 :: a3 :: (if isL a4 = true then vu else a4) :: v :: vu :: l := by
  unfold put2 clrL
  by_cases h : isL a4 = true
  · rw [if_pos h]; show List.set (List.set (if isL a4 = true then _ else _) _ _) _ _ = _; rw [if_pos h]; rfl
  · rw [if_neg h]; show List.set (List.set (if isL a4 = true then _ else _) _ _) _ _ = _; rw [if_neg h]; rfl
theorem gL_6 {a0 a1 a2 a3 a4 a5 a6 : MV} {l : List MV} : gL (a0 :: a1 :: a2 :: a3 :: a4 :: a5 :: a6 :: l) 6 = a6 := rfl
theorem p1_6 {a0 a1 a2 a3 a4 a5 a6 v : MV} {l : List MV} : put1 (a0 :: a1 :: a2 :: a3 :: a4 :: a5 :: a6 :: l) 6 v = a0 :: a1 :: a2 :: a3 :: a4 :: (if isL a5 = true then vu else a5) :: v :: l := by
  unfold put1 clrL
  by_cases h : isL a5 = true
  · rw [if_pos h]; show List.set (if isL a5 = true then _ else _) _ _ = _; rw [if_pos h]; rfl
  · rw [if_neg h]; show List.set (if isL a5 = true then _ else _) _ _ = _; rw [if_neg h]; rfl
theorem p2_6 {a0 a1 a2 a3 a4 a5 a6 w v : MV} {l : List MV} : put2 (a0 :: a1 :: a2 :: a3 :: a4 :: a5 :: a6 :: w :: l) 6 v = a0 :: a1 :: a2 :: a3 :: a4 :: (if isL a5 = true then vu else a5) :: v :: vu :: l := by
  unfold put2 clrL
  by_cases h : isL a5 = true
  · rw [if_pos h]; show List.set (List.set (if isL a5 = true then _ else _) _ _) _ _ = _; rw [if_pos h]; rfl
  · rw [if_neg h]; show List.set (List.set (if isL a5 = true then _ else _) _ _) _ _ = _; rw [if_neg h]; rfl
theorem gL_7 {a0 a1 a2 a3 a4 a5 a6 a7 : MV} {l : List MV} : gL (a0 :: a1 :: a2 :: a3 :: a4 :: a5 :: a6 :: a7 :: l) 7 = a7 := rfl
theorem p1_7 {a0 a1 a2 a3 a4 a5 a6 a7 v : MV} {l : List MV} : put1 (a0 :: a1 :: a2 :: a3 :: a4 :: a5 :: a6 :: a7 :: l) 7 v = a0 :: a1 :: a2 :: a3 :: a4 :: a5 :: (if isL a6 = true then vu else a6) :: v :: l := by
  unfold put1 clrL
  by_cases h : isL a6 = true
  · rw [if_pos h]; show List.set (if isL a6 = true then _ else _) _ _ = _; rw [if_pos h]; rfl
  · rw [if_neg h]; show List.set (if isL a6 = true then _ else _) _ _ = _; rw [if_neg h]; rfl
theorem p2_7 {a0 a1 a2 a3 a4 a5 a6 a7 w v : MV} {l : List MV} : put2 (a0 :: a1 :: a2 :: a3 :: a4 :: a5 :: a6 :: a7 :: w :: l) 7 v = a0 :: a1 :: a2 :: a3 :: a4 :: a5 :: (if isL a6 = true then vu else a6) :: v :: vu :: l := by
  unfold put2 clrL
  by_cases h : isL a6 = true
  · rw [if_pos h]; show List.set (List.set (if isL a6 = true then _ else _) _ _) _ _ = _; rw [if_pos h]; rfl
  · rw [if_neg h]; show List.set (List.set (if isL a6 = true then _ else _) _ _) _ _ = _; rw [if_neg h]; rfl
theorem gL_8 {a0 a1 a2 a3 a4 a5 a6 a7 a8 : MV} {l : List MV} : gL (a0 :: a1 :: a2 :: a3 :: a4 :: a5 :: a6 :: a7 :: a8 :: l) 8 = a8 := rfl
theorem p1_8 {a0 a1 a2 a3 a4 a5 a6 a7 a8 v : MV} {l : List MV} : put1 (a0 :: a1 :: a2 :: a3 :: a4 :: a5 :: a6 :: a7 :: a8 :: l) 8 v = a0 :: a1 :: a2 :: a3 :: a4 :: a5 :: a6 :: (if isL a7 = true then vu else a7) :: v :: l := by
  unfold put1 clrL
  by_cases h : isL a7 = true
  · rw [if_pos h]; show List.set (if isL a7 = true then _ else _) _ _ = _; rw [if_pos h]; rfl
  · rw [if_neg h]; show List.set (if isL a7 = true then _ else _) _ _ = _; rw [if_neg h]; rfl
theorem p2_8 {a0 a1 a2 a3 a4 a5 a6 a7 a8 w v : MV} {l : List MV} : put2 (a0 :: a1 :: a2 :: a3 :: a4 :: a5 :: a6 :: a7 :: a8 :: w :: l) 8 v = a0 :: a1 :: a2 :: a3 :: a4 :: a5 :: a6 :: (if isL a7 = true then vu else a7) :: v :: vu :: l := by
  unfold put2 clrL
  by_cases h : isL a7 = true
  · rw [if_pos h]; show List.set (List.set (if isL a7 = true then _ else _) _ _) _ _ = _; rw [if_pos h]; rfl
  · rw [if_neg h]; show List.set (List.set (if isL a7 = true then _ else _) _ _) _ _ = _; rw [if_neg h]; rfl
theorem gL_9 {a0 a1 a2 a3 a4 a5 a6 a7 a8 a9 : MV} {l : List MV} : gL (a0 :: a1 :: a2 :: a3 :: a4 :: a5 :: a6 :: a7 :: a8 :: a9 :: l) 9 = a9 := rfl
theorem p1_9 {a0 a1 a2 a3 a4 a5 a6 a7 a8 a9 v : MV} {l : List MV} : put1 (a0 :: a1 :: a2 :: a3 :: a4 :: a5 :: a6 :: a7 :: a8 :: a9 :: l) 9 v = a0 :: a1 :: a2 :: a3 :: a4 :: a5 :: a6 :: a7 :: (if isL a8 = true then vu else a8) :: v :: l := by
  unfold put1 clrL
  by_cases h : isL a8 = true
  · rw [if_pos h]; show List.set (if isL a8 = true then _ else _) _ _ = _; rw [if_pos h]; rfl
  · rw [if_neg h]; show List.set (if isL a8 = true then _ else _) _ _ = _; rw [if_neg h]; rfl
theorem p2_9 {a0 a1 a2 a3 a4 a5 a6 a7 a8 a9 w v : MV} {l : List MV} : put2 (a0 :: a1 :: a2 :: a3 :: a4 :: a5 :: a6 :: a7 :: a8 :: a9 :: w :: l) 9 v = a0 :: a1 :: a2 :: a3 :: a4 :: a5 :: a6 :: a7 :: (if isL a8 = true then vu else a8) :: v :: vu :: l := by
  unfold put2 clrL
  by_cases h : isL a8 = true
  · rw [if_pos h]; show List.set (List.set (if isL a8 = true then _ else _) _ _) _ _ = _; rw [if_pos h]; rfl
  · rw [if_neg h]; show List.set (List.set (if isL a8 = true then _ else _) _ _) _ _ = _; rw [if_neg h]; rfl
theorem gL_10 {a0 a1 a2 a3 a4 a5 a6 a7 a8 a9 a10 : MV} {l : List MV} : gL (a0 :: a1 :: a2 :: a3 :: a4 :: a5 :: a6 :: a7 :: a8 :: a9 :: a10 :: l) 10 = a10 := rfl
theorem p1_10 {a0 a1 a2 a3 a4 a5 a6 a7 a8 a9 a10 v : MV} {l : List MV} : put1 (a0 :: a1 :: a2 :: a3 :: a4 :: a5 :: a6 :: a7 :: a8 :: a9 :: a10 :: l) 10 v = a0 :: a1 :: a2 :: a3 :: a4 :: a5 :: a6 :: a7 :: a8 :: (if isL a9 = true then vu else a9) :: v :: l := by
  unfold put1 clrL
  by_cases h : isL a9 = true
  · rw [if_pos h]; show List.set (if isL a9 = true then _ else _) _ _ = _; rw [if_pos h]; rfl
  · rw [if_neg h]; show List.set (if isL a9 = true then _ else _) _ _ = _; rw [if_neg h]; rfl
theorem p2_10 {a0 a1 a2 a3 a4 a5 a6 a7 a8 a9 a10 w v : MV} {l : List MV} : put2 (a0 :: a1 :: a2 :: a3 :: a4 :: a5 :: a6 :: a7 :: a8 :: a9 :: a10 :: w :: l) 10 v = a0 :: a1 :: a2 :: a3 :: a4 :: a5 :: a6 :: a7 :: a8 :: (if isL a9 = true then vu else a9) :: v :: vu :: l := by
  unfold put2 clrL
  by_cases h : isL a9 = true
  · rw [if_pos h]; show List.set (List.set (if isL a9 = true then _ else _) _ _) _ _ = _; rw [if_pos h]; rfl
  · rw [if_neg h]; show List.set (List.set (if isL a9 = true then _ else _) _ _) _ _ = _; rw [if_neg h]; rfl
theorem gL_11 {a0 a1 a2 a3 a4 a5 a6 a7 a8 a9 a10 a11 : MV} {l : List MV} : gL (a0 :: a1 :: a2 :: a3 :: a4 :: a5 :: a6 :: a7 :: a8 :: a9 :: a10 :: a11 :: l) 11 = a11 := rfl
theorem p1_11 {a0 a1 a2 a3 a4 a5 a6 a7 a8 a9 a10 a11 v : MV} {l : List MV} : put1 (a0 :: a1 :: a2 :: a3 :: a4 :: a5 :: a6 :: a7 :: a8 :: a9 :: a10 :: a11 :: l) 11 v = a0 :: a1 :: a2 :: a3 :: a4 :: a5 :: a6 :: a7 :: a8 :: a9 :: (if isL a10 = true then vu else a10) :: v :: l := by
  unfold put1 clrL
  by_cases h : isL a10 = true
  · rw [if_pos h]; show List.set (if isL a10 = true then _ else _) _ _ = _; rw [if_pos h]; rfl
  · rw [if_neg h]; show List.set (if isL a10 = true then _ else _) _ _ = _; rw [if_neg h]; rfl
theorem p2_11 {a0 a1 a2 a3 a4 a5 a6 a7 a8 a9 a10 a11 w v : MV} {l : List MV} : put2 (a0 :: a1 :: a2 :: a3 :: a4 :: a5 :: a6 :: a7 :: a8 :: a9 :: a10 :: a11 :: w :: l) 11 v = a0 :: a1 :: a2 :: a3 :: a4 :: a5 :: a6 :: a7 :: a8 :: a9 :: (if isL a10 = true then vu else a10) :: v :: vu :: l := by
  unfold put2 clrL
  by_cases h : isL a10 = true
  · rw [if_pos h]; show List.set (List.set (if isL a10 = true then _ else _) _ _) _ _ = _; rw [if_pos h]; rfl
  · rw [if_neg h]; show List.set (List.set (if isL a10 = true then _ else _) _ _) _ _ = _; rw [if_neg h]; rfl
theorem gL_12 {a0 a1 a2 a3 a4 a5 a6 a7 a8 a9 a10 a11 a12 : MV} {l : List MV} : gL (a0 :: a1 :: a2 :: a3 :: a4 :: a5 :: a6 :: a7 :: a8 :: a9 :: a10 :: a11 :: a12 :: l) 12 = a12 := rfl
theorem p1_12 {a0 a1 a2 a3 a4 a5 a6 a7 a8 a9 a10 a11 a12 v : MV} {l : List MV} : put1 (a0 :: a1 :: a2 :: a3 :: a4 :: a5 :: a6 :: a7 :: a8 :: a9 :: a10 :: a11 :: a12 :: l) 12 v = a0 :: a1 :: a2 :: a3 :: a4 :: a5 :: a6 :: a7 :: a8 :: a9 :: a10 :: (if isL a11 = true then vu else a11) :: v :: l := by
  unfold put1 clrL
  by_cases h : isL a11 = true
  · rw [if_pos h]; show List.set (if isL a11 = true then _ else _) _ _ = _; rw [if_pos h]; rfl
  · rw [if_neg h]; show List.set (if isL a11 = true then _ else _) _ _ = _; rw [if_neg h]; rfl
theorem p2_12 {a0 a1 a2 a3 a4 a5 a6 a7 a8 a9 a10 a11 a12 w v : MV} {l : List MV} : put2 (a0 :: a1 :: a2 :: a3 :: a4 :: a5 :: a6 :: a7 :: a8 :: a9 :: a10 :: a11 :: a12 :: w :: l) 12 v = a0 :: a1 :: a2 :: a3 :: a4 :: a5 :: a6 :: a7 :: a8 :: a9 :: a10 :: (if isL a11 = true then vu else a11) :: v :: vu :: l := by
  unfold put2 clrL
  by_cases h : isL a11 = true
  · rw [if_pos h]; show List.set (List.set (if isL a11 = true then _ else _) _ _) _ _ = _; rw [if_pos h]; rfl
  · rw [if_neg h]; show List.set (List.set (if isL a11 = true then _ else _) _ _) _ _ = _; rw [if_neg h]; rfl
theorem isL_i {x : Int} : isL (vi x) = false := rfl
theorem isL_l {x : Int} : isL (vl x) = true := rfl
theorem isL_r {x : Nat} : isL (vr x) = false := rfl
theorem isL_u : isL vu = false := rfl
theorem cs_n : catSum [] = 0 := rfl
theorem cs_i {x : Int} {st : List MV} : catSum (vi x :: st) = 1 + catSum st := rfl
theorem cs_l {x : Int} {st : List MV} : catSum (vl x :: st) = 2 + catSum st := rfl
theorem cs_r {x : Nat} {st : List MV} : catSum (vr x :: st) = 1 + catSum st := rfl
theorem tl_s {v : MV} {st : List MV} : (some v).toList ++ st = v :: st := rfl
theorem tl_n {st : List MV} : (none : Option MV).toList ++ st = st := rfl
def exL (J : Nat → List MV → List MV → Mem → Prop) (Q : Option MV → Mem → Prop) (C : CallP) : Nat → List (Nat × Op) → List MV → List MV → Mem → Prop
  | pc, [], ls, st, m => J pc ls st m
  | pc, q :: r, ls, st, m => sem1 (exL J Q C (pc + q.1) r) J Q C (step1 q.2 ls st m)
def eqO (x : Option (Nat × Op)) (q : Nat × Op) : Bool := match x with | some a => decide (a.1 = q.1) && decide (a.2 = q.2) | none => false
theorem eqO_t {x : Option (Nat × Op)} {q : Nat × Op} (h : eqO x q = true) : x = some q := by
  unfold eqO at h
  split at h
  · rename_i a
    rw [Bool.and_eq_true, decide_eq_true_eq, decide_eq_true_eq] at h
    exact congrArg some (Prod.ext h.1 h.2)
  · cases h
def blkB (j : Nat) : Nat → List (Nat × Op) → Bool
  | _, [] => true
  | pc, q :: r => eqO (FC j pc) q && blkB j (pc + q.1) r
abbrev CG : Nat → CallP := CallG FC Yl
def Rn (d j : Nat) (k : Option MV → Mem → Prop) (pc : Nat) (ls st : List MV) (m : Mem) : Prop := Run (FC j) (CG d) k pc ls st m
theorem go {d j : Nat} {k : Option MV → Mem → Prop} : ∀ (blk : List (Nat × Op)) {pc : Nat} {ls st : List MV} {m : Mem}, blkB j pc blk = true → exL (Rn d j k) k (CG d) pc blk ls st m → Rn d j k pc ls st m
  | [], pc, ls, st, m, _, h => h
  | q :: r, pc, ls, st, m, hb, h => by
    unfold blkB at hb
    rw [Bool.and_eq_true] at hb
    have hb1 : FC j pc = some q := eqO_t hb.1
    refine Run.fold (CallG.mono d) ?_
    unfold stepX
    rw [hb1]
    exact sem1_mono (CallG.mono d) (fun ls st m h => go r hb.2 h) (fun _ _ _ _ h => h) (fun _ _ h => h) h
theorem enter {d j : Nat} {as : List MV} {m : Mem} {k : Option MV → Mem → Prop} (hl : (padL as (Yl j)).length = Yl j) (h : Rn d j k 0 (padL as (Yl j)) [] m) : CG (d + 1) j as m k := ⟨hl, h⟩
/-- unfolding, the other way -/
theorem Run.unfold {F : CodeF} {C : CallP} {Q : Option MV → Mem → Prop} (hC : ∀ j as m k k', C j as m k → (∀ r m', k r m' → k' r m') → C j as m k') {pc : Nat} {ls st : List MV} {m : Mem} (h : Run F C Q pc ls st m) : stepX F C Q (Run F C Q) pc ls st m :=
  h (fun pc ls st m => stepX F C Q (Run F C Q) pc ls st m) (fun pc ls st m hs => stepX_mono hC (fun pc ls st m h => Run.fold hC h) (fun _ _ h => h) hs)
theorem sem1_two {C : CallP} (hD : ∀ j as m k1 k2, C j as m k1 → C j as m k2 → C j as m (fun r m' => k1 r m' ∧ k2 r m')) (hC : ∀ j as m k k', C j as m k → (∀ r m', k r m' → k' r m') → C j as m k') {Q1 Q2 Q : Option MV → Mem → Prop} {N1 N2 N : List MV → List MV → Mem → Prop} {J1 J2 J : Nat → List MV → List MV → Mem → Prop} (hN : ∀ ls st m, N1 ls st m → N2 ls st m → N ls st m) (hJ : ∀ t ls st m, J1 t ls st m → J2 t ls st m → J t ls st m) (hQ : ∀ r m, Q1 r m → Q2 r m → Q r m) {o : Option Out} (h1 : sem1 N1 J1 Q1 C o) (h2 : sem1 N2 J2 Q2 C o) : sem1 N J Q C o := by
  match o, h1, h2 with
  | some (.inl x), h1, h2 => exact hN _ _ _ h1 h2
  | some (.inr (.inl x)), h1, h2 => exact hJ _ _ _ _ h1 h2
  | some (.inr (.inr (.inl x))), h1, h2 => exact hQ _ _ h1 h2
  | some (.inr (.inr (.inr x))), h1, h2 => exact hC _ _ _ _ _ (hD _ _ _ _ _ h1 h2) (fun r m' h => hN _ _ _ h.1 h.2)
theorem Run.two {F : CodeF} {C : CallP} (hD : ∀ j as m k1 k2, C j as m k1 → C j as m k2 → C j as m (fun r m' => k1 r m' ∧ k2 r m')) (hC : ∀ j as m k k', C j as m k → (∀ r m', k r m' → k' r m') → C j as m k') {Q1 Q2 : Option MV → Mem → Prop} {pc : Nat} {ls st : List MV} {m : Mem} (h1 : Run F C Q1 pc ls st m) : Run F C Q2 pc ls st m → Run F C (fun r m' => Q1 r m' ∧ Q2 r m') pc ls st m := by
  refine h1 (fun pc ls st m => Run F C Q2 pc ls st m → Run F C (fun r m' => Q1 r m' ∧ Q2 r m') pc ls st m) (fun pc ls st m hs h2 => ?_)
  have h3 := Run.unfold hC h2
  refine Run.fold hC ?_
  unfold stepX at hs h3 ⊢
  cases hf : F pc with
  | none => rw [hf] at hs; exact hs.elim
  | some q =>
    rw [hf] at hs h3
    exact sem1_two hD hC (fun ls st m a b => a b) (fun t ls st m a b => a b) (fun r m a b => ⟨a, b⟩) hs h3
theorem CallG.two {F : Nat → CodeF} {ml : Nat → Nat} : ∀ (d : Nat) (j : Nat) (as : List MV) (m : Mem) (k1 k2 : Option MV → Mem → Prop), CallG F ml d j as m k1 → CallG F ml d j as m k2 → CallG F ml d j as m (fun r m' => k1 r m' ∧ k2 r m')
  | 0, _, _, _, _, _, h, _ => h
  | d + 1, _, _, _, _, _, h1, h2 => ⟨h1.1, Run.two (CallG.two d) (CallG.mono d) h1.2 h2.2⟩
/-- a call whose one outcome is known, as an equation -/
theorem CG_eq {d j : Nat} {as : List MV} {m m' : Mem} {r : Option MV} {k : Option MV → Mem → Prop} (h : CG d j as m (fun r' m'' => r' = r ∧ m'' = m')) : CG d j as m k = k r m' := by
  apply propext
  constructor
  · intro hk
    obtain ⟨r2, m2, ⟨h1, h2, h3⟩, -⟩ := CallG.det d j as m _ (CallG.two d j as m _ _ hk h)
    rw [← h2, ← h3]; exact h1
  · intro hk
    exact CallG.mono d j as m _ _ h (fun r' m'' e => by obtain ⟨rfl, rfl⟩ := e; exact hk)
section VC
variable {J : Nat → List MV → List MV → Mem → Prop} {Q : Option MV → Mem → Prop} {C : CallP} {pc n : Nat} {a : Int} {b : Nat} {t : List (Int × Nat)} {r : List (Nat × Op)} {ls st : List MV} {m : Mem} {G : Shp × Nat} {D : Dat}
theorem x_nil  : exL J Q C pc [] ls st m = J pc ls st m := propext Iff.rfl
theorem x_0  : exL J Q C pc ((n, 0, a, b, t) :: r) ls st m = exL J Q C (pc + n) r ls (vi a :: st) m := propext Iff.rfl
theorem x_1  : exL J Q C pc ((n, 1, a, b, t) :: r) ls st m = exL J Q C (pc + n) r ls (vl a :: st) m := propext Iff.rfl
theorem x_2  : exL J Q C pc ((n, 2, a, b, t) :: r) ls st m = (match gL ls b with | .inl x => exL J Q C (pc + n) r ls (vi x :: st) m | _ => False) := by
  show sem1 _ _ _ _ (q_iload b ls st m) = _
  unfold q_iload gL
  split <;> simp_all [sem1]
theorem x_3  : exL J Q C pc ((n, 3, a, b, t) :: r) ls st m = (match gL ls b with | .inr (.inl x) => exL J Q C (pc + n) r ls (vl x :: st) m | _ => False) := by
  show sem1 _ _ _ _ (q_lload b ls st m) = _
  unfold q_lload gL
  split <;> simp_all [sem1]
theorem x_4  : exL J Q C pc ((n, 4, a, b, t) :: r) ls st m = (match gL ls b with | .inr (.inr (.inl x)) => exL J Q C (pc + n) r ls (vr x :: st) m | _ => False) := by
  show sem1 _ _ _ _ (q_aload b ls st m) = _
  unfold q_aload gL
  split <;> simp_all [sem1]
theorem x_5 {x : Int} : exL J Q C pc ((n, 5, a, b, t) :: r) ls (vi x :: st) m = exL J Q C (pc + n) r (put1 ls b (vi x)) st m := propext Iff.rfl
theorem x_6 {x : Int} : exL J Q C pc ((n, 6, a, b, t) :: r) ls (vl x :: st) m = exL J Q C (pc + n) r (put2 ls b (vl x)) st m := propext Iff.rfl
theorem x_7 {x : Nat} : exL J Q C pc ((n, 7, a, b, t) :: r) ls (vr x :: st) m = exL J Q C (pc + n) r (put1 ls b (vr x)) st m := propext Iff.rfl
theorem x_8  : exL J Q C pc ((n, 8, a, b, t) :: r) ls st m = (match gL ls b with | .inl x => exL J Q C (pc + n) r (put1 ls b (vi (w32 (x + a)))) st m | _ => False) := by
  show sem1 _ _ _ _ (q_iinc b a ls st m) = _
  unfold q_iinc gL
  split <;> simp_all [sem1]
theorem x_9 {x y : Int} : exL J Q C pc ((n, 9, a, b, t) :: r) ls (vi y :: vi x :: st) m = exL J Q C (pc + n) r ls (vi (w32 (x + y)) :: st) m := propext Iff.rfl
theorem x_10 {x y : Int} : exL J Q C pc ((n, 10, a, b, t) :: r) ls (vi y :: vi x :: st) m = exL J Q C (pc + n) r ls (vi (w32 (x - y)) :: st) m := propext Iff.rfl
theorem x_11 {x y : Int} : exL J Q C pc ((n, 11, a, b, t) :: r) ls (vi y :: vi x :: st) m = exL J Q C (pc + n) r ls (vi (w32 (x * y)) :: st) m := propext Iff.rfl
theorem x_14 {x y : Int} : exL J Q C pc ((n, 14, a, b, t) :: r) ls (vi y :: vi x :: st) m = exL J Q C (pc + n) r ls (vi (i_and x y) :: st) m := propext Iff.rfl
theorem x_15 {x y : Int} : exL J Q C pc ((n, 15, a, b, t) :: r) ls (vi y :: vi x :: st) m = exL J Q C (pc + n) r ls (vi (i_shr x y) :: st) m := propext Iff.rfl
theorem x_16 {x y : Int} : exL J Q C pc ((n, 16, a, b, t) :: r) ls (vi y :: vi x :: st) m = exL J Q C (pc + n) r ls (vi (i_ushr x y) :: st) m := propext Iff.rfl
theorem x_17 {x y : Int} : exL J Q C pc ((n, 17, a, b, t) :: r) ls (vl y :: vl x :: st) m = exL J Q C (pc + n) r ls (vl (w64 (x + y)) :: st) m := propext Iff.rfl
theorem x_18 {x y : Int} : exL J Q C pc ((n, 18, a, b, t) :: r) ls (vl y :: vl x :: st) m = exL J Q C (pc + n) r ls (vl (w64 (x * y)) :: st) m := propext Iff.rfl
theorem x_21 {x y : Int} : exL J Q C pc ((n, 21, a, b, t) :: r) ls (vl y :: vl x :: st) m = exL J Q C (pc + n) r ls (vl (l_and x y) :: st) m := propext Iff.rfl
theorem x_22 {x y : Int} : exL J Q C pc ((n, 22, a, b, t) :: r) ls (vl y :: vl x :: st) m = exL J Q C (pc + n) r ls (vl (l_or x y) :: st) m := propext Iff.rfl
theorem x_12 {x y : Int} (h : y ≠ 0) : exL J Q C pc ((n, 12, a, b, t) :: r) ls (vi y :: vi x :: st) m = exL J Q C (pc + n) r ls (vi (w32 (x.tdiv y)) :: st) m := by
  show sem1 _ _ _ _ (q_ii (fun x y => if y = 0 then none else some (w32 (x.tdiv y))) ls (vi y :: vi x :: st) m) = _
  unfold q_ii
  dsimp only
  rw [if_neg h]
  rfl
theorem x_13 {x y : Int} (h : y ≠ 0) : exL J Q C pc ((n, 13, a, b, t) :: r) ls (vi y :: vi x :: st) m = exL J Q C (pc + n) r ls (vi (x.tmod y) :: st) m := by
  show sem1 _ _ _ _ (q_ii (fun x y => if y = 0 then none else some (x.tmod y)) ls (vi y :: vi x :: st) m) = _
  unfold q_ii
  dsimp only
  rw [if_neg h]
  rfl
theorem x_19 {x y : Int} (h : y ≠ 0) : exL J Q C pc ((n, 19, a, b, t) :: r) ls (vl y :: vl x :: st) m = exL J Q C (pc + n) r ls (vl (w64 (x.tdiv y)) :: st) m := by
  show sem1 _ _ _ _ (q_ll (fun x y => if y = 0 then none else some (w64 (x.tdiv y))) ls (vl y :: vl x :: st) m) = _
  unfold q_ll
  dsimp only
  rw [if_neg h]
  rfl
theorem x_20 {x y : Int} (h : y ≠ 0) : exL J Q C pc ((n, 20, a, b, t) :: r) ls (vl y :: vl x :: st) m = exL J Q C (pc + n) r ls (vl (x.tmod y) :: st) m := by
  show sem1 _ _ _ _ (q_ll (fun x y => if y = 0 then none else some (x.tmod y)) ls (vl y :: vl x :: st) m) = _
  unfold q_ll
  dsimp only
  rw [if_neg h]
  rfl
theorem x_23 {x y : Int} : exL J Q C pc ((n, 23, a, b, t) :: r) ls (vi y :: vl x :: st) m = exL J Q C (pc + n) r ls (vl (l_shl x y) :: st) m := propext Iff.rfl
theorem x_24_0t {x y : Int} {n2 b2 : Nat} {t2 : List (Int × Nat)} (h : x = y) : exL J Q C pc ((n, 24, a, b, t) :: (n2, 28, 0, b2, t2) :: r) ls (vl y :: vl x :: st) m = J b2 ls st m := by
  show sem1 _ _ _ _ (q_if 0 b2 ls (vi (if x < y then -1 else if x = y then 0 else 1) :: st) m) = _
  unfold q_if
  dsimp only
  rw [if_pos]
  · rfl
  · simp [cnd]; (repeat' split) <;> omega
theorem x_24_0f {x y : Int} {n2 b2 : Nat} {t2 : List (Int × Nat)} (h : x ≠ y) : exL J Q C pc ((n, 24, a, b, t) :: (n2, 28, 0, b2, t2) :: r) ls (vl y :: vl x :: st) m = exL J Q C (pc + n + n2) r ls st m := by
  show sem1 _ _ _ _ (q_if 0 b2 ls (vi (if x < y then -1 else if x = y then 0 else 1) :: st) m) = _
  unfold q_if
  dsimp only
  rw [if_neg]
  · rfl
  · simp [cnd]; (repeat' split) <;> omega
theorem x_24_1t {x y : Int} {n2 b2 : Nat} {t2 : List (Int × Nat)} (h : x ≠ y) : exL J Q C pc ((n, 24, a, b, t) :: (n2, 28, 1, b2, t2) :: r) ls (vl y :: vl x :: st) m = J b2 ls st m := by
  show sem1 _ _ _ _ (q_if 1 b2 ls (vi (if x < y then -1 else if x = y then 0 else 1) :: st) m) = _
  unfold q_if
  dsimp only
  rw [if_pos]
  · rfl
  · simp [cnd]; (repeat' split) <;> omega
theorem x_24_1f {x y : Int} {n2 b2 : Nat} {t2 : List (Int × Nat)} (h : x = y) : exL J Q C pc ((n, 24, a, b, t) :: (n2, 28, 1, b2, t2) :: r) ls (vl y :: vl x :: st) m = exL J Q C (pc + n + n2) r ls st m := by
  show sem1 _ _ _ _ (q_if 1 b2 ls (vi (if x < y then -1 else if x = y then 0 else 1) :: st) m) = _
  unfold q_if
  dsimp only
  rw [if_neg]
  · rfl
  · simp [cnd]; (repeat' split) <;> omega
theorem x_24_2t {x y : Int} {n2 b2 : Nat} {t2 : List (Int × Nat)} (h : x < y) : exL J Q C pc ((n, 24, a, b, t) :: (n2, 28, 2, b2, t2) :: r) ls (vl y :: vl x :: st) m = J b2 ls st m := by
  show sem1 _ _ _ _ (q_if 2 b2 ls (vi (if x < y then -1 else if x = y then 0 else 1) :: st) m) = _
  unfold q_if
  dsimp only
  rw [if_pos]
  · rfl
  · simp [cnd]; (repeat' split) <;> omega
theorem x_24_2f {x y : Int} {n2 b2 : Nat} {t2 : List (Int × Nat)} (h : y ≤ x) : exL J Q C pc ((n, 24, a, b, t) :: (n2, 28, 2, b2, t2) :: r) ls (vl y :: vl x :: st) m = exL J Q C (pc + n + n2) r ls st m := by
  show sem1 _ _ _ _ (q_if 2 b2 ls (vi (if x < y then -1 else if x = y then 0 else 1) :: st) m) = _
  unfold q_if
  dsimp only
  rw [if_neg]
  · rfl
  · simp [cnd]; (repeat' split) <;> omega
theorem x_24_3t {x y : Int} {n2 b2 : Nat} {t2 : List (Int × Nat)} (h : y ≤ x) : exL J Q C pc ((n, 24, a, b, t) :: (n2, 28, 3, b2, t2) :: r) ls (vl y :: vl x :: st) m = J b2 ls st m := by
  show sem1 _ _ _ _ (q_if 3 b2 ls (vi (if x < y then -1 else if x = y then 0 else 1) :: st) m) = _
  unfold q_if
  dsimp only
  rw [if_pos]
  · rfl
  · simp [cnd]; (repeat' split) <;> omega
theorem x_24_3f {x y : Int} {n2 b2 : Nat} {t2 : List (Int × Nat)} (h : x < y) : exL J Q C pc ((n, 24, a, b, t) :: (n2, 28, 3, b2, t2) :: r) ls (vl y :: vl x :: st) m = exL J Q C (pc + n + n2) r ls st m := by
  show sem1 _ _ _ _ (q_if 3 b2 ls (vi (if x < y then -1 else if x = y then 0 else 1) :: st) m) = _
  unfold q_if
  dsimp only
  rw [if_neg]
  · rfl
  · simp [cnd]; (repeat' split) <;> omega
theorem x_24_4t {x y : Int} {n2 b2 : Nat} {t2 : List (Int × Nat)} (h : y < x) : exL J Q C pc ((n, 24, a, b, t) :: (n2, 28, 4, b2, t2) :: r) ls (vl y :: vl x :: st) m = J b2 ls st m := by
  show sem1 _ _ _ _ (q_if 4 b2 ls (vi (if x < y then -1 else if x = y then 0 else 1) :: st) m) = _
  unfold q_if
  dsimp only
  rw [if_pos]
  · rfl
  · simp [cnd]; (repeat' split) <;> omega
theorem x_24_4f {x y : Int} {n2 b2 : Nat} {t2 : List (Int × Nat)} (h : x ≤ y) : exL J Q C pc ((n, 24, a, b, t) :: (n2, 28, 4, b2, t2) :: r) ls (vl y :: vl x :: st) m = exL J Q C (pc + n + n2) r ls st m := by
  show sem1 _ _ _ _ (q_if 4 b2 ls (vi (if x < y then -1 else if x = y then 0 else 1) :: st) m) = _
  unfold q_if
  dsimp only
  rw [if_neg]
  · rfl
  · simp [cnd]; (repeat' split) <;> omega
theorem x_24_5t {x y : Int} {n2 b2 : Nat} {t2 : List (Int × Nat)} (h : x ≤ y) : exL J Q C pc ((n, 24, a, b, t) :: (n2, 28, 5, b2, t2) :: r) ls (vl y :: vl x :: st) m = J b2 ls st m := by
  show sem1 _ _ _ _ (q_if 5 b2 ls (vi (if x < y then -1 else if x = y then 0 else 1) :: st) m) = _
  unfold q_if
  dsimp only
  rw [if_pos]
  · rfl
  · simp [cnd]; (repeat' split) <;> omega
theorem x_24_5f {x y : Int} {n2 b2 : Nat} {t2 : List (Int × Nat)} (h : y < x) : exL J Q C pc ((n, 24, a, b, t) :: (n2, 28, 5, b2, t2) :: r) ls (vl y :: vl x :: st) m = exL J Q C (pc + n + n2) r ls st m := by
  show sem1 _ _ _ _ (q_if 5 b2 ls (vi (if x < y then -1 else if x = y then 0 else 1) :: st) m) = _
  unfold q_if
  dsimp only
  rw [if_neg]
  · rfl
  · simp [cnd]; (repeat' split) <;> omega
theorem x_25 {x : Int} : exL J Q C pc ((n, 25, a, b, t) :: r) ls (vi x :: st) m = exL J Q C (pc + n) r ls (vl x :: st) m := propext Iff.rfl
theorem x_26 {x : Int} : exL J Q C pc ((n, 26, a, b, t) :: r) ls (vl x :: st) m = exL J Q C (pc + n) r ls (vi (w32 x) :: st) m := propext Iff.rfl
theorem x_27 {x : Int} (h0 : 0 ≤ x) (h1 : x < 65536) : exL J Q C pc ((n, 27, a, b, t) :: r) ls (vi x :: st) m = exL J Q C (pc + n) r ls (vi x :: st) m := by
  show sem1 _ _ _ _ (q_i2c ls (vi x :: st) m) = _
  unfold q_i2c
  dsimp only
  rw [if_pos ⟨h0, h1⟩]
  rfl
theorem x_28_0t {x : Int} (h : x = 0) : exL J Q C pc ((n, 28, 0, b, t) :: r) ls (vi x :: st) m = J b ls st m := by
  show sem1 _ _ _ _ (q_if 0 b ls (vi x :: st) m) = _
  unfold q_if
  dsimp only
  rw [if_pos]
  · rfl
  · simp [cnd]; omega
theorem x_28_0f {x : Int} (h : x ≠ 0) : exL J Q C pc ((n, 28, 0, b, t) :: r) ls (vi x :: st) m = exL J Q C (pc + n) r ls st m := by
  show sem1 _ _ _ _ (q_if 0 b ls (vi x :: st) m) = _
  unfold q_if
  dsimp only
  rw [if_neg]
  · rfl
  · simp [cnd]; omega
theorem x_29_0t {x y : Int} (h : x = y) : exL J Q C pc ((n, 29, 0, b, t) :: r) ls (vi y :: vi x :: st) m = J b ls st m := by
  show sem1 _ _ _ _ (q_icmp 0 b ls (vi y :: vi x :: st) m) = _
  unfold q_icmp
  dsimp only
  rw [if_pos]
  · rfl
  · simp [cnd]; omega
theorem x_29_0f {x y : Int} (h : x ≠ y) : exL J Q C pc ((n, 29, 0, b, t) :: r) ls (vi y :: vi x :: st) m = exL J Q C (pc + n) r ls st m := by
  show sem1 _ _ _ _ (q_icmp 0 b ls (vi y :: vi x :: st) m) = _
  unfold q_icmp
  dsimp only
  rw [if_neg]
  · rfl
  · simp [cnd]; omega
theorem x_28_1t {x : Int} (h : x ≠ 0) : exL J Q C pc ((n, 28, 1, b, t) :: r) ls (vi x :: st) m = J b ls st m := by
  show sem1 _ _ _ _ (q_if 1 b ls (vi x :: st) m) = _
  unfold q_if
  dsimp only
  rw [if_pos]
  · rfl
  · simp [cnd]; omega
theorem x_28_1f {x : Int} (h : x = 0) : exL J Q C pc ((n, 28, 1, b, t) :: r) ls (vi x :: st) m = exL J Q C (pc + n) r ls st m := by
  show sem1 _ _ _ _ (q_if 1 b ls (vi x :: st) m) = _
  unfold q_if
  dsimp only
  rw [if_neg]
  · rfl
  · simp [cnd]; omega
theorem x_29_1t {x y : Int} (h : x ≠ y) : exL J Q C pc ((n, 29, 1, b, t) :: r) ls (vi y :: vi x :: st) m = J b ls st m := by
  show sem1 _ _ _ _ (q_icmp 1 b ls (vi y :: vi x :: st) m) = _
  unfold q_icmp
  dsimp only
  rw [if_pos]
  · rfl
  · simp [cnd]; omega
theorem x_29_1f {x y : Int} (h : x = y) : exL J Q C pc ((n, 29, 1, b, t) :: r) ls (vi y :: vi x :: st) m = exL J Q C (pc + n) r ls st m := by
  show sem1 _ _ _ _ (q_icmp 1 b ls (vi y :: vi x :: st) m) = _
  unfold q_icmp
  dsimp only
  rw [if_neg]
  · rfl
  · simp [cnd]; omega
theorem x_28_2t {x : Int} (h : x < 0) : exL J Q C pc ((n, 28, 2, b, t) :: r) ls (vi x :: st) m = J b ls st m := by
  show sem1 _ _ _ _ (q_if 2 b ls (vi x :: st) m) = _
  unfold q_if
  dsimp only
  rw [if_pos]
  · rfl
  · simp [cnd]; omega
theorem x_28_2f {x : Int} (h : 0 ≤ x) : exL J Q C pc ((n, 28, 2, b, t) :: r) ls (vi x :: st) m = exL J Q C (pc + n) r ls st m := by
  show sem1 _ _ _ _ (q_if 2 b ls (vi x :: st) m) = _
  unfold q_if
  dsimp only
  rw [if_neg]
  · rfl
  · simp [cnd]; omega
theorem x_29_2t {x y : Int} (h : x < y) : exL J Q C pc ((n, 29, 2, b, t) :: r) ls (vi y :: vi x :: st) m = J b ls st m := by
  show sem1 _ _ _ _ (q_icmp 2 b ls (vi y :: vi x :: st) m) = _
  unfold q_icmp
  dsimp only
  rw [if_pos]
  · rfl
  · simp [cnd]; omega
theorem x_29_2f {x y : Int} (h : y ≤ x) : exL J Q C pc ((n, 29, 2, b, t) :: r) ls (vi y :: vi x :: st) m = exL J Q C (pc + n) r ls st m := by
  show sem1 _ _ _ _ (q_icmp 2 b ls (vi y :: vi x :: st) m) = _
  unfold q_icmp
  dsimp only
  rw [if_neg]
  · rfl
  · simp [cnd]; omega
theorem x_28_3t {x : Int} (h : 0 ≤ x) : exL J Q C pc ((n, 28, 3, b, t) :: r) ls (vi x :: st) m = J b ls st m := by
  show sem1 _ _ _ _ (q_if 3 b ls (vi x :: st) m) = _
  unfold q_if
  dsimp only
  rw [if_pos]
  · rfl
  · simp [cnd]; omega
theorem x_28_3f {x : Int} (h : x < 0) : exL J Q C pc ((n, 28, 3, b, t) :: r) ls (vi x :: st) m = exL J Q C (pc + n) r ls st m := by
  show sem1 _ _ _ _ (q_if 3 b ls (vi x :: st) m) = _
  unfold q_if
  dsimp only
  rw [if_neg]
  · rfl
  · simp [cnd]; omega
theorem x_29_3t {x y : Int} (h : y ≤ x) : exL J Q C pc ((n, 29, 3, b, t) :: r) ls (vi y :: vi x :: st) m = J b ls st m := by
  show sem1 _ _ _ _ (q_icmp 3 b ls (vi y :: vi x :: st) m) = _
  unfold q_icmp
  dsimp only
  rw [if_pos]
  · rfl
  · simp [cnd]; omega
theorem x_29_3f {x y : Int} (h : x < y) : exL J Q C pc ((n, 29, 3, b, t) :: r) ls (vi y :: vi x :: st) m = exL J Q C (pc + n) r ls st m := by
  show sem1 _ _ _ _ (q_icmp 3 b ls (vi y :: vi x :: st) m) = _
  unfold q_icmp
  dsimp only
  rw [if_neg]
  · rfl
  · simp [cnd]; omega
theorem x_28_4t {x : Int} (h : 0 < x) : exL J Q C pc ((n, 28, 4, b, t) :: r) ls (vi x :: st) m = J b ls st m := by
  show sem1 _ _ _ _ (q_if 4 b ls (vi x :: st) m) = _
  unfold q_if
  dsimp only
  rw [if_pos]
  · rfl
  · simp [cnd]; omega
theorem x_28_4f {x : Int} (h : x ≤ 0) : exL J Q C pc ((n, 28, 4, b, t) :: r) ls (vi x :: st) m = exL J Q C (pc + n) r ls st m := by
  show sem1 _ _ _ _ (q_if 4 b ls (vi x :: st) m) = _
  unfold q_if
  dsimp only
  rw [if_neg]
  · rfl
  · simp [cnd]; omega
theorem x_29_4t {x y : Int} (h : y < x) : exL J Q C pc ((n, 29, 4, b, t) :: r) ls (vi y :: vi x :: st) m = J b ls st m := by
  show sem1 _ _ _ _ (q_icmp 4 b ls (vi y :: vi x :: st) m) = _
  unfold q_icmp
  dsimp only
  rw [if_pos]
  · rfl
  · simp [cnd]; omega
theorem x_29_4f {x y : Int} (h : x ≤ y) : exL J Q C pc ((n, 29, 4, b, t) :: r) ls (vi y :: vi x :: st) m = exL J Q C (pc + n) r ls st m := by
  show sem1 _ _ _ _ (q_icmp 4 b ls (vi y :: vi x :: st) m) = _
  unfold q_icmp
  dsimp only
  rw [if_neg]
  · rfl
  · simp [cnd]; omega
theorem x_28_5t {x : Int} (h : x ≤ 0) : exL J Q C pc ((n, 28, 5, b, t) :: r) ls (vi x :: st) m = J b ls st m := by
  show sem1 _ _ _ _ (q_if 5 b ls (vi x :: st) m) = _
  unfold q_if
  dsimp only
  rw [if_pos]
  · rfl
  · simp [cnd]; omega
theorem x_28_5f {x : Int} (h : 0 < x) : exL J Q C pc ((n, 28, 5, b, t) :: r) ls (vi x :: st) m = exL J Q C (pc + n) r ls st m := by
  show sem1 _ _ _ _ (q_if 5 b ls (vi x :: st) m) = _
  unfold q_if
  dsimp only
  rw [if_neg]
  · rfl
  · simp [cnd]; omega
theorem x_29_5t {x y : Int} (h : x ≤ y) : exL J Q C pc ((n, 29, 5, b, t) :: r) ls (vi y :: vi x :: st) m = J b ls st m := by
  show sem1 _ _ _ _ (q_icmp 5 b ls (vi y :: vi x :: st) m) = _
  unfold q_icmp
  dsimp only
  rw [if_pos]
  · rfl
  · simp [cnd]; omega
theorem x_29_5f {x y : Int} (h : y < x) : exL J Q C pc ((n, 29, 5, b, t) :: r) ls (vi y :: vi x :: st) m = exL J Q C (pc + n) r ls st m := by
  show sem1 _ _ _ _ (q_icmp 5 b ls (vi y :: vi x :: st) m) = _
  unfold q_icmp
  dsimp only
  rw [if_neg]
  · rfl
  · simp [cnd]; omega
theorem x_30  : exL J Q C pc ((n, 30, a, b, t) :: r) ls st m = J b ls st m := propext Iff.rfl
theorem x_31 {x : Int} : exL J Q C pc ((n, 31, a, b, t) :: r) ls (vi x :: st) m = J (swt t b x) ls st m := propext Iff.rfl
theorem x_32 {k : Nat} (h : (kd G k : Int) = a) : exL J Q C pc ((n, 32, a, b, t) :: r) ls (vr k :: st) (G, D) = exL J Q C (pc + n) r ls (vi (D k b) :: st) (G, D) := by
  show sem1 _ _ _ _ (q_geti a b ls (vr k :: st) (G, D)) = _
  unfold q_geti
  dsimp only
  rw [if_pos h]
  rfl
theorem x_33 {k : Nat} (h : (kd G k : Int) = a) : exL J Q C pc ((n, 33, a, b, t) :: r) ls (vr k :: st) (G, D) = exL J Q C (pc + n) r ls (vr (rf G k b) :: st) (G, D) := by
  show sem1 _ _ _ _ (q_getr a b ls (vr k :: st) (G, D)) = _
  unfold q_getr
  dsimp only
  rw [if_pos h]
  rfl
theorem x_34 {k : Nat} {v : Int} (h : (kd G k : Int) = a) : exL J Q C pc ((n, 34, a, b, t) :: r) ls (vi v :: vr k :: st) (G, D) = exL J Q C (pc + n) r ls st (G, upD D k b v) := by
  show sem1 _ _ _ _ (q_puti a b ls (vi v :: vr k :: st) (G, D)) = _
  unfold q_puti
  dsimp only
  rw [if_pos h]
  rfl
theorem x_35 {k : Nat} {v : Int} (h : (kd G k : Int) = a) (h1 : v = 0 ∨ v = 1) : exL J Q C pc ((n, 35, a, b, t) :: r) ls (vi v :: vr k :: st) (G, D) = exL J Q C (pc + n) r ls st (G, upD D k b v) := by
  show sem1 _ _ _ _ (q_putz a b ls (vi v :: vr k :: st) (G, D)) = _
  unfold q_putz
  dsimp only
  rw [if_pos ⟨h, h1⟩]
  rfl
theorem x_37 {k : Nat} {i : Int} (h : kd G k = 100) (h0 : 0 ≤ i) (h1 : i < (ln G k : Int)) : exL J Q C pc ((n, 37, a, b, t) :: r) ls (vi i :: vr k :: st) (G, D) = exL J Q C (pc + n) r ls (vi (D k i.toNat) :: st) (G, D) := by
  show sem1 _ _ _ _ (q_ald 100 (fun k i => vi (D k i)) ls (vi i :: vr k :: st) (G, D)) = _
  unfold q_ald
  dsimp only
  rw [if_pos ⟨h, h0, h1⟩]
  rfl
theorem x_38 {k : Nat} {i : Int} (h : kd G k = 101) (h0 : 0 ≤ i) (h1 : i < (ln G k : Int)) : exL J Q C pc ((n, 38, a, b, t) :: r) ls (vi i :: vr k :: st) (G, D) = exL J Q C (pc + n) r ls (vl (D k i.toNat) :: st) (G, D) := by
  show sem1 _ _ _ _ (q_ald 101 (fun k i => vl (D k i)) ls (vi i :: vr k :: st) (G, D)) = _
  unfold q_ald
  dsimp only
  rw [if_pos ⟨h, h0, h1⟩]
  rfl
theorem x_39 {k : Nat} {i : Int} (h : kd G k = 102) (h0 : 0 ≤ i) (h1 : i < (ln G k : Int)) : exL J Q C pc ((n, 39, a, b, t) :: r) ls (vi i :: vr k :: st) (G, D) = exL J Q C (pc + n) r ls (vi (D k i.toNat) :: st) (G, D) := by
  show sem1 _ _ _ _ (q_ald 102 (fun k i => vi (D k i)) ls (vi i :: vr k :: st) (G, D)) = _
  unfold q_ald
  dsimp only
  rw [if_pos ⟨h, h0, h1⟩]
  rfl
theorem x_40 {k : Nat} {i : Int} (h : 103 ≤ kd G k) (h2 : kd G k ≤ 107) (h0 : 0 ≤ i) (h1 : i < (ln G k : Int)) : exL J Q C pc ((n, 40, a, b, t) :: r) ls (vi i :: vr k :: st) (G, D) = exL J Q C (pc + n) r ls (vr (rf G k i.toNat) :: st) (G, D) := by
  show sem1 _ _ _ _ (q_aald ls (vi i :: vr k :: st) (G, D)) = _
  unfold q_aald
  dsimp only
  rw [if_pos ⟨⟨h, h2⟩, h0, h1⟩]
  rfl
theorem x_41 {k : Nat} {i v : Int} (h : kd G k = 100) (h0 : 0 ≤ i) (h1 : i < (ln G k : Int)) : exL J Q C pc ((n, 41, a, b, t) :: r) ls (vi v :: vi i :: vr k :: st) (G, D) = exL J Q C (pc + n) r ls st (G, upD D k i.toNat v) := by
  show sem1 _ _ _ _ (q_iast ls (vi v :: vi i :: vr k :: st) (G, D)) = _
  unfold q_iast
  dsimp only
  rw [if_pos ⟨h, h0, h1⟩]
  rfl
theorem x_42 {k : Nat} {i v : Int} (h : kd G k = 101) (h0 : 0 ≤ i) (h1 : i < (ln G k : Int)) : exL J Q C pc ((n, 42, a, b, t) :: r) ls (vl v :: vi i :: vr k :: st) (G, D) = exL J Q C (pc + n) r ls st (G, upD D k i.toNat v) := by
  show sem1 _ _ _ _ (q_last ls (vl v :: vi i :: vr k :: st) (G, D)) = _
  unfold q_last
  dsimp only
  rw [if_pos ⟨h, h0, h1⟩]
  rfl
theorem x_43 {k : Nat} {i v : Int} (h : kd G k = 102) (v0 : 0 ≤ v) (v1 : v < 65536) (h0 : 0 ≤ i) (h1 : i < (ln G k : Int)) : exL J Q C pc ((n, 43, a, b, t) :: r) ls (vi v :: vi i :: vr k :: st) (G, D) = exL J Q C (pc + n) r ls st (G, upD D k i.toNat v) := by
  show sem1 _ _ _ _ (q_cast ls (vi v :: vi i :: vr k :: st) (G, D)) = _
  unfold q_cast
  dsimp only
  rw [if_pos ⟨h, ⟨v0, v1⟩, h0, h1⟩]
  rfl
theorem x_45 {k : Nat} (h : 100 ≤ kd G k) (h2 : kd G k ≤ 107) : exL J Q C pc ((n, 45, a, b, t) :: r) ls (vr k :: st) (G, D) = exL J Q C (pc + n) r ls (vi (ln G k) :: st) (G, D) := by
  show sem1 _ _ _ _ (q_alen ls (vr k :: st) (G, D)) = _
  unfold q_alen
  dsimp only
  rw [if_pos ⟨h, h2⟩]
  rfl
theorem x_63 {i : Int} (h0 : 0 ≤ i) (h1 : i < D 0 0) : exL J Q C pc ((n, 63, a, b, t) :: r) ls (vi i :: vr 1 :: st) (G, D) = exL J Q C (pc + n) r ls (vi (D 1 i.toNat) :: st) (G, D) := by
  show sem1 _ _ _ _ (q_sald ls (vi i :: vr 1 :: st) (G, D)) = _
  unfold q_sald
  dsimp only
  rw [if_pos ⟨rfl, h0, h1⟩]
  rfl
theorem x_64  : exL J Q C pc ((n, 64, a, b, t) :: r) ls (vr 1 :: st) (G, D) = exL J Q C (pc + n) r ls (vi (D 0 0) :: st) (G, D) := propext Iff.rfl
theorem x_51_0 (h : catSum st ≤ 8) : exL J Q C pc ((n, 51, 0, b, t) :: r) ls (st) m = C b [] m (fun v m' => exL J Q C (pc + n) r ls (v.toList ++ st) m') := by
  show sem1 _ _ _ _ (q_invS 0 b ls (st) m) = _
  unfold q_invS
  rw [if_pos ⟨by simp, h⟩]
  rfl
theorem x_51_1 {v0 : MV} (h : catSum st ≤ 8) : exL J Q C pc ((n, 51, 1, b, t) :: r) ls (v0 :: st) m = C b [v0] m (fun v m' => exL J Q C (pc + n) r ls (v.toList ++ st) m') := by
  show sem1 _ _ _ _ (q_invS 1 b ls (v0 :: st) m) = _
  unfold q_invS
  rw [if_pos ⟨by simp, h⟩]
  rfl
theorem x_51_2 {v0 v1 : MV} (h : catSum st ≤ 8) : exL J Q C pc ((n, 51, 2, b, t) :: r) ls (v1 :: v0 :: st) m = C b [v0, v1] m (fun v m' => exL J Q C (pc + n) r ls (v.toList ++ st) m') := by
  show sem1 _ _ _ _ (q_invS 2 b ls (v1 :: v0 :: st) m) = _
  unfold q_invS
  rw [if_pos ⟨by simp, h⟩]
  rfl
theorem x_51_3 {v0 v1 v2 : MV} (h : catSum st ≤ 8) : exL J Q C pc ((n, 51, 3, b, t) :: r) ls (v2 :: v1 :: v0 :: st) m = C b [v0, v1, v2] m (fun v m' => exL J Q C (pc + n) r ls (v.toList ++ st) m') := by
  show sem1 _ _ _ _ (q_invS 3 b ls (v2 :: v1 :: v0 :: st) m) = _
  unfold q_invS
  rw [if_pos ⟨by simp, h⟩]
  rfl
theorem x_51_4 {v0 v1 v2 v3 : MV} (h : catSum st ≤ 8) : exL J Q C pc ((n, 51, 4, b, t) :: r) ls (v3 :: v2 :: v1 :: v0 :: st) m = C b [v0, v1, v2, v3] m (fun v m' => exL J Q C (pc + n) r ls (v.toList ++ st) m') := by
  show sem1 _ _ _ _ (q_invS 4 b ls (v3 :: v2 :: v1 :: v0 :: st) m) = _
  unfold q_invS
  rw [if_pos ⟨by simp, h⟩]
  rfl
theorem x_51_5 {v0 v1 v2 v3 v4 : MV} (h : catSum st ≤ 8) : exL J Q C pc ((n, 51, 5, b, t) :: r) ls (v4 :: v3 :: v2 :: v1 :: v0 :: st) m = C b [v0, v1, v2, v3, v4] m (fun v m' => exL J Q C (pc + n) r ls (v.toList ++ st) m') := by
  show sem1 _ _ _ _ (q_invS 5 b ls (v4 :: v3 :: v2 :: v1 :: v0 :: st) m) = _
  unfold q_invS
  rw [if_pos ⟨by simp, h⟩]
  rfl
theorem x_52_1 {k ci : Nat} {z : Int} (h0 : kd G k = ci) (h : catSum st ≤ 8) : exL J Q C pc ((n, 52, 1, b, (z, ci) :: t) :: r) ls (vr k :: st) (G, D) = C b [vr k] (G, D) (fun v m' => exL J Q C (pc + n) r ls (v.toList ++ st) m') := by
  show sem1 _ _ _ _ (q_invV 1 b ci ls (vr k :: st) (G, D)) = _
  unfold q_invV
  show sem1 _ _ _ _ (if (1 ≤ ((vr k :: st)).length ∧ kd G k = ci) ∧ catSum st ≤ 8 then _ else none) = _
  rw [if_pos ⟨⟨by simp, h0⟩, h⟩]
  rfl
theorem x_52_2 {k ci : Nat} {z : Int} {v0 : MV} (h0 : kd G k = ci) (h : catSum st ≤ 8) : exL J Q C pc ((n, 52, 2, b, (z, ci) :: t) :: r) ls (v0 :: vr k :: st) (G, D) = C b [vr k, v0] (G, D) (fun v m' => exL J Q C (pc + n) r ls (v.toList ++ st) m') := by
  show sem1 _ _ _ _ (q_invV 2 b ci ls (v0 :: vr k :: st) (G, D)) = _
  unfold q_invV
  show sem1 _ _ _ _ (if (2 ≤ ((v0 :: vr k :: st)).length ∧ kd G k = ci) ∧ catSum st ≤ 8 then _ else none) = _
  rw [if_pos ⟨⟨by simp, h0⟩, h⟩]
  rfl
theorem x_52_3 {k ci : Nat} {z : Int} {v0 v1 : MV} (h0 : kd G k = ci) (h : catSum st ≤ 8) : exL J Q C pc ((n, 52, 3, b, (z, ci) :: t) :: r) ls (v1 :: v0 :: vr k :: st) (G, D) = C b [vr k, v0, v1] (G, D) (fun v m' => exL J Q C (pc + n) r ls (v.toList ++ st) m') := by
  show sem1 _ _ _ _ (q_invV 3 b ci ls (v1 :: v0 :: vr k :: st) (G, D)) = _
  unfold q_invV
  show sem1 _ _ _ _ (if (3 ≤ ((v1 :: v0 :: vr k :: st)).length ∧ kd G k = ci) ∧ catSum st ≤ 8 then _ else none) = _
  rw [if_pos ⟨⟨by simp, h0⟩, h⟩]
  rfl
theorem x_52_4 {k ci : Nat} {z : Int} {v0 v1 v2 : MV} (h0 : kd G k = ci) (h : catSum st ≤ 8) : exL J Q C pc ((n, 52, 4, b, (z, ci) :: t) :: r) ls (v2 :: v1 :: v0 :: vr k :: st) (G, D) = C b [vr k, v0, v1, v2] (G, D) (fun v m' => exL J Q C (pc + n) r ls (v.toList ++ st) m') := by
  show sem1 _ _ _ _ (q_invV 4 b ci ls (v2 :: v1 :: v0 :: vr k :: st) (G, D)) = _
  unfold q_invV
  show sem1 _ _ _ _ (if (4 ≤ ((v2 :: v1 :: v0 :: vr k :: st)).length ∧ kd G k = ci) ∧ catSum st ≤ 8 then _ else none) = _
  rw [if_pos ⟨⟨by simp, h0⟩, h⟩]
  rfl
theorem x_52_5 {k ci : Nat} {z : Int} {v0 v1 v2 v3 : MV} (h0 : kd G k = ci) (h : catSum st ≤ 8) : exL J Q C pc ((n, 52, 5, b, (z, ci) :: t) :: r) ls (v3 :: v2 :: v1 :: v0 :: vr k :: st) (G, D) = C b [vr k, v0, v1, v2, v3] (G, D) (fun v m' => exL J Q C (pc + n) r ls (v.toList ++ st) m') := by
  show sem1 _ _ _ _ (q_invV 5 b ci ls (v3 :: v2 :: v1 :: v0 :: vr k :: st) (G, D)) = _
  unfold q_invV
  show sem1 _ _ _ _ (if (5 ≤ ((v3 :: v2 :: v1 :: v0 :: vr k :: st)).length ∧ kd G k = ci) ∧ catSum st ≤ 8 then _ else none) = _
  rw [if_pos ⟨⟨by simp, h0⟩, h⟩]
  rfl
theorem x_52_6 {k ci : Nat} {z : Int} {v0 v1 v2 v3 v4 : MV} (h0 : kd G k = ci) (h : catSum st ≤ 8) : exL J Q C pc ((n, 52, 6, b, (z, ci) :: t) :: r) ls (v4 :: v3 :: v2 :: v1 :: v0 :: vr k :: st) (G, D) = C b [vr k, v0, v1, v2, v3, v4] (G, D) (fun v m' => exL J Q C (pc + n) r ls (v.toList ++ st) m') := by
  show sem1 _ _ _ _ (q_invV 6 b ci ls (v4 :: v3 :: v2 :: v1 :: v0 :: vr k :: st) (G, D)) = _
  unfold q_invV
  show sem1 _ _ _ _ (if (6 ≤ ((v4 :: v3 :: v2 :: v1 :: v0 :: vr k :: st)).length ∧ kd G k = ci) ∧ catSum st ≤ 8 then _ else none) = _
  rw [if_pos ⟨⟨by simp, h0⟩, h⟩]
  rfl
theorem x_54 {n1 dp sp : Int} {k q : Nat} (h : kd G q = 100) (h0 : kd G k = 100) (h1 : 0 ≤ n1) (h2 : 0 ≤ dp) (h3 : 0 ≤ sp) (h4 : sp + n1 ≤ (ln G q : Int)) (h5 : dp + n1 ≤ (ln G k : Int)) (h6 : catSum st ≤ 8) : exL J Q C pc ((n, 54, a, b, t) :: r) ls (vi n1 :: vi dp :: vr k :: vi sp :: vr q :: st) (G, D) = exL J Q C (pc + n) r ls st (G, cpy D q sp.toNat k dp.toNat n1.toNat) := by
  show sem1 _ _ _ _ (q_cpy ls (vi n1 :: vi dp :: vr k :: vi sp :: vr q :: st) (G, D)) = _
  unfold q_cpy
  dsimp only
  rw [if_pos ⟨⟨⟨h, h0⟩, ⟨h1, h2, h3⟩, h4, h5⟩, h6⟩]
  rfl
theorem x_55 {x y : Int} (h : catSum st ≤ 8) : exL J Q C pc ((n, 55, a, b, t) :: r) ls (vi y :: vi x :: st) m = exL J Q C (pc + n) r ls (vi (if x < y then y else x) :: st) m := by
  show sem1 _ _ _ _ (q_mm true ls (vi y :: vi x :: st) m) = _
  unfold q_mm
  dsimp only
  rw [if_pos h]
  rfl
theorem x_56 {x y : Int} (h : catSum st ≤ 8) : exL J Q C pc ((n, 56, a, b, t) :: r) ls (vi y :: vi x :: st) m = exL J Q C (pc + n) r ls (vi (if y < x then y else x) :: st) m := by
  show sem1 _ _ _ _ (q_mm false ls (vi y :: vi x :: st) m) = _
  unfold q_mm
  dsimp only
  rw [if_pos h]
  rfl
theorem x_57 {x : Int} : exL J Q C pc ((n, 57, a, b, t) :: r) ls [vi x] m = Q (some (vi x)) m := propext Iff.rfl
theorem x_58 {x : Int} (h : x = 0 ∨ x = 1) : exL J Q C pc ((n, 58, a, b, t) :: r) ls [vi x] m = Q (some (vi x)) m := by
  show sem1 _ _ _ _ (q_zret ls [vi x] m) = _
  unfold q_zret
  dsimp only
  rw [if_pos h]
  rfl
theorem x_59  : exL J Q C pc ((n, 59, a, b, t) :: r) ls [] m = Q none m := propext Iff.rfl
theorem x_60i {x : Int} : exL J Q C pc ((n, 60, a, b, t) :: r) ls (vi x :: st) m = exL J Q C (pc + n) r ls (vi x :: vi x :: st) m := propext Iff.rfl
theorem x_60r {x : Nat} : exL J Q C pc ((n, 60, a, b, t) :: r) ls (vr x :: st) m = exL J Q C (pc + n) r ls (vr x :: vr x :: st) m := propext Iff.rfl
theorem x_61i {x : Int} : exL J Q C pc ((n, 61, a, b, t) :: r) ls (vi x :: st) m = exL J Q C (pc + n) r ls st m := propext Iff.rfl
theorem x_61r {x : Nat} : exL J Q C pc ((n, 61, a, b, t) :: r) ls (vr x :: st) m = exL J Q C (pc + n) r ls st m := propext Iff.rfl
theorem x_62 {x : Int} (h : 0 ≤ x) (h1 : x < 65536) : exL J Q C pc ((n, 62, a, b, t) :: r) ls [vi x] m = Q (some (vi x)) m := by
  show sem1 _ _ _ _ (q_cret ls [vi x] m) = _
  unfold q_cret
  dsimp only
  rw [if_pos ⟨h, h1⟩]
  rfl
end VC
