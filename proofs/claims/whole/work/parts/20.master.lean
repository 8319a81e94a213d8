/-! THE MASTER STEP -/
theorem fE_ok {i : Nat} (h : i < FPl.length) : fpC (fE i) = true := by
  have := List.all_eq_true.mp fp_ok (fE i) (by show FPl.getD i _ ∈ FPl; rw [List.getD_eq_getElem?_getD, List.getElem?_eq_getElem h]; exact List.getElem_mem h)
  exact this
theorem mE_ok {i : Nat} (h : i < MPl.length) : mpC (mE i) = true := by
  have := List.all_eq_true.mp mp_ok (mE i) (by show MPl.getD i _ ∈ MPl; rw [List.getD_eq_getElem?_getD, List.getElem?_eq_getElem h]; exact List.getElem_mem h)
  exact this
theorem cE_ok {i : Nat} (h : i < CPl.length) : cpC (cE i) = true := by
  have := List.all_eq_true.mp cp_ok (cE i) (by show CPl.getD i _ ∈ CPl; rw [List.getD_eq_getElem?_getD, List.getElem?_eq_getElem h]; exact List.getElem_mem h)
  exact this
theorem kE_ok {i : Nat} (h : i < KPl.length) : kpC (kE i) = true := by
  have := List.all_eq_true.mp kp_ok (kE i) (by show KPl.getD i _ ∈ KPl; rw [List.getD_eq_getElem?_getD, List.getElem?_eq_getElem h]; exact List.getElem_mem h)
  exact this
theorem fp_use {j i pp : Nat} (h : pp < FPl.length) (h1 : (fE pp).1 = Yc j) (h2 : (fE pp).2.1 = i) : linkF j i (fE pp).2.2.1 (fE pp).2.2.2.1 ∧ (fE pp).2.2.1 < 11 ∧ (fE pp).2.2.2.1 < NFc (fE pp).2.2.1 ∧ (TXf (fE pp).2.2.1 (fE pp).2.2.2.1).1 = RC (fE pp).2.2.1 ∧ ((fE pp).2.2.2.2.1 = 0 → Cond.fieldLink (RC (Yc j)) i (RC (fE pp).2.2.1) (TXf (fE pp).2.2.1 (fE pp).2.2.2.1).2.1 (TXf (fE pp).2.2.1 (fE pp).2.2.2.1).2.2.1 ∈ lw_tbl) := by
  have hk := fE_ok h
  generalize fE pp = q at hk h1 h2 ⊢
  unfold fpC at hk
  simp only [Bool.and_eq_true, decide_eq_true_eq] at hk
  obtain ⟨g1, g2, g3, g4⟩ := hk
  have g5 := wAt_mem g1
  unfold fpW at g5
  rw [h1, h2] at g5
  by_cases hn : q.2.2.2.2.1 = 0
  · rw [if_pos hn] at g5
    exact ⟨Or.inl g5, g2, g3, g4, fun _ => g5⟩
  · rw [if_neg hn] at g5
    exact ⟨Or.inr g5, g2, g3, g4, fun z => absurd z hn⟩
theorem mw_use {j' : Nat} (h : j' < 215) : okY j' := by
  have hk := List.all_eq_true.mp mw_ok j' (List.mem_range.mpr h)
  unfold mwC at hk
  simp only [Bool.and_eq_true, decide_eq_true_eq] at hk
  obtain ⟨g1, g2, g3, g4, g5, g6, g7, g8⟩ := hk
  refine ⟨?_, wAt_mem g2, g3, g4, g5, g6, g7⟩
  have hYb : Yb j' = cbO (lw_tbl[(Ye j').2.1]?) := if_neg (by omega)
  rw [hYb]
  cases hq : lw_tbl[(Ye j').2.1]? with
  | none => rw [hq] at g1; cases g1
  | some w =>
    rw [hq] at g1
    have hm := List.mem_of_getElem? hq
    cases w <;> first | (cases g1; done) | skip
    rename_i y b ml r
    unfold cdO at g1
    simp only [Bool.and_eq_true, decide_eq_true_eq] at g1
    obtain ⟨e1, e2, e3⟩ := g1
    subst e1; subst e2; subst e3
    exact hm
theorem mp_use {j i pp : Nat} (h : pp < MPl.length) (h1 : (mE pp).1 = Yc j) (h2 : (mE pp).2.1 = i) : ((mE pp).2.2.2.1 ≤ 5 → linkM j i (mE pp).2.2.1 ∧ mwK (mE pp).2.2.2.1 (mE pp).2.2.1 = true ∧ (mE pp).2.2.1 < 215) ∧ ((mE pp).2.2.2.1 > 5 → Cond.methodLink (RC (Yc j)) i (mpY (mE pp).2.2.2.1 (mE pp).2.2.1) ∈ lw_tbl) := by
  have hk := mE_ok h
  generalize mE pp = q at hk h1 h2 ⊢
  unfold mpC at hk
  simp only [Bool.and_eq_true, Bool.or_eq_true, decide_eq_true_eq] at hk
  obtain ⟨g1, g2⟩ := hk
  have g5 := wAt_mem g1
  unfold mpW at g5
  rw [h1, h2] at g5
  refine ⟨fun hle => ?_, fun hgt => ?_⟩
  · rcases g2 with g2 | ⟨g2, g3⟩
    · omega
    · refine ⟨?_, g2, g3⟩
      have hY : mpY q.2.2.2.1 q.2.2.1 = Yn q.2.2.1 := if_pos hle
      rw [hY] at g5
      by_cases hn : q.2.2.2.1 = 1 ∨ q.2.2.2.1 = 3 ∨ q.2.2.2.1 = 5
      · rw [if_pos hn] at g5; exact Or.inr g5
      · rw [if_neg hn] at g5; exact Or.inl g5
  · rw [if_neg (by omega)] at g5
    exact g5
theorem kp_use {j i pp : Nat} (h : pp < KPl.length) (h1 : (kE pp).1 = Yc j) (h2 : (kE pp).2.1 = i) : ((kE pp).2.2.1 = 0 → Cond.constant (RC (Yc j)) i (Int32.ofInt (kE pp).2.2.2.1) ∈ lw_tbl ∧ w32 (kE pp).2.2.2.1 = (kE pp).2.2.2.1) ∧ ((kE pp).2.2.1 = 1 → Cond.constantLong (RC (Yc j)) i (Int64.ofInt (kE pp).2.2.2.1) ∈ lw_tbl ∧ w64 (kE pp).2.2.2.1 = (kE pp).2.2.2.1) := by
  have hk := kE_ok h
  generalize kE pp = q at hk h1 h2 ⊢
  unfold kpC at hk
  rw [h1, h2] at hk
  refine ⟨fun z => ?_, fun z => ?_⟩
  · rw [if_pos z] at hk
    simp only [Bool.and_eq_true, decide_eq_true_eq] at hk
    exact ⟨wAt_mem hk.1, hk.2⟩
  · rw [if_neg (by omega)] at hk
    simp only [Bool.and_eq_true, decide_eq_true_eq] at hk
    exact ⟨wAt_mem hk.1, hk.2⟩
theorem cp_use {j i pp : Nat} (h : pp < CPl.length) (h1 : (cE pp).1 = Yc j) (h2 : (cE pp).2.1 = i) : Cond.classLink (RC (Yc j)) i (cE pp).2.2.1 ∈ lw_tbl := by
  have hk := cE_ok h
  unfold cpC at hk
  rw [h1, h2] at hk
  exact wAt_mem hk
theorem cw_use {ci : Nat} (h : ci < 11) : Cond.instantiable (RC ci) (NFc ci) ∈ lw_tbl ∧ Cond.initialized (RC ci) ∈ lw_tbl := by
  have hk := List.all_eq_true.mp cw_ok ci (List.mem_range.mpr h)
  unfold cwC at hk
  simp only [Bool.and_eq_true] at hk
  exact ⟨wAt_mem hk.1, wAt_mem hk.2⟩
set_option maxRecDepth 100000 in
theorem aw_ok : wAt (AWl.getD 0 0) (.arrayClass .int) = true ∧ wAt (AWl.getD 1 0) (.arrayClass .long) = true ∧ wAt (AWl.getD 2 0) (.arrayClass .char) = true ∧ wAt (AWl.getD 3 0) (.arrayOver (.object RX8)) = true ∧ wAt (AWl.getD 4 0) (.arrayOver (.object RX6)) = true ∧ wAt (AWl.getD 5 0) (.arrayOver (.object RX2)) = true ∧ wAt (AWl.getD 6 0) (.arrayOver (.array .int)) = true ∧ wAt (AWl.getD 7 0) (.arrayOver (.array (.array .int))) = true := by decide +kernel
set_option maxRecDepth 100000 in
theorem nw_ok : wAt (NWl.getD 0 0) (.native arraycopyName) = true ∧ wAt (NWl.getD 1 0) (.static arraycopyName) = true ∧ wAt (NWl.getD 2 0) (.initialized "java/lang/System") = true ∧ wAt (NWl.getD 3 0) (.static Lib.Math.max.name) = true ∧ wAt (NWl.getD 4 0) (.code Lib.Math.max.name Lib.Math.max.code 2 (some .int)) = true ∧ wAt (NWl.getD 5 0) (.static Lib.Math.min.name) = true ∧ wAt (NWl.getD 6 0) (.code Lib.Math.min.name Lib.Math.min.code 2 (some .int)) = true ∧ wAt (NWl.getD 7 0) (.initialized "java/lang/Math") = true ∧ wAt (NWl.getD 8 0) (.instanceMethod Lib.objectInit) = true ∧ wAt (NWl.getD 9 0) (.code Lib.objectInit ⟨#[0xb1]⟩ 1 none) = true := by decide +kernel
section MST
variable {p : Program} {l : Launch} {e : Env} {R : Room} {s : State} {m : MethodId} {args : Array Value} {below : List Frame} {meth : Method} {c : Code} {B b L : Nat} {xs : Nat → Int32} {dC : Nat → ClassId} {dI : Nat → Nat → Nat} {aC : Nat → ClassId} {j : Nat} {m0 mF : Mem} {Qe : State → Prop} {pc : Nat} {ls st : List MV} {mm : Mem}
/-- the ends of the method, as the run ends with rF, mF -/
def RetI (p : Program) (l : Launch) (e : Env) (R : Room) (s : State) (m : MethodId) (args : Array Value) (below : List Frame) (meth : Method) (c : Code) (B b L : Nat) (xs : Nat → Int32) (dC : Nat → ClassId) (dI : Nat → Nat → Nat) (aC : Nat → ClassId) (j : Nat) (m0 mF : Mem) (Qe : State → Prop) (rF : Option MV) : Prop :=
  ∀ (pc : Nat) (H : Heap) (locs : List Loc) (lsr : Array Slot), MR B b L xs dC dI aC mF s H → va_S (AA B) s.heap H locs →
    (∀ (x : Int) (ty : FieldType), rF = some (vi x) → w32 x = x → Yr j = some ty → narrow ty (.int (Int32.ofInt x)) = .int (Int32.ofInt x) → decode (Yb j) pc = .ok (.ireturn, 1) → W p l e R s m args below meth c H locs (mF.1.1.length - m0.1.1.length) (mF.1.2 - m0.1.2) Qe (F0 m pc lsr [.int (Int32.ofInt x)])) ∧
    (rF = none → Yr j = none → decode (Yb j) pc = .ok (.return_, 1) → W p l e R s m args below meth c H locs (mF.1.1.length - m0.1.1.length) (mF.1.2 - m0.1.2) Qe (F0 m pc lsr []))
theorem s_ireturn {x : Int} {ty : FieldType} {rF : Option MV} (hret : RetI p l e R s m args below meth c B b L xs dC dI aC j m0 mF Qe rF) (hd : decode (Yb j) pc = .ok (.ireturn, 1)) (hty : Yr j = some ty) (hn : narrow ty (.int (Int32.ofInt x)) = .int (Int32.ofInt x)) (h : some (vi x) = rF ∧ mm = mF) : WX p l e R s m args below meth c B b L xs dC dI aC j m0 mF Qe pc ls [vi x] mm := by
  obtain ⟨h1, h2⟩ := h
  subst h2
  exact ⟨memLe.rf, fun H locs lsr g0 hl hs hL hM hS => (hret pc H locs lsr hM hS).1 x ty h1.symm (ok_hd hs) hty hn hd⟩
theorem s_vreturn {rF : Option MV} (hret : RetI p l e R s m args below meth c B b L xs dC dI aC j m0 mF Qe rF) (hd : decode (Yb j) pc = .ok (.return_, 1)) (hty : Yr j = none) (h : none = rF ∧ mm = mF) : WX p l e R s m args below meth c B b L xs dC dI aC j m0 mF Qe pc ls [] mm := by
  obtain ⟨h1, h2⟩ := h
  subst h2
  exact ⟨memLe.rf, fun H locs lsr g0 hl hs hL hM hS => (hret pc H locs lsr hM hS).2 h1.symm hty hd⟩
abbrev WXa (p : Program) (l : Launch) (e : Env) (R : Room) (s : State) (m : MethodId) (args : Array Value) (below : List Frame) (meth : Method) (c : Code) (B b L : Nat) (xs : Nat → Int32) (dC : Nat → ClassId) (dI : Nat → Nat → Nat) (aC : Nat → ClassId) (j : Nat) (m0 mF : Mem) (Qe : State → Prop) (d : Nat) (rF : Option MV) (pc len : Nat) (o : Op) (ls st : List MV) (mm : Mem) : Prop :=
  sem1 (WX p l e R s m args below meth c B b L xs dC dI aC j m0 mF Qe (pc + len)) (WX p l e R s m args below meth c B b L xs dC dI aC j m0 mF Qe) (fun r m' => r = rF ∧ m' = mF) (CallG FC Yl d) (step1 o ls st mm)
end MST
