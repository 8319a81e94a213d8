/-! ONE INSTRUCTION OF THE REAL MACHINE FOR ONE OF THE SMALL: the context; constants, locals, arithmetic, branches -/
def nwW (w : Cond) : Bool := match w with | .fieldLinkNest .. => true | .methodLinkNest .. => true | .arrayOver _ => true | _ => false
/-- what is known of the classes, in any state that a method starts from -/
def KS (dC : Nat → ClassId) (dI : Nat → Nat → Nat) (aC : Nat → ClassId) (U : State) : Prop := va_K (dC, dI) vwCl (tysA aC) U ∧ ∀ w ∈ lw_tbl, nwW w = true → va_Nw w U
abbrev memLe (m m' : Mem) : Prop := m.1.1.length ≤ m'.1.1.length ∧ m.1.2 ≤ m'.1.2
/-- the method j is being run -/
def CtxM (p : Program) (R : Room) (s : State) (m : MethodId) (args : Array Value) (meth : Method) (c : Code) (B : Nat) (dC : Nat → ClassId) (dI : Nat → Nat → Nat) (aC : Nat → ClassId) (j : Nat) (m0 mF : Mem) : Prop :=
  (p.tables.exec = Jvm.exec ∧ c.code = Yb j ∧ c.maxLocals = Yl j ∧ s.vm.findClass (RC (Yc j)) = some m.cls) ∧ (∀ w ∈ lw_tbl, goodWord w = true → w.before args s = true) ∧ KS dC dI aC s ∧ s.heap.size = B + m0.1.1.length ∧ ((Yn j).name = "<init>" → meth.name = "<init>") ∧ (1 ≤ R.frames ∧ 100 ≤ R.locals ∧ mF.1.1.length - m0.1.1.length ≤ R.cells ∧ mF.1.2 - m0.1.2 ≤ R.slots)
abbrev AA (B : Nat) : Nat → Prop := fun q => B ≤ q
/-- the state of the small machine stands for one of the real machine from which the method comes to its end -/
def WX (p : Program) (l : Launch) (e : Env) (R : Room) (s : State) (m : MethodId) (args : Array Value) (below : List Frame) (meth : Method) (c : Code) (B b L : Nat) (xs : Nat → Int32) (dC : Nat → ClassId) (dI : Nat → Nat → Nat) (aC : Nat → ClassId) (j : Nat) (m0 mF : Mem) (Qe : State → Prop) (pc : Nat) (ls st : List MV) (mm : Mem) : Prop :=
  memLe mm mF ∧ ∀ (H : Heap) (locs : List Loc) (lsr : Array Slot), memLe m0 mm → (∀ v ∈ ls, okV v) → (∀ v ∈ st, okV v) → LR B b ls lsr (Yl j) → MR B b L xs dC dI aC mm s H → va_S (AA B) s.heap H locs →
    W p l e R s m args below meth c H locs (mm.1.1.length - m0.1.1.length) (mm.1.2 - m0.1.2) Qe (F0 m pc lsr (st.map (tv B b)))
section ST
variable {p : Program} {l : Launch} {e : Env} {R : Room} {s : State} {m : MethodId} {args : Array Value} {below : List Frame} {meth : Method} {c : Code} {B b L : Nat} {xs : Nat → Int32} {dC : Nat → ClassId} {dI : Nat → Nat → Nat} {aC : Nat → ClassId} {j : Nat} {m0 mF : Mem} {Qe : State → Prop} {pc : Nat} {ls st : List MV} {mm : Mem}
/-- a step that leaves locals and memory -/
theorem WX.to {st' : List MV} {pc' : Nat} (hok : (∀ v ∈ st, okV v) → ∀ v ∈ st', okV v) (hw : ∀ (H : Heap) (locs : List Loc) (lsr : Array Slot), (∀ v ∈ ls, okV v) → (∀ v ∈ st, okV v) → LR B b ls lsr (Yl j) → W p l e R s m args below meth c H locs (mm.1.1.length - m0.1.1.length) (mm.1.2 - m0.1.2) Qe (F0 m pc' lsr (st'.map (tv B b))) → W p l e R s m args below meth c H locs (mm.1.1.length - m0.1.1.length) (mm.1.2 - m0.1.2) Qe (F0 m pc lsr (st.map (tv B b))))
    (h : WX p l e R s m args below meth c B b L xs dC dI aC j m0 mF Qe pc' ls st' mm) : WX p l e R s m args below meth c B b L xs dC dI aC j m0 mF Qe pc ls st mm :=
  ⟨h.1, fun H locs lsr h0 hl hs hL hM hS => hw H locs lsr hl hs hL (h.2 H locs lsr h0 hl (hok hs) hL hM hS)⟩
theorem ok_i {x : Int} (h : w32 x = x) : okV (vi x) := h
theorem ok_l {x : Int} (h : w64 x = x) : okV (vl x) := h
theorem ok_cons {v : MV} {st : List MV} (h : okV v) (hs : ∀ w ∈ st, okV w) : ∀ w ∈ v :: st, okV w := fun w hw => by
  rcases List.mem_cons.mp hw with h1 | h1
  · rw [h1]; exact h
  · exact hs w h1
theorem ok_tl {v : MV} {st : List MV} (hs : ∀ w ∈ v :: st, okV w) : ∀ w ∈ st, okV w := fun w hw => hs w (List.mem_cons_of_mem _ hw)
theorem ok_hd {v : MV} {st : List MV} (hs : ∀ w ∈ v :: st, okV w) : okV v := hs v List.mem_cons_self
theorem s_iconst (hC : CtxM p R s m args meth c B dC dI aC j m0 mF) {n : Int} (hd : decode (Yb j) pc = .ok (.iconst n, 1)) (hn : w32 n = n) (h : WX p l e R s m args below meth c B b L xs dC dI aC j m0 mF Qe (pc + 1) ls (vi n :: st) mm) : WX p l e R s m args below meth c B b L xs dC dI aC j m0 mF Qe pc ls st mm := h.to (fun hs => ok_cons (ok_i hn) hs) (fun H locs lsr _ _ _ k => lv_iconst hC.1.1 hC.1.2.1 hd rfl k)
theorem s_bipush (hC : CtxM p R s m args meth c B dC dI aC j m0 mF) {n : Int} (hd : decode (Yb j) pc = .ok (.bipush n, 2)) (hn : w32 n = n) (hv : (Int8.ofInt n).toInt32 = Int32.ofInt n) (h : WX p l e R s m args below meth c B b L xs dC dI aC j m0 mF Qe (pc + 2) ls (vi n :: st) mm) : WX p l e R s m args below meth c B b L xs dC dI aC j m0 mF Qe pc ls st mm := h.to (fun hs => ok_cons (ok_i hn) hs) (fun H locs lsr _ _ _ k => lv_bipush hC.1.1 hC.1.2.1 hd hv k)
theorem s_sipush (hC : CtxM p R s m args meth c B dC dI aC j m0 mF) {n : Int} (hd : decode (Yb j) pc = .ok (.sipush n, 3)) (hn : w32 n = n) (hv : (Int16.ofInt n).toInt32 = Int32.ofInt n) (h : WX p l e R s m args below meth c B b L xs dC dI aC j m0 mF Qe (pc + 3) ls (vi n :: st) mm) : WX p l e R s m args below meth c B b L xs dC dI aC j m0 mF Qe pc ls st mm := h.to (fun hs => ok_cons (ok_i hn) hs) (fun H locs lsr _ _ _ k => lv_sipush hC.1.1 hC.1.2.1 hd hv k)
theorem s_lconst (hC : CtxM p R s m args meth c B dC dI aC j m0 mF) {n : Fin 2} (hd : decode (Yb j) pc = .ok (.lconst n, 1)) (hn : w64 ((n : Nat) : Int) = ((n : Nat) : Int)) (h : WX p l e R s m args below meth c B b L xs dC dI aC j m0 mF Qe (pc + 1) ls (vl ((n : Nat) : Int) :: st) mm) : WX p l e R s m args below meth c B b L xs dC dI aC j m0 mF Qe pc ls st mm := h.to (fun hs => ok_cons (ok_l hn) hs) (fun H locs lsr _ _ _ k => lv_lconst hC.1.1 hC.1.2.1 hd rfl k)
theorem s_ldc (hC : CtxM p R s m args meth c B dC dI aC j m0 mF) {i : Nat} {n : Int} (hd : decode (Yb j) pc = .ok (.ldc i, 2)) (hn : w32 n = n) (hw : Cond.constant (RC (Yc j)) i (Int32.ofInt n) ∈ lw_tbl) (h : WX p l e R s m args below meth c B b L xs dC dI aC j m0 mF Qe (pc + 2) ls (vi n :: st) mm) : WX p l e R s m args below meth c B b L xs dC dI aC j m0 mF Qe pc ls st mm := h.to (fun hs => ok_cons (ok_i hn) hs) (fun H locs lsr _ _ _ k => lv_ldc hC.1.1 hC.1.2.1 hC.1.2.2.2 (hC.2.1 _ hw rfl) hd k)
theorem s_ldc2 (hC : CtxM p R s m args meth c B dC dI aC j m0 mF) {i : Nat} {n : Int} (hd : decode (Yb j) pc = .ok (.ldc2_w i, 3)) (hn : w64 n = n) (hw : Cond.constantLong (RC (Yc j)) i (Int64.ofInt n) ∈ lw_tbl) (h : WX p l e R s m args below meth c B b L xs dC dI aC j m0 mF Qe (pc + 3) ls (vl n :: st) mm) : WX p l e R s m args below meth c B b L xs dC dI aC j m0 mF Qe pc ls st mm := h.to (fun hs => ok_cons (ok_l hn) hs) (fun H locs lsr _ _ _ k => lv_ldc2 hC.1.1 hC.1.2.1 hC.1.2.2.2 (hC.2.1 _ hw rfl) hd k)
theorem s_iload (hC : CtxM p R s m args meth c B dC dI aC j m0 mF) {i : Nat} {x : Int} (hd : decode (Yb j) pc = .ok (.iload i, 2)) (hx : ls.getD i vu = vi x) (h : WX p l e R s m args below meth c B b L xs dC dI aC j m0 mF Qe (pc + 2) ls (vi x :: st) mm) : WX p l e R s m args below meth c B b L xs dC dI aC j m0 mF Qe pc ls st mm := ⟨h.1, fun H locs lsr h0 hl hs hL hM hS => lv_iload hC.1.1 hC.1.2.1 hd (hL.at hx rfl) (h.2 H locs lsr h0 hl (ok_cons (okV_getD hl hx) hs) hL hM hS)⟩
theorem s_iload_n (hC : CtxM p R s m args meth c B dC dI aC j m0 mF) {q : Fin 4} {x : Int} (hd : decode (Yb j) pc = .ok (.iload_n q, 1)) (hx : ls.getD (q : Nat) vu = vi x) (h : WX p l e R s m args below meth c B b L xs dC dI aC j m0 mF Qe (pc + 1) ls (vi x :: st) mm) : WX p l e R s m args below meth c B b L xs dC dI aC j m0 mF Qe pc ls st mm := ⟨h.1, fun H locs lsr h0 hl hs hL hM hS => lv_iload_n hC.1.1 hC.1.2.1 hd rfl (hL.at hx rfl) (h.2 H locs lsr h0 hl (ok_cons (okV_getD hl hx) hs) hL hM hS)⟩
theorem s_lload (hC : CtxM p R s m args meth c B dC dI aC j m0 mF) {i : Nat} {x : Int} (hd : decode (Yb j) pc = .ok (.lload i, 2)) (hx : ls.getD i vu = vl x) (h : WX p l e R s m args below meth c B b L xs dC dI aC j m0 mF Qe (pc + 2) ls (vl x :: st) mm) : WX p l e R s m args below meth c B b L xs dC dI aC j m0 mF Qe pc ls st mm := ⟨h.1, fun H locs lsr h0 hl hs hL hM hS => lv_lload hC.1.1 hC.1.2.1 hd (hL.at hx rfl) (h.2 H locs lsr h0 hl (ok_cons (okV_getD hl hx) hs) hL hM hS)⟩
theorem s_lload_n (hC : CtxM p R s m args meth c B dC dI aC j m0 mF) {q : Fin 4} {x : Int} (hd : decode (Yb j) pc = .ok (.lload_n q, 1)) (hx : ls.getD (q : Nat) vu = vl x) (h : WX p l e R s m args below meth c B b L xs dC dI aC j m0 mF Qe (pc + 1) ls (vl x :: st) mm) : WX p l e R s m args below meth c B b L xs dC dI aC j m0 mF Qe pc ls st mm := ⟨h.1, fun H locs lsr h0 hl hs hL hM hS => lv_lload_n hC.1.1 hC.1.2.1 hd rfl (hL.at hx rfl) (h.2 H locs lsr h0 hl (ok_cons (okV_getD hl hx) hs) hL hM hS)⟩
theorem s_aload (hC : CtxM p R s m args meth c B dC dI aC j m0 mF) {i : Nat} {x : Nat} (hd : decode (Yb j) pc = .ok (.aload i, 2)) (hx : ls.getD i vu = vr x) (h : WX p l e R s m args below meth c B b L xs dC dI aC j m0 mF Qe (pc + 2) ls (vr x :: st) mm) : WX p l e R s m args below meth c B b L xs dC dI aC j m0 mF Qe pc ls st mm := ⟨h.1, fun H locs lsr h0 hl hs hL hM hS => by
  have k := h.2 H locs lsr h0 hl (ok_cons trivial hs) hL hM hS
  have hv := hL.at hx rfl
  have e : tv B b (vr x) = va_rf (tvr B b x) := rfl
  rw [List.map_cons, e] at k
  rw [e] at hv
  cases hq : tvr B b x with
  | none => rw [hq] at k hv; exact lv_aloadN hC.1.1 hC.1.2.1 hd hv k
  | some a => rw [hq] at k hv; exact lv_aload hC.1.1 hC.1.2.1 hd hv k⟩
theorem s_aload_n (hC : CtxM p R s m args meth c B dC dI aC j m0 mF) {q : Fin 4} {x : Nat} (hd : decode (Yb j) pc = .ok (.aload_n q, 1)) (hx : ls.getD (q : Nat) vu = vr x) (h : WX p l e R s m args below meth c B b L xs dC dI aC j m0 mF Qe (pc + 1) ls (vr x :: st) mm) : WX p l e R s m args below meth c B b L xs dC dI aC j m0 mF Qe pc ls st mm := ⟨h.1, fun H locs lsr h0 hl hs hL hM hS => by
  have k := h.2 H locs lsr h0 hl (ok_cons trivial hs) hL hM hS
  have hv := hL.at hx rfl
  have e : tv B b (vr x) = va_rf (tvr B b x) := rfl
  rw [List.map_cons, e] at k
  rw [e] at hv
  cases hq : tvr B b x with
  | none => rw [hq] at k hv; exact lv_aload_nN hC.1.1 hC.1.2.1 hd rfl hv k
  | some a => rw [hq] at k hv; exact lv_aload_n hC.1.1 hC.1.2.1 hd rfl hv k⟩
theorem s_istore (hC : CtxM p R s m args meth c B dC dI aC j m0 mF) {i : Nat} {x : Int} (hd : decode (Yb j) pc = .ok (.istore i, 2)) (hi : i < Yl j) (h : WX p l e R s m args below meth c B b L xs dC dI aC j m0 mF Qe (pc + 2) (put1 ls i (vi x)) st mm) : WX p l e R s m args below meth c B b L xs dC dI aC j m0 mF Qe pc ls (vi x :: st) mm := ⟨h.1, fun H locs lsr h0 hl hs hL hM hS => lv_istore hC.1.1 hC.1.2.1 hd hL.2 hi rfl (fun ls' h' => h.2 H locs ls' h0 (okV_put1 hl (ok_hd hs)) (ok_tl hs) (LR_put1 hL rfl h') hM hS)⟩
theorem s_istore_n (hC : CtxM p R s m args meth c B dC dI aC j m0 mF) {q : Fin 4} {x : Int} (hd : decode (Yb j) pc = .ok (.istore_n q, 1)) (hi : (q : Nat) < Yl j) (h : WX p l e R s m args below meth c B b L xs dC dI aC j m0 mF Qe (pc + 1) (put1 ls (q : Nat) (vi x)) st mm) : WX p l e R s m args below meth c B b L xs dC dI aC j m0 mF Qe pc ls (vi x :: st) mm := ⟨h.1, fun H locs lsr h0 hl hs hL hM hS => lv_istore_n hC.1.1 hC.1.2.1 hd rfl hL.2 hi rfl (fun ls' h' => h.2 H locs ls' h0 (okV_put1 hl (ok_hd hs)) (ok_tl hs) (LR_put1 hL rfl h') hM hS)⟩
theorem s_lstore (hC : CtxM p R s m args meth c B dC dI aC j m0 mF) {i : Nat} {x : Int} (hd : decode (Yb j) pc = .ok (.lstore i, 2)) (hi : i + 1 < Yl j) (h : WX p l e R s m args below meth c B b L xs dC dI aC j m0 mF Qe (pc + 2) (put2 ls i (vl x)) st mm) : WX p l e R s m args below meth c B b L xs dC dI aC j m0 mF Qe pc ls (vl x :: st) mm := ⟨h.1, fun H locs lsr h0 hl hs hL hM hS => lv_lstore hC.1.1 hC.1.2.1 hd hL.2 hi rfl (fun ls' h' => h.2 H locs ls' h0 (okV_put2 hl (ok_hd hs)) (ok_tl hs) (LR_put2 hL rfl h') hM hS)⟩
theorem s_lstore_n (hC : CtxM p R s m args meth c B dC dI aC j m0 mF) {q : Fin 4} {x : Int} (hd : decode (Yb j) pc = .ok (.lstore_n q, 1)) (hi : (q : Nat) + 1 < Yl j) (h : WX p l e R s m args below meth c B b L xs dC dI aC j m0 mF Qe (pc + 1) (put2 ls (q : Nat) (vl x)) st mm) : WX p l e R s m args below meth c B b L xs dC dI aC j m0 mF Qe pc ls (vl x :: st) mm := ⟨h.1, fun H locs lsr h0 hl hs hL hM hS => lv_lstore_n hC.1.1 hC.1.2.1 hd rfl hL.2 hi rfl (fun ls' h' => h.2 H locs ls' h0 (okV_put2 hl (ok_hd hs)) (ok_tl hs) (LR_put2 hL rfl h') hM hS)⟩
theorem s_astore (hC : CtxM p R s m args meth c B dC dI aC j m0 mF) {i : Nat} {x : Nat} (hd : decode (Yb j) pc = .ok (.astore i, 2)) (hi : i < Yl j) (h : WX p l e R s m args below meth c B b L xs dC dI aC j m0 mF Qe (pc + 2) (put1 ls i (vr x)) st mm) : WX p l e R s m args below meth c B b L xs dC dI aC j m0 mF Qe pc ls (vr x :: st) mm := ⟨h.1, fun H locs lsr h0 hl hs hL hM hS => by
  have k : ∀ ls' : Array Slot, lv_has ls' (Yl j) ((i, va_rf (tvr B b x)) :: (lpr B b 0 ls).filter (fun q => !(q.1 == i) && !(q.1 + 1 == i && q.2.category == 2))) → W p l e R s m args below meth c H locs (mm.1.1.length - m0.1.1.length) (mm.1.2 - m0.1.2) Qe (F0 m (pc + 2) ls' (st.map (tv B b))) := fun ls' h' => h.2 H locs ls' h0 (okV_put1 hl trivial) (ok_tl hs) (LR_put1 (v := vr x) hL rfl h') hM hS
  show W p l e R s m args below meth c H locs _ _ Qe (F0 m pc lsr (va_rf (tvr B b x) :: st.map (tv B b)))
  cases hq : tvr B b x with
  | none => rw [hq] at k; exact lv_astoreN hC.1.1 hC.1.2.1 hd hL.2 hi rfl k
  | some a => rw [hq] at k; exact lv_astore hC.1.1 hC.1.2.1 hd hL.2 hi rfl k⟩
theorem s_astore_n (hC : CtxM p R s m args meth c B dC dI aC j m0 mF) {q : Fin 4} {x : Nat} (hd : decode (Yb j) pc = .ok (.astore_n q, 1)) (hi : (q : Nat) < Yl j) (h : WX p l e R s m args below meth c B b L xs dC dI aC j m0 mF Qe (pc + 1) (put1 ls (q : Nat) (vr x)) st mm) : WX p l e R s m args below meth c B b L xs dC dI aC j m0 mF Qe pc ls (vr x :: st) mm := ⟨h.1, fun H locs lsr h0 hl hs hL hM hS => by
  have k : ∀ ls' : Array Slot, lv_has ls' (Yl j) (((q : Nat), va_rf (tvr B b x)) :: (lpr B b 0 ls).filter (fun z => !(z.1 == (q : Nat)) && !(z.1 + 1 == (q : Nat) && z.2.category == 2))) → W p l e R s m args below meth c H locs (mm.1.1.length - m0.1.1.length) (mm.1.2 - m0.1.2) Qe (F0 m (pc + 1) ls' (st.map (tv B b))) := fun ls' h' => h.2 H locs ls' h0 (okV_put1 hl trivial) (ok_tl hs) (LR_put1 (v := vr x) hL rfl h') hM hS
  show W p l e R s m args below meth c H locs _ _ Qe (F0 m pc lsr (va_rf (tvr B b x) :: st.map (tv B b)))
  cases hq : tvr B b x with
  | none => rw [hq] at k; exact lv_astore_nN hC.1.1 hC.1.2.1 hd rfl hL.2 hi rfl k
  | some a => rw [hq] at k; exact lv_astore_n hC.1.1 hC.1.2.1 hd rfl hL.2 hi rfl k⟩
theorem s_iinc (hC : CtxM p R s m args meth c B dC dI aC j m0 mF) {i : Nat} {n x : Int} (hd : decode (Yb j) pc = .ok (.iinc i n, 3)) (hi : i < Yl j) (hx : ls.getD i vu = vi x) (h : WX p l e R s m args below meth c B b L xs dC dI aC j m0 mF Qe (pc + 3) (put1 ls i (vi (w32 (x + n)))) st mm) : WX p l e R s m args below meth c B b L xs dC dI aC j m0 mF Qe pc ls st mm := ⟨h.1, fun H locs lsr h0 hl hs hL hM hS => by
  obtain ⟨k, hk⟩ := hL.lk hx rfl
  exact lv_iinc hC.1.1 hC.1.2.1 hd hL.2 hk (v := Int32.ofInt (w32 (x + n))) (by rw [o32_w, Int32.ofInt_add]) hi rfl (fun ls' h' => h.2 H locs ls' h0 (okV_put1 hl (w32_w _)) hs (LR_put1 (v := vi (w32 (x + n))) hL rfl h') hM hS)⟩
theorem s_op {pc' : Nat} {st st' : List MV} {vs vs' : List Value} (hok : (∀ v ∈ st, okV v) → ∀ v ∈ st', okV v) (he : (∀ v ∈ st, okV v) → st'.map (tv B b) = vs') (he0 : st.map (tv B b) = vs) (row : (∀ v ∈ st, okV v) → ∀ (H : Heap) (locs : List Loc) (lsr : Array Slot) (cells slots : Nat), W p l e R s m args below meth c H locs cells slots Qe (F0 m pc' lsr vs') → W p l e R s m args below meth c H locs cells slots Qe (F0 m pc lsr vs)) (h : WX p l e R s m args below meth c B b L xs dC dI aC j m0 mF Qe pc' ls st' mm) : WX p l e R s m args below meth c B b L xs dC dI aC j m0 mF Qe pc ls st mm :=
  ⟨h.1, fun H locs lsr h0 hl hs hL hM hS => by
    have k := h.2 H locs lsr h0 hl (hok hs) hL hM hS
    rw [he hs] at k
    rw [he0]
    exact row hs H locs lsr _ _ k⟩
theorem s_iadd (hC : CtxM p R s m args meth c B dC dI aC j m0 mF) {x y : Int} (hd : decode (Yb j) pc = .ok (.iadd, 1))  (h : WX p l e R s m args below meth c B b L xs dC dI aC j m0 mF Qe (pc + 1) ls (vi (w32 (x + y)) :: st) mm) : WX p l e R s m args below meth c B b L xs dC dI aC j m0 mF Qe pc ls (vi y :: vi x :: st) mm :=
  s_op (fun hs => ok_cons (ok_i (w32_w _)) (ok_tl (ok_tl hs))) (fun hs => show Value.int _ :: _ = Value.int (Int32.ofInt x + Int32.ofInt y) :: st.map (tv B b) by rw [o32_w, Int32.ofInt_add]) rfl (fun hs H locs lsr _ _ k => lv_iadd hC.1.1 hC.1.2.1 hd k) h
theorem s_isub (hC : CtxM p R s m args meth c B dC dI aC j m0 mF) {x y : Int} (hd : decode (Yb j) pc = .ok (.isub, 1))  (h : WX p l e R s m args below meth c B b L xs dC dI aC j m0 mF Qe (pc + 1) ls (vi (w32 (x - y)) :: st) mm) : WX p l e R s m args below meth c B b L xs dC dI aC j m0 mF Qe pc ls (vi y :: vi x :: st) mm :=
  s_op (fun hs => ok_cons (ok_i (w32_w _)) (ok_tl (ok_tl hs))) (fun hs => show Value.int _ :: _ = Value.int (Int32.ofInt x - Int32.ofInt y) :: st.map (tv B b) by rw [o32_w, Int32.ofInt_sub]) rfl (fun hs H locs lsr _ _ k => lv_isub hC.1.1 hC.1.2.1 hd k) h
theorem s_imul (hC : CtxM p R s m args meth c B dC dI aC j m0 mF) {x y : Int} (hd : decode (Yb j) pc = .ok (.imul, 1))  (h : WX p l e R s m args below meth c B b L xs dC dI aC j m0 mF Qe (pc + 1) ls (vi (w32 (x * y)) :: st) mm) : WX p l e R s m args below meth c B b L xs dC dI aC j m0 mF Qe pc ls (vi y :: vi x :: st) mm :=
  s_op (fun hs => ok_cons (ok_i (w32_w _)) (ok_tl (ok_tl hs))) (fun hs => show Value.int _ :: _ = Value.int (Int32.ofInt x * Int32.ofInt y) :: st.map (tv B b) by rw [o32_w, Int32.ofInt_mul]) rfl (fun hs H locs lsr _ _ k => lv_imul hC.1.1 hC.1.2.1 hd k) h
theorem s_ladd (hC : CtxM p R s m args meth c B dC dI aC j m0 mF) {x y : Int} (hd : decode (Yb j) pc = .ok (.ladd, 1))  (h : WX p l e R s m args below meth c B b L xs dC dI aC j m0 mF Qe (pc + 1) ls (vl (w64 (x + y)) :: st) mm) : WX p l e R s m args below meth c B b L xs dC dI aC j m0 mF Qe pc ls (vl y :: vl x :: st) mm :=
  s_op (fun hs => ok_cons (ok_l (w64_w _)) (ok_tl (ok_tl hs))) (fun hs => show Value.long _ :: _ = Value.long (Int64.ofInt x + Int64.ofInt y) :: st.map (tv B b) by rw [o64_w, Int64.ofInt_add]) rfl (fun hs H locs lsr _ _ k => lv_ladd hC.1.1 hC.1.2.1 hd k) h
theorem s_lmul (hC : CtxM p R s m args meth c B dC dI aC j m0 mF) {x y : Int} (hd : decode (Yb j) pc = .ok (.lmul, 1))  (h : WX p l e R s m args below meth c B b L xs dC dI aC j m0 mF Qe (pc + 1) ls (vl (w64 (x * y)) :: st) mm) : WX p l e R s m args below meth c B b L xs dC dI aC j m0 mF Qe pc ls (vl y :: vl x :: st) mm :=
  s_op (fun hs => ok_cons (ok_l (w64_w _)) (ok_tl (ok_tl hs))) (fun hs => show Value.long _ :: _ = Value.long (Int64.ofInt x * Int64.ofInt y) :: st.map (tv B b) by rw [o64_w, Int64.ofInt_mul]) rfl (fun hs H locs lsr _ _ k => lv_lmul hC.1.1 hC.1.2.1 hd k) h
theorem s_iand (hC : CtxM p R s m args meth c B dC dI aC j m0 mF) {x y : Int} (hd : decode (Yb j) pc = .ok (.iand, 1))  (h : WX p l e R s m args below meth c B b L xs dC dI aC j m0 mF Qe (pc + 1) ls (vi (i_and x y) :: st) mm) : WX p l e R s m args below meth c B b L xs dC dI aC j m0 mF Qe pc ls (vi y :: vi x :: st) mm :=
  s_op (fun hs => ok_cons (ok_i (w32_of _)) (ok_tl (ok_tl hs))) (fun hs => show Value.int (Int32.ofInt (i_and x y)) :: _ = Value.int (Int32.ofInt x &&& Int32.ofInt y) :: st.map (tv B b) by unfold i_and; rw [Int32.ofInt_toInt]) rfl (fun hs H locs lsr _ _ k => lv_iand hC.1.1 hC.1.2.1 hd k) h
theorem s_ishr (hC : CtxM p R s m args meth c B dC dI aC j m0 mF) {x y : Int} (hd : decode (Yb j) pc = .ok (.ishr, 1))  (h : WX p l e R s m args below meth c B b L xs dC dI aC j m0 mF Qe (pc + 1) ls (vi (i_shr x y) :: st) mm) : WX p l e R s m args below meth c B b L xs dC dI aC j m0 mF Qe pc ls (vi y :: vi x :: st) mm :=
  s_op (fun hs => ok_cons (ok_i (w32_of _)) (ok_tl (ok_tl hs))) (fun hs => show Value.int (Int32.ofInt (i_shr x y)) :: _ = Value.int (Int32.ofInt x >>> (Int32.ofInt y &&& 31)) :: st.map (tv B b) by unfold i_shr; rw [Int32.ofInt_toInt]) rfl (fun hs H locs lsr _ _ k => lv_ishr hC.1.1 hC.1.2.1 hd k) h
theorem s_iushr (hC : CtxM p R s m args meth c B dC dI aC j m0 mF) {x y : Int} (hd : decode (Yb j) pc = .ok (.iushr, 1))  (h : WX p l e R s m args below meth c B b L xs dC dI aC j m0 mF Qe (pc + 1) ls (vi (i_ushr x y) :: st) mm) : WX p l e R s m args below meth c B b L xs dC dI aC j m0 mF Qe pc ls (vi y :: vi x :: st) mm :=
  s_op (fun hs => ok_cons (ok_i (w32_of _)) (ok_tl (ok_tl hs))) (fun hs => show Value.int (Int32.ofInt (i_ushr x y)) :: _ = Value.int (((Int32.ofInt x).toUInt32 >>> ((Int32.ofInt y).toUInt32 &&& Int32.toUInt32 31)).toInt32) :: st.map (tv B b) by unfold i_ushr; rw [Int32.ofInt_toInt]) rfl (fun hs H locs lsr _ _ k => lv_iushr hC.1.1 hC.1.2.1 hd rfl k) h
theorem s_land (hC : CtxM p R s m args meth c B dC dI aC j m0 mF) {x y : Int} (hd : decode (Yb j) pc = .ok (.land, 1))  (h : WX p l e R s m args below meth c B b L xs dC dI aC j m0 mF Qe (pc + 1) ls (vl (l_and x y) :: st) mm) : WX p l e R s m args below meth c B b L xs dC dI aC j m0 mF Qe pc ls (vl y :: vl x :: st) mm :=
  s_op (fun hs => ok_cons (ok_l (w64_of _)) (ok_tl (ok_tl hs))) (fun hs => show Value.long (Int64.ofInt (l_and x y)) :: _ = Value.long (Int64.ofInt x &&& Int64.ofInt y) :: st.map (tv B b) by unfold l_and; rw [Int64.ofInt_toInt]) rfl (fun hs H locs lsr _ _ k => lv_land hC.1.1 hC.1.2.1 hd k) h
theorem s_lor (hC : CtxM p R s m args meth c B dC dI aC j m0 mF) {x y : Int} (hd : decode (Yb j) pc = .ok (.lor, 1))  (h : WX p l e R s m args below meth c B b L xs dC dI aC j m0 mF Qe (pc + 1) ls (vl (l_or x y) :: st) mm) : WX p l e R s m args below meth c B b L xs dC dI aC j m0 mF Qe pc ls (vl y :: vl x :: st) mm :=
  s_op (fun hs => ok_cons (ok_l (w64_of _)) (ok_tl (ok_tl hs))) (fun hs => show Value.long (Int64.ofInt (l_or x y)) :: _ = Value.long (Int64.ofInt x ||| Int64.ofInt y) :: st.map (tv B b) by unfold l_or; rw [Int64.ofInt_toInt]) rfl (fun hs H locs lsr _ _ k => lv_lor hC.1.1 hC.1.2.1 hd k) h
theorem s_lshl (hC : CtxM p R s m args meth c B dC dI aC j m0 mF) {x y : Int} (hd : decode (Yb j) pc = .ok (.lshl, 1)) (h : WX p l e R s m args below meth c B b L xs dC dI aC j m0 mF Qe (pc + 1) ls (vl (l_shl x y) :: st) mm) : WX p l e R s m args below meth c B b L xs dC dI aC j m0 mF Qe pc ls (vi y :: vl x :: st) mm :=
  s_op (fun hs => ok_cons (ok_l (w64_of _)) (ok_tl (ok_tl hs))) (fun hs => show Value.long (Int64.ofInt (l_shl x y)) :: _ = Value.long (Int64.ofInt x <<< ((Int32.ofInt y).toInt64 &&& 63)) :: st.map (tv B b) by unfold l_shl; rw [Int64.ofInt_toInt]) rfl (fun hs H locs lsr _ _ k => lv_lshl hC.1.1 hC.1.2.1 hd rfl k) h
theorem tdiv32 {x y : Int} (hx : w32 x = x) (hy : w32 y = y) : Int32.ofInt (w32 (x.tdiv y)) = Int32.ofInt x / Int32.ofInt y := by
  apply Int32.toInt_inj.mp
  rw [o32_w, Int32.toInt_div]
  unfold w32 at hx hy
  rw [hx, hy, Int32.toInt_ofInt]
theorem tmod32 {x y : Int} (hx : w32 x = x) (hy : w32 y = y) (h0 : y ≠ 0) : w32 (x.tmod y) = x.tmod y ∧ Int32.ofInt (x.tmod y) = Int32.ofInt x - Int32.ofInt x / Int32.ofInt y * Int32.ofInt y := by
  have hb := w32_b y
  have hc := w32_b x
  rw [hy] at hb
  rw [hx] at hc
  have h1 : w32 (x.tmod y) = x.tmod y := by
    rcases Int.lt_or_lt_of_ne h0 with h | h
    · have e : x.tmod y = x.tmod (-y) := by rw [Int.tmod_neg]
      have := tmod_bounds (a := x) (M := -y) (by omega)
      rw [← e] at this
      exact w32_eq (by omega) (by omega)
    · have := tmod_bounds (a := x) (M := y) h
      exact w32_eq (by omega) (by omega)
  refine ⟨h1, ?_⟩
  rw [← tdiv32 hx hy, o32_w, ← Int32.ofInt_mul, ← Int32.ofInt_sub]
  congr 1
  have := Int.tmod_add_tdiv_mul x y
  omega
theorem tdiv64 {x y : Int} (hx : w64 x = x) (hy : w64 y = y) : Int64.ofInt (w64 (x.tdiv y)) = Int64.ofInt x / Int64.ofInt y := by
  apply Int64.toInt_inj.mp
  rw [o64_w, Int64.toInt_div]
  unfold w64 at hx hy
  rw [hx, hy, Int64.toInt_ofInt]
theorem tmod64 {x y : Int} (hx : w64 x = x) (hy : w64 y = y) (h0 : y ≠ 0) : w64 (x.tmod y) = x.tmod y ∧ Int64.ofInt (x.tmod y) = Int64.ofInt x - Int64.ofInt x / Int64.ofInt y * Int64.ofInt y := by
  have hb := w64_b y
  have hc := w64_b x
  rw [hy] at hb
  rw [hx] at hc
  have h1 : w64 (x.tmod y) = x.tmod y := by
    rcases Int.lt_or_lt_of_ne h0 with h | h
    · have e : x.tmod y = x.tmod (-y) := by rw [Int.tmod_neg]
      have := tmod_bounds (a := x) (M := -y) (by omega)
      rw [← e] at this
      exact w64_eq (by omega) (by omega)
    · have := tmod_bounds (a := x) (M := y) h
      exact w64_eq (by omega) (by omega)
  refine ⟨h1, ?_⟩
  rw [← tdiv64 hx hy, o64_w, ← Int64.ofInt_mul, ← Int64.ofInt_sub]
  congr 1
  have := Int.tmod_add_tdiv_mul x y
  omega
theorem s_idiv (hC : CtxM p R s m args meth c B dC dI aC j m0 mF) {x y : Int} (hd : decode (Yb j) pc = .ok (.idiv, 1)) (hne : ¬ y = 0) (h : WX p l e R s m args below meth c B b L xs dC dI aC j m0 mF Qe (pc + 1) ls (vi (w32 (x.tdiv y)) :: st) mm) : WX p l e R s m args below meth c B b L xs dC dI aC j m0 mF Qe pc ls (vi y :: vi x :: st) mm :=
  s_op (fun hs => ok_cons (ok_i (w32_w _)) (ok_tl (ok_tl hs))) (fun hs => show Value.int _ :: _ = Value.int (Int32.ofInt x / Int32.ofInt y) :: st.map (tv B b) by rw [tdiv32 (ok_hd (ok_tl hs)) (ok_hd hs)]) rfl (fun hs H locs lsr _ _ k => lv_idiv hC.1.1 hC.1.2.1 hd (fun z => hne ((eq32 (ok_hd hs) z32).mp z)) k) h
theorem s_irem (hC : CtxM p R s m args meth c B dC dI aC j m0 mF) {x y : Int} (hd : decode (Yb j) pc = .ok (.irem, 1)) (hne : ¬ y = 0) (h : WX p l e R s m args below meth c B b L xs dC dI aC j m0 mF Qe (pc + 1) ls (vi (x.tmod y) :: st) mm) : WX p l e R s m args below meth c B b L xs dC dI aC j m0 mF Qe pc ls (vi y :: vi x :: st) mm :=
  s_op (fun hs => ok_cons (ok_i (tmod32 (ok_hd (ok_tl hs)) (ok_hd hs) hne).1) (ok_tl (ok_tl hs))) (fun hs => show Value.int _ :: _ = Value.int (Int32.ofInt x - Int32.ofInt x / Int32.ofInt y * Int32.ofInt y) :: st.map (tv B b) by rw [(tmod32 (ok_hd (ok_tl hs)) (ok_hd hs) hne).2]) rfl (fun hs H locs lsr _ _ k => lv_irem hC.1.1 hC.1.2.1 hd (fun z => hne ((eq32 (ok_hd hs) z32).mp z)) k) h
theorem s_ldiv (hC : CtxM p R s m args meth c B dC dI aC j m0 mF) {x y : Int} (hd : decode (Yb j) pc = .ok (.ldiv, 1)) (hne : ¬ y = 0) (h : WX p l e R s m args below meth c B b L xs dC dI aC j m0 mF Qe (pc + 1) ls (vl (w64 (x.tdiv y)) :: st) mm) : WX p l e R s m args below meth c B b L xs dC dI aC j m0 mF Qe pc ls (vl y :: vl x :: st) mm :=
  s_op (fun hs => ok_cons (ok_l (w64_w _)) (ok_tl (ok_tl hs))) (fun hs => show Value.long _ :: _ = Value.long (Int64.ofInt x / Int64.ofInt y) :: st.map (tv B b) by rw [tdiv64 (ok_hd (ok_tl hs)) (ok_hd hs)]) rfl (fun hs H locs lsr _ _ k => lv_ldiv hC.1.1 hC.1.2.1 hd (fun z => hne ((eq64 (ok_hd hs) z64).mp z)) k) h
theorem s_lrem (hC : CtxM p R s m args meth c B dC dI aC j m0 mF) {x y : Int} (hd : decode (Yb j) pc = .ok (.lrem, 1)) (hne : ¬ y = 0) (h : WX p l e R s m args below meth c B b L xs dC dI aC j m0 mF Qe (pc + 1) ls (vl (x.tmod y) :: st) mm) : WX p l e R s m args below meth c B b L xs dC dI aC j m0 mF Qe pc ls (vl y :: vl x :: st) mm :=
  s_op (fun hs => ok_cons (ok_l (tmod64 (ok_hd (ok_tl hs)) (ok_hd hs) hne).1) (ok_tl (ok_tl hs))) (fun hs => show Value.long _ :: _ = Value.long (Int64.ofInt x - Int64.ofInt x / Int64.ofInt y * Int64.ofInt y) :: st.map (tv B b) by rw [(tmod64 (ok_hd (ok_tl hs)) (ok_hd hs) hne).2]) rfl (fun hs H locs lsr _ _ k => lv_lrem hC.1.1 hC.1.2.1 hd (fun z => hne ((eq64 (ok_hd hs) z64).mp z)) k) h
end ST
