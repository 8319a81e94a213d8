/-! CALLS: a method's contract, from the small machine's call -/
def wsM (j : Nat) : List Cond := Cond.code (Yn j) (Yb j) (Yl j) (Yr j) :: GW
abbrev rmM (d mc ms : Nat) : Room := { frames := d, cells := mc, slots := ms, locals := 100 * d }
def PcM (B b L : Nat) (xs : Nat → Int32) (dC : Nat → ClassId) (dI : Nat → Nat → Nat) (aC : Nat → ClassId) (as : List MV) (mm : Mem) : Array Value → State → Prop := fun v U => v = (as.map (tv B b)).toArray ∧ U.heap.size = B + mm.1.1.length ∧ MR B b L xs dC dI aC mm U U.heap ∧ KS dC dI aC U ∧ ∀ v ∈ as, okV v
def QcM (B b L : Nat) (xs : Nat → Int32) (dC : Nat → ClassId) (dI : Nat → Nat → Nat) (aC : Nat → ClassId) (r : Option MV) (m' : Mem) : Array Value → State → Outcome → State → Prop := fun _ st o t => o = .returned (r.map (tv B b)) ∧ MR B b L xs dC dI aC m' t t.heap ∧ va_F (AA B) st t ∧ ∀ v, r = some v → okV v
abbrev MetM (l : Launch) (B b L : Nat) (xs : Nat → Int32) (dC : Nat → ClassId) (dI : Nat → Nat → Nat) (aC : Nat → ClassId) (d j : Nat) (as : List MV) (mm : Mem) (r : Option MV) (m' : Mem) : Prop :=
  Met l (Yn j) (wsM j) (rmM d (m'.1.1.length - mm.1.1.length) (m'.1.2 - mm.1.2)) (PcM B b L xs dC dI aC as mm) (QcM B b L xs dC dI aC r m') (m'.1.1.length - mm.1.1.length) (m'.1.2 - mm.1.2) (AA B)
theorem nestF {a : String} {i : Nat} {q n d h : String} {s U : State} (hW : s.WarmedH U.vm) (hZ : va_Nw (.fieldLinkNest a i q n d h) s) : va_Nw (.fieldLinkNest a i q n d h) U := va_Nw.warmF hW hZ
theorem ao_moved {t : FieldType} {u U : State} (hvm : u.vm.Alike U.vm) (ht : (∃ C, t = .object C) ∨ ∃ t', t = .array t') (h : va_Nw (.arrayOver t) u) : va_Nw (.arrayOver t) U := by
  rcases ht with ⟨C, rfl⟩ | ⟨t', rfl⟩
  · exact va_AO.moved (C := C) hvm h
  · exact arrayOver_alikeB hvm h
theorem ao_kind : ∀ w ∈ lw_tbl, nwW w = true → (match w with | .arrayOver t => (match t with | .object _ => true | .array _ => true | _ => false) | _ => true) = true := by
  have h : lw_tbl.all (fun w => match w with | .arrayOver t => (match t with | .object _ => true | .array _ => true | _ => false) | _ => true) = true := by decide +kernel
  exact fun w hw _ => List.all_eq_true.mp h w hw
theorem KS.warm {dC : Nat → ClassId} {dI : Nat → Nat → Nat} {aC : Nat → ClassId} {s U : State} (hW : s.WarmedH U.vm) (h : KS dC dI aC s) : KS dC dI aC U := by
  refine ⟨va_K.moved hW.alike h.1, fun w hw hn => ?_⟩
  have hs := h.2 w hw hn
  have hk := ao_kind w hw hn
  match w, hn, hs, hk with
  | .fieldLinkNest .., _, hs, _ => exact va_Nw.warmF hW hs
  | .methodLinkNest .., _, hs, _ => exact va_Nw.warmM hW hs
  | .arrayOver (.object C), _, hs, _ => exact ao_moved hW.alike (Or.inl ⟨C, rfl⟩) hs
  | .arrayOver (.array t), _, hs, _ => exact ao_moved hW.alike (Or.inr ⟨t, rfl⟩) hs
section ST11
variable {p : Program} {l : Launch} {e : Env} {R : Room} {s : State} {m : MethodId} {args : Array Value} {below : List Frame} {meth : Method} {c : Code} {B b L : Nat} {xs : Nat → Int32} {dC : Nat → ClassId} {dI : Nat → Nat → Nat} {aC : Nat → ClassId} {j : Nat} {m0 mF : Mem} {Qe : State → Prop} {pc : Nat} {ls st : List MV} {mm : Mem}
theorem PcM_blind {as : List MV} : FrameBlind (PcM B b L xs dC dI aC as mm) := fun a U g mk h => ⟨h.1, h.2.1, h.2.2.1.moved (u := U) (U := U.calling g mk a) (Vm.Alike.refl U.vm), KS.warm (s := U) (U := U.calling g mk a) (State.WarmedH.refl U) h.2.2.2.1, h.2.2.2.2⟩
theorem PcM_of {as : List MV} {H : Heap} {U : State} {av : Array Value} (ha : av = (as.map (tv B b)).toArray) (hs : H.size = B + mm.1.1.length) (hM : MR B b L xs dC dI aC mm s H) (hK : KS dC dI aC s) (hok : ∀ v ∈ as, okV v) (hU : U.heap = H) (hW : s.WarmedH U.vm) : PcM B b L xs dC dI aC as mm av U := by
  refine ⟨ha, by rw [hU]; exact hs, by rw [hU]; exact hM.moved hW.alike, KS.warm hW hK, hok⟩
theorem wsM_good (j' : Nat) (hc : Cond.code (Yn j') (Yb j') (Yl j') (Yr j') ∈ lw_tbl) : GoodIn GW (wsM j') := by
  intro w hw
  rcases List.mem_cons.mp hw with rfl | hw
  · exact ⟨GW_mem hc rfl, Or.inl rfl⟩
  · exact ⟨hw, good_of_word (List.mem_filter.mp hw).2⟩
/-- behind a call -/
theorem z_call {H : Heap} {locs : List Loc} {cells slots mc ms : Nat} {lsr : Array Slot} {r : Option MV} {m' : Mem} {a : Array Value} {rest st0 : List Value} (hr : va_Run p l e R s m args below meth c H locs cells slots mc ms (F0 m pc lsr st0) rest (QcM B b L xs dC dI aC r m' a) (AA B)) (hS : va_S (AA B) s.heap H locs)
    (kk : ∀ (H1 : Heap) (locs1 : List Loc), MR B b L xs dC dI aC m' s H1 → va_S (AA B) s.heap H1 locs1 → (∀ v, r = some v → okV v) → W p l e R s m args below meth c H1 locs1 (cells + mc) (slots + ms) Qe (F0 m (pc + 3) lsr ((r.map (tv B b)).toList ++ rest))) : W p l e R s m args below meth c H locs cells slots Qe (F0 m pc lsr st0) := by
  intro T hT X
  obtain ⟨v, st₀, t, T', L', h0, X', hL, e1, e2, ⟨hv, hM, ⟨hz, hk⟩, hok⟩, st⟩ := hr T hT X
  cases hv
  rw [h0] at hz hk
  obtain ⟨t2, a1, b1⟩ := kk T'.heap (locs ++ L') (by rw [e1]; exact hM.moved (by rw [← e2]; exact X'.warmed.alike.symm))
    ⟨Nat.le_trans hS.1 (by rw [e1]; exact hz), fun q h1 h2 => by rw [e1, hk q (Nat.lt_of_lt_of_le h1 hS.1) h2]; exact hS.2.1 q h1 h2, fun q hq => by
      rcases List.mem_append.mp hq with h | h
      · exact hS.2.2 q h
      · exact hL q h⟩ hok T' rfl X'
  exact ⟨t2, st t2 a1, b1⟩
def linkM (j i j' : Nat) : Prop := Cond.methodLink (RC (Yc j)) i (Yn j') ∈ lw_tbl ∨ Cond.methodLinkNest (RC (Yc j)) i (Yn j') hostN ∈ lw_tbl
/-- what is known of a callee -/
def okY (j' : Nat) : Prop := Cond.code (Yn j') (Yb j') (Yl j') (Yr j') ∈ lw_tbl ∧ Cond.initialized (RC (Yc j')) ∈ lw_tbl ∧ (Yn j').cls = RC (Yc j') ∧ (Yn j').cls ≠ "java/lang/invoke/MethodHandle" ∧ (Yn j').cls ≠ "java/lang/invoke/VarHandle" ∧ (parseMethodDescriptor (Yn j').desc).map (fun d => d.parameters.length) = some (Yp j') ∧ Yl j' ≤ 40
theorem callB_Y (hC : CtxM p R s m args meth c B dC dI aC j m0 mF) {d i j' mc ms : Nat} (hy : okY j') (hw : Cond.methodLink (RC (Yc j)) i (Yn j') ∈ lw_tbl) (hR : d + 1 ≤ R.frames ∧ 100 * (d + 1) ≤ R.locals) : CallB R s args (RC (Yc j)) i (Yn j') (Yb j') (Yl j') (Yr j') (wsM j') (rmM d mc ms) mc ms (Yp j') := by
  obtain ⟨h1, h2, h3, h4, h5, h6, h7⟩ := hy
  have r1 := hR.1
  have r2 := hR.2
  exact callB_of (Ts := GW) (Yp j') hC.gw (wsM_good j' h1) rfl rfl rfl (by rw [h3]; exact hC.2.1 _ h2 rfl) (hC.2.1 _ hw rfl) ⟨h4, h5, h6⟩ ⟨r1, by show 8 + (Yl j' + 11) + 100 * d ≤ _; omega⟩
theorem callN_Y (hC : CtxM p R s m args meth c B dC dI aC j m0 mF) {d i j' mc ms : Nat} (hy : okY j') (hw : Cond.methodLinkNest (RC (Yc j)) i (Yn j') hostN ∈ lw_tbl) (hR : d + 1 ≤ R.frames ∧ 100 * (d + 1) ≤ R.locals) : va_CN R s args (RC (Yc j)) i (Yn j') hostN (Yb j') (Yl j') (Yr j') (wsM j') (rmM d mc ms) mc ms (Yp j') := by
  obtain ⟨h1, h2, h3, h4, h5, h6, h7⟩ := hy
  have r1 := hR.1
  have r2 := hR.2
  exact va_cnB (Ts := GW) (Yp j') hC.gw (wsM_good j' h1) rfl rfl rfl (hC.nest hw rfl) (by rw [h3]; exact hC.2.1 _ h2 rfl) ⟨h4, h5, h6⟩ ⟨r1, by show 8 + (Yl j' + 11) + 100 * d ≤ _; omega⟩
theorem CtxM.fix (hC : CtxM p R s m args meth c B dC dI aC j m0 mF) : CallFix p m c (Yb j) (Yl j) s args GW (RC (Yc j)) := ⟨hC.1.1, hC.1.2.1, hC.1.2.2.1, hC.1.2.2.2, hC.gw⟩
/-- the common end of the four calls -/
theorem s_call (hC : CtxM p R s m args meth c B dC dI aC j m0 mF) {as : List MV} {r : Option MV} {m' : Mem} (hle : memLe mm m')
    (run : ∀ (H : Heap) (locs : List Loc) (lsr : Array Slot) (cells slots : Nat), H.size = B + mm.1.1.length → MR B b L xs dC dI aC mm s H → LR B b ls lsr (Yl j) → (∀ v ∈ as, okV v) → cells + (m'.1.1.length - mm.1.1.length) ≤ R.cells → slots + (m'.1.2 - mm.1.2) ≤ R.slots → va_Run p l e R s m args below meth c H locs cells slots (m'.1.1.length - mm.1.1.length) (m'.1.2 - mm.1.2) (F0 m pc lsr ((as.reverse ++ st).map (tv B b))) (st.map (tv B b)) (QcM B b L xs dC dI aC r m' (as.map (tv B b)).toArray) (AA B))
    (h : WX p l e R s m args below meth c B b L xs dC dI aC j m0 mF Qe (pc + 3) ls (r.toList ++ st) m') : WX p l e R s m args below meth c B b L xs dC dI aC j m0 mF Qe pc ls (as.reverse ++ st) mm := by
  have q1 := h.1.1
  have q2 := h.1.2
  have l1 := hle.1
  have l2 := hle.2
  refine ⟨⟨by omega, by omega⟩, fun H locs lsr g0 hl hs hL hM hS => ?_⟩
  have r3 : mF.1.1.length - m0.1.1.length ≤ R.cells := hC.2.2.2.2.2.2.2.1
  have r4 : mF.1.2 - m0.1.2 ≤ R.slots := hC.2.2.2.2.2.2.2.2
  have g1 := g0.1
  have g2 := g0.2
  intro T hT X
  have hsz := sizeH hM hC.2.2.2.1 g0 hS hT X
  refine z_call (run H locs lsr _ _ hsz hM hL (fun v hv => hs v (List.mem_append.mpr (Or.inl (List.mem_reverse.mpr hv)))) (by omega) (by omega)) hS (fun H1 locs1 hM1 hS1 hok => ?_) T hT X
  have kk := h.2 H1 locs1 lsr ⟨by omega, by omega⟩ hl (fun v hv => by
    rcases List.mem_append.mp hv with h1 | h1
    · exact hok v (Option.mem_toList.mp h1)
    · exact hs v (List.mem_append.mpr (Or.inr h1))) hL hM1 hS1
  have e1 : (r.toList ++ st).map (tv B b) = (r.map (tv B b)).toList ++ st.map (tv B b) := by cases r <;> rfl
  rw [e1, show m'.1.1.length - m0.1.1.length = mm.1.1.length - m0.1.1.length + (m'.1.1.length - mm.1.1.length) from by omega, show m'.1.2 - m0.1.2 = mm.1.2 - m0.1.2 + (m'.1.2 - mm.1.2) from by omega] at kk
  exact kk
theorem s_callS (hC : CtxM p R s m args meth c B dC dI aC j m0 mF) {d i j' : Nat} {as : List MV} {r : Option MV} {m' : Mem} (hd : decode (Yb j) pc = .ok (.invokestatic i, 3)) (hR : d + 1 ≤ R.frames ∧ 100 * (d + 1) ≤ R.locals) (hy : okY j') (hl : linkM j i j') (hst : Cond.static (Yn j') ∈ lw_tbl) (hn : as.length = Yp j') (hcs : catSum st ≤ 8) (hle : memLe mm m') (hM' : MetM l B b L xs dC dI aC d j' as mm r m')
    (h : WX p l e R s m args below meth c B b L xs dC dI aC j m0 mF Qe (pc + 3) ls (r.toList ++ st) m') : WX p l e R s m args below meth c B b L xs dC dI aC j m0 mF Qe pc ls (as.reverse ++ st) mm :=
  s_call hC hle (fun H locs lsr cells slots hsz hM hL hok hc1 hc2 => by
    have hp : PreS s H (PcM B b L xs dC dI aC as mm) (as.map (tv B b)) := ⟨PcM_blind, fun U hU hW => PcM_of rfl hsz hM hC.2.2.1 hok hU hW⟩
    have hstk : (F0 m pc lsr ((as.reverse ++ st).map (tv B b))).stack = (as.map (tv B b)).reverse ++ st.map (tv B b) := by
      show (as.reverse ++ st).map (tv B b) = _
      rw [List.map_append, List.map_reverse]
    rcases hl with hl | hl
    · exact va_runS hC.fix hM' ⟨callB_Y hC hy hl hR, hC.2.1 _ hst rfl⟩ hp rfl (by rw [List.length_map]; exact hn) hL.size hstk (lv_room (by rw [cat_sum]; exact hcs)) hd ⟨hc1, hc2⟩
    · exact va_runSN hC.fix hM' ⟨callN_Y hC hy hl hR, hC.2.1 _ hst rfl, trivial⟩ hp rfl (by rw [List.length_map]; exact hn) hL.size hstk (lv_room (by rw [cat_sum]; exact hcs)) hd ⟨hc1, hc2⟩) h
theorem s_callV (hC : CtxM p R s m args meth c B dC dI aC j m0 mF) {d i j' k : Nat} {as : List MV} {r : Option MV} {m' : Mem} (hd : decode (Yb j) pc = .ok (.invokevirtual i, 3)) (hR : d + 1 ≤ R.frames ∧ 100 * (d + 1) ≤ R.locals) (hy : okY j') (hl : linkM j i j') (hin : Cond.instanceMethod (Yn j') ∈ lw_tbl) (hse : Cond.selects (RC (Yc j')) (Yn j') (Yn j') ∈ lw_tbl) (hci : Yc j' < 11) (hk : kd mm.1 k = Yc j') (hn : as.length = Yp j') (hcs : catSum st ≤ 8) (hle : memLe mm m') (hM' : MetM l B b L xs dC dI aC d j' (vr k :: as) mm r m')
    (h : WX p l e R s m args below meth c B b L xs dC dI aC j m0 mF Qe (pc + 3) ls (r.toList ++ st) m') : WX p l e R s m args below meth c B b L xs dC dI aC j m0 mF Qe pc ls ((vr k :: as).reverse ++ st) mm :=
  s_call hC hle (fun H locs lsr cells slots hsz hM hL hok hc1 hc2 => by
    have h2 := (kd_lt (show kd mm.1 k ≠ 999 by omega)).1
    have ev : (vr k :: as).map (tv B b) = .ref (B + (k - 2)) :: as.map (tv B b) := by rw [List.map_cons, rf_tv h2]
    have hrc := va_recv (D := (dC, dI)) hC.2.2.1.1 hM.2.1 (cl_at hci) (WS_obj hci hk)
    have hp : PreV s H (RC (Yc j')) (B + (k - 2)) (PcM B b L xs dC dI aC (vr k :: as) mm) (as.map (tv B b)) := ⟨PcM_blind, hrc, fun U hU hW => PcM_of (by rw [ev]) hsz hM hC.2.2.1 hok hU hW⟩
    have hstk : (F0 m pc lsr (((vr k :: as).reverse ++ st).map (tv B b))).stack = (as.map (tv B b)).reverse ++ .ref (B + (k - 2)) :: st.map (tv B b) := by
      show ((vr k :: as).reverse ++ st).map (tv B b) = _
      rw [List.map_append, List.map_reverse, ev, List.reverse_cons, List.append_assoc]
      rfl
    rw [ev]
    rcases hl with hl | hl
    · exact va_runV hC.fix hM' ⟨callB_Y hC hy hl hR, hC.2.1 _ hin rfl, hC.2.1 _ hse rfl⟩ hp rfl (by rw [List.length_map]; exact hn) hL.size hstk (lv_room (by rw [cat_sum]; exact hcs)) hd ⟨hc1, hc2⟩
    · exact va_runVN hC.fix hM' ⟨callN_Y hC hy hl hR, hC.2.1 _ hin rfl, hC.2.1 _ hse rfl⟩ hp rfl (by rw [List.length_map]; exact hn) hL.size hstk (lv_room (by rw [cat_sum]; exact hcs)) hd ⟨hc1, hc2⟩) h
theorem s_callI (hC : CtxM p R s m args meth c B dC dI aC j m0 mF) {d i j' k : Nat} {as : List MV} {r : Option MV} {m' : Mem} (hd : decode (Yb j) pc = .ok (.invokespecial i, 3)) (hR : d + 1 ≤ R.frames ∧ 100 * (d + 1) ≤ R.locals) (hy : okY j') (hl : linkM j i j') (hin : Cond.instanceMethod (Yn j') ∈ lw_tbl) (hini : (Yn j').name = "<init>") (hret : Yr j' = none) (hk2 : 2 ≤ k) (hn : as.length = Yp j') (hcs : catSum st ≤ 8) (hle : memLe mm m') (hM' : MetM l B b L xs dC dI aC d j' (vr k :: as) mm r m')
    (h : WX p l e R s m args below meth c B b L xs dC dI aC j m0 mF Qe (pc + 3) ls (r.toList ++ st) m') : WX p l e R s m args below meth c B b L xs dC dI aC j m0 mF Qe pc ls ((vr k :: as).reverse ++ st) mm :=
  s_call hC hle (fun H locs lsr cells slots hsz hM hL hok hc1 hc2 => by
    have ev : (vr k :: as).map (tv B b) = .ref (B + (k - 2)) :: as.map (tv B b) := by rw [List.map_cons, rf_tv hk2]
    have hp : PreS s H (PcM B b L xs dC dI aC (vr k :: as) mm) (.ref (B + (k - 2)) :: as.map (tv B b)) := ⟨PcM_blind, fun U hU hW => PcM_of (by rw [ev]) hsz hM hC.2.2.1 hok hU hW⟩
    have hstk : (F0 m pc lsr (((vr k :: as).reverse ++ st).map (tv B b))).stack = (as.map (tv B b)).reverse ++ .ref (B + (k - 2)) :: st.map (tv B b) := by
      show ((vr k :: as).reverse ++ st).map (tv B b) = _
      rw [List.map_append, List.map_reverse, ev, List.reverse_cons, List.append_assoc]
      rfl
    rw [ev]
    have hyb := @callB_Y p R s m args meth c B dC dI aC j m0 mF hC d i j' (m'.1.1.length - mm.1.1.length) (m'.1.2 - mm.1.2) hy
    have hyn := @callN_Y p R s m args meth c B dC dI aC j m0 mF hC d i j' (m'.1.1.length - mm.1.1.length) (m'.1.2 - mm.1.2) hy
    rw [hret] at hyb hyn
    rcases hl with hl | hl
    · exact va_runI hC.fix hM' ⟨hyb hl hR, hini, hC.2.1 _ hin rfl⟩ hp rfl (by rw [List.length_map]; exact hn) hL.size hstk (lv_room (by rw [cat_sum]; exact hcs)) hd ⟨hc1, hc2⟩
    · exact va_runIN hC.fix hM' ⟨hyn hl hR, hini, hC.2.1 _ hin rfl⟩ hp rfl (by rw [List.length_map]; exact hn) hL.size hstk (lv_room (by rw [cat_sum]; exact hcs)) hd ⟨hc1, hc2⟩) h
end ST11
