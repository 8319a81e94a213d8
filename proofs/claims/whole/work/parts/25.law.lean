/-! THE LAW'S START, from a run of the small machine -/
def mem0 (L : Nat) (xs : Nat → Int32) : Mem := (([], 0), fun k i => if k = 0 ∧ i = 0 then (L : Int) else if k = 1 ∧ i < L then (xs i).toInt else 0)
theorem mem0_ok {L : Nat} {xs : Nat → Int32} (hL : L ≤ 3072) : okM (mem0 L xs) := by
  refine ⟨fun i hi => absurd hi (Nat.not_lt_zero _), fun k f => ?_, fun k f hk => ?_⟩
  · have hk : kd (mem0 L xs).1 k ≠ 101 := by
      intro h
      have := (kd_lt (m := mem0 L xs) (k := k) (by omega)).2
      exact absurd this (Nat.not_lt_zero _)
    rw [if_neg hk]
    show w32 (if k = 0 ∧ f = 0 then (L : Int) else if k = 1 ∧ f < L then (xs f).toInt else 0) = (if k = 0 ∧ f = 0 then (L : Int) else if k = 1 ∧ f < L then (xs f).toInt else 0)
    split
    · exact w32_eq (by omega) (by omega)
    · split
      · exact w32_of _
      · rfl
  · show (if k = 0 ∧ f = 0 then (L : Int) else if k = 1 ∧ f < L then (xs f).toInt else 0) = 0
    have hk : 2 ≤ k := hk
    rw [if_neg (by omega), if_neg (by omega)]
theorem arr_ok {s : State} {cA : ClassId} {kA : Class} {comp : ClassId} {ty : FieldType} (h1 : s.vm.classes[cA]? = some kA) (h2 : kA.kind = .array comp ty) : ArrOfT s cA ty := fun n z => ⟨fun k => by simp [arrV], kA, h1, comp, h2⟩
theorem arr_prim {s : State} {args : Array Value} {ty : FieldType} (hp : ∀ cA, s.vm.findClass ("[" ++ ty.toString) = some cA → va_RA s cA ty) (h : (Cond.arrayClass ty).before args s = true) : ∃ cA, ArrOfT s cA ty ∧ va_RA s cA ty := by
  obtain ⟨cA, kA, cc, h1, h2, h3⟩ := Cond.arrayClass_spec h
  exact ⟨cA, arr_ok h2 h3, hp cA h1⟩
theorem arr_arr {s : State} {args : Array Value} {t : FieldType} (h : (Cond.arrayOver (.array t)).before args s = true) : ∃ cA, ArrOfT s cA (.array t) ∧ va_RA s cA (.array t) := by
  obtain ⟨comp, cA, kA, h1, h2, h3, h4⟩ := Cond.arrayOver_specA h
  exact ⟨cA, arr_ok h2 h3, h4⟩
theorem arr_obj {s : State} {args : Array Value} {C : String} (h : (Cond.arrayOver (.object C)).before args s = true) : ∃ cA, ArrOfT s cA (.object C) ∧ va_RA s cA (.object C) := by
  obtain ⟨comp, cA, kA, h1, h2, h3, h4, h5⟩ := Cond.arrayOver_spec h
  exact ⟨cA, arr_ok h3 h4, kA, comp, h3, h4, h1, h5⟩
theorem KS_start {s : State} {args : Array Value} (hts : ∀ w ∈ lw_tbl, w.before args s = true) : ∃ (dC : Nat → ClassId) (dI : Nat → Nat → Nat) (aC : Nat → ClassId), KS dC dI aC s := by
  have hcl : ∀ ci, ∃ (q : ClassId × (Nat → Nat)), ci < 11 → u_Kn s (RC ci) (TXf ci) (NFc ci) q.1 q.2 := by
    intro ci
    by_cases h : ci < 11
    · obtain ⟨cC, iS, hk⟩ := u_known hts (cl_ws h) (hts _ (cw_use h).1)
      exact ⟨(cC, iS), fun _ => hk⟩
    · exact ⟨(0, fun _ => 0), fun z => absurd z h⟩
  have har : ∀ t, ∃ cA, t < 8 → ArrOfT s cA (aty t) ∧ va_RA s cA (aty t) := by
    intro t
    by_cases h : t < 8
    · have key : ∃ cA, ArrOfT s cA (aty t) ∧ va_RA s cA (aty t) := by
        match t, h with
        | 0, _ => exact arr_prim (fun _ z => z) (hts _ (wAt_mem aw_ok.1))
        | 1, _ => exact arr_prim (fun _ z => z) (hts _ (wAt_mem aw_ok.2.1))
        | 2, _ => exact arr_prim (fun _ z => z) (hts _ (wAt_mem aw_ok.2.2.1))
        | 3, _ => exact arr_obj (hts _ (wAt_mem aw_ok.2.2.2.1))
        | 4, _ => exact arr_obj (hts _ (wAt_mem aw_ok.2.2.2.2.1))
        | 5, _ => exact arr_obj (hts _ (wAt_mem aw_ok.2.2.2.2.2.1))
        | 6, _ => exact arr_arr (hts _ (wAt_mem aw_ok.2.2.2.2.2.2.1))
        | 7, _ => exact arr_arr (hts _ (wAt_mem aw_ok.2.2.2.2.2.2.2))
      obtain ⟨cA, hk⟩ := key
      exact ⟨cA, fun _ => hk⟩
    · exact ⟨0, fun z => absurd z h⟩
  obtain ⟨q, hq⟩ := Classical.skolem.mp hcl
  obtain ⟨aC, ha⟩ := Classical.skolem.mp har
  refine ⟨fun c => (q c).1, fun c => (q c).2, aC, ⟨fun ci x hx => ?_, fun k x hx => ?_⟩, fun w hw hn => ?_⟩
  · have hlt : ci < 11 := (List.getElem?_eq_some_iff.mp hx).1
    rw [cl_at hlt] at hx
    cases hx
    exact hq ci hlt
  · have hlt : k < 8 := by
      have := (List.getElem?_eq_some_iff.mp hx).1
      simpa [tysA] using this
    rw [tysA_at aC hlt] at hx
    cases hx
    exact ha k hlt
  · have hw1 := hts w hw
    match w, hn, hw1 with
    | .fieldLinkNest .., _, hs => exact va_Nw.of rfl hs
    | .methodLinkNest .., _, hs => exact va_Nw.of rfl hs
    | .arrayOver _, _, hs => exact hs
/-! THE CLAIM OUT OF ONE WALK OF THE LAW'S BODY. Your part is whole_start (and what it stands on); all else here is the same for every law, but numbers. -/
def lw_P (b : Addr) (xs : List Int32) (args : Array Value) (s : State) : Prop := args = #[.ref b] ∧ s.IntsAt b xs ∧ xs.length ≤ 3072 ∧ (Jvm.Cond.and given_1 narrow_1).before args s = true
def lw_Q (_ : Array Value) (s : State) (o : Outcome) (t : State) : Prop := o = .returned (some (.int 1)) ∧ Framed s o t [] 600000 7302250
def lw_Z (below : List Frame) (a : Array Value) (s : State) : State → Prop := fun t => ∃ o, t.status = .running ∧ Ended t below o ∧ lw_Q a s o t
/-- the law's own end, with 1 on the stack, nothing written that was there before, its room as the claim has it -/
theorem lw_ret {p : Program} {l : Launch} {e : Env} {s : State} {m : MethodId} {below : List Frame} {meth : Method} {c : Code} {b : Nat} (hx : p.tables.exec = Jvm.exec) (hb : c.code = code) (hr : meth.sig.returnType = ret) (hlocks : meth.locks = false) {pc : Nat} {H : Heap} {ls : Array Slot} (hdg : decode code pc = .ok (.ireturn, 1)) : W p l e room_1 s m #[Value.ref b] below meth c H [] 600000 7302250 (lw_Z below #[Value.ref b] s) (F0 m pc ls [.int 1]) := by
  intro T hT X
  obtain ⟨fs, hret, hrun, hended, hW, hframe⟩ := X.leave (v := some (.int 1)) (hlocks := hlocks) (fun h => by rw [hr] at h; cases h)
  have hmeth' : T.vm.method? m = some meth := X.method'
  refine ⟨T.setFrames fs, ?_, .returned (some (.int 1)), hrun, hended, rfl, ⟨_, rfl⟩, hW, hframe⟩
  jvm_step X.here [X.here.top, hx, hb, hdg, hmeth', hr, ret, narrow_b1]
  (try refine ⟨rfl, ?_⟩); (try refine ⟨rfl, ?_⟩)
  first | (intro acts; rw [hret _ acts rfl rfl rfl]) | rw [hret _ _ rfl rfl rfl]
  exact Steps.refl _
/-- what holds at the law's entry: the machine, the code, the tables' words (any of lw_tbl by 'hts w (by decide +kernel)'), the script of L ints xs at the cell b, what the Statement gives of the start (any of its parts by flat_of_before) -/
def lw_At (p : Program) (s : State) (m : MethodId) (meth : Method) (c : Code) (b L : Nat) (xs : Nat → Int32) : Prop :=
  p.tables.exec = Jvm.exec ∧ c.code = code ∧ meth.sig.returnType = ret ∧ c.maxLocals = 4 ∧ s.vm.findClass R_law = some m.cls ∧ (∀ w ∈ lw_tbl, w.before #[Value.ref b] s = true) ∧ va_X b L xs s s.heap ∧ b < s.heap.size ∧ meth.locks = false ∧ (Jvm.Cond.and given_1 narrow_1).before #[Value.ref b] s = true
theorem padL_law (b : Nat) : padL [vr 1] (Yl 215) = [vr 1, vu, vu, vu] := rfl
/-- the walk of the law's body, from a run of the small machine -/
theorem law_of_run {p : Program} {e : Env} {s : State} {m : MethodId} {below : List Frame} {meth : Method} {c : Code} (l : Launch) {b L : Nat} {xs : Nat → Int32} (hL : L ≤ 3072) (hcode : ∀ j, j < 216 → codeOK j) {d : Nat} (hd : d ≤ 800) (run : CallG FC Yl (d + 1) 215 [vr 1] (mem0 L xs) (fun r m' => r = some (vi 1) ∧ m'.1.1.length ≤ 600000 ∧ m'.1.2 ≤ 7302250)) (C0 : lw_At p s m meth c b L xs) : W p l e room_1 s m #[Value.ref b] below meth c s.heap [] 0 0 (lw_Z below #[Value.ref b] s) (entryFrame m ([Value.ref b] : List Value).toArray 4) := by
  obtain ⟨hx, hb, hr, hml, hown, hts, hX, hbl, hlocks, hgv⟩ := C0
  obtain ⟨dC, dI, aC, hK⟩ := KS_start hts
  obtain ⟨hlen, hrun⟩ := run
  obtain ⟨rF, mF, ⟨rfl, hm1, hm2⟩, hrun⟩ := Run.det (CallG.det d) (CallG.mono d) hrun
  have hM0 : MR s.heap.size b L xs dC dI aC (mem0 L xs) s s.heap := by
    refine ⟨mem0_ok hL, fun k q hk => (by cases hk), hX, hbl, by omega, rfl, fun i hi => ?_⟩
    show (if (1 : Nat) = 0 ∧ i = 0 then (L : Int) else if (1 : Nat) = 1 ∧ i < L then (xs i).toInt else 0) = _
    rw [if_neg (by omega), if_pos ⟨rfl, hi⟩]
  have hC : CtxM p room_1 s m #[Value.ref b] meth c s.heap.size dC dI aC 215 (mem0 L xs) mF :=
    ⟨⟨hx, hb, hml, hown⟩, fun w hw _ => hts w hw, hK, rfl, fun hn => absurd hn (by decide), by decide, by decide, hm1, hm2⟩
  have hret : RetI p l e room_1 s m #[Value.ref b] below meth c s.heap.size b L xs dC dI aC 215 (mem0 L xs) mF (lw_Z below #[Value.ref b] s) (some (vi 1)) := by
    intro pc H locs lsr hMF hS
    refine ⟨fun x ty e1 e2 e3 e4 e5 => ?_, fun e1 => by cases e1⟩
    cases e1
    refine va_forget hS.2.2 ?_
    exact W.widen hm1 hm2 (lw_ret hx hb hr hlocks e5)
  have hW := snd_run (hcode 215 (by decide)) (snd_all (fun j hj => hcode j (Nat.lt_trans hj (by decide))) d) hC ⟨by show d + 1 ≤ 2048; omega, by show 100 * (d + 1) ≤ 84000; omega⟩ hret hrun
  have k := hW.2 s.heap [] _ memLe.rf (okV_flat (as := [vr 1]) (fun v hv => by rw [List.mem_singleton] at hv; rw [hv]; trivial)) (fun _ hv => by cases hv) (LR_entry (as := [vr 1]) hlen) hM0 va_S.rf
  rw [lg_entry_eq]
  exact k
