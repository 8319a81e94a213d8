/-! lengths, new cells -/
theorem def_ok : ∀ ci, ci < 11 → ∀ f, f < NFc ci → defaultValue (tyXf ci f) = if isR ci f = true then .null else .int 0 := by decide +kernel
section ST7
variable {p : Program} {l : Launch} {e : Env} {R : Room} {s : State} {m : MethodId} {args : Array Value} {below : List Frame} {meth : Method} {c : Code} {B b L : Nat} {xs : Nat → Int32} {dC : Nat → ClassId} {dI : Nat → Nat → Nat} {aC : Nat → ClassId} {j : Nat} {m0 mF : Mem} {Qe : State → Prop} {pc : Nat} {ls st : List MV} {mm : Mem}
theorem sizeH {H : Heap} {locs : List Loc} {T : State} {slots : Nat} (hM : MR B b L xs dC dI aC mm s H) (hs : s.heap.size = B + m0.1.1.length) (h0 : memLe m0 mm) (hS : va_S (AA B) s.heap H locs) (hT : T.heap = H) (X : Stand p l e R s m args below meth c T locs (mm.1.1.length - m0.1.1.length) slots) : H.size = B + mm.1.1.length := by
  have h1 := X.heapSize
  rw [hT, hs] at h1
  have h2 : B + mm.1.1.length ≤ H.size := by
    rcases Nat.eq_zero_or_pos mm.1.1.length with h | h
    · have := hS.1; omega
    · have h3 := (hM.2.1 (mm.1.1.length - 1) _ (WS_at (by omega))).lt
      dsimp only at h3
      omega
  have := h0.1
  omega
theorem okM_app {m' : Mem} {es : List (Nat × Nat × List Nat)} (h : okM mm) (hg : m'.1.1 = mm.1.1 ++ es) (hd : m'.2 = mm.2) (he : ∀ q ∈ es, (q.1 < 11 ∨ (100 ≤ q.1 ∧ q.1 ≤ 107)) ∧ q.2.1 < 1000) : okM m' := by
  have hlen : m'.1.1.length = mm.1.1.length + es.length := by rw [hg, List.length_append]
  refine ⟨fun i hi => ?_, fun k f => ?_, fun k f hk => by rw [hd]; exact h.2.2 k f (by omega)⟩
  · by_cases h1 : i < mm.1.1.length
    · have : enI m' i = enI mm i := by
        show m'.1.1.getD i _ = mm.1.1.getD i _
        rw [hg, List.getD_eq_getElem?_getD, List.getElem?_append_left h1, ← List.getD_eq_getElem?_getD]
      rw [this]; exact h.1 i h1
    · have hin : enI m' i ∈ es := by
        have : enI m' i = es.getD (i - mm.1.1.length) (999, 0, []) := by
          show m'.1.1.getD i _ = _
          rw [hg, List.getD_eq_getElem?_getD, List.getElem?_append_right (by omega), ← List.getD_eq_getElem?_getD]
        rw [this, List.getD_eq_getElem?_getD, List.getElem?_eq_getElem (by omega)]
        exact List.getElem_mem _
      exact he _ hin
  · rw [hd]
    by_cases h1 : k < mm.1.1.length + 2
    · have : kd m'.1 k = kd mm.1 k := by
        unfold kd
        by_cases h2 : k < 2
        · rw [if_pos h2, if_pos h2]
        · rw [if_neg h2, if_neg h2]
          unfold ent
          rw [hg, List.getD_eq_getElem?_getD, List.getElem?_append_left (by omega), ← List.getD_eq_getElem?_getD]
      rw [this]; exact h.2.1 k f
    · rw [h.2.2 k f (by omega)]
      split <;> rfl
theorem MR_app {m' : Mem} {es : List (Nat × Nat × List Nat)} {H H1 : Heap} {locs : List Loc} (hM : MR B b L xs dC dI aC mm s H) (hB : B ≤ s.heap.size) (hS : va_S (AA B) s.heap H locs) (hg : m'.1.1 = mm.1.1 ++ es) (hd : m'.2 = mm.2) (he : ∀ q ∈ es, (q.1 < 11 ∨ (100 ≤ q.1 ∧ q.1 ≤ 107)) ∧ q.2.1 < 1000) (hold : ∀ q, q < H.size → H1[q]? = H[q]?) (hz : H.size ≤ H1.size) (hnew : ∀ i, i < es.length → va_at (dC, dI) vwCl (B + (mm.1.1.length + i), cellE B b aC m' (mm.1.1.length + i)) H1) : MR B b L xs dC dI aC m' s H1 ∧ va_S (AA B) s.heap H1 locs := by
  have hS1 : va_S (AA B) s.heap H1 locs := ⟨Nat.le_trans hS.1 hz, fun q h1 h2 => (hold q (Nat.lt_of_lt_of_le h1 hS.1)).trans (hS.2.1 q h1 h2), hS.2.2⟩
  refine ⟨MR_next hM hB hS hS1 (okM_app hM.1 hg hd he) ?_ (by rw [hd]) (fun i => by rw [hd]), hS1⟩
  rw [WS_app hg hd]
  refine (hM.2.1.kept (fun k q hk => hold _ (hM.2.1 k q hk).lt)).app (fun k q hk => ?_)
  have hl : k < es.length := by
    have := (List.getElem?_eq_some_iff.mp hk).1
    simpa using this
  rw [List.getElem?_map, List.getElem?_range hl] at hk
  cases hk
  exact hnew k hl
theorem en_new {m' : Mem} {es : List (Nat × Nat × List Nat)} (hg : m'.1.1 = mm.1.1 ++ es) {i : Nat} (hi : i < es.length) : enI m' (mm.1.1.length + i) = es[i] := by
  show m'.1.1.getD (mm.1.1.length + i) _ = _
  rw [hg, List.getD_eq_getElem?_getD, List.getElem?_append_right (by omega), Nat.add_sub_cancel_left, List.getElem?_eq_getElem hi]
  rfl
theorem s_alen (hC : CtxM p R s m args meth c B dC dI aC j m0 mF) {k : Nat} (hd : decode (Yb j) pc = .ok (.arraylength, 1)) (hk : 100 ≤ kd mm.1 k ∧ kd mm.1 k ≤ 107)
    (h : WX p l e R s m args below meth c B b L xs dC dI aC j m0 mF Qe (pc + 1) ls (vi (ln mm.1 k) :: st) mm) : WX p l e R s m args below meth c B b L xs dC dI aC j m0 mF Qe pc ls (vr k :: st) mm :=
  ⟨h.1, fun H locs lsr g0 hl hs hL hM hS => by
    obtain ⟨h2, hlt⟩ := kd_lt (show kd mm.1 k ≠ 999 by omega)
    have hln := (hM.1.1 (k - 2) hlt).2
    have kk := h.2 H locs lsr g0 hl (ok_cons (ok_i (w32_eq (by omega) (by show ((enI mm (k - 2)).2.1 : Int) < _; omega))) (ok_tl hs)) hL hM hS
    rw [List.map_cons, rf_tv h2]
    have hx : ∃ x : vp_A, cellE B b aC mm (k - 2) = .inl (aC (kd mm.1 k - 100), x) ∧ x.1 = ln mm.1 k := by
      by_cases h3 : kd mm.1 k = 101
      · exact ⟨_, by rw [cellE_l h3, h3], rfl⟩
      · by_cases h4 : kd mm.1 k ≤ 102
        · exact ⟨_, by rw [cellE_i (t := kd mm.1 k) rfl (by omega)], rfl⟩
        · exact ⟨_, by rw [cellE_r (by omega)], rfl⟩
    obtain ⟨x, hx1, hx2⟩ := hx
    refine va_alen (D := (dC, dI)) hC.1.1 hC.1.2.1 hC.2.2.1.1 hM.2.1 (k - 2) (kd mm.1 k - 100) (x := x) (by rw [WS_at hlt, hx1]) (tysA_at aC (by omega)) rfl hd ?_
    rw [hx2]
    exact kk⟩
theorem s_alen1 (hC : CtxM p R s m args meth c B dC dI aC j m0 mF) (hd : decode (Yb j) pc = .ok (.arraylength, 1))
    (h : WX p l e R s m args below meth c B b L xs dC dI aC j m0 mF Qe (pc + 1) ls (vi (mm.2 0 0) :: st) mm) : WX p l e R s m args below meth c B b L xs dC dI aC j m0 mF Qe pc ls (vr 1 :: st) mm :=
  ⟨h.1, fun H locs lsr g0 hl hs hL hM hS => by
    have kk := h.2 H locs lsr g0 hl (ok_cons (ok_i (hM.1.rng (by show (999 : Nat) ≠ 101; decide))) (ok_tl hs)) hL hM hS
    obtain ⟨-, -, hX, hb, hL2, hl2, hx⟩ := hM
    have hBle := hC.B_le
    have eH : H[b]? = s.heap[b]? := hS.2.1 b (by omega) (show ¬ B ≤ b by omega)
    show W p l e R s m args below meth c H locs _ _ Qe (F0 m pc lsr (.ref b :: st.map (tv B b)))
    refine va_slen hC.1.1 hC.1.2.1 (hX.kept eH.symm) (by omega) (show ¬ B ≤ b by omega) hS hd ?_
    rw [hl2] at kk
    exact kk⟩
abbrev memN (mm : Mem) (ci n : Nat) : Mem := ((mm.1.1 ++ [(ci, 0, [])], mm.1.2 + n), mm.2)
theorem memN_len (mm : Mem) (ci n : Nat) : (memN mm ci n).1.1.length = mm.1.1.length + 1 := by show (mm.1.1 ++ [(ci, 0, [])]).length = _; rw [List.length_append]; rfl
theorem cellE_new {ci n : Nat} (hci : ci < 11) : cellE B b aC (memN mm ci n) mm.1.1.length = .inr (ci, (List.range (NFc ci)).map (fldE B b mm.2 (mm.1.1.length + 2) ci [])) := by
  have he : enI (memN mm ci n) mm.1.1.length = (ci, 0, []) := by
    show (mm.1.1 ++ [(ci, 0, [])]).getD mm.1.1.length _ = _
    rw [List.getD_eq_getElem?_getD, List.getElem?_append_right (Nat.le_refl _), Nat.sub_self]
    rfl
  unfold cellE
  rw [he]
  exact if_pos (show ci < 100 by omega)
theorem fld_new {ci f : Nat} (hci : ci < 11) (hM : okM mm) (hf : f < NFc ci) : defaultValue (tyXf ci f) = vp_V ((List.range (NFc ci)).map (fldE B b mm.2 (mm.1.1.length + 2) ci [])) f := by
  have hV : vp_V ((List.range (NFc ci)).map (fldE B b mm.2 (mm.1.1.length + 2) ci [])) f = fldE B b mm.2 (mm.1.1.length + 2) ci [] f := by
    unfold vp_V
    rw [List.getD_eq_getElem?_getD, List.getElem?_map, List.getElem?_range hf]
    rfl
  rw [def_ok ci hci f hf, hV]
  unfold fldE
  by_cases hr : isR ci f = true
  · rw [if_pos hr, if_pos hr]; rfl
  · rw [if_neg hr, if_neg hr, hM.2.2 _ f (Nat.le_refl _)]; rfl
theorem MR_new {ci n : Nat} {H H1 : Heap} {locs : List Loc} {kC : Class} (hC : CtxM p R s m args meth c B dC dI aC j m0 mF) (hci : ci < 11) (hM : MR B b L xs dC dI aC mm s H) (hS : va_S (AA B) s.heap H locs) (hsz : H.size = B + mm.1.1.length) (hkC : s.vm.classes[dC ci]? = some kC) (e1 : H1[B + mm.1.1.length]? = some (blank (dC ci) kC)) (z1 : H1.size = B + mm.1.1.length + 1) (o1 : ∀ q, q < B + mm.1.1.length → H1[q]? = H[q]?) : MR B b L xs dC dI aC (memN mm ci n) s H1 ∧ va_S (AA B) s.heap H1 locs := by
  refine MR_app (m' := memN mm ci n) (es := [(ci, 0, [])]) hM hC.B_le hS rfl rfl (fun q hq => ?_) (fun q hq => o1 q (by omega)) (by omega) (fun i hi => ?_)
  · rw [List.mem_singleton] at hq; subst hq; exact ⟨Or.inl hci, Nat.zero_lt_succ _⟩
  · have hi0 : i = 0 := by have : i < 1 := hi; omega
    subst hi0
    rw [Nat.add_zero, cellE_new hci]
    exact ⟨_, cl_at hci, (u_born (tyXf ci) hC.gw (cl_gw hci) (hC.2.2.1.1.1 ci _ (cl_at hci)) hkC e1 (cl_ty hci)).to (fun f hf => fld_new hci hM.1 hf)⟩
theorem s_new (hC : CtxM p R s m args meth c B dC dI aC j m0 mF) {i ci : Nat} (hd : decode (Yb j) pc = .ok (.new i, 3)) (hci : ci < 11) (hw1 : Cond.classLink (RC (Yc j)) i (RC ci) ∈ lw_tbl) (hw2 : Cond.instantiable (RC ci) (NFc ci) ∈ lw_tbl) (hw3 : Cond.initialized (RC ci) ∈ lw_tbl)
    (h : WX p l e R s m args below meth c B b L xs dC dI aC j m0 mF Qe (pc + 3) ls (vr (mm.1.1.length + 2) :: st) (memN mm ci (NFc ci))) : WX p l e R s m args below meth c B b L xs dC dI aC j m0 mF Qe pc ls st mm := by
  have hb1 : mm.1.1.length + 1 ≤ mF.1.1.length := by have := h.1.1; rw [memN_len] at this; exact this
  have hb2 : mm.1.2 + NFc ci ≤ mF.1.2 := h.1.2
  refine ⟨⟨by omega, by omega⟩, fun H locs lsr g0 hl hs hL hM hS => ?_⟩
  have r3 : mF.1.1.length - m0.1.1.length ≤ R.cells := hC.2.2.2.2.2.2.2.1
  have r4 : mF.1.2 - m0.1.2 ≤ R.slots := hC.2.2.2.2.2.2.2.2
  have g1 : m0.1.1.length ≤ mm.1.1.length := g0.1
  have g2 : m0.1.2 ≤ mm.1.2 := g0.2
  have hKn := hC.2.2.1.1.1 ci _ (cl_at hci)
  intro T hT X
  have hsz := sizeH hM hC.2.2.2.1 g0 hS hT X
  have hfc : s.vm.findClass (RC ci) = some (dC ci) := hKn.2.1
  have w1 := hC.2.1 _ hw1 rfl
  have w2 := hC.2.1 _ hw2 rfl
  have w3 := hC.2.1 _ hw3 rfl
  have c1 : mm.1.1.length - m0.1.1.length + 1 ≤ R.cells := by omega
  have c2 : mm.1.2 - m0.1.2 + NFc ci ≤ R.slots := by omega
  refine W.newcK (own := RC (Yc j)) (C := RC ci) (n := NFc ci) (cC := dC ci) (g := F0 m pc lsr (st.map (tv B b))) hC.1.1 hC.1.2.1 hC.1.2.2.2 w1 w2 w3 rfl hd c1 c2 hfc hsz (fun H1 kC hkC e1 z1 o1 => ?_) T hT X
  have hap := MR_new (n := NFc ci) hC hci hM hS hsz hkC e1 z1 o1
  have kk := h.2 H1 locs lsr ⟨by rw [memN_len]; omega, Nat.le_trans g2 (Nat.le_add_right _ _)⟩ hl (ok_cons (trivial : okV (vr (mm.1.1.length + 2))) hs) hL hap.1 hap.2
  have e3 : (memN mm ci (NFc ci)).1.1.length - m0.1.1.length = mm.1.1.length - m0.1.1.length + 1 := by rw [memN_len]; omega
  have e4 : (memN mm ci (NFc ci)).1.2 - m0.1.2 = mm.1.2 - m0.1.2 + NFc ci := by show mm.1.2 + NFc ci - m0.1.2 = _; omega
  rw [List.map_cons, rf_tv (by omega), show mm.1.1.length + 2 - 2 = mm.1.1.length from by omega, e3, e4] at kk
  exact kk
/-! new arrays of one dimension: t the kind, n the length -/
theorem newE_len (mm : Mem) (t n : Nat) : (newE mm t n).1.1.length = mm.1.1.length + 1 := by show (mm.1.1 ++ [(t, n, [])]).length = _; rw [List.length_append]; rfl
theorem newE_en (mm : Mem) (t n : Nat) : enI (newE mm t n) mm.1.1.length = (t, n, []) := by
  show (mm.1.1 ++ [(t, n, [])]).getD mm.1.1.length _ = _
  rw [List.getD_eq_getElem?_getD, List.getElem?_append_right (Nat.le_refl _), Nat.sub_self]
  rfl
def dvA (t : Nat) : Value := match t with | 100 => .int 0 | 101 => .long 0 | 102 => .int 0 | _ => .null
theorem cell_newE {t n : Nat} (ho : okM mm) (ht : 100 ≤ t ∧ t ≤ 107) : ∃ a : vp_A, cellE B b aC (newE mm t n) mm.1.1.length = .inl (aC (t - 100), a) ∧ ∀ cA, vp_cell cA a = arrV cA n (fun _ => dvA t) := by
  have h0 : ∀ f, mm.2 (mm.1.1.length + 2) f = 0 := fun f => ho.2.2 _ f (Nat.le_refl _)
  unfold cellE
  rw [newE_en]
  dsimp only
  rw [if_neg (by omega)]
  by_cases h1 : t = 101
  · subst h1
    rw [if_pos rfl]
    exact ⟨_, rfl, fun cA => by rw [vp_cell_l]; congr 1; funext q; show Value.long (Int64.ofInt (mm.2 _ q)) = _; rw [h0]; rfl⟩
  · rw [if_neg h1]
    by_cases h2 : t ≤ 102
    · rw [if_pos h2]
      exact ⟨_, rfl, fun cA => by
        rw [vp_cell_i]; congr 1; funext q; show Value.int (Int32.ofInt (mm.2 _ q)) = _; rw [h0]
        rcases (show t = 100 ∨ t = 102 by omega) with rfl | rfl <;> rfl⟩
    · rw [if_neg h2]
      exact ⟨_, rfl, fun cA => by
        rw [vp_cell_q]; congr 1; funext q
        rcases (show t = 103 ∨ t = 104 ∨ t = 105 ∨ t = 106 ∨ t = 107 by omega) with rfl | rfl | rfl | rfl | rfl <;> rfl⟩
theorem MR_newA {t n : Nat} {H H1 : Heap} {locs : List Loc} (hC : CtxM p R s m args meth c B dC dI aC j m0 mF) (ht : 100 ≤ t ∧ t ≤ 107) (hn : n < 1000) (hM : MR B b L xs dC dI aC mm s H) (hS : va_S (AA B) s.heap H locs) (hsz : H.size = B + mm.1.1.length) (e1 : H1[B + mm.1.1.length]? = some (arrV (aC (t - 100)) n (fun _ => dvA t))) (z1 : H1.size = B + mm.1.1.length + 1) (o1 : ∀ q, q < B + mm.1.1.length → H1[q]? = H[q]?) : MR B b L xs dC dI aC (newE mm t n) s H1 ∧ va_S (AA B) s.heap H1 locs := by
  refine MR_app (m' := newE mm t n) (es := [(t, n, [])]) hM hC.B_le hS rfl rfl (fun q hq => ?_) (fun q hq => o1 q (by omega)) (by omega) (fun i hi => ?_)
  · rw [List.mem_singleton] at hq; subst hq; exact ⟨Or.inr ht, hn⟩
  · have hi0 : i = 0 := by have : i < 1 := hi; omega
    subst hi0
    obtain ⟨a, h1, h2⟩ := cell_newE (B := B) (b := b) (aC := aC) (n := n) hM.1 ht
    rw [Nat.add_zero, h1]
    show H1[B + mm.1.1.length]? = some (vp_cell (aC (t - 100)) a)
    rw [h2]
    exact e1
theorem push_facts {H : Heap} {x : Cell} {n : Nat} (h : H.size = n) : (H.push x)[n]? = some x ∧ (H.push x).size = n + 1 ∧ ∀ q, q < n → (H.push x)[q]? = H[q]? := by
  subst h
  refine ⟨by simp, by simp, fun q hq => ?_⟩
  rw [Array.getElem?_push_lt hq, Array.getElem?_eq_getElem hq]
theorem s_newA (hC : CtxM p R s m args meth c B dC dI aC j m0 mF) {t : Nat} {n : Int} {ln : Nat} (ht : 100 ≤ t ∧ t ≤ 107) (h0 : 0 ≤ n) (h1 : n < 1000)
    (row : ∀ (H : Heap) (locs : List Loc) (lsr : Array Slot) (cells slots : Nat) (rest : List Value), ¬ Int32.ofInt n < 0 → (Int32.ofInt n).toNatClampNeg = n.toNat → cells + 1 ≤ R.cells → slots + n.toNat ≤ R.slots → W p l e R s m args below meth c (H.push (arrV (aC (t - 100)) n.toNat (fun _ => dvA t))) locs (cells + 1) (slots + n.toNat) Qe (F0 m (pc + ln) lsr (.ref H.size :: rest)) → W p l e R s m args below meth c H locs cells slots Qe (F0 m pc lsr (.int (Int32.ofInt n) :: rest)))
    (h : WX p l e R s m args below meth c B b L xs dC dI aC j m0 mF Qe (pc + ln) ls (vr (mm.1.1.length + 2) :: st) (newE mm t n.toNat)) : WX p l e R s m args below meth c B b L xs dC dI aC j m0 mF Qe pc ls (vi n :: st) mm := by
  have hb1 : mm.1.1.length + 1 ≤ mF.1.1.length := by have := h.1.1; rw [newE_len] at this; exact this
  have hb2 : mm.1.2 + n.toNat ≤ mF.1.2 := h.1.2
  refine ⟨⟨by omega, by omega⟩, fun H locs lsr g0 hl hs hL hM hS => ?_⟩
  have r3 : mF.1.1.length - m0.1.1.length ≤ R.cells := hC.2.2.2.2.2.2.2.1
  have r4 : mF.1.2 - m0.1.2 ≤ R.slots := hC.2.2.2.2.2.2.2.2
  have g1 : m0.1.1.length ≤ mm.1.1.length := g0.1
  have g2 : m0.1.2 ≤ mm.1.2 := g0.2
  have hn : w32 n = n := ok_hd hs
  intro T hT X
  have hsz := sizeH hM hC.2.2.2.1 g0 hS hT X
  refine row H locs lsr _ _ _ (pos32 hn h0) (nat32 hn) (by omega) (by omega) ?_ T hT X
  obtain ⟨e1, z1, o1⟩ := push_facts (x := arrV (aC (t - 100)) n.toNat (fun _ => dvA t)) hsz
  have hap := MR_newA hC ht (by omega) hM hS hsz e1 z1 o1
  have kk := h.2 _ locs lsr ⟨by rw [newE_len]; omega, Nat.le_trans g2 (Nat.le_add_right _ _)⟩ hl (ok_cons (trivial : okV (vr (mm.1.1.length + 2))) (ok_tl hs)) hL hap.1 hap.2
  have e3 : (newE mm t n.toNat).1.1.length - m0.1.1.length = mm.1.1.length - m0.1.1.length + 1 := by rw [newE_len]; omega
  have e4 : (newE mm t n.toNat).1.2 - m0.1.2 = mm.1.2 - m0.1.2 + n.toNat := by show mm.1.2 + n.toNat - m0.1.2 = _; omega
  rw [List.map_cons, rf_tv (by omega), show mm.1.1.length + 2 - 2 = mm.1.1.length from by omega, e3, e4, ← hsz] at kk
  exact kk
theorem s_newarr (hC : CtxM p R s m args meth c B dC dI aC j m0 mF) {t : Nat} {n : Int} (hd : decode (Yb j) pc = .ok (.newarray (atyN t), 2)) (ht : t = 100 ∨ t = 101 ∨ t = 102) (hw : Cond.arrayClass (aty (t - 100)) ∈ lw_tbl) (h0 : 0 ≤ n) (h1 : n < 1000)
    (h : WX p l e R s m args below meth c B b L xs dC dI aC j m0 mF Qe (pc + 2) ls (vr (mm.1.1.length + 2) :: st) (newE mm t n.toNat)) : WX p l e R s m args below meth c B b L xs dC dI aC j m0 mF Qe pc ls (vi n :: st) mm :=
  s_newA hC (by omega) h0 h1 (fun H locs lsr cells slots rest q1 q2 q3 q4 k => by
    have hA := (hC.2.2.1.1.2 (t - 100) _ (tysA_at aC (by omega))).2
    refine W.newa hC.1.1 hC.1.2.1 (atype := atyN t) (hC.2.1 _ (show Cond.arrayClass (newarray.typeOf (atyN t)) ∈ lw_tbl by rcases ht with rfl | rfl | rfl <;> exact hw) rfl) rfl hd rfl q1 (by rw [q2]; rcases ht with rfl | rfl | rfl <;> (show n.toNat * _ ≤ _; simp only [atyN, newarray.typeOf, componentBytes]; omega)) q3 (by rw [q2]; exact q4) (fun cA kA comp f1 f2 f3 => ?_)
    have e : cA = aC (t - 100) := by
      rcases ht with rfl | rfl | rfl <;> exact Option.some.inj (f1.symm.trans hA)
    rw [q2, e, arrV_new]
    rcases ht with rfl | rfl | rfl <;> exact k) h
theorem s_anew (hC : CtxM p R s m args meth c B dC dI aC j m0 mF) {t i : Nat} {C : String} {n : Int} (hd : decode (Yb j) pc = .ok (.anewarray i, 3)) (ht : t = 103 ∨ t = 104 ∨ t = 105) (hty : aty (t - 100) = .object C) (hw1 : Cond.classLink (RC (Yc j)) i C ∈ lw_tbl) (hw2 : Cond.arrayOver (.object C) ∈ lw_tbl) (h0 : 0 ≤ n) (h1 : n < 1000)
    (h : WX p l e R s m args below meth c B b L xs dC dI aC j m0 mF Qe (pc + 3) ls (vr (mm.1.1.length + 2) :: st) (newE mm t n.toNat)) : WX p l e R s m args below meth c B b L xs dC dI aC j m0 mF Qe pc ls (vi n :: st) mm :=
  s_newA hC (by omega) h0 h1 (fun H locs lsr cells slots rest q1 q2 q3 q4 k => by
    have hA := (hC.2.2.1.1.2 (t - 100) _ (tysA_at aC (by omega))).2
    rw [hty] at hA
    obtain ⟨kA', comp', g1, g2, g3, g4⟩ := hA
    refine W.anew hC.1.1 hC.1.2.1 hC.1.2.2.2 (hC.2.1 _ hw1 rfl) (va_AO.use (hC.nest hw2 rfl)) rfl hd rfl q1 (by rw [q2]; omega) q3 (by rw [q2]; exact q4) (fun cA kA comp f1 f2 f3 f4 => ?_)
    have e : cA = aC (t - 100) := Option.some.inj (f1.symm.trans g4)
    rw [q2, e, arrV_new]
    rcases ht with rfl | rfl | rfl <;> exact k) h
end ST7
