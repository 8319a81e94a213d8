/-! conversions, branches, switches, the stack -/
section ST2
variable {p : Program} {l : Launch} {e : Env} {R : Room} {s : State} {m : MethodId} {args : Array Value} {below : List Frame} {meth : Method} {c : Code} {B b L : Nat} {xs : Nat → Int32} {dC : Nat → ClassId} {dI : Nat → Nat → Nat} {aC : Nat → ClassId} {j : Nat} {m0 mF : Mem} {Qe : State → Prop} {pc : Nat} {ls st : List MV} {mm : Mem}
theorem s_i2l (hC : CtxM p R s m args meth c B dC dI aC j m0 mF) {x : Int} (hd : decode (Yb j) pc = .ok (.i2l, 1)) (h : WX p l e R s m args below meth c B b L xs dC dI aC j m0 mF Qe (pc + 1) ls (vl x :: st) mm) : WX p l e R s m args below meth c B b L xs dC dI aC j m0 mF Qe pc ls (vi x :: st) mm :=
  s_op (fun hs => ok_cons (ok_l (w64_eq (by have := w32_b x; rw [show w32 x = x from ok_hd hs] at this; omega) (by have := w32_b x; rw [show w32 x = x from ok_hd hs] at this; omega))) (ok_tl hs)) (fun hs => rfl) rfl (fun hs H locs lsr _ _ k => lv_i2l hC.1.1 hC.1.2.1 hd (by
    apply Int64.toInt_inj.mp
    have h1 : (Int32.ofInt x).toInt = x := ok_hd hs
    have h2 := w32_b x
    rw [show w32 x = x from ok_hd hs] at h2
    have h3 : (Int64.ofInt x).toInt = x := w64_eq (by omega) (by omega)
    rw [Int32.toInt_toInt64, h1, h3]) k) h
theorem s_l2i (hC : CtxM p R s m args meth c B dC dI aC j m0 mF) {x : Int} (hd : decode (Yb j) pc = .ok (.l2i, 1)) (h : WX p l e R s m args below meth c B b L xs dC dI aC j m0 mF Qe (pc + 1) ls (vi (w32 x) :: st) mm) : WX p l e R s m args below meth c B b L xs dC dI aC j m0 mF Qe pc ls (vl x :: st) mm :=
  s_op (fun hs => ok_cons (ok_i (w32_w _)) (ok_tl hs)) (fun hs => rfl) rfl (fun hs H locs lsr _ _ k => lv_l2i hC.1.1 hC.1.2.1 hd (by
    rw [o32_w]
    apply Int32.toInt_inj.mp
    have h1 : (Int64.ofInt x).toInt = x := ok_hd hs
    rw [Int64.toInt_toInt32, h1, Int32.toInt_ofInt]
    ) k) h
theorem i2c_eq {x : Int} (h0 : 0 ≤ x) (h1 : x < 65536) : ((Int32.ofInt x).toUInt32 % 65536).toInt32 = Int32.ofInt x := by
  rw [pk_char]
  obtain ⟨n, rfl⟩ := Int.eq_ofNat_of_zero_le h0
  have e : (Int32.ofInt (n : Int)).toBitVec.toNat = n := by
    show (BitVec.ofInt 32 (n : Int)).toNat = n
    rw [BitVec.ofInt_natCast, BitVec.toNat_ofNat]
    omega
  rw [e, Nat.mod_eq_of_lt (by omega)]
  rfl
theorem s_i2c (hC : CtxM p R s m args meth c B dC dI aC j m0 mF) {x : Int} (hd : decode (Yb j) pc = .ok (.i2c, 1)) (h0 : 0 ≤ x) (h1 : x < 65536) (h : WX p l e R s m args below meth c B b L xs dC dI aC j m0 mF Qe (pc + 1) ls (vi x :: st) mm) : WX p l e R s m args below meth c B b L xs dC dI aC j m0 mF Qe pc ls (vi x :: st) mm :=
  s_op (fun hs => hs) (fun hs => rfl) rfl (fun hs H locs lsr _ _ k => lv_i2c hC.1.1 hC.1.2.1 hd (i2c_eq h0 h1) k) h
theorem lc_w (x y : Int) : w32 (if x < y then -1 else if x = y then 0 else 1) = if x < y then -1 else if x = y then 0 else 1 := by
  split
  · rfl
  · split <;> rfl
theorem s_lcmp (hC : CtxM p R s m args meth c B dC dI aC j m0 mF) {x y : Int} (hd : decode (Yb j) pc = .ok (.lcmp, 1)) (h : WX p l e R s m args below meth c B b L xs dC dI aC j m0 mF Qe (pc + 1) ls (vi (if x < y then -1 else if x = y then 0 else 1) :: st) mm) : WX p l e R s m args below meth c B b L xs dC dI aC j m0 mF Qe pc ls (vl y :: vl x :: st) mm :=
  s_op (fun hs => ok_cons (ok_i (lc_w x y)) (ok_tl (ok_tl hs))) (fun hs => show Value.int (Int32.ofInt (if x < y then -1 else if x = y then 0 else 1)) :: _ = Value.int (lg_cmp (Int64.ofInt x) (Int64.ofInt y)) :: st.map (tv B b) by
    have h1 := lt64 (ok_hd hs) (ok_hd (ok_tl hs))
    have h2 := eq64 (ok_hd (ok_tl hs)) (ok_hd hs)
    unfold lg_cmp
    by_cases a : x < y
    · rw [if_pos a, if_neg (fun z => by have := h1.mp z; omega), if_neg (fun z => by have := h2.mp z; omega)]; rfl
    · by_cases q : x = y
      · rw [if_neg a, if_pos q, if_neg (fun z => by have := h1.mp z; omega), if_pos (h2.mpr q)]; rfl
      · rw [if_neg a, if_neg q, if_pos (h1.mpr (by omega))]; rfl) rfl (fun hs H locs lsr _ _ k => W.lcmp hC.1.1 hC.1.2.1 hd k) h
theorem s_if (hC : CtxM p R s m args meth c B dC dI aC j m0 mF) {x off : Int} {t : Nat} {cc : ClassFile.Cond} (hd : decode (Yb j) pc = .ok (.ifCond cc off, 3)) (ht : (pc : Int) + off = (t : Int)) (h1 : cnd (ccI cc) x 0 = true → WX p l e R s m args below meth c B b L xs dC dI aC j m0 mF Qe t ls st mm) (h2 : ¬ cnd (ccI cc) x 0 = true → WX p l e R s m args below meth c B b L xs dC dI aC j m0 mF Qe (pc + 3) ls st mm) : WX p l e R s m args below meth c B b L xs dC dI aC j m0 mF Qe pc ls (vi x :: st) mm := by
  by_cases hc : cnd (ccI cc) x 0 = true
  · refine ⟨(h1 hc).1, fun H locs lsr h0 hl hs hL hM hS => ?_⟩
    have k := (h1 hc).2 H locs lsr h0 hl (ok_tl hs) hL hM hS
    have e1 := eq32 (ok_hd hs) z32
    have e2 := lt32 (ok_hd hs) z32
    have e3 := lt32 z32 (ok_hd hs)
    have e4 := le32 (ok_hd hs) z32
    have e5 := le32 z32 (ok_hd hs)
    cases cc <;> simp [cnd, ccI] at hc
    · exact lv_if_eq hC.1.1 hC.1.2.1 hd ht (fun _ => k) (fun z => absurd (e1.mpr hc) z)
    · exact lv_if_ne hC.1.1 hC.1.2.1 hd ht (fun _ => k) (fun z => absurd (e1.mp z) hc)
    · exact lv_if_lt hC.1.1 hC.1.2.1 hd ht (fun _ => k) (fun z => absurd (e2.mpr hc) z)
    · exact lv_if_ge hC.1.1 hC.1.2.1 hd ht (fun _ => k) (fun z => absurd (e5.mpr hc) z)
    · exact lv_if_gt hC.1.1 hC.1.2.1 hd ht (fun _ => k) (fun z => absurd (e3.mpr hc) z)
    · exact lv_if_le hC.1.1 hC.1.2.1 hd ht (fun _ => k) (fun z => absurd (e4.mpr hc) z)
  · refine ⟨(h2 hc).1, fun H locs lsr h0 hl hs hL hM hS => ?_⟩
    have k := (h2 hc).2 H locs lsr h0 hl (ok_tl hs) hL hM hS
    have e1 := eq32 (ok_hd hs) z32
    have e2 := lt32 (ok_hd hs) z32
    have e3 := lt32 z32 (ok_hd hs)
    have e4 := le32 (ok_hd hs) z32
    have e5 := le32 z32 (ok_hd hs)
    cases cc <;> simp [cnd, ccI] at hc
    · exact lv_if_eq hC.1.1 hC.1.2.1 hd ht (fun z => absurd (e1.mp z) hc) (fun _ => k)
    · exact lv_if_ne hC.1.1 hC.1.2.1 hd ht (fun z => absurd (e1.mpr hc) z) (fun _ => k)
    · exact lv_if_lt hC.1.1 hC.1.2.1 hd ht (fun z => absurd (e2.mp z) (by omega)) (fun _ => k)
    · exact lv_if_ge hC.1.1 hC.1.2.1 hd ht (fun z => absurd (e5.mp z) (by omega)) (fun _ => k)
    · exact lv_if_gt hC.1.1 hC.1.2.1 hd ht (fun z => absurd (e3.mp z) (by omega)) (fun _ => k)
    · exact lv_if_le hC.1.1 hC.1.2.1 hd ht (fun z => absurd (e4.mp z) (by omega)) (fun _ => k)
theorem s_icmp (hC : CtxM p R s m args meth c B dC dI aC j m0 mF) {x y off : Int} {t : Nat} {cc : ClassFile.Cond} (hd : decode (Yb j) pc = .ok (.if_icmp cc off, 3)) (ht : (pc : Int) + off = (t : Int)) (h1 : cnd (ccI cc) x y = true → WX p l e R s m args below meth c B b L xs dC dI aC j m0 mF Qe t ls st mm) (h2 : ¬ cnd (ccI cc) x y = true → WX p l e R s m args below meth c B b L xs dC dI aC j m0 mF Qe (pc + 3) ls st mm) : WX p l e R s m args below meth c B b L xs dC dI aC j m0 mF Qe pc ls (vi y :: vi x :: st) mm := by
  by_cases hc : cnd (ccI cc) x y = true
  · refine ⟨(h1 hc).1, fun H locs lsr h0 hl hs hL hM hS => ?_⟩
    have k := (h1 hc).2 H locs lsr h0 hl (ok_tl (ok_tl hs)) hL hM hS
    have e1 := eq32 (ok_hd (ok_tl hs)) (ok_hd hs)
    have e2 := lt32 (ok_hd (ok_tl hs)) (ok_hd hs)
    have e3 := lt32 (ok_hd hs) (ok_hd (ok_tl hs))
    have e4 := le32 (ok_hd (ok_tl hs)) (ok_hd hs)
    have e5 := le32 (ok_hd hs) (ok_hd (ok_tl hs))
    cases cc <;> simp [cnd, ccI] at hc
    · exact lv_icmp_eq hC.1.1 hC.1.2.1 hd ht (fun _ => k) (fun z => absurd (e1.mpr hc) z)
    · exact lv_icmp_ne hC.1.1 hC.1.2.1 hd ht (fun _ => k) (fun z => absurd (e1.mp z) hc)
    · exact lv_icmp_lt hC.1.1 hC.1.2.1 hd ht (fun _ => k) (fun z => absurd (e2.mpr hc) z)
    · exact lv_icmp_ge hC.1.1 hC.1.2.1 hd ht (fun _ => k) (fun z => absurd (e5.mpr hc) z)
    · exact lv_icmp_gt hC.1.1 hC.1.2.1 hd ht (fun _ => k) (fun z => absurd (e3.mpr hc) z)
    · exact lv_icmp_le hC.1.1 hC.1.2.1 hd ht (fun _ => k) (fun z => absurd (e4.mpr hc) z)
  · refine ⟨(h2 hc).1, fun H locs lsr h0 hl hs hL hM hS => ?_⟩
    have k := (h2 hc).2 H locs lsr h0 hl (ok_tl (ok_tl hs)) hL hM hS
    have e1 := eq32 (ok_hd (ok_tl hs)) (ok_hd hs)
    have e2 := lt32 (ok_hd (ok_tl hs)) (ok_hd hs)
    have e3 := lt32 (ok_hd hs) (ok_hd (ok_tl hs))
    have e4 := le32 (ok_hd (ok_tl hs)) (ok_hd hs)
    have e5 := le32 (ok_hd hs) (ok_hd (ok_tl hs))
    cases cc <;> simp [cnd, ccI] at hc
    · exact lv_icmp_eq hC.1.1 hC.1.2.1 hd ht (fun z => absurd (e1.mp z) hc) (fun _ => k)
    · exact lv_icmp_ne hC.1.1 hC.1.2.1 hd ht (fun z => absurd (e1.mpr hc) z) (fun _ => k)
    · exact lv_icmp_lt hC.1.1 hC.1.2.1 hd ht (fun z => absurd (e2.mp z) (by omega)) (fun _ => k)
    · exact lv_icmp_ge hC.1.1 hC.1.2.1 hd ht (fun z => absurd (e5.mp z) (by omega)) (fun _ => k)
    · exact lv_icmp_gt hC.1.1 hC.1.2.1 hd ht (fun z => absurd (e3.mp z) (by omega)) (fun _ => k)
    · exact lv_icmp_le hC.1.1 hC.1.2.1 hd ht (fun z => absurd (e4.mp z) (by omega)) (fun _ => k)
theorem s_goto (hC : CtxM p R s m args meth c B dC dI aC j m0 mF) {off : Int} {t : Nat} (hd : decode (Yb j) pc = .ok (.goto off, 3)) (ht : (pc : Int) + off = (t : Int)) (h : WX p l e R s m args below meth c B b L xs dC dI aC j m0 mF Qe t ls st mm) : WX p l e R s m args below meth c B b L xs dC dI aC j m0 mF Qe pc ls st mm :=
  h.to (fun hs => hs) (fun H locs lsr _ _ _ k => lv_goto hC.1.1 hC.1.2.1 hd ht k)
theorem s_dup (hC : CtxM p R s m args meth c B dC dI aC j m0 mF) {v : MV} (hv : isL v = false) (hd : decode (Yb j) pc = .ok (.dup, 1)) (h : WX p l e R s m args below meth c B b L xs dC dI aC j m0 mF Qe (pc + 1) ls (v :: v :: st) mm) : WX p l e R s m args below meth c B b L xs dC dI aC j m0 mF Qe pc ls (v :: st) mm :=
  h.to (fun hs => ok_cons (ok_hd hs) hs) (fun H locs lsr _ _ _ k => lv_dup hC.1.1 hC.1.2.1 hd (by rw [tv_cat, if_neg (by rw [hv]; decide)]) k)
theorem s_pop (hC : CtxM p R s m args meth c B dC dI aC j m0 mF) {v : MV} (hv : isL v = false) (hd : decode (Yb j) pc = .ok (.pop, 1)) (h : WX p l e R s m args below meth c B b L xs dC dI aC j m0 mF Qe (pc + 1) ls st mm) : WX p l e R s m args below meth c B b L xs dC dI aC j m0 mF Qe pc ls (v :: st) mm :=
  h.to (fun hs => ok_tl hs) (fun H locs lsr _ _ _ k => lv_pop hC.1.1 hC.1.2.1 hd (by rw [tv_cat, if_neg (by rw [hv]; decide)]) k)
theorem swt_tab {pc d : Nat} {x : Int} : ∀ (os : List Int) (lo : Int), (∀ o ∈ os, 0 ≤ (pc : Int) + o) → (x < lo ∨ lo + os.length ≤ x → swt (tabT pc lo os) d x = d) ∧ (lo ≤ x → x < lo + os.length → ∃ off, os[(x - lo).toNat]? = some off ∧ (pc : Int) + off = (swt (tabT pc lo os) d x : Nat))
  | [], lo, _ => ⟨fun _ => rfl, fun h1 h2 => by simp at h2; omega⟩
  | o :: r, lo, hp => by
    have ih := swt_tab (pc := pc) (d := d) (x := x) r (lo + 1) (fun o h => hp o (List.mem_cons_of_mem _ h))
    have e : swt (tabT pc lo (o :: r)) d x = if x = lo then ((pc : Int) + o).toNat else swt (tabT pc (lo + 1) r) d x := rfl
    refine ⟨fun h => ?_, fun h1 h2 => ?_⟩
    · rw [e, if_neg (by simp at h; omega)]
      exact ih.1 (by simp at h; omega)
    · rw [e]
      by_cases hx : x = lo
      · rw [if_pos hx]
        have := hp o List.mem_cons_self
        exact ⟨o, by rw [hx]; simp, by omega⟩
      · rw [if_neg hx]
        obtain ⟨off, h3, h4⟩ := ih.2 (by omega) (by simp at h2; omega)
        refine ⟨off, ?_, h4⟩
        rw [show (x - lo).toNat = (x - (lo + 1)).toNat + 1 from by omega, List.getElem?_cons_succ]
        exact h3
theorem s_table (hC : CtxM p R s m args meth c B dC dI aC j m0 mF) {x dflt lo hi : Int} {offs : Array Int} {len d : Nat} (hd : decode (Yb j) pc = .ok (.tableswitch dflt lo hi offs, len)) (hdt : (pc : Int) + dflt = (d : Int)) (hn : lo + offs.size = hi + 1) (hp : ∀ o ∈ offs.toList, 0 ≤ (pc : Int) + o) (h : WX p l e R s m args below meth c B b L xs dC dI aC j m0 mF Qe (swt (tabT pc lo offs.toList) d x) ls st mm) : WX p l e R s m args below meth c B b L xs dC dI aC j m0 mF Qe pc ls (vi x :: st) mm :=
  ⟨h.1, fun H locs lsr h0 hl hs hL hM hS => by
    have k := h.2 H locs lsr h0 hl (ok_tl hs) hL hM hS
    have hx : (Int32.ofInt x).toInt = x := ok_hd hs
    obtain ⟨g1, g2⟩ := swt_tab (pc := pc) (d := d) (x := x) offs.toList lo hp
    have hsz : (offs.toList.length : Int) = offs.size := by simp
    by_cases hin : lo ≤ x ∧ x ≤ hi
    · obtain ⟨off, h3, h4⟩ := g2 hin.1 (by omega)
      refine lv_tableIn hC.1.1 hC.1.2.1 hd (by rw [hx]; omega) (by rw [hx]; omega) (by rw [hx, ← Array.getElem?_toList]; exact h3) h4 k
    · rw [g1 (by omega)] at k
      exact lv_tableOut hC.1.1 hC.1.2.1 hd (by rw [hx]; omega) hdt k⟩
theorem swt_lk {pc d : Nat} {x dflt : Int} (hdt : (pc : Int) + dflt = (d : Int)) : ∀ ps : List (Int × Int), (∀ q ∈ ps, 0 ≤ (pc : Int) + q.2) → (pc : Int) + Op.lookupswitch.offset ps dflt x = (swt (lkT pc ps) d x : Nat)
  | [], _ => hdt
  | q :: r, hp => by
    obtain ⟨a, o⟩ := q
    have ih := swt_lk (x := x) hdt r (fun z h => hp z (List.mem_cons_of_mem _ h))
    have h0 := hp (a, o) List.mem_cons_self
    show (pc : Int) + Op.lookupswitch.offset ((a, o) :: r) dflt x = ((if x = a then ((pc : Int) + o).toNat else swt (lkT pc r) d x : Nat) : Int)
    rw [Op.lookupswitch.offset_cons]
    by_cases h : a = x
    · rw [if_pos h, if_pos h.symm]; omega
    · rw [if_neg h, if_neg (Ne.symm h)]; exact ih
theorem s_lookup (hC : CtxM p R s m args meth c B dC dI aC j m0 mF) {x dflt : Int} {ps : Array (Int × Int)} {len d : Nat} (hd : decode (Yb j) pc = .ok (.lookupswitch dflt ps, len)) (hdt : (pc : Int) + dflt = (d : Int)) (ho : (ps.toList.zip (ps.toList.drop 1)).all (fun (a, next) => a.1 < next.1) = true) (hp : ∀ q ∈ ps.toList, 0 ≤ (pc : Int) + q.2) (h : WX p l e R s m args below meth c B b L xs dC dI aC j m0 mF Qe (swt (lkT pc ps.toList) d x) ls st mm) : WX p l e R s m args below meth c B b L xs dC dI aC j m0 mF Qe pc ls (vi x :: st) mm :=
  ⟨h.1, fun H locs lsr h0 hl hs hL hM hS => by
    have k := h.2 H locs lsr h0 hl (ok_tl hs) hL hM hS
    have hx : (Int32.ofInt x).toInt = x := ok_hd hs
    exact lv_lookup hC.1.1 hC.1.2.1 hd ho rfl (by rw [hx]; exact swt_lk hdt ps.toList hp) k⟩
end ST2
