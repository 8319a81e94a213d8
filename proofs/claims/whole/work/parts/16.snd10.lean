/-! copies, Math, Object's constructor; calls -/
section ST10
variable {p : Program} {l : Launch} {e : Env} {R : Room} {s : State} {m : MethodId} {args : Array Value} {below : List Frame} {meth : Method} {c : Code} {B b L : Nat} {xs : Nat → Int32} {dC : Nat → ClassId} {dI : Nat → Nat → Nat} {aC : Nat → ClassId} {j : Nat} {m0 mF : Mem} {Qe : State → Prop} {pc : Nat} {ls st : List MV} {mm : Mem}
theorem cat_sum (st : List MV) : ((st.map (tv B b)).map fun v => v.category).sum = catSum st := by
  unfold catSum
  rw [List.map_map]
  congr 1
  apply List.map_congr_left
  intro v _
  exact tv_cat B b v
theorem LR.size {lsr : Array Slot} {nL : Nat} (h : LR B b ls lsr nL) : lsr.size = nL := h.2.1
theorem okM_cpy {a sp k dp n : Nat} (h : okM mm) (ha : kd mm.1 a = 100) (hk : kd mm.1 k = 100) : okM (mm.1, cpy mm.2 a sp k dp n) := by
  refine ⟨h.1, fun q i => ?_, fun q i hq => ?_⟩
  · show if kd mm.1 q = 101 then w64 (cpy mm.2 a sp k dp n q i) = cpy mm.2 a sp k dp n q i else w32 (cpy mm.2 a sp k dp n q i) = cpy mm.2 a sp k dp n q i
    unfold cpy
    by_cases e : q = k ∧ dp ≤ i ∧ i < dp + n
    · rw [if_pos e, if_neg (by rw [e.1]; omega)]
      exact h.rng (by omega)
    · rw [if_neg e]; exact h.2.1 q i
  · show cpy mm.2 a sp k dp n q i = 0
    have hq : mm.1.1.length + 2 ≤ q := hq
    have h1 := kd_lt (show kd mm.1 k ≠ 999 by omega)
    unfold cpy
    rw [if_neg (fun e => by have := e.1; omega)]
    exact h.2.2 q i hq
theorem nfw_ok : nativeFrameWords "java/lang/System" "arraycopy" 5 + 11 ≤ 80 := by decide +kernel
theorem s_cpy (hC : CtxM p R s m args meth c B dC dI aC j m0 mF) {a k i : Nat} {n dp sp : Int} (hd : decode (Yb j) pc = .ok (.invokestatic i, 3)) (hw1 : Cond.methodLink (RC (Yc j)) i arraycopyName ∈ lw_tbl) (hw2 : Cond.native arraycopyName ∈ lw_tbl) (hw3 : Cond.static arraycopyName ∈ lw_tbl) (hw4 : Cond.initialized "java/lang/System" ∈ lw_tbl) (ha : kd mm.1 a = 100) (hk : kd mm.1 k = 100) (h1 : 0 ≤ n) (h2 : 0 ≤ dp) (h3 : 0 ≤ sp) (h4 : sp + n ≤ (ln mm.1 a : Int)) (h5 : dp + n ≤ (ln mm.1 k : Int)) (hcs : catSum st ≤ 8)
    (h : WX p l e R s m args below meth c B b L xs dC dI aC j m0 mF Qe (pc + 3) ls st (mm.1, cpy mm.2 a sp.toNat k dp.toNat n.toNat)) : WX p l e R s m args below meth c B b L xs dC dI aC j m0 mF Qe pc ls (vi n :: vi dp :: vr k :: vi sp :: vr a :: st) mm :=
  ⟨h.1, fun H locs lsr g0 hl hs hL hM hS => by
    obtain ⟨ka2, kal⟩ := kd_lt (show kd mm.1 a ≠ 999 by omega)
    obtain ⟨kk2, kkl⟩ := kd_lt (show kd mm.1 k ≠ 999 by omega)
    have en : w32 n = n := ok_hd hs
    have ed : w32 dp = dp := ok_hd (ok_tl hs)
    have es : w32 sp = sp := ok_hd (ok_tl (ok_tl (ok_tl hs)))
    have r2 : 100 ≤ R.locals := hC.2.2.2.2.2.2.1
    have hnf := nfw_ok
    show W p l e R s m args below meth c H locs _ _ Qe (F0 m pc lsr (.int (Int32.ofInt n) :: .int (Int32.ofInt dp) :: tv B b (vr k) :: .int (Int32.ofInt sp) :: tv B b (vr a) :: st.map (tv B b)))
    rw [rf_tv ka2, rf_tv kk2]
    refine va_copyi (D := (dC, dI)) hC.1.1 hC.1.2.1 (by rw [hC.1.2.2.1, hL.size]) hC.1.2.2.2 (hC.2.1 _ hw1 rfl) (hC.2.1 _ hw2 rfl) (hC.2.1 _ hw3 rfl) (hC.2.1 _ hw4 rfl) hC.2.2.1.1 hM.2.1 (WS_D (fun _ z => z)) hS (a - 2) (k - 2) 0 0 (ty := .int) (by rw [WS_at kal, cellE_i ha (Or.inl rfl)]) (by rw [WS_at kkl, cellE_i hk (Or.inl rfl)]) (tysA_at aC (by decide)) (tysA_at aC (by decide)) rfl (pos32 es h3) (pos32 ed h2) (pos32 en h1) (by rw [nat32 es, nat32 en]; omega) (by rw [nat32 ed, nat32 en]; omega) (fun _ _ => rfl) hC.2.2.2.2.2.1 (by rw [cat_sum]; omega) hd (fun H1 locs1 hP _ hS1 => ?_)
    refine h.2 H1 locs1 lsr g0 hl (ok_tl (ok_tl (ok_tl (ok_tl (ok_tl hs))))) hL (MR_next hM hC.B_le hS hS1 (okM_cpy hM.1 ha hk) ?_ ?_ ?_) hS1
    · have e1 := WS_set (m' := (mm.1, cpy mm.2 a sp.toNat k dp.toNat n.toNat)) (e := .inl (aC 0, ln mm.1 k, .inl (va_cpy (fun q => Int32.ofInt (mm.2 a q)) (fun q => Int32.ofInt (mm.2 k q)) (Int32.ofInt sp).toNatClampNeg (Int32.ofInt dp).toNatClampNeg (Int32.ofInt n).toNatClampNeg))) (B := B) (b := b) (aC := aC) kkl rfl ?_ (fun i hi hne => cellE_other (D := mm.2) rfl (fun q => by
        show cpy mm.2 a sp.toNat k dp.toNat n.toNat (i + 2) q = _
        unfold cpy
        rw [if_neg (fun z => hne (by have := z.1; omega))]))
      · rw [← e1]; exact hP
      · rw [cellE_i (mm := (mm.1, cpy mm.2 a sp.toNat k dp.toNat n.toNat)) hk (Or.inl rfl), nat32 en, nat32 ed, nat32 es]
        have : (fun q => Int32.ofInt (cpy mm.2 a sp.toNat k dp.toNat n.toNat k q)) = va_cpy (fun q => Int32.ofInt (mm.2 a q)) (fun q => Int32.ofInt (mm.2 k q)) sp.toNat dp.toNat n.toNat := by
          funext q
          unfold cpy va_cpy
          by_cases z : dp.toNat ≤ q ∧ q < dp.toNat + n.toNat
          · rw [if_pos ⟨rfl, z⟩, if_pos z]
          · rw [if_neg (fun w => z w.2), if_neg z]
        show Sum.inl (aC (100 - 100), ln mm.1 k, Sum.inl fun q => Int32.ofInt (cpy mm.2 a sp.toNat k dp.toNat n.toNat k q)) = _
        rw [this]
    · show cpy mm.2 a sp.toNat k dp.toNat n.toNat 0 0 = _
      unfold cpy
      rw [if_neg (fun z => by have := z.1; omega)]
    · intro i
      show cpy mm.2 a sp.toNat k dp.toNat n.toNat 1 i = _
      unfold cpy
      rw [if_neg (fun z => by have := z.1; omega)]⟩
theorem s_max (hC : CtxM p R s m args meth c B dC dI aC j m0 mF) {i : Nat} {x y : Int} (hd : decode (Yb j) pc = .ok (.invokestatic i, 3)) (hw1 : Cond.methodLink (RC (Yc j)) i Lib.Math.max.name ∈ lw_tbl) (hw2 : Cond.static Lib.Math.max.name ∈ lw_tbl) (hw3 : Cond.initialized "java/lang/Math" ∈ lw_tbl) (hw4 : Cond.code Lib.Math.max.name Lib.Math.max.code 2 (some .int) ∈ lw_tbl) (hcs : catSum st ≤ 8)
    (h : WX p l e R s m args below meth c B b L xs dC dI aC j m0 mF Qe (pc + 3) ls (vi (if x < y then y else x) :: st) mm) : WX p l e R s m args below meth c B b L xs dC dI aC j m0 mF Qe pc ls (vi y :: vi x :: st) mm :=
  ⟨h.1, fun H locs lsr g0 hl hs hL hM hS => by
    have hx : w32 x = x := ok_hd (ok_tl hs)
    have hy : w32 y = y := ok_hd hs
    have kk := h.2 H locs lsr g0 hl (ok_cons (ok_i (by split; exact hy; exact hx)) (ok_tl (ok_tl hs))) hL hM hS
    have r2 : 100 ≤ R.locals := hC.2.2.2.2.2.2.1
    have r3 : mF.1.1.length - m0.1.1.length ≤ R.cells := hC.2.2.2.2.2.2.2.1
    have r4 : mF.1.2 - m0.1.2 ≤ R.slots := hC.2.2.2.2.2.2.2.2
    have q1 := h.1.1
    have q2 := h.1.2
    refine va_mmax hC.1.1 hC.1.2.1 (by rw [hC.1.2.2.1, hL.size]) hC.1.2.2.2 (hC.2.1 _ hw1 rfl) (hC.2.1 _ hw2 rfl) (hC.2.1 _ hw3 rfl) (hC.2.1 _ hw4 rfl) hC.2.2.2.2.2.1 (by rw [cat_sum]; omega) (by omega) (by omega) hd ?_
    have ee : (if Int32.ofInt x < Int32.ofInt y then Int32.ofInt y else Int32.ofInt x) = Int32.ofInt (if x < y then y else x) := by
      by_cases z : x < y
      · rw [if_pos z, if_pos ((lt32 hx hy).mpr z)]
      · rw [if_neg z, if_neg (fun w => z ((lt32 hx hy).mp w))]
    rw [ee]
    exact kk⟩
theorem s_min (hC : CtxM p R s m args meth c B dC dI aC j m0 mF) {i : Nat} {x y : Int} (hd : decode (Yb j) pc = .ok (.invokestatic i, 3)) (hw1 : Cond.methodLink (RC (Yc j)) i Lib.Math.min.name ∈ lw_tbl) (hw2 : Cond.static Lib.Math.min.name ∈ lw_tbl) (hw3 : Cond.initialized "java/lang/Math" ∈ lw_tbl) (hw4 : Cond.code Lib.Math.min.name Lib.Math.min.code 2 (some .int) ∈ lw_tbl) (hcs : catSum st ≤ 8)
    (h : WX p l e R s m args below meth c B b L xs dC dI aC j m0 mF Qe (pc + 3) ls (vi (if y < x then y else x) :: st) mm) : WX p l e R s m args below meth c B b L xs dC dI aC j m0 mF Qe pc ls (vi y :: vi x :: st) mm :=
  ⟨h.1, fun H locs lsr g0 hl hs hL hM hS => by
    have hx : w32 x = x := ok_hd (ok_tl hs)
    have hy : w32 y = y := ok_hd hs
    have kk := h.2 H locs lsr g0 hl (ok_cons (ok_i (by split; exact hy; exact hx)) (ok_tl (ok_tl hs))) hL hM hS
    have r2 : 100 ≤ R.locals := hC.2.2.2.2.2.2.1
    have r3 : mF.1.1.length - m0.1.1.length ≤ R.cells := hC.2.2.2.2.2.2.2.1
    have r4 : mF.1.2 - m0.1.2 ≤ R.slots := hC.2.2.2.2.2.2.2.2
    have q1 := h.1.1
    have q2 := h.1.2
    refine va_mmin hC.1.1 hC.1.2.1 (by rw [hC.1.2.2.1, hL.size]) hC.1.2.2.2 (hC.2.1 _ hw1 rfl) (hC.2.1 _ hw2 rfl) (hC.2.1 _ hw3 rfl) (hC.2.1 _ hw4 rfl) hC.2.2.2.2.2.1 (by rw [cat_sum]; omega) (by omega) (by omega) hd ?_
    have ee : (if Int32.ofInt y < Int32.ofInt x then Int32.ofInt y else Int32.ofInt x) = Int32.ofInt (if y < x then y else x) := by
      by_cases z : y < x
      · rw [if_pos z, if_pos ((lt32 hy hx).mpr z)]
      · rw [if_neg z, if_neg (fun w => z ((lt32 hy hx).mp w))]
    rw [ee]
    exact kk⟩
theorem s_oinit (hC : CtxM p R s m args meth c B dC dI aC j m0 mF) {i k : Nat} (hd : decode (Yb j) pc = .ok (.invokespecial i, 3)) (hw1 : Cond.methodLink (RC (Yc j)) i Lib.objectInit ∈ lw_tbl) (hw2 : Cond.instanceMethod Lib.objectInit ∈ lw_tbl) (hw3 : Cond.code Lib.objectInit ⟨#[0xb1]⟩ 1 none ∈ lw_tbl) (hk : 2 ≤ k) (hcs : catSum st ≤ 8)
    (h : WX p l e R s m args below meth c B b L xs dC dI aC j m0 mF Qe (pc + 3) ls st mm) : WX p l e R s m args below meth c B b L xs dC dI aC j m0 mF Qe pc ls (vr k :: st) mm :=
  ⟨h.1, fun H locs lsr g0 hl hs hL hM hS => by
    have kk := h.2 H locs lsr g0 hl (ok_tl hs) hL hM hS
    have r2 : 100 ≤ R.locals := hC.2.2.2.2.2.2.1
    rw [List.map_cons, rf_tv hk]
    exact W.objInit hC.1.1 hC.1.2.1 hC.1.2.2.2 (hC.2.1 _ hw1 rfl) (hC.2.1 _ hw2 rfl) (hC.2.1 _ hw3 rfl) (g := F0 m pc lsr (.ref (B + (k - 2)) :: st.map (tv B b))) rfl (by rw [hC.1.2.2.1]; exact hL.size) rfl hd hC.2.2.2.2.2.1 (by rw [cat_sum]; show 2 * 0 + _ + 12 ≤ _; omega) kk⟩
end ST10
