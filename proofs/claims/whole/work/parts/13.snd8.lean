/-! stores of references; arrays of arrays; copies; Math; Object's constructor -/
theorem outer_arr (c : ClassId) (N h0 : Nat) : ∀ i : Nat, Jvm.Free.Multi.outerC c N h0 i = arrV c N (fun q => va_rf (if q < i then some (h0 + 1 + q) else none))
  | 0 => by
    show ({ cls := c, slots := Array.replicate N .null, vm := .none } : Cell) = _
    rw [arrV_new]
    refine congrArg (arrV c N) (funext fun q => ?_)
    rw [if_neg (Nat.not_lt_zero _)]
    rfl
  | i + 1 => by
    show (Jvm.Free.Multi.outerC c N h0 i).setSlot i (.ref (h0 + 1 + i)) = _
    rw [outer_arr c N h0 i, arrV_store]
    refine congrArg (arrV c N) (funext fun q => ?_)
    unfold updV
    by_cases e : q = i
    · subst e
      rw [if_pos rfl, if_pos (Nat.lt_succ_self _)]
      rfl
    · rw [if_neg e]
      dsimp only
      by_cases h : q < i
      · rw [if_pos h, if_pos (Nat.lt_succ_of_lt h)]
      · rw [if_neg h, if_neg (by omega)]
section ST8
variable {p : Program} {l : Launch} {e : Env} {R : Room} {s : State} {m : MethodId} {args : Array Value} {below : List Frame} {meth : Method} {c : Code} {B b L : Nat} {xs : Nat → Int32} {dC : Nat → ClassId} {dI : Nat → Nat → Nat} {aC : Nat → ClassId} {j : Nat} {m0 mF : Mem} {Qe : State → Prop} {pc : Nat} {ls st : List MV} {mm : Mem}
theorem arrK_ok {q t : Nat} (h : arrK q = t) (ht : 103 ≤ t ∧ t ≤ 105) : q < 11 ∧ aty (t - 100) = .object (RC q) := by
  unfold arrK at h
  by_cases h1 : q = 8
  · rw [if_pos h1] at h; subst h1; subst h; exact ⟨by decide, rfl⟩
  · rw [if_neg h1] at h
    by_cases h2 : q = 6
    · rw [if_pos h2] at h; subst h2; subst h; exact ⟨by decide, rfl⟩
    · rw [if_neg h2] at h
      by_cases h3 : q = 2
      · rw [if_pos h3] at h; subst h3; subst h; exact ⟨by decide, rfl⟩
      · rw [if_neg h3] at h; omega
theorem rf_setR {k i v q : Nat} (hl : k - 2 < mm.1.1.length) : rf (setR mm.1 k i v) k q = if q = i then v else rf mm.1 k q := (setR_ent hl).2.2 q
theorem s_aast (hC : CtxM p R s m args meth c B dC dI aC j m0 mF) {k v : Nat} {i : Int} (hd : decode (Yb j) pc = .ok (.aastore, 1)) (hv : 2 ≤ v) (hK : arrK (kd mm.1 v) = kd mm.1 k) (hk : 103 ≤ kd mm.1 k ∧ kd mm.1 k ≤ 105) (h0 : 0 ≤ i) (hn : i < (ln mm.1 k : Int))
    (h : WX p l e R s m args below meth c B b L xs dC dI aC j m0 mF Qe (pc + 1) ls st (setR mm.1 k i.toNat v, mm.2)) : WX p l e R s m args below meth c B b L xs dC dI aC j m0 mF Qe pc ls (vr v :: vi i :: vr k :: st) mm := by
  have hlen : (setR mm.1 k i.toNat v, mm.2).1.1.length = mm.1.1.length := setR_len _ _ _ _
  refine ⟨⟨by have := h.1.1; rw [hlen] at this; exact this, h.1.2⟩, fun H locs lsr g0 hl hs hL hM hS => ?_⟩
  obtain ⟨h2, hlt⟩ := kd_lt (show kd mm.1 k ≠ 999 by omega)
  obtain ⟨hq, hat⟩ := arrK_ok hK hk
  have hi : w32 i = i := ok_hd (ok_tl hs)
  show W p l e R s m args below meth c H locs _ _ Qe (F0 m pc lsr (tv B b (vr v) :: .int (Int32.ofInt i) :: tv B b (vr k) :: st.map (tv B b)))
  rw [rf_tv h2, rf_tv hv]
  refine va_astq (D := (dC, dI)) hC.1.1 hC.1.2.1 hC.2.2.1.1 hM.2.1 (WS_D (fun _ z => z)) hS (k - 2) (kd mm.1 k - 100) (v - 2) (kd mm.1 v) (by rw [WS_at hlt, cellE_r (by omega)]) (by rw [tysA_at aC (by omega), hat]) (WS_obj hq rfl) (cl_at hq) (in32 hi h0 hn) hd (fun H1 locs1 hP _ hS1 => ?_)
  have k2 := h.2 H1 locs1 lsr ⟨by rw [hlen]; exact g0.1, g0.2⟩ hl (ok_tl (ok_tl (ok_tl hs))) hL (MR_setR hM hC.B_le hS hS1 (by omega) ?_ hP) hS1
  · rw [hlen] at k2
    exact k2
  · have hkd : kd (setR mm.1 k i.toNat v, mm.2).1 k = kd mm.1 k := setR_kd h2 hlt
    rw [cellE_r (mm := (setR mm.1 k i.toNat v, mm.2)) (by rw [hkd]; omega), hkd, nat32 hi]
    have hln : ln (setR mm.1 k i.toNat v, mm.2).1 k = ln mm.1 k := (setR_ent (g := mm.1) (i := i.toNat) (v := v) hlt).2.1
    rw [hln]
    have hf : (fun q => tvr B b (rf (setR mm.1 k i.toNat v, mm.2).1 k q)) = va_up (fun q => tvr B b (rf mm.1 k q)) i.toNat (some (B + (v - 2))) := by
      funext q
      show tvr B b (rf (setR mm.1 k i.toNat v) k q) = _
      rw [rf_setR hlt]
      unfold va_up
      by_cases e : q = i.toNat
      · rw [if_pos e, if_pos e, tvr_of hv]
      · rw [if_neg e, if_neg e]
    rw [hf]
/-- the new cells of an array of int arrays -/
theorem new2E_len (mm : Mem) (n k : Nat) : (new2E mm 106 n 100 k).1.1.length = mm.1.1.length + 1 + n := by
  show (mm.1.1 ++ [(106, n, _)] ++ List.replicate n (100, k, [])).length = _
  simp
  omega
theorem new2E_g (mm : Mem) (n k : Nat) : (new2E mm 106 n 100 k).1.1 = mm.1.1 ++ ((106, n, (List.range n).map fun i => mm.1.1.length + 2 + 1 + i) :: List.replicate n (100, k, [])) := by
  show mm.1.1 ++ [(106, n, _)] ++ List.replicate n (100, k, []) = _
  rw [List.append_assoc]
  rfl
theorem cellE_i0 {m' : Mem} {i k : Nat} {rs : List Nat} (he : enI m' i = (100, k, rs)) (hz : ∀ f, m'.2 (i + 2) f = 0) : cellE B b aC m' i = .inl (aC 0, k, .inl fun _ => 0) := by
  unfold cellE
  rw [he]
  show Sum.inl (aC 0, k, Sum.inl fun q => Int32.ofInt (m'.2 (i + 2) q)) = _
  have : (fun q => Int32.ofInt (m'.2 (i + 2) q)) = fun _ => (0 : Int32) := funext fun q => by rw [hz]; rfl
  rw [this]
theorem cellE_rr {m' : Mem} {i t n : Nat} {rs : List Nat} (ht : 103 ≤ t ∧ t ≤ 107) (he : enI m' i = (t, n, rs)) : cellE B b aC m' i = .inl (aC (t - 100), n, .inr (.inr (.inr (.inr fun q => tvr B b (rs.getD q 0))))) := by
  unfold cellE
  rw [he]
  dsimp only
  rw [if_neg (by omega), if_neg (by omega), if_neg (by omega)]
theorem arrV_ext {cI : ClassId} {N : Nat} {f g : Nat → Value} (h : ∀ q, q < N → f q = g q) : arrV cI N f = arrV cI N g := by
  unfold arrV
  congr 1
  apply Array.ext
  · simp
  · intro i h1 h2
    simp
    exact h i (by simpa using h1)
theorem s_new2 (hC : CtxM p R s m args meth c B dC dI aC j m0 mF) {i : Nat} {n k : Int} (hd : decode (Yb j) pc = .ok (.multianewarray i 2, 4)) (hw1 : Cond.classLink (RC (Yc j)) i "[[I" ∈ lw_tbl) (hw2 : Cond.arrayOver (.array .int) ∈ lw_tbl) (hw3 : Cond.arrayClass .int ∈ lw_tbl) (h0 : 0 ≤ n) (h1 : n < 1000) (h2 : 0 ≤ k) (h3 : k < 1000)
    (h : WX p l e R s m args below meth c B b L xs dC dI aC j m0 mF Qe (pc + 4) ls (vr (mm.1.1.length + 2) :: st) (new2E mm 106 n.toNat 100 k.toNat)) : WX p l e R s m args below meth c B b L xs dC dI aC j m0 mF Qe pc ls (vi k :: vi n :: st) mm := by
  have hb1 : mm.1.1.length + 1 + n.toNat ≤ mF.1.1.length := by have := h.1.1; rw [new2E_len] at this; exact this
  have hb2 : mm.1.2 + n.toNat + n.toNat * k.toNat ≤ mF.1.2 := h.1.2
  refine ⟨⟨by omega, by omega⟩, fun H locs lsr g0 hl hs hL hM hS => ?_⟩
  have r3 : mF.1.1.length - m0.1.1.length ≤ R.cells := hC.2.2.2.2.2.2.2.1
  have r4 : mF.1.2 - m0.1.2 ≤ R.slots := hC.2.2.2.2.2.2.2.2
  have g1 : m0.1.1.length ≤ mm.1.1.length := g0.1
  have g2 : m0.1.2 ≤ mm.1.2 := g0.2
  have hk : w32 k = k := ok_hd hs
  have hn : w32 n = n := ok_hd (ok_tl hs)
  intro T hT X
  have hsz := sizeH hM hC.2.2.2.1 g0 hS hT X
  obtain ⟨vm₁, cA, comp, hW, fA, fC, -, -, X', step⟩ := X.multianewarray2F (ty := .int) hC.1.1 hC.1.2.2.2 (hC.2.1 _ hw1 rfl) (show (Cond.arrayOver (.array .int)).before args s = true from hC.nest hw2 rfl) (hC.2.1 _ hw3 rfl) (g := F0 m pc lsr (.int (Int32.ofInt k) :: .int (Int32.ofInt n) :: st.map (tv B b))) rfl (by rw [hC.1.2.1]; exact hd) rfl (pos32 hn h0) (pos32 hk h2) (by rw [nat32 hn]; omega) (by rw [nat32 hk]; show k.toNat * 4 ≤ _; omega) (by rw [nat32 hk]; omega) rfl rfl (by rw [nat32 hn]; omega) (by rw [nat32 hn, nat32 hk]; omega)
  rw [nat32 hn, nat32 hk] at X' step
  have eA : cA = aC 6 := Option.some.inj (fA.symm.trans (hC.2.2.1.1.2 6 _ (tysA_at aC (by decide))).2)
  have eC : comp = aC 0 := Option.some.inj (fC.symm.trans (hC.2.2.1.1.2 0 _ (tysA_at aC (by decide))).2)
  subst eA; subst eC
  have hTh : (T.setVm vm₁).heap = H := hT
  have hTs : (T.setVm vm₁).heap.size = B + mm.1.1.length := by rw [hTh]; exact hsz
  obtain ⟨f1, f2, -, -⟩ := Jvm.Free.Multi.fill_facts (T.setVm vm₁) (aC 6) (aC 0) n.toNat k.toNat (defaultValue .int) n.toNat
  have f3 := fun a ha => Jvm.Free.Multi.fill_old (T.setVm vm₁) (aC 6) (aC 0) n.toNat k.toNat (defaultValue .int) (a := a) ha n.toNat
  have f4 := fun q hq => Jvm.Free.Multi.fill_inner (T.setVm vm₁) (aC 6) (aC 0) n.toNat k.toNat (defaultValue .int) n.toNat q hq
  generalize Jvm.Free.Multi.fill (T.setVm vm₁) (aC 6) (aC 0) n.toNat k.toNat (defaultValue .int) n.toNat = F at X' step f1 f2 f3 f4
  rw [hTs] at f1 f2 f3 f4
  rw [hTh] at f3
  have hg := new2E_g mm n.toNat k.toNat
  have hap := MR_app (m' := new2E mm 106 n.toNat 100 k.toNat) (H1 := F.heap) hM hC.B_le hS hg rfl (fun q hq => by
    rcases List.mem_cons.mp hq with rfl | hq
    · exact ⟨Or.inr ⟨(by decide : 100 ≤ 106), (by decide : 106 ≤ 107)⟩, show n.toNat < 1000 by omega⟩
    · rw [(List.mem_replicate.mp hq).2]; exact ⟨Or.inr ⟨(by decide : 100 ≤ 100), (by decide : 100 ≤ 107)⟩, show k.toNat < 1000 by omega⟩) (fun q hq => f3 q (Nat.lt_of_lt_of_le hq (Nat.le_of_eq hsz))) (by rw [f1, hsz]; omega) (fun q hq => by
    have he := en_new (mm := mm) hg hq
    cases q with
    | zero =>
      rw [cellE_rr (by decide) he]
      show F.heap[B + (mm.1.1.length + 0)]? = some (arrV (aC 6) n.toNat fun q => va_rf (tvr B b (((List.range n.toNat).map fun i => mm.1.1.length + 2 + 1 + i).getD q 0)))
      rw [Nat.add_zero, f2, outer_arr]
      refine congrArg some (arrV_ext fun q hq => ?_)
      rw [if_pos hq, List.getD_eq_getElem?_getD, List.getElem?_map, List.getElem?_range hq]
      show va_rf (some (B + mm.1.1.length + 1 + q)) = va_rf (tvr B b (mm.1.1.length + 2 + 1 + q))
      rw [tvr_of (by omega), show B + mm.1.1.length + 1 + q = B + (mm.1.1.length + 2 + 1 + q - 2) from by omega]
    | succ q =>
      have hq' : q < n.toNat := by simp at hq; omega
      have he2 : enI (new2E mm 106 n.toNat 100 k.toNat) (mm.1.1.length + (q + 1)) = (100, k.toNat, []) := by rw [he]; simp
      rw [cellE_i0 he2 (fun f => hM.1.2.2 _ f (by omega))]
      show F.heap[B + (mm.1.1.length + (q + 1))]? = some (arrV (aC 0) k.toNat fun _ => .int 0)
      have := f4 q hq'
      rw [show B + (mm.1.1.length + (q + 1)) = B + mm.1.1.length + 1 + q from by omega, this, ← arrV_new]
      rfl)
  have kk := h.2 F.heap locs lsr ⟨by rw [new2E_len]; omega, show m0.1.2 ≤ mm.1.2 + n.toNat + n.toNat * k.toNat by omega⟩ hl (ok_cons (trivial : okV (vr (mm.1.1.length + 2))) (ok_tl (ok_tl hs))) hL hap.1 hap.2
  have e3 : (new2E mm 106 n.toNat 100 k.toNat).1.1.length - m0.1.1.length = mm.1.1.length - m0.1.1.length + 1 + n.toNat := by rw [new2E_len]; omega
  have e4 : (new2E mm 106 n.toNat 100 k.toNat).1.2 - m0.1.2 = mm.1.2 - m0.1.2 + n.toNat + n.toNat * k.toNat := by show mm.1.2 + n.toNat + n.toNat * k.toNat - m0.1.2 = _; omega
  rw [List.map_cons, rf_tv (by omega), show mm.1.1.length + 2 - 2 = mm.1.1.length from by omega, e3, e4, ← hsz] at kk
  obtain ⟨t, a1, b1⟩ := kk F rfl X'
  refine ⟨t, step t ?_, b1⟩
  rw [hT]
  exact a1
end ST8
