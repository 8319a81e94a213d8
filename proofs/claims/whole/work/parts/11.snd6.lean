section ST6
variable {p : Program} {l : Launch} {e : Env} {R : Room} {s : State} {m : MethodId} {args : Array Value} {below : List Frame} {meth : Method} {c : Code} {B b L : Nat} {xs : Nat → Int32} {dC : Nat → ClassId} {dI : Nat → Nat → Nat} {aC : Nat → ClassId} {j : Nat} {m0 mF : Mem} {Qe : State → Prop} {pc : Nat} {ls st : List MV} {mm : Mem}
theorem cellE_i {k t : Nat} (hk : kd mm.1 k = t) (ht : t = 100 ∨ t = 102) : cellE B b aC mm (k - 2) = .inl (aC (t - 100), ln mm.1 k, .inl fun q => Int32.ofInt (mm.2 k q)) := by
  have hne : kd mm.1 k ≠ 999 := by omega
  have h2 := (kd_lt hne).1
  unfold cellE
  rw [kd_en hne, hk, if_neg (by omega), if_neg (by omega), if_pos (by omega), show k - 2 + 2 = k from by omega]
  rfl
theorem cellE_l {k : Nat} (hk : kd mm.1 k = 101) : cellE B b aC mm (k - 2) = .inl (aC 1, ln mm.1 k, .inr (.inl fun q => Int64.ofInt (mm.2 k q))) := by
  have hne : kd mm.1 k ≠ 999 := by omega
  have h2 := (kd_lt hne).1
  unfold cellE
  rw [kd_en hne, hk, if_neg (by omega), if_pos rfl, show k - 2 + 2 = k from by omega]
  rfl
theorem cellE_r {k : Nat} (hk : 103 ≤ kd mm.1 k ∧ kd mm.1 k ≤ 107) : cellE B b aC mm (k - 2) = .inl (aC (kd mm.1 k - 100), ln mm.1 k, .inr (.inr (.inr (.inr fun q => tvr B b (rf mm.1 k q))))) := by
  have hne : kd mm.1 k ≠ 999 := by omega
  unfold cellE
  rw [kd_en hne, if_neg (by omega), if_neg (by omega), if_neg (by omega)]
  rfl
theorem s_iald (hC : CtxM p R s m args meth c B dC dI aC j m0 mF) {k : Nat} {i : Int} (hd : decode (Yb j) pc = .ok (.iaload, 1)) (hk : kd mm.1 k = 100) (h0 : 0 ≤ i) (hn : i < (ln mm.1 k : Int))
    (h : WX p l e R s m args below meth c B b L xs dC dI aC j m0 mF Qe (pc + 1) ls (vi (mm.2 k i.toNat) :: st) mm) : WX p l e R s m args below meth c B b L xs dC dI aC j m0 mF Qe pc ls (vi i :: vr k :: st) mm :=
  ⟨h.1, fun H locs lsr g0 hl hs hL hM hS => by
    have kk := h.2 H locs lsr g0 hl (ok_cons (ok_i (hM.1.rng (by omega))) (ok_tl (ok_tl hs))) hL hM hS
    obtain ⟨h2, hlt⟩ := kd_lt (show kd mm.1 k ≠ 999 by omega)
    have hi : w32 i = i := ok_hd hs
    show W p l e R s m args below meth c H locs _ _ Qe (F0 m pc lsr (.int (Int32.ofInt i) :: tv B b (vr k) :: st.map (tv B b)))
    rw [rf_tv h2]
    refine va_iald (D := (dC, dI)) hC.1.1 hC.1.2.1 hC.2.2.1.1 hM.2.1 (k - 2) 0 (by rw [WS_at hlt, cellE_i hk (Or.inl rfl)]) (tysA_at aC (by decide)) (in32 hi h0 hn) hd ?_
    rw [nat32 hi]
    exact kk⟩
theorem s_iald1 (hC : CtxM p R s m args meth c B dC dI aC j m0 mF) {i : Int} (hd : decode (Yb j) pc = .ok (.iaload, 1)) (h0 : 0 ≤ i) (hn : i < mm.2 0 0)
    (h : WX p l e R s m args below meth c B b L xs dC dI aC j m0 mF Qe (pc + 1) ls (vi (mm.2 1 i.toNat) :: st) mm) : WX p l e R s m args below meth c B b L xs dC dI aC j m0 mF Qe pc ls (vi i :: vr 1 :: st) mm :=
  ⟨h.1, fun H locs lsr g0 hl hs hL hM hS => by
    have kk := h.2 H locs lsr g0 hl (ok_cons (ok_i (hM.1.rng (by show (999 : Nat) ≠ 101; decide))) (ok_tl (ok_tl hs))) hL hM hS
    have hi : w32 i = i := ok_hd hs
    obtain ⟨-, -, hX, hb, hL2, hl2, hx⟩ := hM
    have hBle := hC.B_le
    have eH : H[b]? = s.heap[b]? := hS.2.1 b (by omega) (show ¬ B ≤ b by omega)
    rw [hl2] at hn
    show W p l e R s m args below meth c H locs _ _ Qe (F0 m pc lsr (.int (Int32.ofInt i) :: .ref b :: st.map (tv B b)))
    refine va_sld hC.1.1 hC.1.2.1 (hX.kept eH.symm) (by omega) (show ¬ B ≤ b by omega) hS (in32 hi h0 hn) hd ?_
    rw [nat32 hi]
    have e1 : Value.int (Int32.ofInt (mm.2 1 i.toNat)) = Value.int (xs i.toNat) := by rw [hx i.toNat (by omega), Int32.ofInt_toInt]
    rw [← e1]
    exact kk⟩
theorem s_cald (hC : CtxM p R s m args meth c B dC dI aC j m0 mF) {k : Nat} {i : Int} (hd : decode (Yb j) pc = .ok (.caload, 1)) (hk : kd mm.1 k = 102) (h0 : 0 ≤ i) (hn : i < (ln mm.1 k : Int))
    (h : WX p l e R s m args below meth c B b L xs dC dI aC j m0 mF Qe (pc + 1) ls (vi (mm.2 k i.toNat) :: st) mm) : WX p l e R s m args below meth c B b L xs dC dI aC j m0 mF Qe pc ls (vi i :: vr k :: st) mm :=
  ⟨h.1, fun H locs lsr g0 hl hs hL hM hS => by
    have kk := h.2 H locs lsr g0 hl (ok_cons (ok_i (hM.1.rng (by omega))) (ok_tl (ok_tl hs))) hL hM hS
    obtain ⟨h2, hlt⟩ := kd_lt (show kd mm.1 k ≠ 999 by omega)
    have hi : w32 i = i := ok_hd hs
    show W p l e R s m args below meth c H locs _ _ Qe (F0 m pc lsr (.int (Int32.ofInt i) :: tv B b (vr k) :: st.map (tv B b)))
    rw [rf_tv h2]
    refine va_cald (D := (dC, dI)) hC.1.1 hC.1.2.1 hC.2.2.1.1 hM.2.1 (k - 2) 2 (by rw [WS_at hlt, cellE_i hk (Or.inr rfl)]) (tysA_at aC (by decide)) (in32 hi h0 hn) hd ?_
    rw [nat32 hi]
    exact kk⟩
theorem s_lald (hC : CtxM p R s m args meth c B dC dI aC j m0 mF) {k : Nat} {i : Int} (hd : decode (Yb j) pc = .ok (.laload, 1)) (hk : kd mm.1 k = 101) (h0 : 0 ≤ i) (hn : i < (ln mm.1 k : Int))
    (h : WX p l e R s m args below meth c B b L xs dC dI aC j m0 mF Qe (pc + 1) ls (vl (mm.2 k i.toNat) :: st) mm) : WX p l e R s m args below meth c B b L xs dC dI aC j m0 mF Qe pc ls (vi i :: vr k :: st) mm :=
  ⟨h.1, fun H locs lsr g0 hl hs hL hM hS => by
    have kk := h.2 H locs lsr g0 hl (ok_cons (ok_l (hM.1.rngL hk)) (ok_tl (ok_tl hs))) hL hM hS
    obtain ⟨h2, hlt⟩ := kd_lt (show kd mm.1 k ≠ 999 by omega)
    have hi : w32 i = i := ok_hd hs
    show W p l e R s m args below meth c H locs _ _ Qe (F0 m pc lsr (.int (Int32.ofInt i) :: tv B b (vr k) :: st.map (tv B b)))
    rw [rf_tv h2]
    refine va_lald (D := (dC, dI)) hC.1.1 hC.1.2.1 hC.2.2.1.1 hM.2.1 (k - 2) 1 (by rw [WS_at hlt, cellE_l hk]) (tysA_at aC (by decide)) (in32 hi h0 hn) hd ?_
    rw [nat32 hi]
    exact kk⟩
theorem aty_ref {t : Nat} (h : 3 ≤ t) : (aty t).isReference = true := by
  unfold aty
  split <;> first | rfl | omega
theorem s_aald (hC : CtxM p R s m args meth c B dC dI aC j m0 mF) {k : Nat} {i : Int} (hd : decode (Yb j) pc = .ok (.aaload, 1)) (hk : 103 ≤ kd mm.1 k ∧ kd mm.1 k ≤ 107) (h0 : 0 ≤ i) (hn : i < (ln mm.1 k : Int))
    (h : WX p l e R s m args below meth c B b L xs dC dI aC j m0 mF Qe (pc + 1) ls (vr (rf mm.1 k i.toNat) :: st) mm) : WX p l e R s m args below meth c B b L xs dC dI aC j m0 mF Qe pc ls (vi i :: vr k :: st) mm :=
  ⟨h.1, fun H locs lsr g0 hl hs hL hM hS => by
    have kk := h.2 H locs lsr g0 hl (ok_cons (trivial : okV (vr (rf mm.1 k i.toNat))) (ok_tl (ok_tl hs))) hL hM hS
    obtain ⟨h2, hlt⟩ := kd_lt (show kd mm.1 k ≠ 999 by omega)
    have hi : w32 i = i := ok_hd hs
    show W p l e R s m args below meth c H locs _ _ Qe (F0 m pc lsr (.int (Int32.ofInt i) :: tv B b (vr k) :: st.map (tv B b)))
    rw [rf_tv h2]
    have hcell : H[B + (k - 2)]? = some (arrV (aC (kd mm.1 k - 100)) (ln mm.1 k) fun q => va_rf (tvr B b (rf mm.1 k q))) := hM.2.1 (k - 2) (B + (k - 2), .inl (aC (kd mm.1 k - 100), ln mm.1 k, .inr (.inr (.inr (.inr fun q => tvr B b (rf mm.1 k q)))))) (by rw [WS_at hlt, cellE_r hk])
    have hA := (hC.2.2.1.1.2 (kd mm.1 k - 100) _ (tysA_at aC (by omega))).1
    have hsz : (arrV (aC (kd mm.1 k - 100)) (ln mm.1 k) fun q => va_rf (tvr B b (rf mm.1 k q))).slots.size = ln mm.1 k := by unfold arrV; exact Array.size_ofFn
    refine W.aald hC.1.1 hC.1.2.1 hcell (hA _ _) (aty_ref (by omega)) (fun z => by cases z) (j := Int32.ofInt i) (v := va_rf (tvr B b (rf mm.1 k i.toNat))) (by rw [hsz]; exact in32 hi h0 hn) (by rw [nat32 hi]; unfold arrV; rw [Array.getElem?_ofFn]; rw [dif_pos (by omega)]) rfl rfl hd ?_
    exact kk⟩
theorem upd_of {f : Nat → Int} {n : Nat} {v : Int} : upd (fun q => Int32.ofInt (f q)) n (Int32.ofInt v) = fun q => Int32.ofInt (if q = n then v else f q) := by
  funext q
  unfold upd
  by_cases h : q = n
  · rw [if_pos h, if_pos h]
  · rw [if_neg h, if_neg h]
theorem updL_of {f : Nat → Int} {n : Nat} {v : Int} : vp_updL (fun q => Int64.ofInt (f q)) n (Int64.ofInt v) = fun q => Int64.ofInt (if q = n then v else f q) := by
  funext q
  unfold vp_updL
  by_cases h : q = n
  · rw [if_pos h, if_pos h]
  · rw [if_neg h, if_neg h]
theorem upD_row {D : Dat} {k n : Nat} {v : Int} : upD D k n v k = fun q => if q = n then v else D k q := by
  funext q
  unfold upD
  by_cases h : q = n
  · rw [if_pos ⟨rfl, h⟩, if_pos h]
  · rw [if_neg (fun z => h z.2), if_neg h]
theorem upD_rowq {D : Dat} {k n q : Nat} {v : Int} : upD D k n v k q = if q = n then v else D k q := congrFun upD_row q
theorem s_iast (hC : CtxM p R s m args meth c B dC dI aC j m0 mF) {k : Nat} {i v : Int} (hd : decode (Yb j) pc = .ok (.iastore, 1)) (hk : kd mm.1 k = 100) (h0 : 0 ≤ i) (hn : i < (ln mm.1 k : Int))
    (h : WX p l e R s m args below meth c B b L xs dC dI aC j m0 mF Qe (pc + 1) ls st (mm.1, upD mm.2 k i.toNat v)) : WX p l e R s m args below meth c B b L xs dC dI aC j m0 mF Qe pc ls (vi v :: vi i :: vr k :: st) mm :=
  ⟨h.1, fun H locs lsr g0 hl hs hL hM hS => by
    obtain ⟨h2, hlt⟩ := kd_lt (show kd mm.1 k ≠ 999 by omega)
    have hi : w32 i = i := ok_hd (ok_tl hs)
    have hv : w32 v = v := ok_hd hs
    show W p l e R s m args below meth c H locs _ _ Qe (F0 m pc lsr (.int (Int32.ofInt v) :: .int (Int32.ofInt i) :: tv B b (vr k) :: st.map (tv B b)))
    rw [rf_tv h2]
    refine va_iast (D := (dC, dI)) hC.1.1 hC.1.2.1 hC.2.2.1.1 hM.2.1 (WS_D (fun _ z => z)) hS (k - 2) 0 (by rw [WS_at hlt, cellE_i hk (Or.inl rfl)]) (tysA_at aC (by decide)) (in32 hi h0 hn) hd (fun H1 locs1 hP _ hS1 => ?_)
    refine h.2 H1 locs1 lsr g0 hl (ok_tl (ok_tl (ok_tl hs))) hL (MR_upd hM hC.B_le hS hS1 (by omega) (by rw [if_neg (by omega)]; exact hv) ?_ hP) hS1
    rw [cellE_i (mm := (mm.1, upD mm.2 k i.toNat v)) hk (Or.inl rfl), nat32 hi, upd_of]; simp only [upD_rowq]⟩
theorem s_cast (hC : CtxM p R s m args meth c B dC dI aC j m0 mF) {k : Nat} {i v : Int} (hd : decode (Yb j) pc = .ok (.castore, 1)) (hk : kd mm.1 k = 102) (hv0 : 0 ≤ v) (hv1 : v < 65536) (h0 : 0 ≤ i) (hn : i < (ln mm.1 k : Int))
    (h : WX p l e R s m args below meth c B b L xs dC dI aC j m0 mF Qe (pc + 1) ls st (mm.1, upD mm.2 k i.toNat v)) : WX p l e R s m args below meth c B b L xs dC dI aC j m0 mF Qe pc ls (vi v :: vi i :: vr k :: st) mm :=
  ⟨h.1, fun H locs lsr g0 hl hs hL hM hS => by
    obtain ⟨h2, hlt⟩ := kd_lt (show kd mm.1 k ≠ 999 by omega)
    have hi : w32 i = i := ok_hd (ok_tl hs)
    have hv : w32 v = v := ok_hd hs
    have hvn : vp_nar .char (Int32.ofInt v) = Int32.ofInt v := by
      rw [← i2c_eq hv0 hv1]
      exact pk_vc _
    show W p l e R s m args below meth c H locs _ _ Qe (F0 m pc lsr (.int (Int32.ofInt v) :: .int (Int32.ofInt i) :: tv B b (vr k) :: st.map (tv B b)))
    rw [rf_tv h2]
    refine va_cast (D := (dC, dI)) hC.1.1 hC.1.2.1 hC.2.2.1.1 hM.2.1 (WS_D (fun _ z => z)) hS (k - 2) 2 (by rw [WS_at hlt, cellE_i hk (Or.inr rfl)]) (tysA_at aC (by decide)) (in32 hi h0 hn) hd (fun H1 locs1 hP _ hS1 => ?_)
    refine h.2 H1 locs1 lsr g0 hl (ok_tl (ok_tl (ok_tl hs))) hL (MR_upd hM hC.B_le hS hS1 (by omega) (by rw [if_neg (by omega)]; exact hv) ?_ hP) hS1
    rw [cellE_i (mm := (mm.1, upD mm.2 k i.toNat v)) hk (Or.inr rfl), nat32 hi, hvn, upd_of]; simp only [upD_rowq]⟩
theorem s_last (hC : CtxM p R s m args meth c B dC dI aC j m0 mF) {k : Nat} {i v : Int} (hd : decode (Yb j) pc = .ok (.lastore, 1)) (hk : kd mm.1 k = 101) (h0 : 0 ≤ i) (hn : i < (ln mm.1 k : Int))
    (h : WX p l e R s m args below meth c B b L xs dC dI aC j m0 mF Qe (pc + 1) ls st (mm.1, upD mm.2 k i.toNat v)) : WX p l e R s m args below meth c B b L xs dC dI aC j m0 mF Qe pc ls (vl v :: vi i :: vr k :: st) mm :=
  ⟨h.1, fun H locs lsr g0 hl hs hL hM hS => by
    obtain ⟨h2, hlt⟩ := kd_lt (show kd mm.1 k ≠ 999 by omega)
    have hi : w32 i = i := ok_hd (ok_tl hs)
    have hv : w64 v = v := ok_hd hs
    show W p l e R s m args below meth c H locs _ _ Qe (F0 m pc lsr (.long (Int64.ofInt v) :: .int (Int32.ofInt i) :: tv B b (vr k) :: st.map (tv B b)))
    rw [rf_tv h2]
    refine va_last (D := (dC, dI)) hC.1.1 hC.1.2.1 hC.2.2.1.1 hM.2.1 (WS_D (fun _ z => z)) hS (k - 2) 1 (by rw [WS_at hlt, cellE_l hk]) (tysA_at aC (by decide)) (in32 hi h0 hn) hd (fun H1 locs1 hP _ hS1 => ?_)
    refine h.2 H1 locs1 lsr g0 hl (ok_tl (ok_tl (ok_tl hs))) hL (MR_upd hM hC.B_le hS hS1 (by omega) (by rw [if_pos hk]; exact hv) ?_ hP) hS1
    rw [cellE_l (mm := (mm.1, upD mm.2 k i.toNat v)) hk, nat32 hi, updL_of]; simp only [upD_rowq]⟩
end ST6
