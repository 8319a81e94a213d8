/-! fields and arrays -/
theorem cl_at {ci : Nat} (h : ci < 11) : vwCl[ci]? = some (RC ci, TXf ci, NFc ci) := by
  match ci, h with
  | 0, _ => rfl
  | 1, _ => rfl
  | 2, _ => rfl
  | 3, _ => rfl
  | 4, _ => rfl
  | 5, _ => rfl
  | 6, _ => rfl
  | 7, _ => rfl
  | 8, _ => rfl
  | 9, _ => rfl
  | 10, _ => rfl
theorem cl_ws {ci : Nat} (h : ci < 11) : ∀ w ∈ u_ws (RC ci) (TXf ci) (NFc ci), w ∈ lw_tbl := by
  match ci, h with
  | 0, _ => exact wsX0_in
  | 1, _ => exact wsX1_in
  | 2, _ => exact wsX2_in
  | 3, _ => exact wsX3_in
  | 4, _ => exact wsX4_in
  | 5, _ => exact wsX5_in
  | 6, _ => exact wsX6_in
  | 7, _ => exact wsX7_in
  | 8, _ => exact wsX8_in
  | 9, _ => exact wsX9_in
  | 10, _ => exact wsX10_in
theorem cl_ty {ci : Nat} (h : ci < 11) : ∀ k, k < NFc ci → parseFieldDescriptor (TXf ci k).2.2.1 = some (tyXf ci k) := by
  match ci, h with
  | 0, _ => exact tyX0_ok
  | 1, _ => exact tyX1_ok
  | 2, _ => exact tyX2_ok
  | 3, _ => exact tyX3_ok
  | 4, _ => exact tyX4_ok
  | 5, _ => exact tyX5_ok
  | 6, _ => exact tyX6_ok
  | 7, _ => exact tyX7_ok
  | 8, _ => exact tyX8_ok
  | 9, _ => exact tyX9_ok
  | 10, _ => exact tyX10_ok
theorem cl_nm {ci : Nat} (h : ci < 11) : ∀ a, a < NFc ci → ∀ b, b < NFc ci → a ≠ b → (TXf ci a).2.1 ≠ (TXf ci b).2.1 := by
  match ci, h with
  | 0, _ => exact nmX0
  | 1, _ => exact nmX1
  | 2, _ => exact nmX2
  | 3, _ => exact nmX3
  | 4, _ => exact nmX4
  | 5, _ => exact nmX5
  | 6, _ => exact nmX6
  | 7, _ => exact nmX7
  | 8, _ => exact nmX8
  | 9, _ => exact nmX9
  | 10, _ => exact nmX10
theorem u_ws_good {C : String} {T : u_T} {N : Nat} : ∀ w ∈ u_ws C T N, goodWord w = true := by
  intro w hw
  obtain ⟨k, -, rfl⟩ := List.mem_map.mp hw
  unfold u_lay
  split <;> rfl
def GW : List Cond := lw_tbl.filter goodWord
theorem GW_mem {w : Cond} (h : w ∈ lw_tbl) (hg : goodWord w = true) : w ∈ GW := List.mem_filter.mpr ⟨h, hg⟩
theorem cl_gw {ci : Nat} (h : ci < 11) : ∀ w ∈ u_ws (RC ci) (TXf ci) (NFc ci), w ∈ GW := fun w hw => GW_mem (cl_ws h w hw) (u_ws_good w hw)
/-- the link of a field at an index of the running class, own or a nest mate's -/
def linkF (j i ci f : Nat) : Prop := Cond.fieldLink (RC (Yc j)) i (RC ci) (TXf ci f).2.1 (TXf ci f).2.2.1 ∈ lw_tbl ∨ Cond.fieldLinkNest (RC (Yc j)) i (RC ci) (TXf ci f).2.1 (TXf ci f).2.2.1 hostN ∈ lw_tbl
section ST5
variable {p : Program} {l : Launch} {e : Env} {R : Room} {s : State} {m : MethodId} {args : Array Value} {below : List Frame} {meth : Method} {c : Code} {B b L : Nat} {xs : Nat → Int32} {dC : Nat → ClassId} {dI : Nat → Nat → Nat} {aC : Nat → ClassId} {j : Nat} {m0 mF : Mem} {Qe : State → Prop} {pc : Nat} {ls st : List MV} {mm : Mem}
theorem CtxM.gw (hC : CtxM p R s m args meth c B dC dI aC j m0 mF) : ∀ w ∈ GW, w.before args s = true := fun w hw => hC.2.1 w (List.mem_filter.mp hw).1 (List.mem_filter.mp hw).2
theorem CtxM.nest (hC : CtxM p R s m args meth c B dC dI aC j m0 mF) {w : Cond} (hw : w ∈ lw_tbl) (hn : nwW w = true) : va_Nw w s := hC.2.2.1.2 w hw hn
theorem cellE_obj {k ci : Nat} (hci : ci < 11) (hk : kd mm.1 k = ci) : cellE B b aC mm (k - 2) = .inr (ci, (List.range (NFc ci)).map (fldE B b mm.2 k ci (ent mm.1 k).2.2)) := by
  have hne : kd mm.1 k ≠ 999 := by omega
  have h2 := (kd_lt hne).1
  unfold cellE
  rw [kd_en hne, hk, if_pos (by omega), show k - 2 + 2 = k from by omega]
  rfl
theorem WS_obj {k ci : Nat} (hci : ci < 11) (hk : kd mm.1 k = ci) : (WSm B b aC mm)[k - 2]? = some (B + (k - 2), .inr (ci, (List.range (NFc ci)).map (fldE B b mm.2 k ci (ent mm.1 k).2.2))) := by
  rw [WS_at (kd_lt (by omega)).2, cellE_obj hci hk]
theorem rf_tv {k : Nat} (h : 2 ≤ k) : tv B b (vr k) = .ref (B + (k - 2)) := by
  show va_rf (tvr B b k) = _
  rw [tvr_of h]
  rfl
theorem s_getv (hC : CtxM p R s m args meth c B dC dI aC j m0 mF) {i k ci f : Nat} {v : MV} (hd : decode (Yb j) pc = .ok (.getfield i, 3)) (hci : ci < 11) (hf : f < NFc ci) (hT : (TXf ci f).1 = RC ci) (hw : linkF j i ci f) (hk : kd mm.1 k = ci) (hv : tv B b v = fldE B b mm.2 k ci (ent mm.1 k).2.2 f) (hok : okM mm → okV v)
    (h : WX p l e R s m args below meth c B b L xs dC dI aC j m0 mF Qe (pc + 3) ls (v :: st) mm) : WX p l e R s m args below meth c B b L xs dC dI aC j m0 mF Qe pc ls (vr k :: st) mm :=
  ⟨h.1, fun H locs lsr h0 hl hs hL hM hS => by
    have kk := h.2 H locs lsr h0 hl (ok_cons (hok hM.1) (ok_tl hs)) hL hM hS
    have h2 := (kd_lt (show kd mm.1 k ≠ 999 by omega)).1
    rw [List.map_cons, hv] at kk
    rw [List.map_cons, rf_tv h2]
    have hv' : ((List.range (NFc ci)).map (fldE B b mm.2 k ci (ent mm.1 k).2.2))[f]? = some (fldE B b mm.2 k ci (ent mm.1 k).2.2 f) := by rw [List.getElem?_map, List.getElem?_range hf]; rfl
    rcases hw with hw | hw
    · exact va_get (D := (dC, dI)) (C := RC ci) (T := TXf ci) (N := NFc ci) hC.1.1 hC.1.2.1 hC.gw (cl_gw hci) hC.1.2.2.2 hC.2.2.1.1 hM.2.1 (k - 2) (WS_obj hci hk) (cl_at hci) f hf (hC.2.1 _ hw rfl) (by rw [hT]; exact fun _ z => z) hv' hd kk
    · exact va_getN (D := (dC, dI)) (C := RC ci) (T := TXf ci) (N := NFc ci) hC.1.1 hC.1.2.1 hC.gw (cl_gw hci) hC.1.2.2.2 hC.2.2.1.1 hM.2.1 (k - 2) (WS_obj hci hk) (cl_at hci) f hf (va_Nw.use rfl (hC.nest hw rfl)) (by rw [hT]; exact fun _ z => z) hv' hd kk⟩
theorem s_geti (hC : CtxM p R s m args meth c B dC dI aC j m0 mF) {i k ci f : Nat} (hd : decode (Yb j) pc = .ok (.getfield i, 3)) (hci : ci < 11) (hf : f < NFc ci) (hT : (TXf ci f).1 = RC ci) (hw : linkF j i ci f) (hr : isR ci f = false) (hk : kd mm.1 k = ci)
    (h : WX p l e R s m args below meth c B b L xs dC dI aC j m0 mF Qe (pc + 3) ls (vi (mm.2 k f) :: st) mm) : WX p l e R s m args below meth c B b L xs dC dI aC j m0 mF Qe pc ls (vr k :: st) mm :=
  s_getv hC hd hci hf hT hw hk (by unfold fldE; rw [if_neg (by rw [hr]; decide)]; rfl) (fun ho => ok_i (ho.rng (by omega))) h
theorem s_getr (hC : CtxM p R s m args meth c B dC dI aC j m0 mF) {i k ci f : Nat} (hd : decode (Yb j) pc = .ok (.getfield i, 3)) (hci : ci < 11) (hf : f < NFc ci) (hT : (TXf ci f).1 = RC ci) (hw : linkF j i ci f) (hr : isR ci f = true) (hk : kd mm.1 k = ci)
    (h : WX p l e R s m args below meth c B b L xs dC dI aC j m0 mF Qe (pc + 3) ls (vr (rf mm.1 k f) :: st) mm) : WX p l e R s m args below meth c B b L xs dC dI aC j m0 mF Qe pc ls (vr k :: st) mm :=
  s_getv (v := vr (rf mm.1 k f)) hC hd hci hf hT hw hk (by unfold fldE; rw [if_pos hr]; rfl) (fun _ => trivial) h
theorem CtxM.B_le (hC : CtxM p R s m args meth c B dC dI aC j m0 mF) : B ≤ s.heap.size := by rw [hC.2.2.2.1]; omega
theorem MR_next {m' : Mem} {H H1 : Heap} {locs locs1 : List Loc} (hM : MR B b L xs dC dI aC mm s H) (hB : B ≤ s.heap.size) (hS : va_S (AA B) s.heap H locs) (hS1 : va_S (AA B) s.heap H1 locs1) (ok' : okM m') (hP : va_P (dC, dI) vwCl (WSm B b aC m') H1) (h00 : m'.2 0 0 = mm.2 0 0) (h1 : ∀ i, m'.2 1 i = mm.2 1 i) : MR B b L xs dC dI aC m' s H1 := by
  obtain ⟨-, -, hX, hb, hL, hl, hx⟩ := hM
  have e : H1[b]? = H[b]? := (hS1.2.1 b (by omega) (show ¬ B ≤ b by omega)).trans (hS.2.1 b (by omega) (show ¬ B ≤ b by omega)).symm
  exact ⟨ok', hP, hX.kept e, hb, hL, h00.trans hl, fun i hi => (h1 i).trans (hx i hi)⟩
theorem upD_ne {D : Dat} {k f a i : Nat} {v : Int} (h : a ≠ k) : upD D k f v a i = D a i := by unfold upD; rw [if_neg (fun z => h z.1)]
theorem upD_at {D : Dat} {k f : Nat} {v : Int} : upD D k f v k f = v := by unfold upD; rw [if_pos ⟨rfl, rfl⟩]
theorem upD_ne2 {D : Dat} {k f i : Nat} {v : Int} (h : i ≠ f) : upD D k f v k i = D k i := by unfold upD; rw [if_neg (fun z => h z.2)]
theorem MR_upd {H H1 : Heap} {locs locs1 : List Loc} {k f : Nat} {v : Int} (hM : MR B b L xs dC dI aC mm s H) (hB : B ≤ s.heap.size) (hS : va_S (AA B) s.heap H locs) (hS1 : va_S (AA B) s.heap H1 locs1) (hk : kd mm.1 k ≠ 999) (hv : if kd mm.1 k = 101 then w64 v = v else w32 v = v) {e : va_E} (he : cellE B b aC (mm.1, upD mm.2 k f v) (k - 2) = e) (hP : va_P (dC, dI) vwCl ((WSm B b aC mm).set (k - 2) (B + (k - 2), e)) H1) : MR B b L xs dC dI aC (mm.1, upD mm.2 k f v) s H1 := by
  obtain ⟨h2, hlt⟩ := kd_lt hk
  have e1 := WS_set (m' := (mm.1, upD mm.2 k f v)) (B := B) (b := b) (aC := aC) hlt rfl he (fun i hi hne => cellE_other (D := mm.2) rfl (fun q => upD_ne (by omega)))
  rw [e1] at hP
  exact MR_next hM hB hS hS1 (hM.1.upd hk hv) hP (upD_ne (by omega)) (fun i => upD_ne (by omega))
theorem fld_set {ci f k : Nat} {v : Int} {rs : List Nat} {D : Dat} (hr : isR ci f = false) : ((List.range (NFc ci)).map (fldE B b D k ci rs)).set f (.int (Int32.ofInt v)) = (List.range (NFc ci)).map (fldE B b (upD D k f v) k ci rs) := by
  apply List.ext_getElem?
  intro i
  by_cases hi : i < NFc ci
  · by_cases e : i = f
    · subst e
      rw [List.getElem?_set_self (by simpa using hi), List.getElem?_map, List.getElem?_range hi]
      show _ = some (fldE B b (upD D k i v) k ci rs i)
      unfold fldE
      rw [if_neg (by rw [hr]; decide), upD_at]
    · rw [List.getElem?_set_ne (Ne.symm e), List.getElem?_map, List.getElem?_map, List.getElem?_range hi]
      show some (fldE B b D k ci rs i) = some (fldE B b (upD D k f v) k ci rs i)
      unfold fldE
      rw [upD_ne2 e]
  · rw [List.getElem?_eq_none (by simp; omega), List.getElem?_eq_none (by simp; omega)]
theorem s_puti (hC : CtxM p R s m args meth c B dC dI aC j m0 mF) {i k ci f : Nat} {v : Int} (hd : decode (Yb j) pc = .ok (.putfield i, 3)) (hci : ci < 11) (hf : f < NFc ci) (hT : (TXf ci f).1 = RC ci) (hfin : (TXf ci f).2.2.2 = false) (hw : linkF j i ci f) (hr : isR ci f = false) (hty : tyXf ci f = .int ∨ (tyXf ci f = .boolean ∧ (v = 0 ∨ v = 1))) (hk : kd mm.1 k = ci)
    (h : WX p l e R s m args below meth c B b L xs dC dI aC j m0 mF Qe (pc + 3) ls st (mm.1, upD mm.2 k f v)) : WX p l e R s m args below meth c B b L xs dC dI aC j m0 mF Qe pc ls (vi v :: vr k :: st) mm :=
  ⟨h.1, fun H locs lsr h0 hl hs hL hM hS => by
    have h2 := (kd_lt (show kd mm.1 k ≠ 999 by omega)).1
    have hn : narrow (tyXf ci f) (.int (Int32.ofInt v)) = .int (Int32.ofInt v) ∧ fits (tyXf ci f) (.int (Int32.ofInt v)) = true := by
      rcases hty with hty | ⟨hty, rfl | rfl⟩ <;> rw [hty] <;> exact ⟨rfl, rfl⟩
    have kk : ∀ (H1 : Heap) (locs1 : List Loc), va_P (dC, dI) vwCl ((WSm B b aC mm).set (k - 2) (B + (k - 2), .inr (ci, ((List.range (NFc ci)).map (fldE B b mm.2 k ci (ent mm.1 k).2.2)).set f (.int (Int32.ofInt v))))) H1 → va_D (AA B) ((WSm B b aC mm).set (k - 2) (B + (k - 2), .inr (ci, ((List.range (NFc ci)).map (fldE B b mm.2 k ci (ent mm.1 k).2.2)).set f (.int (Int32.ofInt v))))) → va_S (AA B) s.heap H1 locs1 → W p l e R s m args below meth c H1 locs1 (mm.1.1.length - m0.1.1.length) (mm.1.2 - m0.1.2) Qe (F0 m (pc + 3) lsr (st.map (tv B b))) := fun H1 locs1 hP _ hS1 =>
      h.2 H1 locs1 lsr h0 hl (ok_tl (ok_tl hs)) hL (MR_upd hM hC.B_le hS hS1 (by omega) (by rw [if_neg (by omega)]; exact ok_hd hs) (by rw [cellE_obj (mm := (mm.1, upD mm.2 k f v)) hci hk, ← fld_set hr]) hP) hS1
    show W p l e R s m args below meth c H locs _ _ Qe (F0 m pc lsr (.int (Int32.ofInt v) :: tv B b (vr k) :: st.map (tv B b)))
    rw [rf_tv h2]
    rcases hw with hw | hw
    · exact va_put (D := (dC, dI)) (C := RC ci) (T := TXf ci) (N := NFc ci) hC.1.1 hC.1.2.1 hC.gw (cl_gw hci) (tyXf ci) (cl_ty hci) (cl_nm hci) hC.1.2.2.2 hC.2.2.1.1 hM.2.1 (WS_D (fun _ z => z)) hS (k - 2) (WS_obj hci hk) (cl_at hci) f hf (hC.2.1 _ hw rfl) (by rw [hT]; exact fun _ z => z) hfin (cl_ty hci f hf) hn.1 hn.2 (by simpa using hf) hd kk
    · exact va_putN (D := (dC, dI)) (C := RC ci) (T := TXf ci) (N := NFc ci) hC.1.1 hC.1.2.1 hC.gw (cl_gw hci) (tyXf ci) (cl_ty hci) (cl_nm hci) hC.1.2.2.2 hC.2.2.1.1 hM.2.1 (WS_D (fun _ z => z)) hS (k - 2) (WS_obj hci hk) (cl_at hci) f hf (va_Nw.use rfl (hC.nest hw rfl)) (by rw [hT]; exact fun _ z => z) hfin (cl_ty hci f hf) hn.1 hn.2 (by simpa using hf) hd kk⟩
/-! references -/
theorem setR_len (g : Shp × Nat) (k i v : Nat) : (setR g k i v).1.length = g.1.length := by unfold setR; simp
theorem setR_ent {g : Shp × Nat} {k i v : Nat} (hk : k - 2 < g.1.length) : (ent (setR g k i v) k).1 = (ent g k).1 ∧ (ent (setR g k i v) k).2.1 = (ent g k).2.1 ∧ ∀ q, (ent (setR g k i v) k).2.2.getD q 0 = if q = i then v else (ent g k).2.2.getD q 0 := by
  have e : ent (setR g k i v) k = ((ent g k).1, (ent g k).2.1, (((List.range (i + 1)).map fun j => (ent g k).2.2.getD j 0) ++ (ent g k).2.2.drop (i + 1)).set i v) := by
    show (setR g k i v).1.getD (k - 2) _ = _
    unfold setR
    rw [List.getD_eq_getElem?_getD, List.getElem?_set_self hk]
    rfl
  rw [e]
  refine ⟨rfl, rfl, fun q => ?_⟩
  show List.getD _ q 0 = _
  by_cases h : q = i
  · subst h
    rw [if_pos rfl, List.getD_eq_getElem?_getD, List.getElem?_set_self (by simp; omega)]
    rfl
  · rw [if_neg h, List.getD_eq_getElem?_getD, List.getElem?_set_ne (Ne.symm h)]
    by_cases h2 : q < i + 1
    · rw [List.getElem?_append_left (by simpa using h2), List.getElem?_map, List.getElem?_range h2]
      rfl
    · rw [List.getElem?_append_right (by simp; omega), List.getElem?_drop, List.getD_eq_getElem?_getD]
      congr 2
      simp
      omega
theorem setR_other {g : Shp × Nat} {k i v a : Nat} (h : a ≠ k - 2) : (setR g k i v).1.getD a (999, 0, []) = g.1.getD a (999, 0, []) := by
  unfold setR
  rw [List.getD_eq_getElem?_getD, List.getElem?_set_ne (Ne.symm h), ← List.getD_eq_getElem?_getD]
theorem setR_kd {g : Shp × Nat} {k i v a : Nat} (hk : 2 ≤ k) (hl : k - 2 < g.1.length) : kd (setR g k i v) a = kd g a := by
  unfold kd
  by_cases h : a < 2
  · rw [if_pos h, if_pos h]
  · rw [if_neg h, if_neg h]
    by_cases e : a = k
    · subst e; exact (setR_ent hl).1
    · unfold ent; rw [setR_other (by omega)]
theorem okM_setR {k i v : Nat} (h : okM mm) (hk : kd mm.1 k ≠ 999) : okM (setR mm.1 k i v, mm.2) := by
  obtain ⟨h2, hl⟩ := kd_lt hk
  refine ⟨fun a ha => ?_, fun a q => ?_, fun a q ha => h.2.2 a q (by rw [show (setR mm.1 k i v, mm.2).1.1.length = mm.1.1.length from setR_len _ _ _ _] at ha; exact ha)⟩
  · rw [show (setR mm.1 k i v, mm.2).1.1.length = mm.1.1.length from setR_len _ _ _ _] at ha
    have h3 := h.1 a ha
    by_cases e : a = k - 2
    · subst e
      have h4 := setR_ent (g := mm.1) (i := i) (v := v) hl
      show ((ent (setR mm.1 k i v) k).1 < 11 ∨ (100 ≤ (ent (setR mm.1 k i v) k).1 ∧ (ent (setR mm.1 k i v) k).1 ≤ 107)) ∧ (ent (setR mm.1 k i v) k).2.1 < 1000
      rw [h4.1, h4.2.1]
      exact h3
    · have e' : enI (setR mm.1 k i v, mm.2) a = enI mm a := setR_other e
      rw [e']; exact h3
  · show if kd (setR mm.1 k i v) a = 101 then _ else _
    rw [setR_kd h2 hl]
    exact h.2.1 a q
theorem MR_setR {H H1 : Heap} {locs locs1 : List Loc} {k f v : Nat} (hM : MR B b L xs dC dI aC mm s H) (hB : B ≤ s.heap.size) (hS : va_S (AA B) s.heap H locs) (hS1 : va_S (AA B) s.heap H1 locs1) (hk : kd mm.1 k ≠ 999) {e : va_E} (he : cellE B b aC (setR mm.1 k f v, mm.2) (k - 2) = e) (hP : va_P (dC, dI) vwCl ((WSm B b aC mm).set (k - 2) (B + (k - 2), e)) H1) : MR B b L xs dC dI aC (setR mm.1 k f v, mm.2) s H1 := by
  obtain ⟨h2, hlt⟩ := kd_lt hk
  have e1 := WS_set (m' := (setR mm.1 k f v, mm.2)) (B := B) (b := b) (aC := aC) hlt (setR_len _ _ _ _) he (fun i hi hne => cellE_other (D := mm.2) (setR_other hne) (fun q => rfl))
  rw [e1] at hP
  exact MR_next hM hB hS hS1 (okM_setR hM.1 hk) hP rfl (fun i => rfl)
theorem s_putr (hC : CtxM p R s m args meth c B dC dI aC j m0 mF) {i k ci f v : Nat} (hd : decode (Yb j) pc = .ok (.putfield i, 3)) (hci : ci < 11) (hf : f < NFc ci) (hT : (TXf ci f).1 = RC ci) (hfin : (TXf ci f).2.2.2 = true) (hinit : (Yn j).name = "<init>") (hown : RC (Yc j) = RC ci) (hw : Cond.fieldLink (RC (Yc j)) i (RC ci) (TXf ci f).2.1 (TXf ci f).2.2.1 ∈ lw_tbl) (hr : isR ci f = true) (hty : (tyXf ci f).isReference = true) (hk : kd mm.1 k = ci)
    (h : WX p l e R s m args below meth c B b L xs dC dI aC j m0 mF Qe (pc + 3) ls st (setR mm.1 k f v, mm.2)) : WX p l e R s m args below meth c B b L xs dC dI aC j m0 mF Qe pc ls (vr v :: vr k :: st) mm :=
  ⟨⟨by have := h.1.1; rw [show (setR mm.1 k f v, mm.2).1.1.length = mm.1.1.length from setR_len _ _ _ _] at this; exact this, h.1.2⟩, fun H locs lsr h0 hl hs hL hM hS => by
    obtain ⟨h2, hlt⟩ := kd_lt (show kd mm.1 k ≠ 999 by omega)
    have hn : narrow (tyXf ci f) (va_rf (tvr B b v)) = va_rf (tvr B b v) ∧ fits (tyXf ci f) (va_rf (tvr B b v)) = true := by
      cases hq : tvr B b v <;> cases ht : tyXf ci f <;> rw [ht] at hty <;> first | exact ⟨rfl, rfl⟩ | cases hty
    have hset : ((List.range (NFc ci)).map (fldE B b mm.2 k ci (ent mm.1 k).2.2)).set f (va_rf (tvr B b v)) = (List.range (NFc ci)).map (fldE B b mm.2 k ci (ent (setR mm.1 k f v) k).2.2) := by
      apply List.ext_getElem?
      intro q
      have h3 := (setR_ent (i := f) (v := v) hlt).2.2 q
      by_cases hq : q < NFc ci
      · by_cases e : q = f
        · subst e
          rw [List.getElem?_set_self (by simpa using hq), List.getElem?_map, List.getElem?_range hq]
          show _ = some (fldE B b mm.2 k ci _ q)
          unfold fldE
          rw [if_pos hr, h3, if_pos rfl]
        · rw [List.getElem?_set_ne (Ne.symm e), List.getElem?_map, List.getElem?_map, List.getElem?_range hq]
          show some (fldE B b mm.2 k ci _ q) = some (fldE B b mm.2 k ci _ q)
          unfold fldE
          rw [h3, if_neg e]
      · rw [List.getElem?_eq_none (by simp; omega), List.getElem?_eq_none (by simp; omega)]
    show W p l e R s m args below meth c H locs _ _ Qe (F0 m pc lsr (va_rf (tvr B b v) :: tv B b (vr k) :: st.map (tv B b)))
    rw [rf_tv h2]
    refine va_putF (D := (dC, dI)) (C := RC ci) (T := TXf ci) (N := NFc ci) hC.1.1 hC.1.2.1 hC.gw (cl_gw hci) (tyXf ci) (cl_ty hci) (cl_nm hci) hC.1.2.2.2 hC.2.2.1.1 hM.2.1 (WS_D (fun _ z => z)) hS (k - 2) (WS_obj hci hk) (cl_at hci) f hf (hC.2.1 _ hw rfl) (by rw [hT]; exact fun _ z => z) hfin (hC.2.2.2.2.1 hinit) (by rw [hT, hown]) (cl_ty hci f hf) hn.1 hn.2 (by simpa using hf) hd (fun H1 locs1 hP _ hS1 => ?_)
    have k2 := h.2 H1 locs1 lsr ⟨by rw [show (setR mm.1 k f v, mm.2).1.1.length = mm.1.1.length from setR_len _ _ _ _]; exact h0.1, h0.2⟩ hl (ok_tl (ok_tl hs)) hL (MR_setR hM hC.B_le hS hS1 (by omega) (by rw [cellE_obj (mm := (setR mm.1 k f v, mm.2)) hci (by rw [show kd (setR mm.1 k f v, mm.2).1 k = kd mm.1 k from setR_kd h2 hlt]; exact hk), hset]) hP) hS1
    rw [show (setR mm.1 k f v, mm.2).1.1.length = mm.1.1.length from setR_len _ _ _ _] at k2
    exact k2⟩
end ST5
