/-! THE LAW'S START: both constructors, then its loop -/
theorem MkOK.at {dd d : Nat} {q : Mk} (h : MkOK dd q) (hd : dd ≤ d) (gs : Shp) (n : Nat) (D : Dat) (k : Option MV → Mem → Prop) (hk : k none ((gs ++ rlS gs.length q.2.2.1, n + q.2.2.2.1), apW (rlW gs.length q.2.2.2.2) D)) : CG d q.1 [vr (gs.length + 2)] ((gs ++ [(q.2.1, 0, [])], n), D) k := by
  obtain ⟨c, rfl⟩ := Nat.exists_eq_add_of_le hd
  exact h gs n D c k hk
theorem lx_46 {J : Nat → List MV → List MV → Mem → Prop} {Q : Option MV → Mem → Prop} {C : CallP} {pc n b : Nat} {a : Int} {t : List (Int × Nat)} {r : List (Nat × Op)} {ls st : List MV} {g : Shp × Nat} {D : Dat} : exL J Q C pc ((n, 46, a, b, t) :: r) ls st (g, D) = exL J Q C (pc + n) r ls (vr (g.1.length + 2) :: st) ((g.1 ++ [(b, 0, [])], g.2 + a.toNat), D) := propext Iff.rfl
theorem kd_new {gs : Shp} {c n : Nat} : kd (gs ++ [(c, 0, [])], n) (gs.length + 2) = c := by
  unfold kd ent
  rw [if_neg (by omega), Nat.add_sub_cancel, List.getD_eq_getElem?_getD, List.getElem?_append_right (Nat.le_refl _), Nat.sub_self]
  rfl
theorem r_215_s {d : Nat} {k : Option MV → Mem → Prop} {ls st : List MV} {m : Mem} : Rn d 215 k 0 ls st m = exL (Rn d 215 k) k (CG d) 0 [(3, 46, 11, 9, []), (1, 60, 0, 0, []), (3, 52, 1, 0, [(0, 9)]), (1, 7, 0, 1, []), (3, 46, 37, 10, []), (1, 60, 0, 0, []), (3, 52, 1, 128, [(0, 10)]), (1, 7, 0, 2, []), (1, 0, 0, 0, []), (1, 5, 0, 3, [])] ls st m := go_eq _ (by decide +kernel)
theorem lw_s {d : Nat} {k : Option MV → Mem → Prop} {D : Dat} {t0 t1 : Shp} {N0 N1 : Nat} {W0 W1 : Wr} (h0 : MkOK 4 (0, 9, t0, N0, W0)) (h1 : MkOK 2 (128, 10, t1, N1, W1)) (hl : t0.length = 1050) (hk : Rn (d + 12) 215 k 18 [vr 1, vr 2, vr 1052, vi 0] [] ((rlS 0 t0 ++ rlS 1050 t1, 0 + 11 + N0 + 37 + N1), apW (rlW 1050 W1) (apW (rlW 0 W0) D))) : CG (d + 13) 215 [vr 1] (([], 0), D) k := by
  refine enter rfl ?_
  show Rn (d + 12) 215 k 0 [vr 1, vu, vu, vu] [] (([], 0), D)
  rw [r_215_s, lx_46, x_60r]
  refine Eq.mpr (x_52_1 (kd_new (gs := []) (c := 9)) (Nat.le_of_ble_eq_true rfl)) ?_
  refine h0.at (by omega : 4 ≤ d + 12) [] (0 + 11) D _ ?_
  show exL (Rn (d + 12) 215 k) k (CG (d + 12)) _ ((1, 7, 0, 1, []) :: _) [vr 1, vu, vu, vu] [vr 2] ((rlS 0 t0, 0 + 11 + N0), apW (rlW 0 W0) D)
  have hl2 : (rlS 0 t0).length = 1050 := by rw [rlS_len]; exact hl
  generalize rlS 0 t0 = gs at hk hl2 ⊢
  rw [x_7, lx_46, x_60r]
  refine Eq.mpr (x_52_1 (kd_new (gs := gs) (c := 10)) (Nat.le_of_ble_eq_true rfl)) ?_
  refine h1.at (by omega : 2 ≤ d + 12) gs (0 + 11 + N0 + 37) _ _ ?_
  show exL (Rn (d + 12) 215 k) k (CG (d + 12)) _ ((1, 7, 0, 2, []) :: _) [vr 1, vr 2, vu, vu] [vr (gs.length + 2)] ((gs ++ rlS gs.length t1, 0 + 11 + N0 + 37 + N1), apW (rlW gs.length W1) (apW (rlW 0 W0) D))
  rw [x_7, x_0, x_5, x_nil, hl2]
  exact hk
theorem mk_G0 : (rlS 0 mkS0 ++ rlS 1050 mkS128, 0 + 11 + 15615 + 37 + 15453) = G0 := by decide +kernel
def mkW : Wr := rlW 1050 mkQ128.2.2.2.2 ++ rlW 0 mkQ0.2.2.2.2
def lkW (W : Wr) (k f : Nat) : Option Int := match W with
  | [] => none
  | q :: r => if k = q.1 ∧ f = q.2.1 then some q.2.2 else lkW r k f
theorem apW_lk {D : Dat} {k f : Nat} : ∀ (W : Wr), apW W D k f = (lkW W k f).getD (D k f) := by
  intro W
  induction W with
  | nil => rfl
  | cons q r ih =>
    show (if k = q.1 ∧ f = q.2.1 then q.2.2 else apW r D k f) = _
    unfold lkW
    split
    · rfl
    · exact ih
theorem lkW_n {k f : Nat} (hk : k < 2) : ∀ (W : Wr), (∀ q ∈ W, 2 ≤ q.1) → lkW W k f = none := by
  intro W h
  induction W with
  | nil => rfl
  | cons q r ih =>
    have h1 := h q (List.mem_cons_self ..)
    unfold lkW
    rw [if_neg (by omega)]
    exact ih (fun q hq => h q (List.mem_cons_of_mem _ hq))
theorem mkW_2 : ∀ q ∈ mkW, 2 ≤ q.1 := by decide +kernel
theorem mkW_f : (lkW mkW 758 4).getD 0 = 0 ∧ (lkW mkW 3 0).getD 0 = 2 ∧ (lkW mkW 104 2).getD 0 = 0 ∧ (lkW mkW 107 2).getD 0 = 0 ∧ (lkW mkW 110 2).getD 0 = 0 ∧ (lkW mkW 2 3).getD 0 = 0 ∧ (lkW mkW 1052 0).getD 0 = 2 ∧ (lkW mkW 1052 22).getD 0 = 0 ∧ (lkW mkW 1052 24).getD 0 = 0 ∧ (lkW mkW 1052 28).getD 0 = 0 ∧ (lkW mkW 1052 36).getD 0 = 0 := by decide +kernel
theorem mkW_c : ∀ s, s < 4 → (lkW mkW (5 + 12 * s) 3).getD 0 = 0 := by decide +kernel
theorem mkW_m : ∀ s, s < 4 → (lkW mkW (1054 + s) 0).getD 0 = -1 := by decide +kernel
