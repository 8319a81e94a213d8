theorem mid3_len (h b c : Nat) : ∀ i, (mid3 h b c i).length = i * (b + 1)
  | 0 => by simp [mid3]
  | i + 1 => by
    have ih := mid3_len h b c i
    rw [Nat.succ_mul, ← ih]
    simp [mid3, rowsE]
theorem mid3_get (h b c : Nat) : ∀ i q, q < i → (mid3 h b c i)[q * (b + 1)]? = some (106, b, (List.range b).map fun j => h + q * (b + 1) + 1 + j) ∧ ∀ r, r < b → (mid3 h b c i)[q * (b + 1) + 1 + r]? = some (100, c, [])
  | 0, _, hq => absurd hq (Nat.not_lt_zero _)
  | i + 1, q, hq => by
    have hlen := mid3_len h b c i
    rcases Nat.lt_or_ge q i with h1 | h1
    · obtain ⟨g1, g2⟩ := mid3_get h b c i q h1
      have hm : (q + 1) * (b + 1) ≤ i * (b + 1) := Nat.mul_le_mul_right _ h1
      rw [Nat.succ_mul] at hm
      refine ⟨?_, fun r hr => ?_⟩
      · rw [mid3, List.getElem?_append_left (by omega)]; exact g1
      · rw [mid3, List.getElem?_append_left (by omega)]; exact g2 r hr
    · have e : q = i := by omega
      subst e
      refine ⟨?_, fun r hr => ?_⟩
      · rw [mid3, List.getElem?_append_right (by omega), hlen, Nat.sub_self]
        rfl
      · rw [mid3, List.getElem?_append_right (by omega), hlen, show q * (b + 1) + 1 + r - q * (b + 1) = r + 1 from by omega]
        show (rowsE 100 c b)[r]? = _
        unfold rowsE
        rw [List.getElem?_replicate, if_pos hr]
theorem mid3_mem {h b c : Nat} : ∀ i, ∀ q ∈ mid3 h b c i, (q.1 = 106 ∧ q.2.1 = b) ∨ (q.1 = 100 ∧ q.2.1 = c)
  | 0, q, hq => by simp [mid3] at hq
  | i + 1, q, hq => by
    rw [mid3] at hq
    rcases List.mem_append.mp hq with h1 | h1
    · exact mid3_mem i q h1
    · rcases List.mem_append.mp h1 with h2 | h2
      · rw [List.mem_singleton] at h2; subst h2; exact Or.inl ⟨rfl, rfl⟩
      · rw [(List.mem_replicate.mp h2).2]; exact Or.inr ⟨rfl, rfl⟩
section ST9
variable {p : Program} {l : Launch} {e : Env} {R : Room} {s : State} {m : MethodId} {args : Array Value} {below : List Frame} {meth : Method} {c : Code} {B b L : Nat} {xs : Nat → Int32} {dC : Nat → ClassId} {dI : Nat → Nat → Nat} {aC : Nat → ClassId} {j : Nat} {m0 mF : Mem} {Qe : State → Prop} {pc : Nat} {ls st : List MV} {mm : Mem}
abbrev es3 (mm : Mem) (x y z : Nat) : List (Nat × Nat × List Nat) := (107, x, (List.range x).map fun i => mm.1.1.length + 2 + 1 + i * (y + 1)) :: mid3 (mm.1.1.length + 2 + 1) y z x
theorem new3E_g (mm : Mem) (x y z : Nat) : (new3E mm x y z).1.1 = mm.1.1 ++ es3 mm x y z := by
  show mm.1.1 ++ [(107, x, _)] ++ mid3 _ y z x = _
  rw [List.append_assoc]
  rfl
theorem new3E_len (mm : Mem) (x y z : Nat) : (new3E mm x y z).1.1.length = mm.1.1.length + 1 + x * (y + 1) := by
  rw [new3E_g, List.length_append, List.length_cons, mid3_len]
  omega
theorem s_new3 (hC : CtxM p R s m args meth c B dC dI aC j m0 mF) {i : Nat} {x y z : Int} (hd : decode (Yb j) pc = .ok (.multianewarray i 3, 4)) (hw1 : Cond.classLink (RC (Yc j)) i "[[[I" ∈ lw_tbl) (hw2 : Cond.arrayOver (.array (.array .int)) ∈ lw_tbl) (hw4 : Cond.arrayOver (.array .int) ∈ lw_tbl) (hw3 : Cond.arrayClass .int ∈ lw_tbl) (h0 : 0 ≤ x) (h1 : x < 1000) (h2 : 0 ≤ y) (h3 : y < 1000) (h4 : 0 ≤ z) (h5 : z < 1000)
    (h : WX p l e R s m args below meth c B b L xs dC dI aC j m0 mF Qe (pc + 4) ls (vr (mm.1.1.length + 2) :: st) (new3E mm x.toNat y.toNat z.toNat)) : WX p l e R s m args below meth c B b L xs dC dI aC j m0 mF Qe pc ls (vi z :: vi y :: vi x :: st) mm := by
  have hb1 : mm.1.1.length + 1 + x.toNat * (y.toNat + 1) ≤ mF.1.1.length := by have := h.1.1; rw [new3E_len] at this; exact this
  have hb2 : mm.1.2 + x.toNat + x.toNat * (y.toNat + y.toNat * z.toNat) ≤ mF.1.2 := h.1.2
  refine ⟨⟨by omega, by omega⟩, fun H locs lsr g0 hl hs hL hM hS => ?_⟩
  have r3 : mF.1.1.length - m0.1.1.length ≤ R.cells := hC.2.2.2.2.2.2.2.1
  have r4 : mF.1.2 - m0.1.2 ≤ R.slots := hC.2.2.2.2.2.2.2.2
  have g1 : m0.1.1.length ≤ mm.1.1.length := g0.1
  have g2 : m0.1.2 ≤ mm.1.2 := g0.2
  have hz : w32 z = z := ok_hd hs
  have hy : w32 y = y := ok_hd (ok_tl hs)
  have hx : w32 x = x := ok_hd (ok_tl (ok_tl hs))
  intro T hT X
  have hsz := sizeH hM hC.2.2.2.1 g0 hS hT X
  obtain ⟨vm₁, c1, c2, c3, fA, fB, fC, X', step⟩ := multi3 (ty := .int) X hC.1.1 hC.1.2.2.2 (hC.2.1 _ hw1 rfl) (show (Cond.arrayOver (.array (.array .int))).before args s = true from hC.nest hw2 rfl) (show (Cond.arrayOver (.array .int)).before args s = true from hC.nest hw4 rfl) (hC.2.1 _ hw3 rfl) (g := F0 m pc lsr (.int (Int32.ofInt z) :: .int (Int32.ofInt y) :: .int (Int32.ofInt x) :: st.map (tv B b))) rfl (by rw [hC.1.2.1]; exact hd) rfl (pos32 hx h0) (pos32 hy h2) (pos32 hz h4) (by rw [nat32 hx]; omega) (by rw [nat32 hy]; omega) (by rw [nat32 hz]; show z.toNat * 4 ≤ _; omega) (by rw [nat32 hz]; omega) rfl rfl (by rw [nat32 hx, nat32 hy]; omega) (by rw [nat32 hx, nat32 hy, nat32 hz]; omega)
  rw [nat32 hx, nat32 hy, nat32 hz] at X' step
  have eA : c1 = aC 7 := Option.some.inj (fA.symm.trans (hC.2.2.1.1.2 7 _ (tysA_at aC (by decide))).2)
  have eB : c2 = aC 6 := Option.some.inj (fB.symm.trans (hC.2.2.1.1.2 6 _ (tysA_at aC (by decide))).2)
  have eC : c3 = aC 0 := Option.some.inj (fC.symm.trans (hC.2.2.1.1.2 0 _ (tysA_at aC (by decide))).2)
  subst eA; subst eB; subst eC
  have hTh : (T.setVm vm₁).heap = H := hT
  have hTs : (T.setVm vm₁).heap.size = B + mm.1.1.length := by rw [hTh]; exact hsz
  obtain ⟨f1, f2, -, -⟩ := fill3_facts (T.setVm vm₁) (aC 7) (aC 6) (aC 0) x.toNat y.toNat z.toNat (defaultValue .int) x.toNat
  have f3 := fun q hq => fill3_old (T.setVm vm₁) (aC 7) (aC 6) (aC 0) x.toNat y.toNat z.toNat (defaultValue .int) (q := q) hq x.toNat
  have f4 := fun q hq => fill3_mid (T.setVm vm₁) (aC 7) (aC 6) (aC 0) x.toNat y.toNat z.toNat (defaultValue .int) x.toNat q hq
  generalize fill3 (T.setVm vm₁) (aC 7) (aC 6) (aC 0) x.toNat y.toNat z.toNat (defaultValue .int) x.toNat = F at X' step f1 f2 f3 f4
  rw [hTs] at f1 f2 f3 f4
  rw [hTh] at f3
  have hg := new3E_g mm x.toNat y.toNat z.toNat
  have hap := MR_app (m' := new3E mm x.toNat y.toNat z.toNat) (H1 := F.heap) hM hC.B_le hS hg rfl (fun q hq => by
    rcases List.mem_cons.mp hq with rfl | hq
    · exact ⟨Or.inr ⟨(by decide : 100 ≤ 107), (by decide : 107 ≤ 107)⟩, show x.toNat < 1000 by omega⟩
    · rcases mid3_mem _ q hq with ⟨e1, e2⟩ | ⟨e1, e2⟩ <;> rw [e1, e2]
      · exact ⟨Or.inr ⟨by decide, by decide⟩, by omega⟩
      · exact ⟨Or.inr ⟨by decide, by decide⟩, by omega⟩) (fun q hq => f3 q (Nat.lt_of_lt_of_le hq (Nat.le_of_eq hsz))) (by rw [f1, hsz]; omega) (fun q hq => by
    have he := en_new (mm := mm) hg hq
    cases q with
    | zero =>
      rw [cellE_rr (by decide) he]
      show F.heap[B + (mm.1.1.length + 0)]? = some (arrV (aC 7) x.toNat fun q => va_rf (tvr B b (((List.range x.toNat).map fun i => mm.1.1.length + 2 + 1 + i * (y.toNat + 1)).getD q 0)))
      rw [Nat.add_zero, f2, o3_arr]
      refine congrArg some (arrV_ext fun q hq => ?_)
      rw [if_pos hq, List.getD_eq_getElem?_getD, List.getElem?_map, List.getElem?_range hq]
      show va_rf (some (B + mm.1.1.length + 1 + q * (y.toNat + 1))) = va_rf (tvr B b (mm.1.1.length + 2 + 1 + q * (y.toNat + 1)))
      rw [tvr_of (by omega), show B + mm.1.1.length + 1 + q * (y.toNat + 1) = B + (mm.1.1.length + 2 + 1 + q * (y.toNat + 1) - 2) from by omega]
    | succ q =>
      have hq' : q < x.toNat * (y.toNat + 1) := by rw [List.length_cons, mid3_len] at hq; omega
      have hdm := Nat.div_add_mod q (y.toNat + 1)
      have hml := Nat.mod_lt q (Nat.succ_pos y.toNat)
      have hdl : q / (y.toNat + 1) < x.toNat := (Nat.div_lt_iff_lt_mul (Nat.succ_pos _)).mpr hq'
      generalize q / (y.toNat + 1) = u at hdm hdl
      generalize q % (y.toNat + 1) = v at hdm hml
      have hdm' : q = u * (y.toNat + 1) + v := by rw [Nat.mul_comm]; exact hdm.symm
      obtain ⟨m1, m2⟩ := mid3_get (mm.1.1.length + 2 + 1) y.toNat z.toNat x.toNat u hdl
      obtain ⟨n1, n2⟩ := f4 u hdl
      have hes : (es3 mm x.toNat y.toNat z.toNat)[q + 1]? = (mid3 (mm.1.1.length + 2 + 1) y.toNat z.toNat x.toNat)[q]? := List.getElem?_cons_succ
      rw [List.getElem?_eq_getElem hq] at hes
      cases v with
      | zero =>
        rw [show u * (y.toNat + 1) = q from by omega] at m1
        rw [m1] at hes
        have he' : enI (new3E mm x.toNat y.toNat z.toNat) (mm.1.1.length + (q + 1)) = (106, y.toNat, (List.range y.toNat).map fun j => mm.1.1.length + 2 + 1 + u * (y.toNat + 1) + 1 + j) := by
          rw [he]; exact (Option.some.inj hes).trans (by rw [show u * (y.toNat + 1) = q from by omega])
        rw [cellE_rr (by decide) he']
        show F.heap[B + (mm.1.1.length + (q + 1))]? = some (arrV (aC 6) y.toNat fun q => va_rf (tvr B b (((List.range y.toNat).map fun j => mm.1.1.length + 2 + 1 + u * (y.toNat + 1) + 1 + j).getD q 0)))
        rw [show B + (mm.1.1.length + (q + 1)) = B + mm.1.1.length + 1 + u * (y.toNat + 1) from by omega, n1, outer_arr]
        refine congrArg some (arrV_ext fun q hq => ?_)
        rw [if_pos hq, List.getD_eq_getElem?_getD, List.getElem?_map, List.getElem?_range hq]
        show va_rf (some (B + mm.1.1.length + 1 + u * (y.toNat + 1) + 1 + q)) = va_rf (tvr B b (mm.1.1.length + 2 + 1 + u * (y.toNat + 1) + 1 + q))
        rw [tvr_of (by omega), show B + mm.1.1.length + 1 + u * (y.toNat + 1) + 1 + q = B + (mm.1.1.length + 2 + 1 + u * (y.toNat + 1) + 1 + q - 2) from by omega]
      | succ v =>
        have m3 := m2 v (by omega)
        rw [show u * (y.toNat + 1) + 1 + v = q from by omega] at m3
        rw [m3] at hes
        have he' : enI (new3E mm x.toNat y.toNat z.toNat) (mm.1.1.length + (q + 1)) = (100, z.toNat, []) := by rw [he]; exact Option.some.inj hes
        rw [cellE_i0 he' (fun f => hM.1.2.2 _ f (by omega))]
        show F.heap[B + (mm.1.1.length + (q + 1))]? = some (arrV (aC 0) z.toNat fun _ => .int 0)
        have := n2 v (by omega)
        rw [show B + (mm.1.1.length + (q + 1)) = B + mm.1.1.length + 1 + u * (y.toNat + 1) + 1 + v from by omega, this, ← arrV_new]
        rfl)
  have kk := h.2 F.heap locs lsr ⟨by rw [new3E_len]; omega, show m0.1.2 ≤ mm.1.2 + x.toNat + x.toNat * (y.toNat + y.toNat * z.toNat) by omega⟩ hl (ok_cons (trivial : okV (vr (mm.1.1.length + 2))) (ok_tl (ok_tl (ok_tl hs)))) hL hap.1 hap.2
  have e3 : (new3E mm x.toNat y.toNat z.toNat).1.1.length - m0.1.1.length = mm.1.1.length - m0.1.1.length + 1 + x.toNat * (y.toNat + 1) := by rw [new3E_len]; omega
  have e4 : (new3E mm x.toNat y.toNat z.toNat).1.2 - m0.1.2 = mm.1.2 - m0.1.2 + x.toNat + x.toNat * (y.toNat + y.toNat * z.toNat) := by show mm.1.2 + x.toNat + x.toNat * (y.toNat + y.toNat * z.toNat) - m0.1.2 = _; omega
  rw [List.map_cons, rf_tv (by omega), show mm.1.1.length + 2 - 2 = mm.1.1.length from by omega, e3, e4, ← hsz] at kk
  obtain ⟨t, a1, b1⟩ := kk F rfl X'
  refine ⟨t, step t ?_, b1⟩
  rw [hT]
  exact a1
end ST9
