/-! THE MEMORY: what the small memory says of the heap -/
def tysA (aC : Nat → ClassId) : List (ClassId × FieldType) := (List.range 8).map fun t => (aC t, aty t)
theorem tysA_at (aC : Nat → ClassId) {t : Nat} (h : t < 8) : (tysA aC)[t]? = some (aC t, aty t) := by
  unfold tysA
  rw [List.getElem?_map, List.getElem?_range h]
  rfl
abbrev enI (m : Mem) (i : Nat) : Nat × Nat × List Nat := m.1.1.getD i (999, 0, [])
def fldE (B b : Nat) (D : Dat) (k ci : Nat) (rs : List Nat) (f : Nat) : Value := if isR ci f = true then va_rf (tvr B b (rs.getD f 0)) else .int (Int32.ofInt (D k f))
def cellE (B b : Nat) (aC : Nat → ClassId) (m : Mem) (i : Nat) : va_E :=
  if (enI m i).1 < 100 then .inr ((enI m i).1, (List.range (NFc (enI m i).1)).map (fldE B b m.2 (i + 2) (enI m i).1 (enI m i).2.2))
  else if (enI m i).1 = 101 then .inl (aC 1, (enI m i).2.1, .inr (.inl fun j => Int64.ofInt (m.2 (i + 2) j)))
  else if (enI m i).1 ≤ 102 then .inl (aC ((enI m i).1 - 100), (enI m i).2.1, .inl fun j => Int32.ofInt (m.2 (i + 2) j))
  else .inl (aC ((enI m i).1 - 100), (enI m i).2.1, .inr (.inr (.inr (.inr fun j => tvr B b ((enI m i).2.2.getD j 0)))))
def WSm (B b : Nat) (aC : Nat → ClassId) (m : Mem) : va_W := (List.range m.1.1.length).map fun i => (B + i, cellE B b aC m i)
def okM (m : Mem) : Prop := (∀ i, i < m.1.1.length → ((enI m i).1 < 11 ∨ (100 ≤ (enI m i).1 ∧ (enI m i).1 ≤ 107)) ∧ (enI m i).2.1 < 1000) ∧ (∀ k f, if kd m.1 k = 101 then w64 (m.2 k f) = m.2 k f else w32 (m.2 k f) = m.2 k f) ∧ ∀ k f, m.1.1.length + 2 ≤ k → m.2 k f = 0
/-- the memory, the heap, the script -/
def MR (B b L : Nat) (xs : Nat → Int32) (dC : Nat → ClassId) (dI : Nat → Nat → Nat) (aC : Nat → ClassId) (m : Mem) (U : State) (H : Heap) : Prop :=
  okM m ∧ va_P (dC, dI) vwCl (WSm B b aC m) H ∧ va_X b L xs U H ∧ (b < B ∧ L < 4000 ∧ m.2 0 0 = (L : Int) ∧ ∀ j, j < L → m.2 1 j = (xs j).toInt)
theorem kd_lt {m : Mem} {k : Nat} (h : kd m.1 k ≠ 999) : 2 ≤ k ∧ k - 2 < m.1.1.length := by
  unfold kd at h
  by_cases h2 : k < 2
  · rw [if_pos h2] at h; exact absurd rfl h
  · rw [if_neg h2] at h
    refine ⟨by omega, ?_⟩
    rcases Nat.lt_or_ge (k - 2) m.1.1.length with h3 | h3
    · exact h3
    · unfold ent at h
      rw [List.getD_eq_getElem?_getD, List.getElem?_eq_none h3] at h
      exact absurd rfl h
theorem kd_en {m : Mem} {k : Nat} (h : kd m.1 k ≠ 999) : (enI m (k - 2)).1 = kd m.1 k := by
  have := (kd_lt h).1
  unfold kd ent
  rw [if_neg (by omega)]
theorem kd_of {m : Mem} {i : Nat} : kd m.1 (i + 2) = (enI m i).1 := by
  unfold kd ent
  rw [if_neg (by omega)]
  rfl
theorem tvr_of {B b k : Nat} (h : 2 ≤ k) : tvr B b k = some (B + (k - 2)) := by
  unfold tvr phi
  rw [if_neg (by omega), if_neg (by omega)]
section MEM
variable {B b L : Nat} {xs : Nat → Int32} {dC : Nat → ClassId} {dI : Nat → Nat → Nat} {aC : Nat → ClassId} {m m' : Mem} {U : State} {H H1 : Heap}
theorem WS_at {i : Nat} (h : i < m.1.1.length) : (WSm B b aC m)[i]? = some (B + i, cellE B b aC m i) := by
  unfold WSm
  rw [List.getElem?_map, List.getElem?_range h]
  rfl
theorem WS_len : (WSm B b aC m).length = m.1.1.length := by unfold WSm; simp
theorem WS_D {A : Nat → Prop} (hA : ∀ q, B ≤ q → A q) : va_D A (WSm B b aC m) := by
  have key : ∀ (k : Nat) (q : Nat × va_E), (WSm B b aC m)[k]? = some q → q.1 = B + k := by
    intro k q hk
    have hl : k < m.1.1.length := by
      have := (List.getElem?_eq_some_iff.mp hk).1
      rwa [WS_len] at this
    rw [WS_at hl] at hk
    cases hk; rfl
  refine ⟨fun i j p q hi hj hpq => ?_, fun k q hk => hA _ (by rw [key k q hk]; omega)⟩
  rw [key i p hi, key j q hj] at hpq
  omega
theorem WS_set {i : Nat} {e : va_E} (hi : i < m.1.1.length) (hl : m'.1.1.length = m.1.1.length) (he : cellE B b aC m' i = e) (ho : ∀ j, j < m.1.1.length → j ≠ i → cellE B b aC m' j = cellE B b aC m j) : (WSm B b aC m).set i (B + i, e) = WSm B b aC m' := by
  apply List.ext_getElem?
  intro j
  by_cases hj : j < m.1.1.length
  · rw [WS_at (by omega)]
    by_cases hji : j = i
    · subst hji
      rw [List.getElem?_set_self (by rw [WS_len]; exact hj), he]
    · rw [List.getElem?_set_ne (Ne.symm hji), WS_at hj, ho j hj hji]
  · rw [List.getElem?_eq_none (by rw [List.length_set, WS_len]; omega), List.getElem?_eq_none (by rw [WS_len]; omega)]
theorem WS_app {es : List (Nat × Nat × List Nat)} (hg : m'.1.1 = m.1.1 ++ es) (hd : m'.2 = m.2) : WSm B b aC m' = WSm B b aC m ++ (List.range es.length).map fun i => (B + (m.1.1.length + i), cellE B b aC m' (m.1.1.length + i)) := by
  unfold WSm
  rw [hg, List.length_append, List.range_add, List.map_append, List.map_map]
  congr 1
  apply List.map_congr_left
  intro i hi
  have hi' : i < m.1.1.length := List.mem_range.mp hi
  have : enI m' i = enI m i := by
    show m'.1.1.getD i _ = m.1.1.getD i _
    rw [hg, List.getD_eq_getElem?_getD, List.getElem?_append_left hi', ← List.getD_eq_getElem?_getD]
  unfold cellE
  rw [this, hd]
theorem MR.moved {u U : State} (hvm : u.vm.Alike U.vm) (h : MR B b L xs dC dI aC m u H) : MR B b L xs dC dI aC m U H := ⟨h.1, h.2.1, h.2.2.1.moved hvm, h.2.2.2⟩
theorem okM.rng {k f : Nat} (h : okM m) (hk : kd m.1 k ≠ 101) : w32 (m.2 k f) = m.2 k f := by
  have := h.2.1 k f
  rwa [if_neg hk] at this
theorem okM.rngL {k f : Nat} (h : okM m) (hk : kd m.1 k = 101) : w64 (m.2 k f) = m.2 k f := by
  have := h.2.1 k f
  rwa [if_pos hk] at this
theorem okM.upd {k f : Nat} {v : Int} (h : okM m) (hk : kd m.1 k ≠ 999) (hv : if kd m.1 k = 101 then w64 v = v else w32 v = v) : okM (m.1, upD m.2 k f v) := by
  refine ⟨h.1, fun a j => ?_, fun a j ha => ?_⟩
  · show if kd m.1 a = 101 then w64 (upD m.2 k f v a j) = upD m.2 k f v a j else w32 (upD m.2 k f v a j) = upD m.2 k f v a j
    unfold upD
    by_cases e : a = k ∧ j = f
    · rw [if_pos e, e.1]; exact hv
    · rw [if_neg e]; exact h.2.1 a j
  · show upD m.2 k f v a j = 0
    have h1 := kd_lt hk
    unfold upD
    have ha : m.1.1.length + 2 ≤ a := ha
    rw [if_neg (fun e => by have := e.1; omega)]
    exact h.2.2 a j ha
theorem cellE_other {i : Nat} {D : Dat} (he : enI m' i = enI m i) (hd : ∀ f, m'.2 (i + 2) f = m.2 (i + 2) f) : cellE B b aC m' i = cellE B b aC m i := by
  have hd' : m'.2 (i + 2) = m.2 (i + 2) := funext hd
  unfold cellE fldE
  rw [he, hd']
end MEM
