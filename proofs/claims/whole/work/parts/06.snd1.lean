/-! HOW THE SMALL MACHINE'S STATE STANDS FOR THE REAL ONE'S: values, locals -/
def phi (B b k : Nat) : Nat := if k = 1 then b else B + (k - 2)
def tvr (B b k : Nat) : Option Nat := if k = 0 then none else some (phi B b k)
def tv (B b : Nat) (v : MV) : Value := match v with
  | .inl x => .int (Int32.ofInt x)
  | .inr (.inl x) => .long (Int64.ofInt x)
  | .inr (.inr (.inl k)) => va_rf (tvr B b k)
  | .inr (.inr (.inr _)) => .null
def okV (v : MV) : Prop := match v with
  | .inl x => w32 x = x
  | .inr (.inl x) => w64 x = x
  | _ => True
def isU (v : MV) : Bool := match v with | .inr (.inr (.inr _)) => true | _ => false
def lpr (B b : Nat) : Nat → List MV → List (Nat × Value)
  | _, [] => []
  | i, v :: r => if isU v = true then lpr B b (i + 1) r else (i, tv B b v) :: lpr B b (i + 1) r
def LR (B b : Nat) (ls : List MV) (lsr : Array Slot) (nL : Nat) : Prop := ls.length = nL ∧ lv_has lsr nL (lpr B b 0 ls)
theorem w32_w (x : Int) : w32 (w32 x) = w32 x := by unfold w32; rw [Int32.ofInt_toInt]
theorem w64_w (x : Int) : w64 (w64 x) = w64 x := by unfold w64; rw [Int64.ofInt_toInt]
theorem o32_w (x : Int) : Int32.ofInt (w32 x) = Int32.ofInt x := by unfold w32; rw [Int32.ofInt_toInt]
theorem o64_w (x : Int) : Int64.ofInt (w64 x) = Int64.ofInt x := by unfold w64; rw [Int64.ofInt_toInt]
theorem w32_of (v : Int32) : w32 v.toInt = v.toInt := by unfold w32; rw [Int32.ofInt_toInt]
theorem w64_of (v : Int64) : w64 v.toInt = v.toInt := by unfold w64; rw [Int64.ofInt_toInt]
theorem w32_b (x : Int) : -2147483648 ≤ w32 x ∧ w32 x < 2147483648 := by
  unfold w32
  have h1 := Int32.le_toInt (Int32.ofInt x)
  have h2 := Int32.toInt_lt (Int32.ofInt x)
  omega
theorem w64_b (x : Int) : -9223372036854775808 ≤ w64 x ∧ w64 x < 9223372036854775808 := by
  unfold w64
  have h1 := Int64.le_toInt (Int64.ofInt x)
  have h2 := Int64.toInt_lt (Int64.ofInt x)
  omega
theorem w32_eq {x : Int} (h1 : -2147483648 ≤ x) (h2 : x < 2147483648) : w32 x = x := by
  unfold w32
  have hz : (Int32.size : Int) = 4294967296 := rfl
  rw [Int32.toInt_ofInt]
  exact Int.bmod_eq_of_le (by omega) (by omega)
theorem w64_eq {x : Int} (h1 : -9223372036854775808 ≤ x) (h2 : x < 9223372036854775808) : w64 x = x := by
  unfold w64
  have hz : (Int64.size : Int) = 18446744073709551616 := rfl
  rw [Int64.toInt_ofInt]
  exact Int.bmod_eq_of_le (by omega) (by omega)
theorem tv_cat (B b : Nat) (v : MV) : (tv B b v).category = if isL v = true then 2 else 1 := by
  match v with
  | .inl x => rfl
  | .inr (.inl x) => rfl
  | .inr (.inr (.inl k)) =>
    show (va_rf (tvr B b k)).category = 1
    unfold tvr
    split <;> rfl
  | .inr (.inr (.inr _)) => rfl
theorem lpr_mem {B b : Nat} {q : Nat × Value} : ∀ (ls : List MV) (i : Nat), q ∈ lpr B b i ls ↔ ∃ j v, ls[j]? = some v ∧ isU v = false ∧ q = (i + j, tv B b v)
  | [], i => by simp [lpr]
  | v :: r, i => by
    unfold lpr
    have ih := lpr_mem (B := B) (b := b) (q := q) r (i + 1)
    by_cases hu : isU v = true
    · rw [if_pos hu, ih]
      constructor
      · rintro ⟨j, w, h1, h2, h3⟩
        exact ⟨j + 1, w, h1, h2, by rw [h3, Nat.add_assoc, Nat.add_comm 1 j]⟩
      · rintro ⟨j, w, h1, h2, h3⟩
        cases j with
        | zero => cases h1; rw [hu] at h2; cases h2
        | succ j => exact ⟨j, w, h1, h2, by rw [h3, Nat.add_assoc, Nat.add_comm 1 j]⟩
    · rw [if_neg hu, List.mem_cons, ih]
      constructor
      · rintro (h | ⟨j, w, h1, h2, h3⟩)
        · exact ⟨0, v, rfl, by simpa using hu, by rw [h]; rfl⟩
        · exact ⟨j + 1, w, h1, h2, by rw [h3, Nat.add_assoc, Nat.add_comm 1 j]⟩
      · rintro ⟨j, w, h1, h2, h3⟩
        cases j with
        | zero => cases h1; exact Or.inl (by rw [h3]; rfl)
        | succ j => exact Or.inr ⟨j, w, h1, h2, by rw [h3, Nat.add_assoc, Nat.add_comm 1 j]⟩
theorem LR.at {B b nL i : Nat} {ls : List MV} {lsr : Array Slot} {v : MV} (h : LR B b ls lsr nL) (hv : ls.getD i vu = v) (hu : isU v = false) : lsr[i]? = some (.val (tv B b v)) := by
  have h1 : ls[i]? = some v := by
    rw [List.getD_eq_getElem?_getD] at hv
    cases hq : ls[i]? with
    | none => rw [hq] at hv; subst hv; cases hu
    | some w => rw [hq] at hv; exact congrArg some hv
  exact h.2.2.2 (i, tv B b v) ((lpr_mem ls 0).mpr ⟨i, v, h1, hu, by simp⟩)
theorem LR.lk {B b nL i : Nat} {ls : List MV} {lsr : Array Slot} {v : MV} (h : LR B b ls lsr nL) (hv : ls.getD i vu = v) (hu : isU v = false) : ∃ k : Nat, (lpr B b 0 ls)[k]? = some (i, tv B b v) := by
  have h1 : ls[i]? = some v := by
    rw [List.getD_eq_getElem?_getD] at hv
    cases hq : ls[i]? with
    | none => rw [hq] at hv; subst hv; cases hu
    | some w => rw [hq] at hv; exact congrArg some hv
  exact List.getElem?_of_mem ((lpr_mem ls 0).mpr ⟨i, v, h1, hu, by simp⟩)
theorem clrL_len (ls : List MV) (i : Nat) : (clrL ls i).length = ls.length := by
  unfold clrL
  cases i with
  | zero => rfl
  | succ i => dsimp only; split <;> simp
theorem clrL_at {ls : List MV} {i j : Nat} {w : MV} (h : (clrL ls i)[j]? = some w) (hu : isU w = false) : ls[j]? = some w ∧ ¬ (j + 1 = i ∧ isL w = true) := by
  unfold clrL at h
  cases i with
  | zero => exact ⟨h, fun z => by omega⟩
  | succ i =>
    dsimp only at h
    by_cases hl : isL (ls.getD i vu) = true
    · rw [if_pos hl] at h
      by_cases hj : j = i
      · subst hj
        by_cases hlt : j < ls.length
        · rw [List.getElem?_set_self hlt] at h; cases h; cases hu
        · rw [List.getElem?_eq_none (by simp; omega)] at h; cases h
      · rw [List.getElem?_set_ne (Ne.symm hj)] at h
        exact ⟨h, fun z => hj (by omega)⟩
    · rw [if_neg hl] at h
      refine ⟨h, fun z => hl ?_⟩
      have : j = i := by omega
      subst this
      rw [List.getD_eq_getElem?_getD, h]; exact z.2
theorem LR_put1 {B b nL i : Nat} {ls : List MV} {lsr ls' : Array Slot} {v : MV} (h : LR B b ls lsr nL) (hv : isU v = false) (h' : lv_has ls' nL ((i, tv B b v) :: (lpr B b 0 ls).filter (fun q => !(q.1 == i) && !(q.1 + 1 == i && q.2.category == 2)))) : LR B b (put1 ls i v) ls' nL := by
  refine ⟨by unfold put1; rw [List.length_set, clrL_len]; exact h.1, h'.1, h'.2.1, fun q hq => h'.2.2 q ?_⟩
  obtain ⟨j, w, h1, h2, rfl⟩ := (lpr_mem _ 0).mp hq
  simp only [Nat.zero_add]
  unfold put1 at h1
  by_cases hj : j = i
  · subst hj
    by_cases hlt : j < (clrL ls j).length
    · rw [List.getElem?_set_self hlt] at h1; cases h1; exact List.mem_cons_self
    · rw [List.getElem?_eq_none (by simp; omega)] at h1; cases h1
  · rw [List.getElem?_set_ne (Ne.symm hj)] at h1
    obtain ⟨h3, h4⟩ := clrL_at h1 h2
    refine List.mem_cons_of_mem _ (List.mem_filter.mpr ⟨(lpr_mem _ 0).mpr ⟨j, w, h3, h2, by simp⟩, ?_⟩)
    have : ¬ (j + 1 = i ∧ (tv B b w).category = 2) := fun z => h4 ⟨z.1, by
      have := z.2; rw [tv_cat] at this; by_cases hl : isL w = true
      · exact hl
      · rw [if_neg hl] at this; cases this⟩
    by_cases hz : j + 1 = i
    · have hc : ¬ (tv B b w).category = 2 := fun z => this ⟨hz, z⟩
      simp [hj, hc]
    · simp [hj, hz]
theorem LR_put2 {B b nL i : Nat} {ls : List MV} {lsr ls' : Array Slot} {v : MV} (h : LR B b ls lsr nL) (hv : isU v = false) (h' : lv_has ls' nL ((i, tv B b v) :: (lpr B b 0 ls).filter (fun q => !(q.1 == i) && (!(q.1 == i + 1) && !(q.1 + 1 == i && q.2.category == 2))))) : LR B b (put2 ls i v) ls' nL := by
  refine ⟨by unfold put2; rw [List.length_set, List.length_set, clrL_len]; exact h.1, h'.1, h'.2.1, fun q hq => h'.2.2 q ?_⟩
  obtain ⟨j, w, h1, h2, rfl⟩ := (lpr_mem _ 0).mp hq
  simp only [Nat.zero_add]
  unfold put2 at h1
  by_cases hj1 : j = i + 1
  · subst hj1
    by_cases hlt : i + 1 < ((clrL ls i).set i v).length
    · rw [List.getElem?_set_self hlt] at h1; cases h1; cases h2
    · rw [List.getElem?_eq_none (by simp at hlt ⊢; omega)] at h1; cases h1
  rw [List.getElem?_set_ne (Ne.symm hj1)] at h1
  by_cases hj : j = i
  · subst hj
    by_cases hlt : j < (clrL ls j).length
    · rw [List.getElem?_set_self hlt] at h1; cases h1; exact List.mem_cons_self
    · rw [List.getElem?_eq_none (by simp; omega)] at h1; cases h1
  · rw [List.getElem?_set_ne (Ne.symm hj)] at h1
    obtain ⟨h3, h4⟩ := clrL_at h1 h2
    refine List.mem_cons_of_mem _ (List.mem_filter.mpr ⟨(lpr_mem _ 0).mpr ⟨j, w, h3, h2, by simp⟩, ?_⟩)
    have : ¬ (j + 1 = i ∧ (tv B b w).category = 2) := fun z => h4 ⟨z.1, by
      have := z.2; rw [tv_cat] at this; by_cases hl : isL w = true
      · exact hl
      · rw [if_neg hl] at this; cases this⟩
    by_cases hz : j + 1 = i
    · have hc : ¬ (tv B b w).category = 2 := fun z => this ⟨hz, z⟩
      simp [hj, hj1, hc]
    · simp [hj, hj1, hz]
theorem okV_put1 {ls : List MV} {i : Nat} {v : MV} (h : ∀ w ∈ ls, okV w) (hv : okV v) : ∀ w ∈ put1 ls i v, okV w := by
  intro w hw
  unfold put1 at hw
  rcases List.mem_or_eq_of_mem_set hw with h1 | h1
  · unfold clrL at h1
    cases i with
    | zero => exact h w h1
    | succ i =>
      dsimp only at h1
      split at h1
      · rcases List.mem_or_eq_of_mem_set h1 with h2 | h2
        · exact h w h2
        · rw [h2]; trivial
      · exact h w h1
  · rw [h1]; exact hv
theorem okV_put2 {ls : List MV} {i : Nat} {v : MV} (h : ∀ w ∈ ls, okV w) (hv : okV v) : ∀ w ∈ put2 ls i v, okV w := by
  intro w hw
  unfold put2 at hw
  rcases List.mem_or_eq_of_mem_set hw with h1 | h1
  · exact okV_put1 (i := i) h hv w h1
  · rw [h1]; trivial
theorem okV_getD {ls : List MV} {i : Nat} {v : MV} (h : ∀ w ∈ ls, okV w) (hv : ls.getD i vu = v) : okV v := by
  rw [List.getD_eq_getElem?_getD] at hv
  cases hq : ls[i]? with
  | none => rw [hq] at hv; subst hv; trivial
  | some w => rw [hq] at hv; cases hv; exact h _ (List.mem_of_getElem? hq)
theorem lt32 {x y : Int} (hx : w32 x = x) (hy : w32 y = y) : Int32.ofInt x < Int32.ofInt y ↔ x < y := by
  rw [Int32.lt_iff_toInt_lt]; unfold w32 at hx hy; rw [hx, hy]
theorem le32 {x y : Int} (hx : w32 x = x) (hy : w32 y = y) : Int32.ofInt x ≤ Int32.ofInt y ↔ x ≤ y := by
  rw [Int32.le_iff_toInt_le]; unfold w32 at hx hy; rw [hx, hy]
theorem eq32 {x y : Int} (hx : w32 x = x) (hy : w32 y = y) : Int32.ofInt x = Int32.ofInt y ↔ x = y := by
  constructor
  · intro h; have := congrArg Int32.toInt h; unfold w32 at hx hy; rw [hx, hy] at this; exact this
  · rintro rfl; rfl
theorem lt64 {x y : Int} (hx : w64 x = x) (hy : w64 y = y) : Int64.ofInt x < Int64.ofInt y ↔ x < y := by
  rw [Int64.lt_iff_toInt_lt]; unfold w64 at hx hy; rw [hx, hy]
theorem eq64 {x y : Int} (hx : w64 x = x) (hy : w64 y = y) : Int64.ofInt x = Int64.ofInt y ↔ x = y := by
  constructor
  · intro h; have := congrArg Int64.toInt h; unfold w64 at hx hy; rw [hx, hy] at this; exact this
  · rintro rfl; rfl
theorem z32 : w32 0 = 0 := rfl
theorem z64 : w64 0 = 0 := rfl
theorem in32 {i : Int} {n : Nat} (hi : w32 i = i) (h0 : 0 ≤ i) (hn : i < (n : Int)) : vp_in (Int32.ofInt i) n := by
  have h1 : (Int32.ofInt i).toInt = i := hi
  rintro (h | h)
  · have := Int32.lt_iff_toInt_lt.mp h
    rw [h1] at this
    have z : (0 : Int32).toInt = 0 := rfl
    omega
  · have h2 : (Int32.ofInt i).toNatClampNeg = i.toNat := by unfold Int32.toNatClampNeg; rw [h1]
    omega
theorem nat32 {i : Int} (hi : w32 i = i) : (Int32.ofInt i).toNatClampNeg = i.toNat := by unfold Int32.toNatClampNeg; unfold w32 at hi; rw [hi]
theorem pos32 {i : Int} (hi : w32 i = i) (h0 : 0 ≤ i) : ¬ Int32.ofInt i < 0 := by
  intro h
  have := (lt32 hi z32).mp h
  omega
