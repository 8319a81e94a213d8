/-! what elimination over the kept vectors says -/
theorem fin_in {w c : Nat} {K T : Nat → Nat → Int} {v : Nat → Int} (hv : ∀ j, j < w → rs (v j)) (hT : ∀ i q, i < w → q < c → T i q = if q = i then 1 else 0) (hK : ∀ a, Ker w c T a ↔ Ker w c (tab0 c K v) a) (hz : ∀ i, c ≤ i → i < w → T i c = 0) : ∀ j, j < w → lin c K (fun q => T q c) j = v j := by
  intro j hj
  have k1 : Ker w c T (fun q => if q = c then 10006 else T q c) := by
    intro i hi
    by_cases e : i < c
    · rw [ker_last e (fun q hq => hT i q hi hq)]
      show ((if i = c then 10006 else T i c) + T i c * (if c = c then 10006 else T c c)) % 10007 = 0
      rw [if_neg (by omega), if_pos rfl]
      omega
    · rw [ker_last0 (fun q hq => by rw [hT i q hi hq, if_neg (by omega)]), hz i (by omega) hi, Int.zero_mul]
      rfl
  have k2 := ker_tab.mp ((hK _).mp k1) j hj
  have e3 : lin c K (fun q => if q = c then 10006 else T q c) j = lin c K (fun q => T q c) j := lin_congr (fun i hi => if_neg (by omega)) (fun _ _ => rfl)
  rw [e3] at k2
  have r1 : rs (lin c K (fun q => T q c) j) := rs_mod
  have r2 := hv j hj
  rw [if_pos rfl] at k2
  have r1a := r1.1
  have r1b := r1.2
  have r2a := r2.1
  have r2b := r2.2
  omega
theorem fin_out {w c i : Nat} {K T : Nat → Nat → Int} {v : Nat → Int} (hT : ∀ i q, i < w → q < c → T i q = if q = i then 1 else 0) (hK : ∀ a, Ker w c T a ↔ Ker w c (tab0 c K v) a) (hi : c ≤ i) (hw : i < w) (hr : rs (T i c)) (hz : T i c ≠ 0) : ¬ InSp w c K v := by
  rintro ⟨b, hb, e⟩
  have k1 : Ker w c (tab0 c K v) (fun q => if q = c then 10006 else b q) := by
    refine ker_tab.mpr (fun j hj => ?_)
    have e3 : lin c K (fun q => if q = c then 10006 else b q) j = lin c K b j := lin_congr (fun i hi => if_neg (by omega)) (fun _ _ => rfl)
    rw [e3, e j hj, if_pos rfl]
    omega
  have k2 := (hK _).mpr k1 i hw
  rw [ker_last0 (fun q hq => by rw [hT i q hw hq, if_neg (by omega)]), if_pos rfl] at k2
  have h1 := hr.1
  have h2 := hr.2
  omega
theorem piv_ex {w c s : Nat} {K T : Nat → Nat → Int} {v : Nat → Int} (hI : Ind w c K) (hs : s < c) (hT : ∀ i q, i < w → q < s → T i q = if q = i then 1 else 0) (hK : ∀ a, Ker w c T a ↔ Ker w c (tab0 c K v) a) : ∃ i, s ≤ i ∧ i < w ∧ T i s ≠ 0 := by
  rcases Classical.em (∃ i, s ≤ i ∧ i < w ∧ T i s ≠ 0) with h | h
  · exact h
  exfalso
  have hz : ∀ i, s ≤ i → i < w → T i s = 0 := fun i h1 h2 => by
    rcases Classical.em (T i s = 0) with z | z
    · exact z
    · exact absurd ⟨i, h1, h2, z⟩ h
  let a : Nat → Int := fun q => if q < s then (10007 - T q s) % 10007 else if q = s then 1 else 0
  have as : a s = 1 := by show (if s < s then _ else if s = s then (1 : Int) else 0) = 1; rw [if_neg (by omega), if_pos rfl]
  have ag : ∀ q, s < q → a q = 0 := fun q hq => by show (if q < s then _ else if q = s then (1 : Int) else 0) = 0; rw [if_neg (by omega), if_neg (by omega)]
  have al : ∀ q, q < s → a q = (10007 - T q s) % 10007 := fun q hq => if_pos hq
  have k1 : Ker w c T a := by
    intro i hi
    show sumN (c + 1) (fun q => T i q * a q) % 10007 = 0
    rw [sumN_tail (d := s + 1) (by omega) (fun q h1 h2 => by rw [ag q (by omega), Int.mul_zero]), sumN_s, as, Int.mul_one]
    by_cases e : i < s
    · rw [sumN_congr (g := fun q => a q * (if q = i then 1 else 0)) (fun q hq => by rw [hT i q hi hq]; split <;> omega), sumN_delta e, al i e]
      omega
    · rw [sumN_zero (fun q hq => by rw [hT i q hi hq, if_neg (by omega), Int.zero_mul]), hz i (by omega) hi]
      rfl
  have k2 := ker_tab.mp ((hK _).mp k1)
  have k3 := hI a (fun i hi => by
    show rs (if i < s then (10007 - T i s) % 10007 else if i = s then 1 else 0)
    split
    · exact rs_mod
    · split
      · exact rs_1
      · exact rs_0) (fun j hj => by
    have z := k2 j hj
    rw [ag c hs, Int.mul_zero, Int.add_zero] at z
    have r : rs (lin c K a j) := rs_mod
    rw [rs_id r] at z
    exact z) s hs
  rw [as] at k3
  omega
