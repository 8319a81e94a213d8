/-! tables of equations, modulo 10007 -/
def rw0 (c : Nat) (X a : Nat → Int) : Int := sumN (c + 1) (fun q => X q * a q) % 10007
def Ker (w c : Nat) (T : Nat → Nat → Int) (a : Nat → Int) : Prop := ∀ i, i < w → rw0 c (T i) a = 0
theorem rw0_add {c : Nat} {X Y a : Nat → Int} {f : Int} : rw0 c (fun q => (X q + f * Y q) % 10007) a = (rw0 c X a + f * rw0 c Y a) % 10007 := by
  show sumN (c + 1) (fun q => (X q + f * Y q) % 10007 * a q) % 10007 = (sumN (c + 1) (fun q => X q * a q) % 10007 + f * (sumN (c + 1) (fun q => Y q * a q) % 10007)) % 10007
  rw [sumN_mod (g := fun q => X q * a q + f * (Y q * a q)) (fun q _ => by rw [md_ml, Int.add_mul, Int.mul_assoc]), sumN_add, sumN_mull, Int.emod_add_emod]
  conv => rhs; rw [Int.add_emod, md_mr, ← Int.add_emod]
theorem rw0_scale {c : Nat} {X a : Nat → Int} {f : Int} : rw0 c (fun q => X q * f % 10007) a = (rw0 c X a * f) % 10007 := by
  show sumN (c + 1) (fun q => X q * f % 10007 * a q) % 10007 = (sumN (c + 1) (fun q => X q * a q) % 10007 * f) % 10007
  rw [md_ml, sumN_mod (g := fun q => X q * a q * f) (fun q _ => by rw [md_ml, Int.mul_assoc, Int.mul_comm f, ← Int.mul_assoc]), sumN_mulr]
theorem rw0_rs {c : Nat} {X a : Nat → Int} : rs (rw0 c X a) := rs_mod
theorem ker_elim {w c s : Nat} {T T' : Nat → Nat → Int} {f : Nat → Int} (hs : s < w) (h1 : ∀ q, q < c + 1 → T' s q = T s q) (h2 : ∀ i, i < w → i ≠ s → ∀ q, q < c + 1 → T' i q = (T i q + f i * T s q) % 10007) (a : Nat → Int) : Ker w c T' a ↔ Ker w c T a := by
  have e1 : rw0 c (T' s) a = rw0 c (T s) a := by
    unfold rw0
    rw [sumN_congr (fun q hq => by rw [h1 q hq])]
  have e2 : ∀ i, i < w → i ≠ s → rw0 c (T' i) a = (rw0 c (T i) a + f i * rw0 c (T s) a) % 10007 := fun i hi hne => by
    rw [← rw0_add]
    unfold rw0
    rw [sumN_congr (fun q hq => by rw [h2 i hi hne q hq])]
  constructor
  · intro h i hi
    by_cases e : i = s
    · rw [e, ← e1]; exact h s hs
    · have z := e2 i hi e
      rw [h i hi, ← e1, h s hs, Int.mul_zero, Int.add_zero, rs_id rw0_rs] at z
      exact z.symm
  · intro h i hi
    by_cases e : i = s
    · rw [e, e1]; exact h s hs
    · rw [e2 i hi e, h i hi, h s hs, Int.mul_zero]; rfl
theorem ker_swap {w c s p : Nat} {T T' : Nat → Nat → Int} {x y : Int} (hs : s < w) (hp : p < w) (hxy : x * y % 10007 = 1) (h1 : ∀ q, q < c + 1 → T' s q = T p q * x % 10007) (h2 : p ≠ s → ∀ q, q < c + 1 → T' p q = T s q) (h3 : ∀ i, i < w → i ≠ s → i ≠ p → ∀ q, q < c + 1 → T' i q = T i q) (a : Nat → Int) : Ker w c T' a ↔ Ker w c T a := by
  have cg : ∀ X Y : Nat → Int, (∀ q, q < c + 1 → X q = Y q) → rw0 c X a = rw0 c Y a := fun X Y e => by
    unfold rw0
    rw [sumN_congr (fun q hq => by rw [e q hq])]
  have e1 : rw0 c (T' s) a = (rw0 c (T p) a * x) % 10007 := by rw [← rw0_scale]; exact cg _ _ h1
  have u : rw0 c (T' s) a = 0 → rw0 c (T p) a = 0 := fun h => by
    rw [h] at e1
    have z : (rw0 c (T p) a * x) % 10007 * y % 10007 = rw0 c (T p) a := by
      rw [md_ml, Int.mul_assoc, ← md_mr, hxy, Int.mul_one]
      exact rs_id rw0_rs
    rw [← e1, Int.zero_mul] at z
    exact z.symm
  constructor
  · intro h i hi
    by_cases e : i = p
    · rw [e]; exact u (h s hs)
    · by_cases e2 : i = s
      · rw [e2, ← cg _ _ (h2 (fun z => e (by rw [e2, z])))]; exact h p hp
      · rw [← cg _ _ (h3 i hi e2 e)]; exact h i hi
  · intro h i hi
    by_cases e : i = s
    · rw [e, e1, h p hp, Int.zero_mul]; rfl
    · by_cases e2 : i = p
      · rw [e2, cg _ _ (h2 (fun z => e (by rw [e2, z])))]; exact h s hs
      · rw [cg _ _ (h3 i hi e e2)]; exact h i hi
/-- the last column of a reduced table -/
theorem ker_last {c : Nat} {X a : Nat → Int} {s : Nat} (hs : s < c) (h : ∀ q, q < c → X q = if q = s then 1 else 0) : rw0 c X a = (a s + X c * a c) % 10007 := by
  show (sumN c (fun q => X q * a q) + X c * a c) % 10007 = _
  rw [sumN_congr (g := fun q => a q * (if q = s then 1 else 0)) (fun q hq => by rw [h q hq]; split <;> omega), sumN_delta hs]
theorem ker_last0 {c : Nat} {X a : Nat → Int} (h : ∀ q, q < c → X q = 0) : rw0 c X a = (X c * a c) % 10007 := by
  show (sumN c (fun q => X q * a q) + X c * a c) % 10007 = _
  rw [sumN_zero (fun q hq => by rw [h q hq, Int.zero_mul]), Int.zero_add]
/-- the table of kept vectors and a candidate -/
def tab0 (c : Nat) (K : Nat → Nat → Int) (v : Nat → Int) : Nat → Nat → Int := fun i q => if q = c then v i else K q i
theorem ker_tab {w c : Nat} {K : Nat → Nat → Int} {v a : Nat → Int} : Ker w c (tab0 c K v) a ↔ ∀ j, j < w → (lin c K a j + v j * a c) % 10007 = 0 := by
  have e : ∀ j, rw0 c (tab0 c K v j) a = (lin c K a j + v j * a c) % 10007 := fun j => by
    show (sumN c (fun q => (if q = c then v j else K q j) * a q) + (if c = c then v j else K c j) * a c) % 10007 = (sumN c (fun i => a i * K i j) % 10007 + v j * a c) % 10007
    rw [if_pos rfl, Int.emod_add_emod, sumN_congr (g := fun i => a i * K i j) (fun q hq => by rw [if_neg (by omega), Int.mul_comm])]
  exact ⟨fun h j hj => (e j).symm.trans (h j hj), fun h j hj => (e j).trans (h j hj)⟩
