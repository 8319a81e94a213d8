/-! combinations and independence, modulo 10007 -/
def lin (c : Nat) (K : Nat → Nat → Int) (a : Nat → Int) : Nat → Int := fun j => sumN c (fun i => a i * K i j) % 10007
def InSp (w c : Nat) (K : Nat → Nat → Int) (v : Nat → Int) : Prop := ∃ a : Nat → Int, (∀ i, i < c → rs (a i)) ∧ ∀ j, j < w → lin c K a j = v j
def Ind (w c : Nat) (K : Nat → Nat → Int) : Prop := ∀ a : Nat → Int, (∀ i, i < c → rs (a i)) → (∀ j, j < w → lin c K a j = 0) → ∀ i, i < c → a i = 0
theorem lin_congr {c j : Nat} {K K' : Nat → Nat → Int} {a a' : Nat → Int} (h : ∀ i, i < c → a i = a' i) (h' : ∀ i, i < c → K i j = K' i j) : lin c K a j = lin c K' a' j := by
  unfold lin
  rw [sumN_congr (fun i hi => by rw [h i hi, h' i hi])]
theorem lin_scale {c j : Nat} {K : Nat → Nat → Int} {a : Nat → Int} {x : Int} : lin c K (fun i => x * a i % 10007) j = x * lin c K a j % 10007 := by
  show sumN c (fun i => x * a i % 10007 * K i j) % 10007 = x * (sumN c (fun i => a i * K i j) % 10007) % 10007
  rw [md_mr, sumN_mod (g := fun i => x * (a i * K i j)) (fun i _ => by rw [md_ml, Int.mul_assoc]), sumN_mull]
theorem sumN_sub {n : Nat} {f g : Nat → Int} : sumN n (fun i => f i - g i) = sumN n f - sumN n g := by
  induction n with
  | zero => rfl
  | succ n ih => rw [sumN_s, sumN_s, sumN_s, ih]; omega
theorem lin_sub {c j : Nat} {K : Nat → Nat → Int} {a a' : Nat → Int} : lin c K (fun i => (a i - a' i) % 10007) j = (lin c K a j - lin c K a' j) % 10007 := by
  show sumN c (fun i => (a i - a' i) % 10007 * K i j) % 10007 = (sumN c (fun i => a i * K i j) % 10007 - sumN c (fun i => a' i * K i j) % 10007) % 10007
  rw [← Int.sub_emod, ← sumN_sub, sumN_mod (g := fun i => a i * K i j - a' i * K i j) (fun i _ => by rw [md_ml, Int.sub_mul])]
theorem ind_unique {w c : Nat} {K : Nat → Nat → Int} {a a' : Nat → Int} (h : Ind w c K) (ha : ∀ i, i < c → rs (a i)) (ha' : ∀ i, i < c → rs (a' i)) (e : ∀ j, j < w → lin c K a j = lin c K a' j) : ∀ i, i < c → a i = a' i := by
  intro i hi
  have z := h (fun i => (a i - a' i) % 10007) (fun i _ => rs_mod) (fun j hj => by rw [lin_sub, e j hj, Int.sub_self]; rfl) i hi
  have h1 := ha i hi
  have h2 := ha' i hi
  have z' : (a i - a' i) % 10007 = 0 := z
  have h1a := h1.1
  have h1b := h1.2
  have h2a := h2.1
  have h2b := h2.2
  omega
theorem inv_int {t : Int} (h : rs t) (h0 : t ≠ 0) : (t * (invN t.toNat : Int)) % 10007 = 1 := by
  obtain ⟨t, rfl⟩ := Int.eq_ofNat_of_zero_le h.1
  have hb := h.2
  rw [Int.toNat_natCast, ← Int.natCast_mul]
  have := inv_ok (v := t) (by omega) (by omega)
  rw [cm7, this]
  rfl
theorem ind_snoc {w c : Nat} {K : Nat → Nat → Int} (h : Ind w c K) (hr : ∀ j, j < w → rs (K c j)) (hn : ¬ InSp w c K (K c)) : Ind w (c + 1) K := by
  intro a ha hz
  have hz' : ∀ j, j < w → (sumN c (fun i => a i * K i j) + a c * K c j) % 10007 = 0 := hz
  by_cases h0 : a c = 0
  · have h1 := h a (fun i hi => ha i (by omega)) (fun j hj => by
      have := hz' j hj
      rw [h0, Int.zero_mul, Int.add_zero] at this
      exact this)
    intro i hi
    by_cases e : i = c
    · rw [e]; exact h0
    · exact h1 i (by omega)
  · refine absurd ?_ hn
    have hx := inv_int (ha c (by omega)) h0
    generalize (invN (a c).toNat : Int) = x at hx
    refine ⟨fun i => (10007 - x) * a i % 10007, fun i _ => rs_mod, fun j hj => ?_⟩
    rw [lin_scale]
    show (10007 - x) * (sumN c (fun i => a i * K i j) % 10007) % 10007 = K c j
    rw [md_mr]
    have z := hz' j hj
    have r := hr j hj
    generalize sumN c (fun i => a i * K i j) = S at z ⊢
    generalize K c j = y at z r ⊢
    generalize a c = t at z hx
    have z1 := Int.emod_add_mul_ediv (S + t * y) 10007
    have x1 := Int.emod_add_mul_ediv (t * x) 10007
    rw [z, Int.zero_add] at z1
    rw [hx] at x1
    generalize (S + t * y) / 10007 = m at z1
    generalize (t * x) / 10007 = l at x1
    have e : (10007 - x) * S = y + 10007 * (S - x * m + l * y) := by
      have hS : S = 10007 * m - t * y := by omega
      subst hS
      grind
    rw [e, Int.add_mul_emod_self_left]
    exact rs_id r
