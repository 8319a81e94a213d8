/-! loops; sums; residues -/
theorem svi {x y : Int} (h : x = y) : some (vi x) = some (vi y) := by rw [h]
theorem loop_up {d j : Nat} {Q : Option MV → Mem → Prop} {pc : Nat} (n : Nat) (P : Nat → List MV → Dat → Prop) (hs : ∀ i ls D, i < n → P i ls D → (∀ ls' D', P (i + 1) ls' D' → Rn d j Q pc ls' [] (G0, D')) → Rn d j Q pc ls [] (G0, D)) (he : ∀ ls D, P n ls D → Rn d j Q pc ls [] (G0, D)) : ∀ i ls D, i ≤ n → P i ls D → Rn d j Q pc ls [] (G0, D) := by
  intro i ls D hi
  obtain ⟨q, hq⟩ : ∃ q, n - i = q := ⟨_, rfl⟩
  induction q generalizing i ls D with
  | zero =>
    intro h
    have e : i = n := by omega
    subst e
    exact he ls D h
  | succ q ih =>
    intro h
    exact hs i ls D (by omega) h (fun ls' D' h' => ih (i + 1) ls' D' (by omega) (by omega) h')
def sumN : Nat → (Nat → Int) → Int
  | 0, _ => 0
  | n + 1, f => sumN n f + f n
theorem sumN_0 (f : Nat → Int) : sumN 0 f = 0 := rfl
theorem sumN_s (n : Nat) (f : Nat → Int) : sumN (n + 1) f = sumN n f + f n := rfl
theorem sumN_congr {n : Nat} {f g : Nat → Int} (h : ∀ i, i < n → f i = g i) : sumN n f = sumN n g := by
  induction n with
  | zero => rfl
  | succ n ih => rw [sumN_s, sumN_s, ih (fun i hi => h i (by omega)), h n (by omega)]
theorem sumN_bd {n : Nat} {f : Nat → Int} {M : Int} (h : ∀ i, i < n → 0 ≤ f i ∧ f i ≤ M) : 0 ≤ sumN n f ∧ sumN n f ≤ n * M := by
  induction n with
  | zero => rw [sumN_0]; simp
  | succ n ih =>
    have h1 := ih (fun i hi => h i (by omega))
    have h2 := h n (by omega)
    rw [sumN_s]
    have e : ((n + 1 : Nat) : Int) * M = n * M + M := by rw [Int.natCast_add, Int.add_mul]; simp
    rw [e]
    omega
def rs (x : Int) : Prop := 0 ≤ x ∧ x < 10007
theorem rs_mul {x y : Int} (hx : rs x) (hy : rs y) : 0 ≤ x * y ∧ x * y ≤ 100120036 := by
  obtain ⟨h1, h2⟩ := hx
  obtain ⟨h3, h4⟩ := hy
  refine ⟨Int.mul_nonneg h1 h3, ?_⟩
  have := Int.mul_le_mul (show x ≤ 10006 by omega) (show y ≤ 10006 by omega) h3 (by omega)
  omega
theorem rs_mod {x : Int} : rs (x % 10007) := ⟨Int.emod_nonneg _ (by omega), Int.emod_lt_of_pos _ (by omega)⟩
theorem rs_0 : rs 0 := ⟨by omega, by omega⟩
theorem rs_1 : rs 1 := ⟨by omega, by omega⟩
theorem tmod_nn {x y : Int} (h : 0 ≤ x) : x.tmod y = x % y := Int.tmod_eq_emod_of_nonneg h
theorem tdiv_nn {x y : Int} (h : 0 ≤ x) : x.tdiv y = x / y := Int.tdiv_eq_ediv_of_nonneg h
theorem upR_ne {D : Dat} {k f x : Nat} {v : Int} (h : x ≠ k) : upD D k f v x = D x := funext fun i => upD_ne h
theorem ct_s (t : Nat) : (t : Int) + 1 = ((t + 1 : Nat) : Int) := rfl
theorem ct_1 (t : Nat) : 1 + (t : Int) = ((1 + t : Nat) : Int) := by omega
theorem ct_9 (t : Nat) : 9 + (t : Int) = ((9 + t : Nat) : Int) := by omega
theorem ct_17 (t : Nat) : 17 + (t : Int) = ((17 + t : Nat) : Int) := by omega
theorem ct_a (a b : Nat) : (a : Int) + (b : Int) = ((a + b : Nat) : Int) := by omega
theorem ct_m (a b : Nat) : (a : Int) * (b : Int) = ((a * b : Nat) : Int) := (Int.natCast_mul a b).symm
theorem ct_8 (a : Nat) : (a : Int) * 8 = ((a * 8 : Nat) : Int) := by omega
