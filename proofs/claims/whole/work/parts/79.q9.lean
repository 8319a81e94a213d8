/-! columns, halves of strings -/
theorem rv_cv {A : RepA} {b N : Nat} : ∀ t L, dtt (dmA A) (rv A b (L + t) N) (clA A) = dtt (dmA A) (rv A b L (N / b ^ t)) (cv A b t N)
  | 0, L => by rw [Nat.pow_zero, Nat.div_one]; rfl
  | t + 1, L => by
    have h := rv_cv (A := A) (b := b) (N := N) t (L + 1)
    rw [show L + (t + 1) = L + 1 + t from by omega, h]
    show dtt (dmA A) (vmt (dmA A) (rv A b L (N / b ^ t / b)) (mtA A (N / b ^ t % b))) (cv A b t N) = dtt (dmA A) (rv A b L (N / b ^ (t + 1))) (mvt (dmA A) (mtA A (N / b ^ t % b)) (cv A b t N))
    rw [dtt_adj, Nat.div_div_eq_div_mul, Nat.pow_succ]
theorem val_cv {A : RepA} {b N L : Nat} : dtt (dmA A) (rwA A) (cv A b L N) = valA A b L N := by
  have h := rv_cv (A := A) (b := b) (N := N) L 0
  rw [Nat.zero_add] at h
  exact h.symm
theorem cv_low {A : RepA} {b k g n : Nat} (hb : 0 < b) : ∀ j, j ≤ k → cv A b j (g * b ^ k + n) = cv A b j n
  | 0, _ => rfl
  | j + 1, h => by
    show mvt (dmA A) (mtA A ((g * b ^ k + n) / b ^ j % b)) (cv A b j (g * b ^ k + n)) = mvt (dmA A) (mtA A (n / b ^ j % b)) (cv A b j n)
    have e : b ^ k = b ^ (k - j - 1) * b * b ^ j := by
      rw [← Nat.pow_succ, ← Nat.pow_add]
      congr 1
      omega
    have e2 : (g * b ^ k + n) / b ^ j % b = n / b ^ j % b := by
      rw [e, Nat.add_comm, ← Nat.mul_assoc, Nat.add_mul_div_right _ _ (Nat.pow_pos hb), ← Nat.mul_assoc, Nat.add_mul_mod_self_right]
    rw [e2, cv_low hb j (by omega)]
theorem cv_top {A : RepA} {b k g n : Nat} (hb : 0 < b) (hg : g < b) (hn : n < b ^ k) : cv A b (k + 1) (g * b ^ k + n) = mvt (dmA A) (mtA A g) (cv A b k n) := by
  show mvt (dmA A) (mtA A ((g * b ^ k + n) / b ^ k % b)) (cv A b k (g * b ^ k + n)) = _
  have e : (g * b ^ k + n) / b ^ k % b = g := by
    rw [Nat.add_comm, Nat.add_mul_div_right _ _ (Nat.pow_pos hb), Nat.div_eq_of_lt hn, Nat.zero_add, Nat.mod_eq_of_lt hg]
  rw [e, cv_low hb k (Nat.le_refl _)]
theorem sumN_cat {a c : Nat} {f : Nat → Int} : sumN (a + c) f = sumN a f + sumN c (fun n => f (a + n)) := by
  induction c with
  | zero => rw [Nat.add_zero, sumN_0, Int.add_zero]
  | succ c ih =>
    rw [← Nat.add_assoc, sumN_s, sumN_s, ih]
    omega
theorem sumN_grid {c : Nat} {f : Nat → Int} : ∀ b, sumN (b * c) f = sumN b (fun g => sumN c (fun n => f (g * c + n)))
  | 0 => by rw [Nat.zero_mul]; rfl
  | b + 1 => by rw [Nat.succ_mul, sumN_cat, sumN_grid b, sumN_s]
theorem cz_cols {A : RepA} {b : Nat} (hb : 0 < b) : ∀ r w, czA b A r w = sumN (b ^ r) (fun j => if dtt (dmA A) w (cv A b r j) = 0 then 1 else 0)
  | 0, w => by
    show (if dtt (dmA A) w (clA A) = 0 then (1 : Int) else 0) = sumN 1 (fun j => if dtt (dmA A) w (cv A b 0 j) = 0 then 1 else 0)
    rw [show (1 : Nat) = 0 + 1 from rfl, sumN_s, sumN_0, Int.zero_add]
    rfl
  | r + 1, w => by
    show sumN b (fun g => czA b A r (vmt (dmA A) w (mtA A g))) = _
    rw [Nat.pow_succ, Nat.mul_comm, sumN_grid]
    refine sumN_congr (fun g hg => ?_)
    rw [cz_cols hb r]
    refine sumN_congr (fun n hn => ?_)
    rw [cv_top hb hg hn, dtt_adj]
theorem mvt_rv {A : RepA} {g : Nat} {c : Nat → Int} {i : Nat} : mvt (dmA A) (mtA (rvA A) g) c i = vmt (dmA A) c (mtA A g) i := by
  show sumN (dmA A) (fun j => mtA A g j i * c j) % 10007 = sumN (dmA A) (fun j => c j * mtA A g j i) % 10007
  rw [sumN_congr (fun j _ => Int.mul_comm _ _)]
theorem cz_rows {A : RepA} {b : Nat} (hb : 0 < b) : ∀ h r, sumN (b ^ h) (fun i => czA b A r (cv (rvA A) b h i)) = czA b A (h + r) (rwA A)
  | 0, r => by
    show sumN 1 (fun i => czA b A r (cv (rvA A) b 0 i)) = _
    rw [show (1 : Nat) = 0 + 1 from rfl, sumN_s, sumN_0, Int.zero_add, Nat.zero_add]
    rfl
  | h + 1, r => by
    rw [show h + 1 + r = h + (r + 1) from by omega, ← cz_rows hb h (r + 1), Nat.pow_succ, Nat.mul_comm, sumN_grid]
    have e : sumN b (fun g => sumN (b ^ h) (fun n => czA b A r (cv (rvA A) b (h + 1) (g * b ^ h + n)))) = sumN b (fun g => sumN (b ^ h) (fun n => czA b A r (vmt (dmA A) (cv (rvA A) b h n) (mtA A g)))) := sumN_congr (fun g hg => sumN_congr (fun n hn => by
      rw [cv_top hb hg hn]
      exact czA_congr r _ _ (fun i _ => mvt_rv (A := A) (g := g) (c := cv (rvA A) b h n) (i := i))))
    rw [e, sumN_comm]
    rfl
theorem dgt_fuel {b : Nat} (hb : 2 ≤ b) : ∀ f n, n < 2 ^ f → dgt b f n = dgt b (f + 1) n
  | 0, n, h => by
    have e : n = 0 := by simpa using h
    subst e
    rfl
  | f + 1, n, h => by
    show (if n = 0 then 0 else dgt b f (n / b) + 1) = (if n = 0 then 0 else dgt b (f + 1) (n / b) + 1)
    split
    · rfl
    · rw [dgt_fuel hb f (n / b) ((Nat.div_lt_iff_lt_mul (by omega)).mpr (Nat.lt_of_lt_of_le h (by rw [Nat.pow_succ]; exact Nat.mul_le_mul_left _ hb)))]
theorem digs_0 {b : Nat} : digs b 0 = 0 := rfl
theorem digs_s {b n : Nat} (hb : 2 ≤ b) (h0 : 0 < n) (h : n < 9223372036854775808) : digs b n = digs b (n / b) + 1 := by
  show (if n = 0 then 0 else dgt b 63 (n / b) + 1) = dgt b 64 (n / b) + 1
  rw [if_neg (by omega)]
  have hq : n / b ≤ n := Nat.div_le_self _ _
  rw [dgt_fuel hb 63 (n / b) (by generalize n / b = q at *; omega)]
theorem digs_4 {b n : Nat} (hb : 2 ≤ b) (h : b ^ 4 ≤ n) (hn : n < 9223372036854775808) : digs b n = digs b (n / b ^ 4) + 4 := by
  have hb0 : 0 < b := by omega
  have e1 : b ^ 4 = b * b * b * b := by rw [show (4 : Nat) = 0 + 1 + 1 + 1 + 1 from rfl, Nat.pow_succ, Nat.pow_succ, Nat.pow_succ, Nat.pow_succ, Nat.pow_zero, Nat.one_mul]
  have p1 : 0 < b * b := Nat.mul_pos hb0 hb0
  have p2 : 0 < b * b * b := Nat.mul_pos p1 hb0
  have q4 : 0 < n / b ^ 4 := Nat.div_pos h (Nat.pow_pos hb0)
  have n1 : n / b / b / b / b = n / b ^ 4 := by rw [Nat.div_div_eq_div_mul, Nat.div_div_eq_div_mul, Nat.div_div_eq_div_mul, e1]; simp only [Nat.mul_assoc]
  have l1 := Nat.div_le_self n b
  have l2 := Nat.div_le_self (n / b) b
  have l3 := Nat.div_le_self (n / b / b) b
  have l4 := Nat.div_le_self (n / b / b / b) b
  rw [← n1] at q4 ⊢
  rw [digs_s hb (n := n) (by omega) hn, digs_s hb (n := n / b) (by omega) (by omega), digs_s hb (n := n / b / b) (by omega) (by omega), digs_s hb (n := n / b / b / b) (by omega) (by omega)]
/-- powers of the sum of the matrices -/
theorem swA_rs {A : RepA} {b : Nat} (hA : okA b A) : ∀ n i, i < dmA A → rs (swA b A n i)
  | 0, i, hi => hA.2.1 i hi
  | _ + 1, _, _ => rs_mod
theorem sw_pow {A : RepA} {b m : Nat} (hA : okA b A) : ∀ p j, j < dmA A → vmt (dmA A) (swA b A m) (spow (dmA A) (smA b A) p) j = swA b A (m + p) j
  | 0, j, hj => by
    show sumN (dmA A) (fun i => swA b A m i * (if i = j then 1 else 0)) % 10007 = _
    rw [sumN_delta hj]
    exact rs_id (swA_rs hA m j hj)
  | p + 1, j, hj => by
    show vmt (dmA A) (swA b A m) (mm (dmA A) (spow (dmA A) (smA b A) p) (smA b A)) j = vmt (dmA A) (swA b A (m + p)) (smA b A) j
    rw [← vmt_mm]
    exact vmt_congr (fun i hi => sw_pow hA p i hi) (fun _ _ => rfl)
