/-! elimination, as it is in the matrix -/
theorem InSp.sc {w c : Nat} {K : Nat → Nat → Int} {v : Nat → Int} {x : Int} (h : InSp w c K v) : InSp w c K (fun j => x * v j % 10007) := by
  obtain ⟨a, _, h2⟩ := h
  exact ⟨fun i => x * a i % 10007, fun _ _ => rs_mod, fun j hj => by rw [lin_scale, h2 j hj]⟩
theorem lin_add {c j : Nat} {K : Nat → Nat → Int} {a a' : Nat → Int} : lin c K (fun i => (a i + a' i) % 10007) j = (lin c K a j + lin c K a' j) % 10007 := by
  show sumN c (fun i => (a i + a' i) % 10007 * K i j) % 10007 = (sumN c (fun i => a i * K i j) % 10007 + sumN c (fun i => a' i * K i j) % 10007) % 10007
  rw [← Int.add_emod, ← sumN_add, sumN_mod (g := fun i => a i * K i j + a' i * K i j) (fun i _ => by rw [md_ml, Int.add_mul])]
theorem InSp.ad {w c : Nat} {K : Nat → Nat → Int} {v v' : Nat → Int} {x : Int} (h : InSp w c K v) (h' : InSp w c K v') : InSp w c K (fun j => (v j + x * v' j) % 10007) := by
  obtain ⟨a, _, h2⟩ := h
  obtain ⟨a', _, h2'⟩ := h'
  refine ⟨fun i => (a i + x * a' i % 10007) % 10007, fun _ _ => rs_mod, fun j hj => ?_⟩
  rw [lin_add (a' := fun i => x * a' i % 10007), lin_scale, h2 j hj, h2' j hj, Int.add_emod, Int.emod_emod, ← Int.add_emod]
theorem Ind.wide {w w' c : Nat} {K : Nat → Nat → Int} (h : Ind w c K) (hw : w ≤ w') : Ind w' c K := fun a ha hl => h a ha (fun j hj => hl j (by omega))
def el1 (p r c : Nat) (T : Nat → Nat → Int) : Nat → Nat → Int := fun i k => if i = r then T p k * (invN (T p c).toNat : Int) % 10007 else if i = p then T r k else T i k
def el2 (r c : Nat) (T : Nat → Nat → Int) : Nat → Nat → Int := fun i k => if r < i ∧ c ≤ k then (T i k + (10007 - T i c) * T r k) % 10007 else T i k
/-- the state of the elimination: columns below c are done, r rows are kept -/
def EI (n c r : Nat) (H T : Nat → Nat → Int) : Prop := (∀ i k, i < n → k < n → rs (T i k)) ∧ (∀ u, u < n → InSp n n T (H u)) ∧ (∀ u, u < n → InSp n n H (T u)) ∧ (∀ i k, r ≤ i → i < n → k < c → T i k = 0) ∧ Ind c r T ∧ r ≤ n ∧ c ≤ n
theorem EI.start {n : Nat} {H : Nat → Nat → Int} (h : ∀ i k, i < n → k < n → rs (H i k)) : EI n 0 0 H H := ⟨h, fun u hu => InSp.mem hu (fun j hj => h u j hu hj), fun u hu => InSp.mem hu (fun j hj => h u j hu hj), fun _ _ _ _ q => absurd q (Nat.not_lt_zero _), fun _ _ _ i hi => absurd hi (Nat.not_lt_zero i), Nat.zero_le _, Nat.zero_le _⟩
theorem EI.skip {n c r : Nat} {H T : Nat → Nat → Int} (h : EI n c r H T) (hc : c < n) (hz : ∀ i, r ≤ i → i < n → T i c = 0) : EI n (c + 1) r H T := by
  obtain ⟨h1, h2, h3, h4, h5, h6, h7⟩ := h
  refine ⟨h1, h2, h3, fun i k hi hn hk => ?_, h5.wide (by omega), h6, hc⟩
  by_cases e : k = c
  · rw [e]; exact hz i hi hn
  · exact h4 i k hi hn (by omega)
theorem EI.step {n c r p : Nat} {H T : Nat → Nat → Int} (h : EI n c r H T) (hc : c < n) (hr : r ≤ p) (hp : p < n) (hne : T p c ≠ 0) : EI n (c + 1) (r + 1) H (el2 r c (el1 p r c T)) := by
  obtain ⟨h1, h2, h3, h4, h5, h6, h7⟩ := h
  have hx := inv_int (h1 p c hp hc) hne
  obtain ⟨x, hxd⟩ : ∃ x : Int, x = (invN (T p c).toNat : Int) := ⟨_, rfl⟩
  rw [← hxd] at hx
  obtain ⟨T1, hT1⟩ : ∃ T1, T1 = el1 p r c T := ⟨_, rfl⟩
  have e1r : ∀ k, T1 r k = T p k * x % 10007 := fun k => by rw [hT1, hxd]; exact if_pos rfl
  have e1p : p ≠ r → ∀ k, T1 p k = T r k := fun e k => by rw [hT1]; unfold el1; rw [if_neg e, if_pos rfl]
  have e1 : ∀ i, i ≠ r → i ≠ p → ∀ k, T1 i k = T i k := fun i a b k => by rw [hT1]; unfold el1; rw [if_neg a, if_neg b]
  have r1 : ∀ i k, i < n → k < n → rs (T1 i k) := fun i k hi hk => by
    by_cases a : i = r
    · rw [a, e1r]; exact rs_mod
    · by_cases b : i = p
      · rw [b, e1p (by omega)]; exact h1 r k (by omega) hk
      · rw [e1 i a b]; exact h1 i k hi hk
  have z1 : ∀ i k, r ≤ i → i < n → k < c → T1 i k = 0 := fun i k hi hn hk => by
    by_cases a : i = r
    · rw [a, e1r, h4 p k hr hp hk, Int.zero_mul]; rfl
    · by_cases b : i = p
      · rw [b, e1p (by omega)]; exact h4 r k (Nat.le_refl _) (by omega) hk
      · rw [e1 i a b]; exact h4 i k hi hn hk
  have sT : ∀ u, u < n → InSp n n T (T u) := fun u hu => InSp.mem hu (fun j hj => h1 u j hu hj)
  have s1 : ∀ u, u < n → InSp n n T1 (T1 u) := fun u hu => InSp.mem hu (fun j hj => r1 u j hu hj)
  have a1 : ∀ u, u < n → InSp n n T (T1 u) := fun u hu => by
    by_cases a : u = r
    · exact ((sT p hp).sc (x := x)).vec (fun j _ => by rw [a, e1r, Int.mul_comm])
    · by_cases b : u = p
      · exact (sT r (by omega)).vec (fun j _ => by rw [b, e1p (by omega)])
      · exact (sT u hu).vec (fun j _ => e1 u a b j)
  have b1 : ∀ u, u < n → InSp n n T1 (T u) := fun u hu => by
    by_cases b : u = p
    · refine ((s1 r (by omega)).sc (x := T p c)).vec (fun j hj => ?_)
      rw [e1r, md_mr, b]
      have e : T p c * (T p j * x) = T p c * x * T p j := by grind
      rw [e, ← md_ml, hx, Int.one_mul]
      exact (rs_id (h1 p j hp hj)).symm
    · by_cases a : u = r
      · exact (s1 p hp).vec (fun j _ => by rw [a, e1p (by omega)])
      · exact (s1 u hu).vec (fun j _ => (e1 u a b j).symm)
  obtain ⟨T2, hT2⟩ : ∃ T2, T2 = el2 r c T1 := ⟨_, rfl⟩
  rw [← hT1, ← hT2]
  have e2 : ∀ i, r < i → i < n → ∀ k, k < n → T2 i k = (T1 i k + (10007 - T1 i c) * T1 r k) % 10007 := fun i hi hn k hk => by
    rw [hT2]
    show (if r < i ∧ c ≤ k then _ else _) = _
    by_cases e : c ≤ k
    · exact if_pos ⟨hi, e⟩
    · rw [if_neg (by omega), z1 i k (by omega) hn (by omega), z1 r k (by omega) (by omega) (by omega), Int.mul_zero]; rfl
  have f2 : ∀ i, i ≤ r → ∀ k, T2 i k = T1 i k := fun i hi k => by
    rw [hT2]
    exact if_neg (by omega)
  have r2 : ∀ i k, i < n → k < n → rs (T2 i k) := fun i k hi hk => by
    by_cases a : i ≤ r
    · rw [f2 i a]; exact r1 i k hi hk
    · rw [e2 i (by omega) hi k hk]; exact rs_mod
  have s2 : ∀ u, u < n → InSp n n T2 (T2 u) := fun u hu => InSp.mem hu (fun j hj => r2 u j hu hj)
  have a2 : ∀ u, u < n → InSp n n T1 (T2 u) := fun u hu => by
    by_cases a : u ≤ r
    · exact (s1 u hu).vec (fun j _ => f2 u a j)
    · exact ((s1 u hu).ad (x := 10007 - T1 u c) (s1 r (by omega))).vec (fun j hj => e2 u (by omega) hu j hj)
  have b2 : ∀ u, u < n → InSp n n T2 (T1 u) := fun u hu => by
    by_cases a : u ≤ r
    · exact (s2 u hu).vec (fun j _ => (f2 u a j).symm)
    · refine ((s2 u hu).ad (x := T1 u c) (s2 r (by omega))).vec (fun j hj => ?_)
      rw [f2 r (Nat.le_refl _), e2 u (by omega) hu j hj]
      have q := rs_id (r1 u j hu hj)
      generalize T1 u j = A at q ⊢
      generalize T1 u c = t
      generalize T1 r j = y
      rw [Int.add_emod, Int.emod_emod, ← Int.add_emod]
      have e : A + (10007 - t) * y + t * y = A + 10007 * y := by grind
      rw [e, Int.add_mul_emod_self_left]
      exact q.symm
  have er : ∀ i, i < r → ∀ k, T2 i k = T i k := fun i hi k => by rw [f2 i (by omega), e1 i (by omega) (by omega)]
  refine ⟨r2, fun u hu => InSp.trans b2 (InSp.trans b1 (h2 u hu)), fun u hu => InSp.trans h3 (InSp.trans a1 (a2 u hu)), fun i k hi hn hk => ?_, ?_, by omega, by omega⟩
  · rw [e2 i (by omega) hn k (by omega)]
    by_cases e : k = c
    · rw [e, e1r c, hx]
      have q := rs_id (r1 i c hn hc)
      generalize T1 i c = t at q ⊢
      omega
    · rw [z1 i k (by omega) hn (by omega), z1 r k (by omega) (by omega) (by omega), Int.mul_zero]; rfl
  · intro a ha hl
    have hl' : ∀ j, j < c + 1 → (sumN r (fun i => a i * T2 i j) + a r * T2 r j) % 10007 = 0 := hl
    have h0 := h5 a (fun i hi => ha i (by omega)) (fun j hj => by
      have q := hl' j (by omega)
      rw [f2 r (Nat.le_refl _), z1 r j (Nat.le_refl _) (by omega) hj, Int.mul_zero, Int.add_zero] at q
      show sumN r (fun i => a i * T i j) % 10007 = 0
      rw [sumN_congr (g := fun i => a i * T2 i j) (fun i hi => by rw [er i hi])]
      exact q)
    have q := hl' c (by omega)
    rw [sumN_zero (fun i hi => by rw [h0 i hi, Int.zero_mul]), Int.zero_add, f2 r (Nat.le_refl _), e1r, hx, Int.mul_one] at q
    have q2 := rs_id (ha r (by omega))
    intro i hi
    by_cases e : i = r
    · rw [e]; omega
    · exact h0 i (by omega)
/-- the rank of a square matrix -/
def IsRk (n : Nat) (H : Nat → Nat → Int) (r : Nat) : Prop := ∃ K : Nat → Nat → Int, Ind n r K ∧ (∀ u, u < n → InSp n r K (H u)) ∧ ∀ i, i < r → InSp n n H (K i)
theorem EI.fin {n c r : Nat} {H T : Nat → Nat → Int} (h : EI n c r H T) (hd : c = n ∨ r = n) : IsRk n H r := by
  obtain ⟨h1, h2, h3, h4, h5, h6, h7⟩ := h
  refine ⟨T, h5.wide h7, fun u hu => ?_, fun i hi => h3 i (by omega)⟩
  rcases hd with rfl | rfl
  · obtain ⟨a, _, q⟩ := h2 u hu
    refine InSp.of (a := a) (fun j hj => ?_)
    rw [← q j hj]
    show sumN r (fun i => a i * T i j) % 10007 = sumN c (fun i => a i * T i j) % 10007
    rw [sumN_tail h6 (fun i q1 q2 => by rw [h4 i j q1 q2 hj, Int.mul_zero])]
  · exact h2 u hu
theorem IsRk.uniq {n r r' : Nat} {H : Nat → Nat → Int} (h : IsRk n H r) (h' : IsRk n H r') : r = r' := by
  obtain ⟨K, a1, a2, a3⟩ := h
  obtain ⟨K', b1, b2, b3⟩ := h'
  exact Nat.le_antisymm (a1.le_sp (fun i hi => InSp.trans b2 (a3 i hi))) (b1.le_sp (fun i hi => InSp.trans a2 (b3 i hi)))
