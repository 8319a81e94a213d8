/-! spans: transitivity, the exchange bound -/
theorem lin_md {c j : Nat} {K : Nat → Nat → Int} {a : Nat → Int} : lin c K (fun i => a i % 10007) j = lin c K a j := by
  show sumN c (fun i => a i % 10007 * K i j) % 10007 = sumN c (fun i => a i * K i j) % 10007
  exact sumN_mod (fun i _ => md_ml _ _)
theorem InSp.of {w c : Nat} {K : Nat → Nat → Int} {v a : Nat → Int} (h : ∀ j, j < w → lin c K a j = v j) : InSp w c K v := ⟨fun i => a i % 10007, fun _ _ => rs_mod, fun j hj => lin_md.trans (h j hj)⟩
theorem InSp.mono {w c c' : Nat} {K K' : Nat → Nat → Int} {v : Nat → Int} (hc : c ≤ c') (hK : ∀ i j, i < c → j < w → K' i j = K i j) (h : InSp w c K v) : InSp w c' K' v := by
  obtain ⟨a, _, h2⟩ := h
  refine InSp.of (a := fun i => if i < c then a i else 0) (fun j hj => ?_)
  rw [← h2 j hj]
  show sumN c' (fun i => (if i < c then a i else 0) * K' i j) % 10007 = sumN c (fun i => a i * K i j) % 10007
  have e : sumN c' (fun i => (if i < c then a i else 0) * K' i j) = sumN c (fun i => (if i < c then a i else 0) * K' i j) := sumN_tail hc (fun i h1 _ => by rw [if_neg (by omega), Int.zero_mul])
  have e' : sumN c (fun i => (if i < c then a i else 0) * K' i j) = sumN c (fun i => a i * K i j) := sumN_congr (fun i hi => by rw [if_pos hi, hK i j hi hj])
  rw [e, e']
theorem InSp.vec {w c : Nat} {K : Nat → Nat → Int} {v v' : Nat → Int} (h : InSp w c K v) (e : ∀ j, j < w → v' j = v j) : InSp w c K v' := by
  obtain ⟨a, h1, h2⟩ := h
  exact ⟨a, h1, fun j hj => (h2 j hj).trans (e j hj).symm⟩
theorem Ind.fam {w c : Nat} {K K' : Nat → Nat → Int} (hK : ∀ i j, i < c → j < w → K' i j = K i j) (h : Ind w c K) : Ind w c K' := fun a ha hl => h a ha (fun j hj => by rw [← hl j hj]; exact lin_congr (fun _ _ => rfl) (fun i hi => (hK i j hi hj).symm))
theorem InSp.mem {w c i : Nat} {K : Nat → Nat → Int} (hi : i < c) (hr : ∀ j, j < w → rs (K i j)) : InSp w c K (K i) := by
  refine InSp.of (a := fun q => if q = i then 1 else 0) (fun j hj => ?_)
  show sumN c (fun q => (if q = i then 1 else 0) * K q j) % 10007 = K i j
  have e : sumN c (fun q => (if q = i then 1 else 0) * K q j) = sumN c (fun q => K q j * (if q = i then 1 else 0)) := sumN_congr (fun q _ => Int.mul_comm _ _)
  rw [e, sumN_delta (f := fun q => K q j) hi]
  exact rs_id (hr j hj)
theorem InSp.fam {w n c : Nat} {K V : Nat → Nat → Int} (h : ∀ i, i < n → InSp w c K (V i)) : ∃ A : Nat → Nat → Int, ∀ i, i < n → ∀ j, j < w → lin c K (A i) j = V i j := by
  have z : ∀ i, ∃ a : Nat → Int, i < n → ∀ j, j < w → lin c K a j = V i j := fun i => by
    by_cases hi : i < n
    · obtain ⟨a, _, ha⟩ := h i hi
      exact ⟨a, fun _ => ha⟩
    · exact ⟨fun _ => 0, fun y => absurd y hi⟩
  obtain ⟨A, hA⟩ := Classical.skolem.mp z
  exact ⟨A, hA⟩
/-- a combination of combinations -/
theorem lin_lin {w n c : Nat} {K V A : Nat → Nat → Int} {a : Nat → Int} (hA : ∀ i, i < n → ∀ j, j < w → lin c K (A i) j = V i j) {j : Nat} (hj : j < w) : lin c K (fun t => sumN n (fun i => a i * A i t) % 10007) j = lin n V a j := by
  have e := sum3 (d := n) (e := c) (v := a) (M := A) (c := fun t => K t j)
  have e2 : sumN n (fun i => a i * (sumN c (fun t => A i t * K t j) % 10007)) = sumN n (fun i => a i * V i j) := sumN_congr (fun i hi => by rw [← hA i hi j hj]; rfl)
  rw [e2] at e
  exact e
theorem InSp.trans {w n c : Nat} {K V : Nat → Nat → Int} {v : Nat → Int} (h : ∀ i, i < n → InSp w c K (V i)) (h' : InSp w n V v) : InSp w c K v := by
  obtain ⟨a, _, ha⟩ := h'
  obtain ⟨A, hA⟩ := InSp.fam h
  exact InSp.of (fun j hj => (lin_lin hA hj).trans (ha j hj))
def skp (p i : Nat) : Nat := if i < p then i else i + 1
theorem sumN_skp {n p : Nat} {f : Nat → Int} (h : p < n + 1) : sumN (n + 1) f = sumN n (fun i => f (skp p i)) + f p := by
  induction n with
  | zero =>
    obtain rfl : p = 0 := by omega
    rfl
  | succ n ih =>
    by_cases e : p = n + 1
    · have e2 : sumN (n + 1) (fun i => f (skp p i)) = sumN (n + 1) f := sumN_congr (fun i hi => by unfold skp; rw [if_pos (by omega)])
      rw [e2, e, sumN_s]
    · have e2 : skp p n = n + 1 := by unfold skp; rw [if_neg (by omega)]
      have e3 : sumN (n + 1) (fun i => f (skp p i)) = sumN n (fun i => f (skp p i)) + f (n + 1) := by rw [sumN_s, e2]
      rw [e3, sumN_s, ih (by omega)]
      omega
theorem ind_le : ∀ (w c : Nat) (K : Nat → Nat → Int), Ind w c K → c ≤ w
  | 0, 0, _, _ => Nat.le_refl _
  | 0, c + 1, K, h => by
    have z := h (fun _ => 1) (fun _ _ => rs_1) (fun j hj => absurd hj (by omega)) 0 (by omega)
    exact absurd z (by decide)
  | w + 1, c, K, h => by
    by_cases hz : ∀ i, i < c → K i w % 10007 = 0
    · have hI : Ind w c K := fun a ha hl => h a ha (fun j hj => by
        by_cases e : j = w
        · rw [e]
          show sumN c (fun i => a i * K i w) % 10007 = 0
          have e2 : sumN c (fun i => a i * K i w) % 10007 = sumN c (fun _ => 0) % 10007 := sumN_mod (fun i hi => by rw [Int.mul_emod, hz i hi, Int.mul_zero])
          rw [e2, sumN_zero (fun _ _ => rfl)]
          rfl
        · exact hl j (by omega))
      have := ind_le w c K hI
      omega
    · have hex : ∃ p, p < c ∧ K p w % 10007 ≠ 0 := Classical.byContradiction fun hh => hz fun i hi => Classical.byContradiction fun h0 => hh ⟨i, hi, h0⟩
      obtain ⟨p, hp, hne⟩ := hex
      obtain ⟨c, rfl⟩ : ∃ q, c = q + 1 := ⟨c - 1, by omega⟩
      have hx := inv_int (t := K p w % 10007) rs_mod hne
      generalize (invN (K p w % 10007).toNat : Int) = x at hx
      have hx' : (K p w * x) % 10007 = 1 := by rw [← md_ml]; exact hx
      have hI : Ind w c (fun i j => K (skp p i) j - K (skp p i) w * x * K p j) := by
        intro a ha hl
        obtain ⟨S, hS⟩ : ∃ S, S = sumN c (fun i => a i * K (skp p i) w) := ⟨_, rfl⟩
        obtain ⟨a2, h2⟩ : ∃ a2 : Nat → Int, a2 = fun i => if i = p then (-S * x) % 10007 else a (if i < p then i else i - 1) := ⟨_, rfl⟩
        have hp2 : a2 p = (-S * x) % 10007 := by rw [h2]; exact if_pos rfl
        have hs2 : ∀ i, a2 (skp p i) = a i := fun i => by
          rw [h2]
          unfold skp
          by_cases e : i < p
          · simp only [if_pos e]; rw [if_neg (by omega)]
          · simp only [if_neg e]; rw [if_neg (by omega), if_neg (by omega)]; rfl
        have e1 : ∀ j, lin (c + 1) K a2 j = (sumN c (fun i => a i * K (skp p i) j) - S * x * K p j) % 10007 := fun j => by
          show sumN (c + 1) (fun i => a2 i * K i j) % 10007 = _
          rw [sumN_skp hp]
          have e2 : sumN c (fun i => a2 (skp p i) * K (skp p i) j) = sumN c (fun i => a i * K (skp p i) j) := sumN_congr (fun i _ => by rw [hs2])
          rw [e2, hp2, Int.add_emod, md_ml, ← Int.add_emod]
          congr 1
          grind
        have hl2 : ∀ j, j < w + 1 → lin (c + 1) K a2 j = 0 := fun j hj => by
          rw [e1 j]
          by_cases e : j = w
          · rw [e, ← hS]
            have e3 : S - S * x * K p w = S * (1 - K p w * x) := by grind
            rw [e3, Int.mul_emod, Int.sub_emod, hx']
            show S % 10007 * 0 % 10007 = 0
            rw [Int.mul_zero]
            rfl
          · have z : sumN c (fun i => a i * (K (skp p i) j - K (skp p i) w * x * K p j)) % 10007 = 0 := hl j (by omega)
            have e4 : sumN c (fun i => a i * (K (skp p i) j - K (skp p i) w * x * K p j)) = sumN c (fun i => a i * K (skp p i) j) - S * x * K p j := by
              have e5 : sumN c (fun i => a i * (K (skp p i) j - K (skp p i) w * x * K p j)) = sumN c (fun i => a i * K (skp p i) j - a i * K (skp p i) w * (x * K p j)) := sumN_congr (fun i _ => by grind)
              rw [e5, sumN_sub, sumN_mulr, ← hS]
              grind
            rw [← e4]
            exact z
        intro i hi
        have z := h a2 (fun q hq => by
          rw [h2]
          show rs (if q = p then _ else _)
          by_cases e : q = p
          · rw [if_pos e]; exact rs_mod
          · rw [if_neg e]; exact ha _ (by split <;> omega)) hl2 (skp p i) (by unfold skp; split <;> omega)
        rw [← hs2 i]
        exact z
      have := ind_le w c _ hI
      omega
theorem Ind.le_sp {w c r : Nat} {V H : Nat → Nat → Int} (h : Ind w c V) (hs : ∀ i, i < c → InSp w r H (V i)) : c ≤ r := by
  obtain ⟨A, hA⟩ := InSp.fam hs
  refine ind_le r c A (fun a ha hl => h a ha (fun j hj => ?_))
  rw [← lin_lin hA hj]
  show sumN r (fun t => sumN c (fun i => a i * A i t) % 10007 * H t j) % 10007 = 0
  rw [sumN_zero (fun t ht => by
    have z : sumN c (fun i => a i * A i t) % 10007 = 0 := hl t ht
    rw [z, Int.zero_mul])]
  rfl
/-- coefficients -/
noncomputable def coef (w c : Nat) (K : Nat → Nat → Int) (v : Nat → Int) : Nat → Int := @dite _ (InSp w c K v) (Classical.propDecidable _) (fun h => h.choose) (fun _ => fun _ => 0)
theorem coef_spec {w c : Nat} {K : Nat → Nat → Int} {v : Nat → Int} (h : InSp w c K v) : (∀ i, i < c → rs (coef w c K v i)) ∧ ∀ j, j < w → lin c K (coef w c K v) j = v j := by
  unfold coef
  rw [dif_pos h]
  exact h.choose_spec
theorem coef_eq {w c : Nat} {K : Nat → Nat → Int} {v a : Nat → Int} (hI : Ind w c K) (ha : ∀ i, i < c → rs (a i)) (h : ∀ j, j < w → lin c K a j = v j) {i : Nat} (hi : i < c) : coef w c K v i = a i := by
  obtain ⟨h1, h2⟩ := coef_spec (v := v) (InSp.of h)
  exact ind_unique hI h1 ha (fun j hj => (h2 j hj).trans (h j hj).symm) i hi
