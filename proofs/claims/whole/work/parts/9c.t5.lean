/-! the rank by the kept rows and columns -/
noncomputable def fdA (w : Nat) (J : Nat → Nat → Int) : Nat → Kst
  | 0 => emp
  | i + 1 => adm w (J i) 0 0 (fdA w J i)
theorem fdA_ki {w : Nat} {J : Nat → Nat → Int} : ∀ n, (∀ i j, i < n → j < w → rs (J i j)) → KI w (fdA w J n)
  | 0, _ => KI.emp
  | n + 1, h => (fdA_ki n (fun i j hi hj => h i j (by omega) hj)).adm (fun j hj => h n j (by omega) hj)
theorem fdA_pr {w i : Nat} {J : Nat → Nat → Int} : ∀ n, i ≤ n → PR (fdA w J i) (fdA w J n)
  | 0, h => by rw [show i = 0 by omega]; exact PR.refl
  | n + 1, h => by
    by_cases e : i = n + 1
    · rw [e]; exact PR.refl
    · exact PR.trans (fdA_pr n (by omega)) PR.adm
theorem fdA_sp {w n i : Nat} {J : Nat → Nat → Int} (h : ∀ i j, i < n → j < w → rs (J i j)) (hi : i < n) : InSp w (fdA w J n).1 (fdA w J n).2.1 (J i) := by
  have z : InSp w (fdA w J (i + 1)).1 (fdA w J (i + 1)).2.1 (J i) := adm_sp (fun j hj => h i j hi hj)
  exact (fdA_pr n hi).sp z
theorem fdA_mem {w : Nat} {J : Nat → Nat → Int} : ∀ n q, q < (fdA w J n).1 → ∃ t, t < n ∧ (fdA w J n).2.1 q = J t
  | 0, q, h => absurd h (Nat.not_lt_zero _)
  | n + 1, q, h => by
    by_cases hi : InSp w (fdA w J n).1 (fdA w J n).2.1 (J n)
    · have e : fdA w J (n + 1) = fdA w J n := adm_in hi
      rw [e] at h ⊢
      obtain ⟨t, a, c⟩ := fdA_mem n q h
      exact ⟨t, by omega, c⟩
    · have e := adm_out (l := 0) (n := 0) hi
      have e' : fdA w J (n + 1) = adm w (J n) 0 0 (fdA w J n) := rfl
      rw [e', e] at h ⊢
      have h' : q < (fdA w J n).1 + 1 := h
      by_cases e2 : q = (fdA w J n).1
      · exact ⟨n, by omega, if_pos e2⟩
      · obtain ⟨t, a, c⟩ := fdA_mem (w := w) (J := J) n q (by omega)
        exact ⟨t, by omega, (if_neg e2).trans c⟩
theorem isRk_ex (n : Nat) (H : Nat → Nat → Int) (h : ∀ u v, u < n → v < n → rs (H u v)) : IsRk n H (fdA n H n).1 :=
  ⟨(fdA n H n).2.1, (fdA_ki n h).1, fun u hu => fdA_sp h hu, fun i hi => by
    obtain ⟨t, ht, e⟩ := fdA_mem n i hi
    rw [e]
    exact InSp.mem ht (fun j hj => h t j ht hj)⟩
theorem hk_ex (b L : Nat) (A : RepA) : ∃ H, HK b L A H := by
  have z : ∀ u, ∃ f : Nat → Int, ∀ v, ∀ l m l' n, l ≤ L → m < b ^ l → l' ≤ L → n < b ^ l' → u = off b l + m → v = off b l' + n → f v = valA A b (l + l') (m * b ^ l' + n) := fun u => by
    have z2 : ∀ v, ∃ x : Int, ∀ l m l' n, l ≤ L → m < b ^ l → l' ≤ L → n < b ^ l' → u = off b l + m → v = off b l' + n → x = valA A b (l + l') (m * b ^ l' + n) := fun v => by
      by_cases e : ∃ l m l' n, l ≤ L ∧ m < b ^ l ∧ l' ≤ L ∧ n < b ^ l' ∧ u = off b l + m ∧ v = off b l' + n
      · obtain ⟨l, m, l', n, a1, a2, a3, a4, a5, a6⟩ := e
        refine ⟨valA A b (l + l') (m * b ^ l' + n), fun l2 m2 l2' n2 c1 c2 c3 c4 c5 c6 => ?_⟩
        obtain ⟨rfl, rfl⟩ := off_inj a2 c2 (a5.symm.trans c5)
        obtain ⟨rfl, rfl⟩ := off_inj a4 c4 (a6.symm.trans c6)
        rfl
      · exact ⟨0, fun l m l' n c1 c2 c3 c4 c5 c6 => absurd ⟨l, m, l', n, c1, c2, c3, c4, c5, c6⟩ e⟩
    exact Classical.skolem.mp z2
  obtain ⟨H, hH⟩ := Classical.skolem.mp z
  exact ⟨H, fun l m l' n a1 a2 a3 a4 => hH _ _ l m l' n a1 a2 a3 a4 rfl rfl⟩
theorem val_rc {A : RepA} {b l l' m n : Nat} (hn : n < b ^ l') : valA A b (l + l') (m * b ^ l' + n) = dtt (dmA A) (rv A b l m) (cv A b l' n) := by
  have z := rv_cv (A := A) (b := b) (N := m * b ^ l' + n) l' l
  have hp : 0 < b ^ l' := by omega
  rw [show (m * b ^ l' + n) / b ^ l' = m by rw [Nat.mul_comm, Nat.mul_add_div hp, Nat.div_eq_of_lt hn, Nat.add_zero]] at z
  have hb : l' = 0 ∨ 0 < b := by
    rcases Nat.eq_zero_or_pos b with e | e
    · left
      rcases Nat.eq_zero_or_pos l' with e' | e'
      · exact e'
      · rw [e, Nat.zero_pow e'] at hp; omega
    · exact Or.inr e
  rcases hb with rfl | hb
  · exact z
  · rw [cv_low hb l' (Nat.le_refl _)] at z
    exact z
/-- the images -/
noncomputable def imA (b L : Nat) (A : RepA) : Nat → Nat → Int := fun t i => if i < (exA b L A zr0).1 then dtt (dmA A) ((exA b L A zr0).2.1 i) ((exA b L (rvA A) zr0).2.1 t) else 0
theorem imA_rs {b L : Nat} {A : RepA} (t i : Nat) : rs (imA b L A t i) := by
  unfold imA
  split
  · exact rs_mod
  · exact rs_0
theorem lin_one {c : Nat} {K : Nat → Nat → Int} {a : Nat → Int} {j : Nat} : lin c K a j = sumN c (fun i => a i * K i j) % 10007 := rfl
theorem rkA_eq2 {b L : Nat} {A : RepA} (hb : 0 < b) (hA : okA b A) : rkA b L A = (fdA (dmA A) (imA b L A) (exA b L (rvA A) zr0).1).1 := by
  obtain ⟨H, hH⟩ := hk_ex b L A
  have hR := isRk_ex (off b (L + 1)) H (fun u v hu hv => hH.rs hu hv)
  rw [rkA_eq hH hR]
  generalize (fdA (off b (L + 1)) H (off b (L + 1))).1 = r at hR
  obtain ⟨X, x1, x2, x3⟩ := hR
  have hA' := okA_rv hA
  have J := fun t i => imA_rs (b := b) (L := L) (A := A) t i
  have ki := fdA_ki (w := dmA A) (J := imA b L A) (exA b L (rvA A) zr0).1 (fun i j _ _ => J i j)
  replace ki := ki.1
  have hs1 : (exA b L A zr0).1 ≤ dmA A := exA_le hA okA_zr0
  have ri1 := (ex_ri (A := A) (b := b) (L := L) (wd A)).1
  have ri2 := (ex_ri (A := rvA A) (b := b) (L := L) (wd (rvA A))).1
  have jm := fdA_mem (w := dmA A) (J := imA b L A) (exA b L (rvA A) zr0).1
  have js : ∀ t, t < (exA b L (rvA A) zr0).1 → InSp (dmA A) _ _ (imA b L A t) := fun t ht => fdA_sp (w := dmA A) (n := (exA b L (rvA A) zr0).1) (J := imA b L A) (fun i j _ _ => J i j) ht
  have rr1 := ex_reach (b := b) (L := L) hA
  have rr2 := ex_reach (b := b) (L := L) hA'
  generalize hrc : (fdA (dmA A) (imA b L A) (exA b L (rvA A) zr0).1).1 = rc at ki jm js ⊢
  generalize (fdA (dmA A) (imA b L A) (exA b L (rvA A) zr0).1).2.1 = M at ki jm js
  generalize hs : (exA b L A zr0).1 = s1 at hs1 ri1 rr1
  generalize hs2 : (exA b L (rvA A) zr0).1 = s2 at jm js ri2 rr2
  have im : ∀ t i, i < s1 → imA b L A t i = dtt (dmA A) ((exA b L A zr0).2.1 i) ((exA b L (rvA A) zr0).2.1 t) := fun t i hi => if_pos (by rw [hs]; exact hi)
  have im0 : ∀ t i, ¬ i < s1 → imA b L A t i = 0 := fun t i hi => if_neg (by rw [hs]; exact hi)
  have row : ∀ i, i < s1 → ∃ l m, l ≤ L ∧ m < b ^ l ∧ ∀ j, j < dmA A → (exA b L A zr0).2.1 i j = rv A b l m j := fun i hi => by
    obtain ⟨q1, q2⟩ := ri1 i (show i < (exA b L A zr0).1 by rw [hs]; exact hi)
    obtain ⟨m, hm, e⟩ := rch_rv q2
    exact ⟨_, m, q1, hm, e⟩
  have col : ∀ t, t < s2 → ∃ l n, l ≤ L ∧ n < b ^ l ∧ ∀ j, j < dmA A → (exA b L (rvA A) zr0).2.1 t j = cv A b l n j := fun t ht => by
    obtain ⟨q1, q2⟩ := ri2 t (show t < (exA b L (rvA A) zr0).1 by rw [hs2]; exact ht)
    obtain ⟨n, hn, e⟩ := rch_cv hb q2
    exact ⟨_, n, q1, hn, e⟩
  have Ht : ∀ l m l' n, l ≤ L → m < b ^ l → l' ≤ L → n < b ^ l' → H (off b l + m) (off b l' + n) = dtt (dmA A) (rv A b l m) (cv A b l' n) := fun l m l' n a1 a2 a3 a4 => (hH l m l' n a1 a2 a3 a4).trans (val_rc a4)
  generalize (exA b L A zr0).2.1 = K at im row rr1
  generalize (exA b L (rvA A) zr0).2.1 = C at im col rr2
  refine Nat.le_antisymm ?_ ?_
  · obtain ⟨E, hE⟩ := InSp.fam js
    have yv : ∀ v, ∃ y : Nat → Int, ∀ l n, l ≤ L → n < b ^ l → v = off b l + n → ∀ j, j < dmA A → lin s2 C y j = cv A b l n j := fun v => by
      by_cases e : ∃ l n, l ≤ L ∧ n < b ^ l ∧ v = off b l + n
      · obtain ⟨l, n, a1, a2, a3⟩ := e
        obtain ⟨c, q1, _, q3⟩ := rr2 l (cv A b l n) a1 (rch_of_cv hb l n)
        obtain ⟨y, _, hy⟩ := q3.mono (K' := C) q1 (fun _ _ _ _ => rfl)
        refine ⟨y, fun l2 n2 c1 c2 c3 => ?_⟩
        obtain ⟨rfl, rfl⟩ := off_inj a2 c2 (a3.symm.trans c3)
        exact hy
      · exact ⟨fun _ => 0, fun l n a1 a2 a3 => absurd ⟨l, n, a1, a2, a3⟩ e⟩
    obtain ⟨Y, hY⟩ := Classical.skolem.mp yv
    have rows : ∀ u, u < off b (L + 1) → InSp (off b (L + 1)) rc (fun k v => sumN s2 (fun t => Y v t * E t k) % 10007) (H u) := fun u hu => by
      obtain ⟨l, m, e1, e2, rfl⟩ := off_ex hu
      obtain ⟨c, q1, _, q3⟩ := rr1 l (rv A b l m) (by omega) (rch_of hb l m)
      obtain ⟨x, _, hx⟩ := q3.mono (K' := K) q1 (fun _ _ _ _ => rfl)
      refine InSp.of (a := fun k => sumN s1 (fun i => x i * M k i) % 10007) (fun v hv => ?_)
      obtain ⟨l', n, e3, e4, rfl⟩ := off_ex hv
      have hy := hY (off b l' + n) l' n (by omega) e4 rfl
      rw [Ht l m l' n (by omega) e2 (by omega) e4]
      show sumN rc (fun k => sumN s1 (fun i => x i * M k i) % 10007 * (sumN s2 (fun t => Y (off b l' + n) t * E t k) % 10007)) % 10007 = _
      generalize Y (off b l' + n) = y at hy ⊢
      rw [dtt_congr (v' := lin s1 K x) (c' := cv A b l' n) (fun i hi => (hx i hi).symm) (fun _ _ => rfl)]
      have r1 : dtt (dmA A) (lin s1 K x) (cv A b l' n) = sumN s1 (fun i => x i * dtt (dmA A) (K i) (cv A b l' n)) % 10007 := sum3
      have r2 : ∀ i, i < s1 → dtt (dmA A) (K i) (cv A b l' n) = lin rc M (fun k => sumN s2 (fun t => y t * E t k) % 10007) i := fun i hi => by
        rw [lin_lin (w := dmA A) (V := imA b L A) hE (by omega)]
        rw [dtt_congr (v' := K i) (c' := lin s2 C y) (fun _ _ => rfl) (fun j hj => (hy j hj).symm)]
        have r3 := sum3 (d := dmA A) (e := s2) (v := K i) (M := fun j t => C t j) (c := y)
        show sumN (dmA A) (fun j => K i j * (sumN s2 (fun t => y t * C t j) % 10007)) % 10007 = sumN s2 (fun t => y t * imA b L A t i) % 10007
        rw [sumN_congr (g := fun j => K i j * (sumN s2 (fun t => C t j * y t) % 10007)) (fun j _ => by rw [sumN_congr (g := fun t => C t j * y t) (fun t _ => Int.mul_comm _ _)]), ← r3]
        rw [sumN_congr (g := fun t => y t * imA b L A t i) (fun t ht => by rw [im t i hi, Int.mul_comm]; rfl)]
      rw [r1]
      refine (sum3 (d := s1) (e := rc) (v := x) (M := fun i k => M k i) (c := fun k => sumN s2 (fun t => y t * E t k) % 10007)).trans ?_
      rw [sumN_congr (g := fun i => x i * dtt (dmA A) (K i) (cv A b l' n)) (fun i hi => by
        rw [r2 i hi, lin_one, sumN_congr (g := fun k => (sumN s2 (fun t => y t * E t k) % 10007) * M k i) (fun k _ => Int.mul_comm _ _)])]
    exact x1.le_sp (fun i hi => InSp.trans rows (x3 i hi))
  · obtain ⟨B, hB⟩ := InSp.fam x2
    have uu : ∀ i, ∃ u : Nat, i < s1 → u < off b (L + 1) ∧ ∃ l m, l ≤ L ∧ m < b ^ l ∧ u = off b l + m ∧ ∀ j, j < dmA A → K i j = rv A b l m j := fun i => by
      by_cases hi : i < s1
      · obtain ⟨l, m, a1, a2, a3⟩ := row i hi
        exact ⟨off b l + m, fun _ => ⟨off_lt (by omega) a2, l, m, a1, a2, rfl, a3⟩⟩
      · exact ⟨0, fun h => absurd h hi⟩
    obtain ⟨U, hU⟩ := Classical.skolem.mp uu
    refine ki.le_sp (H := fun k i => if i < s1 then B (U i) k else 0) (fun q hq => ?_)
    obtain ⟨t, ht, e⟩ := jm q hq
    rw [e]
    obtain ⟨l', n, a1, a2, a3⟩ := col t ht
    have hv : off b l' + n < off b (L + 1) := off_lt (by omega) a2
    refine InSp.of (a := fun k => X k (off b l' + n)) (fun i hi => ?_)
    by_cases hi1 : i < s1
    · obtain ⟨h1, l, m, c1, c2, c3, c4⟩ := hU i hi1
      have z := hB (U i) h1 _ hv
      rw [im t i hi1, dtt_congr c4 a3, ← Ht l m l' n c1 c2 a1 a2, ← c3, ← z]
      show sumN r (fun k => X k (off b l' + n) * (if i < s1 then B (U i) k else 0)) % 10007 = sumN r (fun k => B (U i) k * X k (off b l' + n)) % 10007
      rw [sumN_congr (fun k _ => by rw [if_pos hi1, Int.mul_comm])]
    · rw [im0 t i hi1]
      show sumN r (fun k => X k (off b l' + n) * (if i < s1 then B (U i) k else 0)) % 10007 = 0
      rw [sumN_zero (fun k _ => by rw [if_neg hi1, Int.mul_zero])]
      rfl
