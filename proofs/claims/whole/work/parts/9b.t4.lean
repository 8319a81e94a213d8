/-! what the exploration reaches -/
def Rch (A : RepA) (b : Nat) : Nat → (Nat → Int) → Prop
  | 0, v => ∀ j, j < dmA A → v j = rwA A j
  | t + 1, v => ∃ g v', g < b ∧ Rch A b t v' ∧ ∀ j, j < dmA A → v j = vmt (dmA A) v' (mtA A g) j
theorem rv_sn {A : RepA} {b t m g : Nat} (hg : g < b) : rv A b (t + 1) (m * b + g) = vmt (dmA A) (rv A b t m) (mtA A g) := by
  show vmt (dmA A) (rv A b t ((m * b + g) / b)) (mtA A ((m * b + g) % b)) = _
  have e1 : (m * b + g) / b = m := by rw [Nat.mul_comm, Nat.mul_add_div (by omega), Nat.div_eq_of_lt hg, Nat.add_zero]
  have e2 : (m * b + g) % b = g := by rw [Nat.mul_comm, Nat.mul_add_mod, Nat.mod_eq_of_lt hg]
  rw [e1, e2]
theorem rch_rv {A : RepA} {b : Nat} : ∀ {t : Nat} {v : Nat → Int}, Rch A b t v → ∃ m, m < b ^ t ∧ ∀ j, j < dmA A → v j = rv A b t m j
  | 0, _, h => ⟨0, by rw [Nat.pow_zero]; omega, h⟩
  | t + 1, v, ⟨g, v', hg, h', e⟩ => by
    obtain ⟨m, hm, e'⟩ := rch_rv h'
    refine ⟨m * b + g, ?_, fun j hj => ?_⟩
    · rw [Nat.pow_succ]
      have := Nat.mul_le_mul_right b (Nat.succ_le_of_lt hm)
      rw [Nat.succ_mul] at this
      omega
    · rw [e j hj, rv_sn hg]
      exact vmt_congr e' (fun _ _ => rfl)
theorem rch_of {A : RepA} {b : Nat} (hb : 0 < b) : ∀ (t m : Nat), Rch A b t (rv A b t m)
  | 0, _ => fun _ _ => rfl
  | t + 1, m => ⟨m % b, _, Nat.mod_lt _ hb, rch_of hb t (m / b), fun _ _ => rfl⟩
theorem rch_cv {A : RepA} {b : Nat} (hb : 0 < b) : ∀ {t : Nat} {v : Nat → Int}, Rch (rvA A) b t v → ∃ n, n < b ^ t ∧ ∀ j, j < dmA A → v j = cv A b t n j
  | 0, _, h => ⟨0, by rw [Nat.pow_zero]; omega, h⟩
  | t + 1, v, ⟨g, v', hg, h', e⟩ => by
    obtain ⟨n, hn, e'⟩ := rch_cv hb h'
    refine ⟨g * b ^ t + n, ?_, fun j hj => ?_⟩
    · rw [Nat.pow_succ, Nat.mul_comm (b ^ t)]
      have := Nat.mul_le_mul_right (b ^ t) (Nat.succ_le_of_lt hg)
      rw [Nat.succ_mul] at this
      omega
    · rw [e j hj, cv_top hb hg hn]
      show sumN (dmA A) (fun i => v' i * mtA A g j i) % 10007 = sumN (dmA A) (fun i => mtA A g j i * cv A b t n i) % 10007
      rw [sumN_congr (g := fun i => mtA A g j i * cv A b t n i) (fun i hi => by rw [e' i hi, Int.mul_comm])]
theorem rch_of_cv {A : RepA} {b : Nat} (hb : 0 < b) : ∀ (t n : Nat), Rch (rvA A) b t (cv A b t n)
  | 0, _ => fun _ _ => rfl
  | t + 1, n => ⟨(n / b ^ t) % b, _, Nat.mod_lt _ hb, rch_of_cv hb t n, fun j _ => by
    show sumN (dmA A) (fun i => mtA A (n / b ^ t % b) j i * cv A b t n i) % 10007 = sumN (dmA A) (fun i => cv A b t n i * mtA A (n / b ^ t % b) j i) % 10007
    rw [sumN_congr (fun i _ => Int.mul_comm _ _)]⟩
def RI (A : RepA) (b L : Nat) (S : Kst) : Prop := ∀ i, i < S.1 → S.2.2.1 i ≤ L ∧ Rch A b (S.2.2.1 i) (S.2.1 i)
def SO (S : Kst) : Prop := ∀ i j, i ≤ j → j < S.1 → S.2.2.1 i ≤ S.2.2.1 j
def BD (l : Nat) (S : Kst) : Prop := ∀ i, i < S.1 → S.2.2.1 i ≤ l
theorem adm_ri {A : RepA} {b L w l n : Nat} {v : Nat → Int} {S : Kst} (h : RI A b L S) (hl : l ≤ L) (hv : Rch A b l v) : RI A b L (adm w v l n S) := by
  by_cases hi : InSp w S.1 S.2.1 v
  · rw [adm_in hi]; exact h
  · rw [adm_out hi]
    intro i q
    have q' : i < S.1 + 1 := q
    show (if i = S.1 then l else S.2.2.1 i) ≤ L ∧ Rch A b (if i = S.1 then l else S.2.2.1 i) (if i = S.1 then v else S.2.1 i)
    by_cases e : i = S.1
    · rw [if_pos e, if_pos e]; exact ⟨hl, hv⟩
    · rw [if_neg e, if_neg e]; exact h i (by omega)
theorem adm_so {w l n : Nat} {v : Nat → Int} {S : Kst} (h : SO S) (hb : BD l S) : SO (adm w v l n S) := by
  by_cases hi : InSp w S.1 S.2.1 v
  · rw [adm_in hi]; exact h
  · rw [adm_out hi]
    intro i j hij q
    have q' : j < S.1 + 1 := q
    show (if i = S.1 then l else S.2.2.1 i) ≤ (if j = S.1 then l else S.2.2.1 j)
    by_cases e : j = S.1
    · rw [if_pos e]
      by_cases e' : i = S.1
      · rw [if_pos e']; exact Nat.le_refl _
      · rw [if_neg e']; exact hb i (by omega)
    · rw [if_neg e, if_neg (by omega)]; exact h i j hij (by omega)
theorem adm_bd {w l n : Nat} {v : Nat → Int} {S : Kst} (hb : BD l S) : BD l (adm w v l n S) := by
  by_cases hi : InSp w S.1 S.2.1 v
  · rw [adm_in hi]; exact hb
  · rw [adm_out hi]
    intro i q
    have q' : i < S.1 + 1 := q
    show (if i = S.1 then l else S.2.2.1 i) ≤ l
    by_cases e : i = S.1
    · rw [if_pos e]; exact Nat.le_refl _
    · rw [if_neg e]; exact hb i (by omega)
abbrev wd (A : RepA) : Nat := dmA A + dmA zr0
theorem xd_ri {A : RepA} {b L k : Nat} {S : Kst} (h1 : RI A b L S) (h2 : SO S) (hk : k < S.1) (h3 : BD (S.2.2.1 k + 1) S) : ∀ g, g ≤ b → RI A b L (xd (wd A) b (prN A zr0) L k g S) ∧ SO (xd (wd A) b (prN A zr0) L k g S) ∧ BD (S.2.2.1 k + 1) (xd (wd A) b (prN A zr0) L k g S)
  | 0, _ => ⟨h1, h2, h3⟩
  | g + 1, hg => by
    obtain ⟨a1, a2, a3⟩ := xd_ri (L := L) h1 h2 hk h3 g (by omega)
    have p : PR S (xd (wd A) b (prN A zr0) L k g S) := xd_pr (b := b) (k := k) (S := S) 0 g (Nat.zero_le _)
    have q := p.2 k hk
    rw [xd_eq]
    split
    · rename_i hl
      have hr := (a1 k (Nat.lt_of_lt_of_le hk p.1)).2
      rw [q.2.1] at hl hr ⊢
      exact ⟨adm_ri a1 hl ⟨g, _, hg, hr, fun j hj => if_pos hj⟩, adm_so a2 a3, adm_bd a3⟩
    · exact ⟨a1, a2, a3⟩
theorem bf_ri {A : RepA} {b L : Nat} {S : Kst} (h1 : RI A b L S) (h2 : SO S) (h3 : BD (S.2.2.1 0 + 1) S) : ∀ k, RI A b L (bf (wd A) b (prN A zr0) L k S) ∧ SO (bf (wd A) b (prN A zr0) L k S) ∧ (k < (bf (wd A) b (prN A zr0) L k S).1 → BD ((bf (wd A) b (prN A zr0) L k S).2.2.1 k + 1) (bf (wd A) b (prN A zr0) L k S))
  | 0 => ⟨h1, h2, fun _ => h3⟩
  | k + 1 => by
    obtain ⟨a1, a2, a3⟩ := bf_ri (L := L) h1 h2 h3 k
    rw [bf_eq]
    split
    · rename_i hk
      obtain ⟨c1, c2, c3⟩ := xd_ri a1 a2 hk (a3 hk) b (Nat.le_refl _)
      refine ⟨c1, c2, fun hk2 i hi => ?_⟩
      have p : PR (bf (wd A) b (prN A zr0) L k S) (xd (wd A) b (prN A zr0) L k b (bf (wd A) b (prN A zr0) L k S)) := xd_pr (b := b) (k := k) 0 b (Nat.zero_le _)
      have q := c2 k (k + 1) (by omega) hk2
      rw [(p.2 k hk).2.1] at q
      have := c3 i hi
      omega
    · exact ⟨a1, a2, fun hk2 => absurd hk2 (by omega)⟩
theorem st0_ri {A : RepA} {b L : Nat} : RI A b L (st0 A zr0) ∧ SO (st0 A zr0) ∧ BD 0 (st0 A zr0) := by
  have e1 : RI A b L emp := fun i hi => absurd hi (Nat.not_lt_zero i)
  have e2 : SO emp := fun i j _ hj => absurd hj (Nat.not_lt_zero j)
  have e3 : BD 0 emp := fun i hi => absurd hi (Nat.not_lt_zero i)
  exact ⟨adm_ri e1 (Nat.zero_le _) (fun j hj => if_pos hj), adm_so e2 e3, adm_bd e3⟩
theorem ex_ri {A : RepA} {b L : Nat} (k : Nat) : RI A b L (exB b L A zr0 k) ∧ SO (exB b L A zr0 k) ∧ (k < (exB b L A zr0 k).1 → BD ((exB b L A zr0 k).2.2.1 k + 1) (exB b L A zr0 k)) := by
  obtain ⟨h1, h2, h3⟩ := st0_ri (A := A) (b := b) (L := L)
  exact bf_ri h1 h2 (fun i hi => by have := h3 i hi; omega) k
theorem exk_sp {A : RepA} {b L k g : Nat} (hA : okA b A) (hk : k < (exA b L A zr0).1) (hl : (exA b L A zr0).2.2.1 k < L) (hg : g < b) : ∃ c, c ≤ (exA b L A zr0).1 ∧ (∀ i, i < c → (exA b L A zr0).2.2.1 i ≤ (exA b L A zr0).2.2.1 k + 1) ∧ InSp (dmA A) c (exA b L A zr0).2.1 (vmt (dmA A) ((exA b L A zr0).2.1 k) (mtA A g)) := by
  have hw : (exA b L A zr0).1 ≤ dmA A + dmA zr0 := exA_le hA okA_zr0
  have hk1 := exA_in hk (by omega)
  have p : PR (exB b L A zr0 k) (exA b L A zr0) := exB_pr (by omega)
  have a := p.2 k hk1
  have p1 : PR (exB b L A zr0 (k + 1)) (exA b L A zr0) := exB_pr (by omega)
  have e := exB_s hk1
  rw [e] at p1
  obtain ⟨r1, r2, r3⟩ := ex_ri (A := A) (b := b) (L := L) k
  obtain ⟨c1, c2, c3⟩ := xd_ri r1 r2 hk1 (r3 hk1) b (Nat.le_refl _)
  have hl' := hl
  rw [a.2.1] at hl'
  have z := xd_sp (w := wd A) (N := prN A zr0) prN_rs hk1 hl' hg
  refine ⟨_, p1.1, fun i hi => ?_, ?_⟩
  · rw [(p1.2 i hi).2.1, a.2.1]; exact c3 i hi
  · rw [a.1]
    have z2 : InSp (dmA A) _ _ (prN A zr0 g ((exB b L A zr0 k).2.1 k)) := z
    exact (z2.mono (Nat.le_refl _) (fun i j hi _ => by rw [(p1.2 i hi).1])).vec (fun j hj => (if_pos hj).symm)
theorem sp_com {w m : Nat} {K V : Nat → Nat → Int} {P : Nat → Prop} : ∀ c, (∀ q, q < c → ∃ c', c' ≤ m ∧ (∀ i, i < c' → P i) ∧ InSp w c' K (V q)) → ∃ C, C ≤ m ∧ (∀ i, i < C → P i) ∧ ∀ q, q < c → InSp w C K (V q)
  | 0, _ => ⟨0, Nat.zero_le _, fun _ h => absurd h (Nat.not_lt_zero _), fun _ h => absurd h (Nat.not_lt_zero _)⟩
  | c + 1, h => by
    obtain ⟨C, a1, a2, a3⟩ := sp_com c (fun q hq => h q (by omega))
    obtain ⟨c', b1, b2, b3⟩ := h c (by omega)
    by_cases e : C ≤ c'
    · exact ⟨c', b1, b2, fun q hq => by
        by_cases e' : q = c
        · rw [e']; exact b3
        · exact (a3 q (by omega)).mono e (fun _ _ _ _ => rfl)⟩
    · exact ⟨C, a1, a2, fun q hq => by
        by_cases e' : q = c
        · rw [e']; exact b3.mono (by omega) (fun _ _ _ _ => rfl)
        · exact a3 q (by omega)⟩
theorem ex_reach {A : RepA} {b L : Nat} (hA : okA b A) : ∀ (t : Nat) (v : Nat → Int), t ≤ L → Rch A b t v → ∃ c, c ≤ (exA b L A zr0).1 ∧ (∀ i, i < c → (exA b L A zr0).2.2.1 i ≤ t) ∧ InSp (dmA A) c (exA b L A zr0).2.1 v
  | 0, v, _, h => by
    have p : PR (exB b L A zr0 0) (exA b L A zr0) := exB_pr (Nat.zero_le _)
    have z : InSp (wd A) (st0 A zr0).1 (st0 A zr0).2.1 (prV A zr0) := adm_sp (fun j hj => prV_rs hA okA_zr0 hj)
    refine ⟨_, p.1, fun i hi => ?_, ?_⟩
    · rw [(p.2 i hi).2.1]; exact (st0_ri (A := A) (b := b) (L := L)).2.2 i hi
    · have z2 : InSp (dmA A) (st0 A zr0).1 (exA b L A zr0).2.1 (prV A zr0) := InSp.mono (Nat.le_refl _) (fun i j hi _ => by rw [(p.2 i hi).1]; rfl) z
      exact z2.vec (fun j hj => (h j hj).trans (if_pos hj).symm)
  | t + 1, v, ht, ⟨g, v', hg, h', e⟩ => by
    obtain ⟨c, a1, a2, a, a3, a4⟩ := ex_reach (L := L) hA t v' (by omega) h'
    obtain ⟨C, b1, b2, b3⟩ := sp_com (w := dmA A) (m := (exA b L A zr0).1) (K := (exA b L A zr0).2.1) (V := fun q => vmt (dmA A) ((exA b L A zr0).2.1 q) (mtA A g)) (P := fun i => (exA b L A zr0).2.2.1 i ≤ t + 1) c (fun q hq => by
      have := a2 q hq
      obtain ⟨c', x1, x2, x3⟩ := exk_sp hA (show q < (exA b L A zr0).1 by omega) (by omega) hg
      exact ⟨c', x1, fun i hi => by have := x2 i hi; omega, x3⟩)
    refine ⟨C, b1, b2, InSp.trans b3 (InSp.of (a := a) (fun j hj => ?_))⟩
    rw [e j hj, vmt_congr (v' := lin c (exA b L A zr0).2.1 a) (M' := mtA A g) (fun i hi => (a4 i hi).symm) (fun _ _ => rfl)]
    exact sum3.symm
