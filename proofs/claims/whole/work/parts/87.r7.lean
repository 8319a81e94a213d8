/-! two representations side by side, in the other order -/
def SW (A B : RepA) (v v' : Nat → Int) : Prop := (∀ j, j < dmA A → v' (dmA B + j) = v j) ∧ ∀ j, j < dmA B → v' j = v (dmA A + j)
def SWK (A B : RepA) (S T : Kst) : Prop := T.1 = S.1 ∧ ∀ i, i < S.1 → SW A B (S.2.1 i) (T.2.1 i) ∧ T.2.2.1 i = S.2.2.1 i ∧ T.2.2.2 i = S.2.2.2 i
theorem sw_lin {A B : RepA} {c : Nat} {K K' : Nat → Nat → Int} {a : Nat → Int} (h : ∀ i, i < c → SW A B (K i) (K' i)) : SW A B (lin c K a) (lin c K' a) := by
  refine ⟨fun j hj => ?_, fun j hj => ?_⟩
  · show sumN c (fun i => a i * K' i (dmA B + j)) % 10007 = sumN c (fun i => a i * K i j) % 10007
    rw [sumN_congr (fun i hi => by rw [(h i hi).1 j hj])]
  · show sumN c (fun i => a i * K' i j) % 10007 = sumN c (fun i => a i * K i (dmA A + j)) % 10007
    rw [sumN_congr (fun i hi => by rw [(h i hi).2 j hj])]
theorem sw_sp {A B : RepA} {c : Nat} {K K' : Nat → Nat → Int} {v v' : Nat → Int} (h : ∀ i, i < c → SW A B (K i) (K' i)) (hv : SW A B v v') : InSp (dmA A + dmA B) c K v ↔ InSp (dmA B + dmA A) c K' v' := by
  constructor
  · rintro ⟨a, h1, h2⟩
    have z := sw_lin (a := a) h
    refine ⟨a, h1, fun j hj => ?_⟩
    by_cases e : j < dmA B
    · rw [z.2 j e, hv.2 j e]; exact h2 _ (by omega)
    · obtain ⟨q, rfl⟩ : ∃ q, j = dmA B + q := ⟨j - dmA B, by omega⟩
      rw [z.1 q (by omega), hv.1 q (by omega)]; exact h2 _ (by omega)
  · rintro ⟨a, h1, h2⟩
    have z := sw_lin (a := a) h
    refine ⟨a, h1, fun j hj => ?_⟩
    by_cases e : j < dmA A
    · rw [← z.1 j e, ← hv.1 j e]; exact h2 _ (by omega)
    · obtain ⟨q, rfl⟩ : ∃ q, j = dmA A + q := ⟨j - dmA A, by omega⟩
      rw [← z.2 q (by omega), ← hv.2 q (by omega)]; exact h2 _ (by omega)
theorem sw_adm {A B : RepA} {S T : Kst} {v v' : Nat → Int} {l n : Nat} (h : SWK A B S T) (hv : SW A B v v') : SWK A B (adm (dmA A + dmA B) v l n S) (adm (dmA B + dmA A) v' l n T) := by
  obtain ⟨h1, h2⟩ := h
  have hs := sw_sp (K := S.2.1) (K' := T.2.1) (fun i hi => (h2 i hi).1) hv
  by_cases hi : InSp (dmA A + dmA B) S.1 S.2.1 v
  · have hi' : InSp (dmA B + dmA A) T.1 T.2.1 v' := by rw [h1]; exact hs.mp hi
    rw [adm_in hi, adm_in hi']
    exact ⟨h1, h2⟩
  · have hi' : ¬ InSp (dmA B + dmA A) T.1 T.2.1 v' := by rw [h1]; exact fun z => hi (hs.mpr z)
    rw [adm_out hi, adm_out hi']
    refine ⟨by show T.1 + 1 = S.1 + 1; rw [h1], fun i q => ?_⟩
    have q' : i < S.1 + 1 := q
    show SW A B (if i = S.1 then v else S.2.1 i) (if i = T.1 then v' else T.2.1 i) ∧ (if i = T.1 then l else T.2.2.1 i) = (if i = S.1 then l else S.2.2.1 i) ∧ (if i = T.1 then n else T.2.2.2 i) = (if i = S.1 then n else S.2.2.2 i)
    rw [h1]
    by_cases e : i = S.1
    · simp only [if_pos e]; exact ⟨hv, trivial, trivial⟩
    · simp only [if_neg e]; exact h2 i (by omega)
theorem sw_prN {A B : RepA} {g : Nat} {v v' : Nat → Int} (h : SW A B v v') : SW A B (prN A B g v) (prN B A g v') := by
  refine ⟨fun j hj => ?_, fun j hj => ?_⟩
  · show (if dmA B + j < dmA B then _ else vmt (dmA A) (fun i => v' (dmA B + i)) (mtA A g) (dmA B + j - dmA B)) = (if j < dmA A then vmt (dmA A) v (mtA A g) j else _)
    rw [if_neg (by omega), if_pos hj, show dmA B + j - dmA B = j by omega]
    exact vmt_congr (fun i hi => h.1 i hi) (fun _ _ => rfl)
  · show (if j < dmA B then vmt (dmA B) v' (mtA B g) j else _) = (if dmA A + j < dmA A then _ else vmt (dmA B) (fun i => v (dmA A + i)) (mtA B g) (dmA A + j - dmA A))
    rw [if_pos hj, if_neg (by omega), show dmA A + j - dmA A = j by omega]
    exact vmt_congr (fun i hi => h.2 i hi) (fun _ _ => rfl)
theorem sw_xd {A B : RepA} {b lim k : Nat} {S T : Kst} (h : SWK A B S T) (hk : k < S.1) : ∀ g, SWK A B (xd (dmA A + dmA B) b (prN A B) lim k g S) (xd (dmA B + dmA A) b (prN B A) lim k g T)
  | 0 => h
  | g + 1 => by
    have ih := sw_xd (b := b) (lim := lim) h hk g
    have hp : PR S (xd (dmA A + dmA B) b (prN A B) lim k g S) := xd_pr (b := b) (N := prN A B) (lim := lim) (k := k) (S := S) 0 g (Nat.zero_le _)
    have hk' := Nat.lt_of_lt_of_le hk hp.1
    obtain ⟨a1, a2, a3⟩ := ih.2 k hk'
    rw [xd_eq, xd_eq, a2, a3]
    split
    · exact sw_adm ih (sw_prN a1)
    · exact ih
theorem sw_bf {A B : RepA} {b lim : Nat} {S T : Kst} (h : SWK A B S T) : ∀ k, SWK A B (bf (dmA A + dmA B) b (prN A B) lim k S) (bf (dmA B + dmA A) b (prN B A) lim k T)
  | 0 => h
  | k + 1 => by
    have ih := sw_bf (b := b) (lim := lim) h k
    rw [bf_eq, bf_eq, ih.1]
    split
    · exact sw_xd ih ‹_› b
    · exact ih
theorem exA_swap {A B : RepA} {b lim : Nat} : SWK A B (exA b lim A B) (exA b lim B A) := by
  have h0 : SWK A B (st0 A B) (st0 B A) := by
    unfold st0
    refine sw_adm ⟨rfl, fun i hi => absurd hi (Nat.not_lt_zero i)⟩ ⟨fun j hj => ?_, fun j hj => ?_⟩
    · show (if dmA B + j < dmA B then _ else rwA A (dmA B + j - dmA B)) = (if j < dmA A then rwA A j else _)
      rw [if_neg (by omega), if_pos hj, show dmA B + j - dmA B = j by omega]
    · show (if j < dmA B then rwA B j else _) = (if dmA A + j < dmA A then _ else rwA B (dmA A + j - dmA A))
      rw [if_pos hj, if_neg (by omega), show dmA A + j - dmA A = j by omega]
  have z := sw_bf (b := b) (lim := lim) h0 (dmA A + dmA B)
  show SWK A B (bf (dmA A + dmA B) b (prN A B) lim (dmA A + dmA B) (st0 A B)) (bf (dmA B + dmA A) b (prN B A) lim (dmA B + dmA A) (st0 B A))
  have e : dmA B + dmA A = dmA A + dmA B := Nat.add_comm _ _
  have e2 : bf (dmA B + dmA A) b (prN B A) lim (dmA B + dmA A) (st0 B A) = bf (dmA B + dmA A) b (prN B A) lim (dmA A + dmA B) (st0 B A) := by
    congr 1
  rw [e2]
  exact z
theorem dfk_swap {A B : RepA} {K K' : Nat → Nat → Int} {c : Nat} (h : ∀ i, i < c → SW A B (K i) (K' i)) : ∀ f i, i + f ≤ c → dfk B A K' f i = dfk A B K f i
  | 0, _, _ => rfl
  | f + 1, i, hi => by
    have z := h i (by omega)
    show (if dtt (dmA B) (K' i) (clA B) = dtt (dmA A) (fun j => K' i (dmA B + j)) (clA A) then dfk B A K' f (i + 1) else (i : Int)) = (if dtt (dmA A) (K i) (clA A) = dtt (dmA B) (fun j => K i (dmA A + j)) (clA B) then dfk A B K f (i + 1) else (i : Int))
    rw [dtt_congr (v := K' i) (v' := fun j => K i (dmA A + j)) (c := clA B) (c' := clA B) (fun j hj => z.2 j hj) (fun _ _ => rfl), dtt_congr (v := fun j => K' i (dmA B + j)) (v' := K i) (c := clA A) (c' := clA A) (fun j hj => z.1 j hj) (fun _ _ => rfl), dfk_swap h f (i + 1) (by omega)]
    by_cases e : dtt (dmA A) (K i) (clA A) = dtt (dmA B) (fun j => K i (dmA A + j)) (clA B)
    · rw [if_pos e, if_pos e.symm]
    · rw [if_neg e, if_neg (fun y => e y.symm)]
theorem dfA_swap {A B : RepA} {b : Nat} : dfA b B A = dfA b A B := by
  have z := exA_swap (A := A) (B := B) (b := b) (lim := 16)
  unfold dfA
  rw [z.1]
  exact dfk_swap (fun i hi => (z.2 i hi).1) _ 0 (by omega)
