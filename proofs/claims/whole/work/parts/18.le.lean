/-! the memory only grows -/
def outLe (m : Mem) (o : Option Out) : Prop := match o with
  | none => True
  | some (.inl x) => memLe m x.2.2
  | some (.inr (.inl x)) => memLe m x.2.2.2
  | some (.inr (.inr (.inl x))) => memLe m x.2
  | some (.inr (.inr (.inr x))) => memLe m x.2.2.2.2
theorem memLe.rf {m : Mem} : memLe m m := ⟨Nat.le_refl _, Nat.le_refl _⟩
theorem memLe.tr {a b c : Mem} (h : memLe a b) (h2 : memLe b c) : memLe a c := ⟨Nat.le_trans h.1 h2.1, Nat.le_trans h.2 h2.2⟩
theorem step1_le (o : Op) (ls st : List MV) (m : Mem) : outLe m (step1 o ls st m) := by
  unfold step1
  split <;> (try unfold q_iload) <;> (try unfold q_lload) <;> (try unfold q_aload) <;> (try unfold q_istore) <;> (try unfold q_lstore) <;> (try unfold q_astore) <;> (try unfold q_iinc) <;> (try unfold q_ii) <;> (try unfold q_ll) <;> (try unfold q_li) <;> (try unfold q_cmp) <;> (try unfold q_i) <;> (try unfold q_l) <;> (try unfold q_i2c) <;> (try unfold q_if) <;> (try unfold q_icmp) <;> (try unfold q_swt) <;> (try unfold q_geti) <;> (try unfold q_getr) <;> (try unfold q_puti) <;> (try unfold q_putz) <;> (try unfold q_putr) <;> (try unfold q_sald) <;> (try unfold q_slen) <;> (try unfold q_ald) <;> (try unfold q_aald) <;> (try unfold q_iast) <;> (try unfold q_last) <;> (try unfold q_cast) <;> (try unfold q_aast) <;> (try unfold q_alen) <;> (try unfold q_new) <;> (try unfold q_newa) <;> (try unfold q_new2) <;> (try unfold q_new3) <;> (try unfold q_invS) <;> (try split) <;> (try unfold q_invV) <;> (try unfold q_drop1) <;> (try unfold q_cpy) <;> (try unfold q_mm) <;> (try unfold q_ret) <;> (try unfold q_zret) <;> (try unfold q_cret) <;> (try unfold q_vret) <;> (try unfold q_dup) <;> (try unfold q_pop) <;> (try split) <;> (try split) <;> (try split) <;> first
    | trivial
    | exact memLe.rf
    | exact ⟨Nat.le_of_eq (setR_len _ _ _ _).symm, Nat.le_refl _⟩
    | (refine ⟨?_, ?_⟩ <;> simp [newE, new2E, new3E] <;> omega)
    | (refine ⟨?_, ?_⟩ <;> simp [newE, new2E, new3E])
theorem sem1_le {N N' : List MV → List MV → Mem → Prop} {J J' : Nat → List MV → List MV → Mem → Prop} {Q Q' : Option MV → Mem → Prop} {C : CallP} {m : Mem} (hC : ∀ j as m k, C j as m k → C j as m (fun r m' => k r m' ∧ memLe m m')) (hCm : ∀ j as m k k', C j as m k → (∀ r m', k r m' → k' r m') → C j as m k') (hN : ∀ ls st m', memLe m m' → N ls st m' → N' ls st m') (hJ : ∀ t ls st m', memLe m m' → J t ls st m' → J' t ls st m') (hQ : ∀ r m', memLe m m' → Q r m' → Q' r m') {o : Option Out} (ho : outLe m o) (h : sem1 N J Q C o) : sem1 N' J' Q' C o := by
  match o, ho, h with
  | some (.inl x), ho, h => exact hN _ _ _ ho h
  | some (.inr (.inl x)), ho, h => exact hJ _ _ _ _ ho h
  | some (.inr (.inr (.inl x))), ho, h => exact hQ _ _ ho h
  | some (.inr (.inr (.inr x))), ho, h => exact hCm _ _ _ _ _ (hC _ _ _ _ h) (fun r m' hh => hN _ _ _ (memLe.tr ho hh.2) hh.1)
theorem Run.le {F : CodeF} {C : CallP} (hC : ∀ j as m k, C j as m k → C j as m (fun r m' => k r m' ∧ memLe m m')) (hCm : ∀ j as m k k', C j as m k → (∀ r m', k r m' → k' r m') → C j as m k') {Q : Option MV → Mem → Prop} {pc : Nat} {ls st : List MV} {m : Mem} (h : Run F C Q pc ls st m) : Run F C (fun r m' => Q r m' ∧ memLe m m') pc ls st m := by
  refine h (fun pc ls st m => Run F C (fun r m' => Q r m' ∧ memLe m m') pc ls st m) (fun pc ls st m hs => ?_)
  refine Run.fold hCm ?_
  unfold stepX at hs ⊢
  cases hf : F pc with
  | none => rw [hf] at hs; exact hs.elim
  | some q =>
    rw [hf] at hs
    have up : ∀ pc' ls' st' m', memLe m m' → Run F C (fun r m'' => Q r m'' ∧ memLe m' m'') pc' ls' st' m' → Run F C (fun r m'' => Q r m'' ∧ memLe m m'') pc' ls' st' m' := fun pc' ls' st' m' h1 h2 => Run.mono hCm (fun r m'' hh => ⟨hh.1, memLe.tr h1 hh.2⟩) h2
    exact sem1_le hC hCm (fun ls' st' m' => up _ ls' st' m') (fun t ls' st' m' => up t ls' st' m') (fun r m' h1 h2 => ⟨h2, h1⟩) (step1_le q.2 ls st m) hs
theorem CallG.le {F : Nat → CodeF} {ml : Nat → Nat} : ∀ (d : Nat) (j : Nat) (as : List MV) (m : Mem) (k : Option MV → Mem → Prop), CallG F ml d j as m k → CallG F ml d j as m (fun r m' => k r m' ∧ memLe m m')
  | 0, _, _, _, _, h => h
  | d + 1, _, _, _, _, h => ⟨h.1, Run.le (CallG.le d) (CallG.mono d) h.2⟩
theorem CallG.le1 {F : Nat → CodeF} {ml : Nat → Nat} {d j : Nat} {as : List MV} {m m' : Mem} {r : Option MV} (h : CallG F ml d j as m (fun r' m'' => r' = r ∧ m'' = m')) : memLe m m' := by
  obtain ⟨r2, m2, ⟨⟨-, h2⟩, h3⟩, -⟩ := CallG.det d j as m _ (CallG.le d j as m _ h)
  rw [← h2]; exact h3
