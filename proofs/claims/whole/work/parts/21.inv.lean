/-! what an instruction that goes on says of the stack -/
theorem q_ii_inv {N : List MV → List MV → Mem → Prop} {J : Nat → List MV → List MV → Mem → Prop} {Q : Option MV → Mem → Prop} {C : CallP} {ls st : List MV} {m : Mem} {f : Int → Int → Option Int} (h : sem1 N J Q C (q_ii f ls st m)) : ∃ x y r z, st = vi y :: vi x :: r ∧ f x y = some z ∧ N ls (vi z :: r) m := by
  unfold q_ii at h
  split at h
  · rename_i y x r
    cases hz : f x y with
    | none => rw [hz] at h; exact h.elim
    | some z => rw [hz] at h; exact ⟨x, y, r, z, rfl, hz, h⟩
  · exact h.elim
theorem q_ll_inv {N : List MV → List MV → Mem → Prop} {J : Nat → List MV → List MV → Mem → Prop} {Q : Option MV → Mem → Prop} {C : CallP} {ls st : List MV} {m : Mem} {f : Int → Int → Option Int} (h : sem1 N J Q C (q_ll f ls st m)) : ∃ x y r z, st = vl y :: vl x :: r ∧ f x y = some z ∧ N ls (vl z :: r) m := by
  unfold q_ll at h
  split at h
  · rename_i y x r
    cases hz : f x y with
    | none => rw [hz] at h; exact h.elim
    | some z => rw [hz] at h; exact ⟨x, y, r, z, rfl, hz, h⟩
  · exact h.elim
theorem q_li_inv {N : List MV → List MV → Mem → Prop} {J : Nat → List MV → List MV → Mem → Prop} {Q : Option MV → Mem → Prop} {C : CallP} {ls st : List MV} {m : Mem} {f : Int → Int → Int} (h : sem1 N J Q C (q_li f ls st m)) : ∃ x y r, st = vi y :: vl x :: r ∧ N ls (vl (f x y) :: r) m := by
  unfold q_li at h
  split at h
  · exact ⟨_, _, _, rfl, h⟩
  · exact h.elim
theorem q_cmp_inv {N : List MV → List MV → Mem → Prop} {J : Nat → List MV → List MV → Mem → Prop} {Q : Option MV → Mem → Prop} {C : CallP} {ls st : List MV} {m : Mem}  (h : sem1 N J Q C (q_cmp ls st m)) : ∃ x y r, st = vl y :: vl x :: r ∧ N ls (vi (if x < y then -1 else if x = y then 0 else 1) :: r) m := by
  unfold q_cmp at h
  split at h
  · exact ⟨_, _, _, rfl, h⟩
  · exact h.elim
theorem q_i_inv {N : List MV → List MV → Mem → Prop} {J : Nat → List MV → List MV → Mem → Prop} {Q : Option MV → Mem → Prop} {C : CallP} {ls st : List MV} {m : Mem} {f : Int → MV} (h : sem1 N J Q C (q_i f ls st m)) : ∃ x r, st = vi x :: r ∧ N ls (f x :: r) m := by
  unfold q_i at h
  split at h
  · exact ⟨_, _, rfl, h⟩
  · exact h.elim
theorem q_l_inv {N : List MV → List MV → Mem → Prop} {J : Nat → List MV → List MV → Mem → Prop} {Q : Option MV → Mem → Prop} {C : CallP} {ls st : List MV} {m : Mem} {f : Int → MV} (h : sem1 N J Q C (q_l f ls st m)) : ∃ x r, st = vl x :: r ∧ N ls (f x :: r) m := by
  unfold q_l at h
  split at h
  · exact ⟨_, _, rfl, h⟩
  · exact h.elim
theorem q_i2c_inv {N : List MV → List MV → Mem → Prop} {J : Nat → List MV → List MV → Mem → Prop} {Q : Option MV → Mem → Prop} {C : CallP} {ls st : List MV} {m : Mem}  (h : sem1 N J Q C (q_i2c ls st m)) : ∃ x r, st = vi x :: r ∧ (0 ≤ x ∧ x < 65536) ∧ N ls (vi x :: r) m := by
  unfold q_i2c at h
  split at h
  · split at h
    · rename_i hg; exact ⟨_, _, rfl, hg, h⟩
    · exact h.elim
  · exact h.elim
theorem q_iload_inv {N : List MV → List MV → Mem → Prop} {J : Nat → List MV → List MV → Mem → Prop} {Q : Option MV → Mem → Prop} {C : CallP} {ls st : List MV} {m : Mem} {i : Nat} (h : sem1 N J Q C (q_iload i ls st m)) : ∃ x, ls.getD i vu = vi x ∧ N ls (vi x :: st) m := by
  unfold q_iload at h
  split at h
  · rename_i hx; exact ⟨_, hx, h⟩
  · exact h.elim
theorem q_lload_inv {N : List MV → List MV → Mem → Prop} {J : Nat → List MV → List MV → Mem → Prop} {Q : Option MV → Mem → Prop} {C : CallP} {ls st : List MV} {m : Mem} {i : Nat} (h : sem1 N J Q C (q_lload i ls st m)) : ∃ x, ls.getD i vu = vl x ∧ N ls (vl x :: st) m := by
  unfold q_lload at h
  split at h
  · rename_i hx; exact ⟨_, hx, h⟩
  · exact h.elim
theorem q_aload_inv {N : List MV → List MV → Mem → Prop} {J : Nat → List MV → List MV → Mem → Prop} {Q : Option MV → Mem → Prop} {C : CallP} {ls st : List MV} {m : Mem} {i : Nat} (h : sem1 N J Q C (q_aload i ls st m)) : ∃ x, ls.getD i vu = vr x ∧ N ls (vr x :: st) m := by
  unfold q_aload at h
  split at h
  · rename_i hx; exact ⟨_, hx, h⟩
  · exact h.elim
theorem q_istore_inv {N : List MV → List MV → Mem → Prop} {J : Nat → List MV → List MV → Mem → Prop} {Q : Option MV → Mem → Prop} {C : CallP} {ls st : List MV} {m : Mem} {i : Nat} (h : sem1 N J Q C (q_istore i ls st m)) : ∃ x r, st = vi x :: r ∧ N (put1 ls i (vi x)) r m := by
  unfold q_istore at h
  split at h
  · exact ⟨_, _, rfl, h⟩
  · exact h.elim
theorem q_lstore_inv {N : List MV → List MV → Mem → Prop} {J : Nat → List MV → List MV → Mem → Prop} {Q : Option MV → Mem → Prop} {C : CallP} {ls st : List MV} {m : Mem} {i : Nat} (h : sem1 N J Q C (q_lstore i ls st m)) : ∃ x r, st = vl x :: r ∧ N (put2 ls i (vl x)) r m := by
  unfold q_lstore at h
  split at h
  · exact ⟨_, _, rfl, h⟩
  · exact h.elim
theorem q_astore_inv {N : List MV → List MV → Mem → Prop} {J : Nat → List MV → List MV → Mem → Prop} {Q : Option MV → Mem → Prop} {C : CallP} {ls st : List MV} {m : Mem} {i : Nat} (h : sem1 N J Q C (q_astore i ls st m)) : ∃ x r, st = vr x :: r ∧ N (put1 ls i (vr x)) r m := by
  unfold q_astore at h
  split at h
  · exact ⟨_, _, rfl, h⟩
  · exact h.elim
theorem q_iinc_inv {N : List MV → List MV → Mem → Prop} {J : Nat → List MV → List MV → Mem → Prop} {Q : Option MV → Mem → Prop} {C : CallP} {ls st : List MV} {m : Mem} {i : Nat} {n : Int} (h : sem1 N J Q C (q_iinc i n ls st m)) : ∃ x, ls.getD i vu = vi x ∧ N (put1 ls i (vi (w32 (x + n)))) st m := by
  unfold q_iinc at h
  split at h
  · rename_i hx; exact ⟨_, hx, h⟩
  · exact h.elim
theorem q_if_inv {N : List MV → List MV → Mem → Prop} {J : Nat → List MV → List MV → Mem → Prop} {Q : Option MV → Mem → Prop} {C : CallP} {ls st : List MV} {m : Mem} {a : Int} {t : Nat} (h : sem1 N J Q C (q_if a t ls st m)) : ∃ x r, st = vi x :: r ∧ (cnd a x 0 = true → J t ls r m) ∧ (¬ cnd a x 0 = true → N ls r m) := by
  unfold q_if at h
  split at h
  · split at h
    · rename_i hg; exact ⟨_, _, rfl, fun _ => h, fun z => absurd hg z⟩
    · rename_i hg; exact ⟨_, _, rfl, fun z => absurd z hg, fun _ => h⟩
  · exact h.elim
theorem q_icmp_inv {N : List MV → List MV → Mem → Prop} {J : Nat → List MV → List MV → Mem → Prop} {Q : Option MV → Mem → Prop} {C : CallP} {ls st : List MV} {m : Mem} {a : Int} {t : Nat} (h : sem1 N J Q C (q_icmp a t ls st m)) : ∃ x y r, st = vi y :: vi x :: r ∧ (cnd a x y = true → J t ls r m) ∧ (¬ cnd a x y = true → N ls r m) := by
  unfold q_icmp at h
  split at h
  · split at h
    · rename_i hg; exact ⟨_, _, _, rfl, fun _ => h, fun z => absurd hg z⟩
    · rename_i hg; exact ⟨_, _, _, rfl, fun z => absurd z hg, fun _ => h⟩
  · exact h.elim
theorem q_swt_inv {N : List MV → List MV → Mem → Prop} {J : Nat → List MV → List MV → Mem → Prop} {Q : Option MV → Mem → Prop} {C : CallP} {ls st : List MV} {m : Mem} {d : Nat} {t : List (Int × Nat)} (h : sem1 N J Q C (q_swt d t ls st m)) : ∃ x r, st = vi x :: r ∧ J (swt t d x) ls r m := by
  unfold q_swt at h
  split at h
  · exact ⟨_, _, rfl, h⟩
  · exact h.elim
theorem q_geti_inv {N : List MV → List MV → Mem → Prop} {J : Nat → List MV → List MV → Mem → Prop} {Q : Option MV → Mem → Prop} {C : CallP} {ls st : List MV} {m : Mem} {ci : Int} {f : Nat} (h : sem1 N J Q C (q_geti ci f ls st m)) : ∃ k r, st = vr k :: r ∧ (kd m.1 k : Int) = ci ∧ N ls (vi (m.2 k f) :: r) m := by
  unfold q_geti at h
  split at h
  · split at h
    · rename_i hg; exact ⟨_, _, rfl, hg, h⟩
    · exact h.elim
  · exact h.elim
theorem q_getr_inv {N : List MV → List MV → Mem → Prop} {J : Nat → List MV → List MV → Mem → Prop} {Q : Option MV → Mem → Prop} {C : CallP} {ls st : List MV} {m : Mem} {ci : Int} {f : Nat} (h : sem1 N J Q C (q_getr ci f ls st m)) : ∃ k r, st = vr k :: r ∧ (kd m.1 k : Int) = ci ∧ N ls (vr (rf m.1 k f) :: r) m := by
  unfold q_getr at h
  split at h
  · split at h
    · rename_i hg; exact ⟨_, _, rfl, hg, h⟩
    · exact h.elim
  · exact h.elim
theorem q_puti_inv {N : List MV → List MV → Mem → Prop} {J : Nat → List MV → List MV → Mem → Prop} {Q : Option MV → Mem → Prop} {C : CallP} {ls st : List MV} {m : Mem} {ci : Int} {f : Nat} (h : sem1 N J Q C (q_puti ci f ls st m)) : ∃ v k r, st = vi v :: vr k :: r ∧ (kd m.1 k : Int) = ci ∧ N ls r (m.1, upD m.2 k f v) := by
  unfold q_puti at h
  split at h
  · split at h
    · rename_i hg; exact ⟨_, _, _, rfl, hg, h⟩
    · exact h.elim
  · exact h.elim
theorem q_putz_inv {N : List MV → List MV → Mem → Prop} {J : Nat → List MV → List MV → Mem → Prop} {Q : Option MV → Mem → Prop} {C : CallP} {ls st : List MV} {m : Mem} {ci : Int} {f : Nat} (h : sem1 N J Q C (q_putz ci f ls st m)) : ∃ v k r, st = vi v :: vr k :: r ∧ ((kd m.1 k : Int) = ci ∧ (v = 0 ∨ v = 1)) ∧ N ls r (m.1, upD m.2 k f v) := by
  unfold q_putz at h
  split at h
  · split at h
    · rename_i hg; exact ⟨_, _, _, rfl, hg, h⟩
    · exact h.elim
  · exact h.elim
theorem q_putr_inv {N : List MV → List MV → Mem → Prop} {J : Nat → List MV → List MV → Mem → Prop} {Q : Option MV → Mem → Prop} {C : CallP} {ls st : List MV} {m : Mem} {ci : Int} {f : Nat} (h : sem1 N J Q C (q_putr ci f ls st m)) : ∃ v k r, st = vr v :: vr k :: r ∧ ((kd m.1 k : Int) = ci ∧ v ≠ 1) ∧ N ls r (setR m.1 k f v, m.2) := by
  unfold q_putr at h
  split at h
  · split at h
    · rename_i hg; exact ⟨_, _, _, rfl, hg, h⟩
    · exact h.elim
  · exact h.elim
theorem q_ald_inv {N : List MV → List MV → Mem → Prop} {J : Nat → List MV → List MV → Mem → Prop} {Q : Option MV → Mem → Prop} {C : CallP} {ls st : List MV} {m : Mem} {t : Nat} {g : Nat → Nat → MV} (h : sem1 N J Q C (q_ald t g ls st m)) : ∃ i k r, st = vi i :: vr k :: r ∧ (kd m.1 k = t ∧ 0 ≤ i ∧ i < (ln m.1 k : Int)) ∧ N ls (g k i.toNat :: r) m := by
  unfold q_ald at h
  split at h
  · split at h
    · rename_i hg; exact ⟨_, _, _, rfl, hg, h⟩
    · exact h.elim
  · exact h.elim
theorem q_sald_inv {N : List MV → List MV → Mem → Prop} {J : Nat → List MV → List MV → Mem → Prop} {Q : Option MV → Mem → Prop} {C : CallP} {ls st : List MV} {m : Mem}  (h : sem1 N J Q C (q_sald ls st m)) : ∃ i k r, st = vi i :: vr k :: r ∧ (k = 1 ∧ 0 ≤ i ∧ i < m.2 0 0) ∧ N ls (vi (m.2 1 i.toNat) :: r) m := by
  unfold q_sald at h
  split at h
  · split at h
    · rename_i hg; exact ⟨_, _, _, rfl, hg, h⟩
    · exact h.elim
  · exact h.elim
theorem q_slen_inv {N : List MV → List MV → Mem → Prop} {J : Nat → List MV → List MV → Mem → Prop} {Q : Option MV → Mem → Prop} {C : CallP} {ls st : List MV} {m : Mem}  (h : sem1 N J Q C (q_slen ls st m)) : ∃ k r, st = vr k :: r ∧ k = 1 ∧ N ls (vi (m.2 0 0) :: r) m := by
  unfold q_slen at h
  split at h
  · split at h
    · rename_i hg; exact ⟨_, _, rfl, hg, h⟩
    · exact h.elim
  · exact h.elim
theorem q_alen_inv {N : List MV → List MV → Mem → Prop} {J : Nat → List MV → List MV → Mem → Prop} {Q : Option MV → Mem → Prop} {C : CallP} {ls st : List MV} {m : Mem}  (h : sem1 N J Q C (q_alen ls st m)) : ∃ k r, st = vr k :: r ∧ (100 ≤ kd m.1 k ∧ kd m.1 k ≤ 107) ∧ N ls (vi (ln m.1 k) :: r) m := by
  unfold q_alen at h
  split at h
  · split at h
    · rename_i hg; exact ⟨_, _, rfl, hg, h⟩
    · exact h.elim
  · exact h.elim
theorem q_aald_inv {N : List MV → List MV → Mem → Prop} {J : Nat → List MV → List MV → Mem → Prop} {Q : Option MV → Mem → Prop} {C : CallP} {ls st : List MV} {m : Mem}  (h : sem1 N J Q C (q_aald ls st m)) : ∃ i k r, st = vi i :: vr k :: r ∧ ((103 ≤ kd m.1 k ∧ kd m.1 k ≤ 107) ∧ 0 ≤ i ∧ i < (ln m.1 k : Int)) ∧ N ls (vr (rf m.1 k i.toNat) :: r) m := by
  unfold q_aald at h
  split at h
  · split at h
    · rename_i hg; exact ⟨_, _, _, rfl, hg, h⟩
    · exact h.elim
  · exact h.elim
theorem q_iast_inv {N : List MV → List MV → Mem → Prop} {J : Nat → List MV → List MV → Mem → Prop} {Q : Option MV → Mem → Prop} {C : CallP} {ls st : List MV} {m : Mem}  (h : sem1 N J Q C (q_iast ls st m)) : ∃ v i k r, st = vi v :: vi i :: vr k :: r ∧ (kd m.1 k = 100 ∧ 0 ≤ i ∧ i < (ln m.1 k : Int)) ∧ N ls r (m.1, upD m.2 k i.toNat v) := by
  unfold q_iast at h
  split at h
  · split at h
    · rename_i hg; exact ⟨_, _, _, _, rfl, hg, h⟩
    · exact h.elim
  · exact h.elim
theorem q_cast_inv {N : List MV → List MV → Mem → Prop} {J : Nat → List MV → List MV → Mem → Prop} {Q : Option MV → Mem → Prop} {C : CallP} {ls st : List MV} {m : Mem}  (h : sem1 N J Q C (q_cast ls st m)) : ∃ v i k r, st = vi v :: vi i :: vr k :: r ∧ (kd m.1 k = 102 ∧ (0 ≤ v ∧ v < 65536) ∧ 0 ≤ i ∧ i < (ln m.1 k : Int)) ∧ N ls r (m.1, upD m.2 k i.toNat v) := by
  unfold q_cast at h
  split at h
  · split at h
    · rename_i hg; exact ⟨_, _, _, _, rfl, hg, h⟩
    · exact h.elim
  · exact h.elim
theorem q_last_inv {N : List MV → List MV → Mem → Prop} {J : Nat → List MV → List MV → Mem → Prop} {Q : Option MV → Mem → Prop} {C : CallP} {ls st : List MV} {m : Mem}  (h : sem1 N J Q C (q_last ls st m)) : ∃ v i k r, st = vl v :: vi i :: vr k :: r ∧ (kd m.1 k = 101 ∧ 0 ≤ i ∧ i < (ln m.1 k : Int)) ∧ N ls r (m.1, upD m.2 k i.toNat v) := by
  unfold q_last at h
  split at h
  · split at h
    · rename_i hg; exact ⟨_, _, _, _, rfl, hg, h⟩
    · exact h.elim
  · exact h.elim
theorem q_aast_inv {N : List MV → List MV → Mem → Prop} {J : Nat → List MV → List MV → Mem → Prop} {Q : Option MV → Mem → Prop} {C : CallP} {ls st : List MV} {m : Mem}  (h : sem1 N J Q C (q_aast ls st m)) : ∃ v i k r, st = vr v :: vi i :: vr k :: r ∧ (2 ≤ v ∧ arrK (kd m.1 v) = kd m.1 k ∧ (103 ≤ kd m.1 k ∧ kd m.1 k ≤ 105) ∧ 0 ≤ i ∧ i < (ln m.1 k : Int)) ∧ N ls r (setR m.1 k i.toNat v, m.2) := by
  unfold q_aast at h
  split at h
  · split at h
    · rename_i hg; exact ⟨_, _, _, _, rfl, hg, h⟩
    · exact h.elim
  · exact h.elim
theorem q_newa_inv {N : List MV → List MV → Mem → Prop} {J : Nat → List MV → List MV → Mem → Prop} {Q : Option MV → Mem → Prop} {C : CallP} {ls st : List MV} {m : Mem} {t : Nat} (h : sem1 N J Q C (q_newa t ls st m)) : ∃ n r, st = vi n :: r ∧ (0 ≤ n ∧ n < 1000) ∧ N ls (vr (m.1.1.length + 2) :: r) (newE m t n.toNat) := by
  unfold q_newa at h
  split at h
  · split at h
    · rename_i hg; exact ⟨_, _, rfl, hg, h⟩
    · exact h.elim
  · exact h.elim
theorem q_new2_inv {N : List MV → List MV → Mem → Prop} {J : Nat → List MV → List MV → Mem → Prop} {Q : Option MV → Mem → Prop} {C : CallP} {ls st : List MV} {m : Mem}  (h : sem1 N J Q C (q_new2 ls st m)) : ∃ k n r, st = vi k :: vi n :: r ∧ ((0 ≤ n ∧ n < 1000) ∧ 0 ≤ k ∧ k < 1000) ∧ N ls (vr (m.1.1.length + 2) :: r) (new2E m 106 n.toNat 100 k.toNat) := by
  unfold q_new2 at h
  split at h
  · split at h
    · rename_i hg; exact ⟨_, _, _, rfl, hg, h⟩
    · exact h.elim
  · exact h.elim
theorem q_new3_inv {N : List MV → List MV → Mem → Prop} {J : Nat → List MV → List MV → Mem → Prop} {Q : Option MV → Mem → Prop} {C : CallP} {ls st : List MV} {m : Mem}  (h : sem1 N J Q C (q_new3 ls st m)) : ∃ z y x r, st = vi z :: vi y :: vi x :: r ∧ ((0 ≤ x ∧ x < 1000) ∧ (0 ≤ y ∧ y < 1000) ∧ 0 ≤ z ∧ z < 1000) ∧ N ls (vr (m.1.1.length + 2) :: r) (new3E m x.toNat y.toNat z.toNat) := by
  unfold q_new3 at h
  split at h
  · split at h
    · rename_i hg; exact ⟨_, _, _, _, rfl, hg, h⟩
    · exact h.elim
  · exact h.elim
theorem q_invS_inv {N : List MV → List MV → Mem → Prop} {J : Nat → List MV → List MV → Mem → Prop} {Q : Option MV → Mem → Prop} {C : CallP} {ls st : List MV} {m : Mem} {n j : Nat} (h : sem1 N J Q C (q_invS n j ls st m)) : ∃ as r, st = as.reverse ++ r ∧ as.length = n ∧ catSum r ≤ 8 ∧ C j as m (fun v m' => N ls (v.toList ++ r) m') := by
  unfold q_invS at h
  split at h
  · rename_i hg
    exact ⟨(st.take n).reverse, st.drop n, by rw [List.reverse_reverse, List.take_append_drop], by rw [List.length_reverse, List.length_take]; omega, hg.2, h⟩
  · exact h.elim
theorem q_invV_inv {N : List MV → List MV → Mem → Prop} {J : Nat → List MV → List MV → Mem → Prop} {Q : Option MV → Mem → Prop} {C : CallP} {ls st : List MV} {m : Mem} {n j ci : Nat} (h : sem1 N J Q C (q_invV n j ci ls st m)) : ∃ k as r, st = (vr k :: as).reverse ++ r ∧ (vr k :: as).length = n ∧ kd m.1 k = ci ∧ catSum r ≤ 8 ∧ C j (vr k :: as) m (fun v m' => N ls (v.toList ++ r) m') := by
  unfold q_invV at h
  split at h
  · rename_i k as he
    split at h
    · rename_i hg
      have h : C j (st.take n).reverse m (fun v m' => N ls (v.toList ++ st.drop n) m') := h
      rw [he] at h
      exact ⟨k, as, st.drop n, by rw [← he, List.reverse_reverse, List.take_append_drop], by rw [← he, List.length_reverse, List.length_take]; omega, hg.1.2, hg.2, h⟩
    · exact h.elim
  · exact h.elim
theorem q_drop1_inv {N : List MV → List MV → Mem → Prop} {J : Nat → List MV → List MV → Mem → Prop} {Q : Option MV → Mem → Prop} {C : CallP} {ls st : List MV} {m : Mem}  (h : sem1 N J Q C (q_drop1 ls st m)) : ∃ k r, st = vr k :: r ∧ (2 ≤ k ∧ catSum r ≤ 8) ∧ N ls r m := by
  unfold q_drop1 at h
  split at h
  · split at h
    · rename_i hg; exact ⟨_, _, rfl, hg, h⟩
    · exact h.elim
  · exact h.elim
theorem q_cpy_inv {N : List MV → List MV → Mem → Prop} {J : Nat → List MV → List MV → Mem → Prop} {Q : Option MV → Mem → Prop} {C : CallP} {ls st : List MV} {m : Mem}  (h : sem1 N J Q C (q_cpy ls st m)) : ∃ n dp b sp a r, st = vi n :: vi dp :: vr b :: vi sp :: vr a :: r ∧ (((kd m.1 a = 100 ∧ kd m.1 b = 100) ∧ (0 ≤ n ∧ 0 ≤ dp ∧ 0 ≤ sp) ∧ sp + n ≤ (ln m.1 a : Int) ∧ dp + n ≤ (ln m.1 b : Int)) ∧ catSum r ≤ 8) ∧ N ls r (m.1, cpy m.2 a sp.toNat b dp.toNat n.toNat) := by
  unfold q_cpy at h
  split at h
  · split at h
    · rename_i hg; exact ⟨_, _, _, _, _, _, rfl, hg, h⟩
    · exact h.elim
  · exact h.elim
theorem q_mm_inv {N : List MV → List MV → Mem → Prop} {J : Nat → List MV → List MV → Mem → Prop} {Q : Option MV → Mem → Prop} {C : CallP} {ls st : List MV} {m : Mem} {mx : Bool} (h : sem1 N J Q C (q_mm mx ls st m)) : ∃ y x r, st = vi y :: vi x :: r ∧ catSum r ≤ 8 ∧ N ls (vi (if mx = true then (if x < y then y else x) else (if y < x then y else x)) :: r) m := by
  unfold q_mm at h
  split at h
  · split at h
    · rename_i hg; exact ⟨_, _, _, rfl, hg, h⟩
    · exact h.elim
  · exact h.elim
theorem q_ret_inv {N : List MV → List MV → Mem → Prop} {J : Nat → List MV → List MV → Mem → Prop} {Q : Option MV → Mem → Prop} {C : CallP} {ls st : List MV} {m : Mem}  (h : sem1 N J Q C (q_ret ls st m)) : ∃ x, st = [vi x] ∧ Q (some (vi x)) m := by
  unfold q_ret at h
  split at h
  · exact ⟨_, rfl, h⟩
  · exact h.elim
theorem q_zret_inv {N : List MV → List MV → Mem → Prop} {J : Nat → List MV → List MV → Mem → Prop} {Q : Option MV → Mem → Prop} {C : CallP} {ls st : List MV} {m : Mem}  (h : sem1 N J Q C (q_zret ls st m)) : ∃ x, st = [vi x] ∧ (x = 0 ∨ x = 1) ∧ Q (some (vi x)) m := by
  unfold q_zret at h
  split at h
  · split at h
    · rename_i hg; exact ⟨_, rfl, hg, h⟩
    · exact h.elim
  · exact h.elim
theorem q_cret_inv {N : List MV → List MV → Mem → Prop} {J : Nat → List MV → List MV → Mem → Prop} {Q : Option MV → Mem → Prop} {C : CallP} {ls st : List MV} {m : Mem}  (h : sem1 N J Q C (q_cret ls st m)) : ∃ x, st = [vi x] ∧ (0 ≤ x ∧ x < 65536) ∧ Q (some (vi x)) m := by
  unfold q_cret at h
  split at h
  · split at h
    · rename_i hg; exact ⟨_, rfl, hg, h⟩
    · exact h.elim
  · exact h.elim
theorem q_vret_inv {N : List MV → List MV → Mem → Prop} {J : Nat → List MV → List MV → Mem → Prop} {Q : Option MV → Mem → Prop} {C : CallP} {ls st : List MV} {m : Mem}  (h : sem1 N J Q C (q_vret ls st m)) : st = [] ∧ Q none m := by
  unfold q_vret at h
  split at h
  · exact ⟨rfl, h⟩
  · exact h.elim
theorem q_dup_inv {N : List MV → List MV → Mem → Prop} {J : Nat → List MV → List MV → Mem → Prop} {Q : Option MV → Mem → Prop} {C : CallP} {ls st : List MV} {m : Mem}  (h : sem1 N J Q C (q_dup ls st m)) : ∃ v r, st = v :: r ∧ isL v = false ∧ N ls (v :: v :: r) m := by
  unfold q_dup at h
  split at h
  · split at h
    · exact ⟨_, _, rfl, rfl, h⟩
    · exact ⟨_, _, rfl, rfl, h⟩
    · exact h.elim
  · exact h.elim
theorem q_pop_inv {N : List MV → List MV → Mem → Prop} {J : Nat → List MV → List MV → Mem → Prop} {Q : Option MV → Mem → Prop} {C : CallP} {ls st : List MV} {m : Mem}  (h : sem1 N J Q C (q_pop ls st m)) : ∃ v r, st = v :: r ∧ isL v = false ∧ N ls r m := by
  unfold q_pop at h
  split at h
  · split at h
    · exact ⟨_, _, rfl, rfl, h⟩
    · exact ⟨_, _, rfl, rfl, h⟩
    · exact h.elim
  · exact h.elim
