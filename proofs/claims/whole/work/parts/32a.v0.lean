/-! THE CONSTRUCTORS: an evaluator that keeps the writes in a list -/
abbrev Wr : Type := List (Nat × Nat × Int)
def apW (W : Wr) (D : Dat) : Dat := W.foldr (fun q D => upD D q.1 q.2.1 q.2.2) D
abbrev Ev : Type := (List MV × List MV × (Shp × Nat) × Wr) ⊕ (Nat × List MV × List MV × (Shp × Nat) × Wr) ⊕ (Option MV × (Shp × Nat) × Wr) ⊕ (Nat × List MV × List MV × List MV × (Shp × Nat) × Wr)
def outE (D : Dat) : Ev → Out
  | .inl x => .inl (x.1, x.2.1, (x.2.2.1, apW x.2.2.2 D))
  | .inr (.inl x) => .inr (.inl (x.1, x.2.1, x.2.2.1, (x.2.2.2.1, apW x.2.2.2.2 D)))
  | .inr (.inr (.inl x)) => .inr (.inr (.inl (x.1, (x.2.1, apW x.2.2 D))))
  | .inr (.inr (.inr x)) => .inr (.inr (.inr (x.1, x.2.1, x.2.2.1, x.2.2.2.1, (x.2.2.2.2.1, apW x.2.2.2.2.2 D))))
def Dz : Dat := fun _ _ => 0
/-- an outcome with the memory's numbers left aside -/
def wrE (W : Wr) : Out → Ev
  | .inl x => .inl (x.1, x.2.1, x.2.2.1, W)
  | .inr (.inl x) => .inr (.inl (x.1, x.2.1, x.2.2.1, x.2.2.2.1, W))
  | .inr (.inr (.inl x)) => .inr (.inr (.inl (x.1, x.2.1, W)))
  | .inr (.inr (.inr x)) => .inr (.inr (.inr (x.1, x.2.1, x.2.2.1, x.2.2.2.1, x.2.2.2.2.1, W)))
def evW (f : Nat) (W : Wr) (ls st : List MV) (g : Shp × Nat) (c : Nat → Bool) : Option Ev := match st with
  | .inl v :: .inr (.inr (.inl k)) :: r => if c k = true then some (.inl (ls, r, g, (k, f, v) :: W)) else none
  | _ => none
def evO (o : Op) (ls st : List MV) (g : Shp × Nat) (W : Wr) : Option Ev := match o.1 with
  | 34 => evW o.2.2.1 W ls st g (fun k => decide ((kd g k : Int) = o.2.1))
  | 35 => (match st with
    | .inl v :: .inr (.inr (.inl k)) :: r => if (kd g k : Int) = o.2.1 ∧ (v = 0 ∨ v = 1) then some (.inl (ls, r, g, (k, o.2.2.1, v) :: W)) else none
    | _ => none)
  | 41 => (match st with
    | .inl v :: .inl i :: .inr (.inr (.inl k)) :: r => if kd g k = 100 ∧ 0 ≤ i ∧ i < (ln g k : Int) then some (.inl (ls, r, g, (k, i.toNat, v) :: W)) else none
    | _ => none)
  | 0 => (step1 o ls st (g, Dz)).map (wrE W)
  | 2 => (step1 o ls st (g, Dz)).map (wrE W)
  | 4 => (step1 o ls st (g, Dz)).map (wrE W)
  | 5 => (step1 o ls st (g, Dz)).map (wrE W)
  | 7 => (step1 o ls st (g, Dz)).map (wrE W)
  | 8 => (step1 o ls st (g, Dz)).map (wrE W)
  | 29 => (step1 o ls st (g, Dz)).map (wrE W)
  | 30 => (step1 o ls st (g, Dz)).map (wrE W)
  | 33 => (step1 o ls st (g, Dz)).map (wrE W)
  | 36 => (step1 o ls st (g, Dz)).map (wrE W)
  | 40 => (step1 o ls st (g, Dz)).map (wrE W)
  | 44 => (step1 o ls st (g, Dz)).map (wrE W)
  | 46 => (step1 o ls st (g, Dz)).map (wrE W)
  | 47 => (step1 o ls st (g, Dz)).map (wrE W)
  | 48 => (step1 o ls st (g, Dz)).map (wrE W)
  | 49 => (step1 o ls st (g, Dz)).map (wrE W)
  | 50 => (step1 o ls st (g, Dz)).map (wrE W)
  | 52 => (step1 o ls st (g, Dz)).map (wrE W)
  | 53 => (step1 o ls st (g, Dz)).map (wrE W)
  | 59 => (step1 o ls st (g, Dz)).map (wrE W)
  | 60 => (step1 o ls st (g, Dz)).map (wrE W)
  | _ => none
/-! THE CONSTRUCTORS: a shape laid behind another one -/
def rlN (n k : Nat) : Nat := if k < 2 then k else k + n
def rlV (n : Nat) (v : MV) : MV := match v with
  | .inr (.inr (.inl k)) => vr (rlN n k)
  | .inl x => .inl x
  | .inr (.inl x) => .inr (.inl x)
  | .inr (.inr (.inr x)) => .inr (.inr (.inr x))
def rlQ (n : Nat) (q : Nat × Nat × List Nat) : Nat × Nat × List Nat := (q.1, q.2.1, q.2.2.map (rlN n))
def rlS (n : Nat) (t : Shp) : Shp := t.map (rlQ n)
def rlW (n : Nat) (W : Wr) : Wr := W.map fun q => (rlN n q.1, q.2)
def rlG (gs : Shp) (N : Nat) (g : Shp × Nat) : Shp × Nat := (gs ++ rlS gs.length g.1, N + g.2)
theorem rlN_2 {n k : Nat} (h : 2 ≤ k) : rlN n k = k + n := if_neg (by omega)
theorem rlN_1 {n k : Nat} (h : k < 2) : rlN n k = k := if_pos h
theorem rlN_0 {n : Nat} : rlN n 0 = 0 := rfl
theorem rlN_ge {n k : Nat} : 2 ≤ rlN n k ↔ 2 ≤ k := by
  rcases Nat.lt_or_ge k 2 with h | h
  · rw [rlN_1 h]
  · rw [rlN_2 h]; omega
theorem rlN_n1 {n k : Nat} : rlN n k ≠ 1 ↔ k ≠ 1 := by
  rcases Nat.lt_or_ge k 2 with h | h
  · rw [rlN_1 h]
  · rw [rlN_2 h]; omega
theorem getD_mp {α β : Type} {f : α → β} {l : List α} {i : Nat} {a : α} {b : β} (h : f a = b) : (l.map f).getD i b = f (l.getD i a) := by
  rw [List.getD_eq_getElem?_getD, List.getD_eq_getElem?_getD, List.getElem?_map]
  cases l[i]? with
  | none => exact h.symm
  | some x => rfl
theorem ent_rl {gs : Shp} {N : Nat} {g : Shp × Nat} {k : Nat} (hk : 2 ≤ k) : ent (rlG gs N g) (rlN gs.length k) = rlQ gs.length (ent g k) := by
  rw [rlN_2 hk]
  show (gs ++ rlS gs.length g.1).getD (k + gs.length - 2) (999, 0, []) = _
  rw [show k + gs.length - 2 = gs.length + (k - 2) by omega, List.getD_eq_getElem?_getD, List.getElem?_append_right (Nat.le_add_right _ _), Nat.add_sub_cancel_left, ← List.getD_eq_getElem?_getD]
  exact getD_mp rfl
theorem kd_rl {gs : Shp} {N : Nat} {g : Shp × Nat} {k : Nat} : kd (rlG gs N g) (rlN gs.length k) = kd g k := by
  rcases Nat.lt_or_ge k 2 with h | h
  · rw [rlN_1 h]
    unfold kd
    rw [if_pos h, if_pos h]
  · unfold kd
    rw [if_neg (by have := (rlN_ge (n := gs.length)).mpr h; omega), if_neg (by omega), ent_rl h]
    rfl
theorem ln_rl {gs : Shp} {N : Nat} {g : Shp × Nat} {k : Nat} (hk : 2 ≤ k) : ln (rlG gs N g) (rlN gs.length k) = ln g k := by
  unfold ln
  rw [ent_rl hk]
  rfl
theorem rf_rl {gs : Shp} {N : Nat} {g : Shp × Nat} {k i : Nat} (hk : 2 ≤ k) : rf (rlG gs N g) (rlN gs.length k) i = rlN gs.length (rf g k i) := by
  unfold rf
  rw [ent_rl hk]
  exact getD_mp rfl
theorem kd_ge2 {g : Shp × Nat} {k : Nat} (h : kd g k ≠ 999) : 2 ≤ k := by
  rcases Nat.lt_or_ge k 2 with e | e
  · unfold kd at h
    rw [if_pos e] at h
    exact absurd rfl h
  · exact e
theorem setl_rl {n i v : Nat} {l : List Nat} : (((List.range (i + 1)).map fun j => (l.map (rlN n)).getD j 0) ++ (l.map (rlN n)).drop (i + 1)).set i (rlN n v) = ((((List.range (i + 1)).map fun j => l.getD j 0) ++ l.drop (i + 1)).set i v).map (rlN n) := by
  have e : (fun j => (l.map (rlN n)).getD j 0) = (rlN n) ∘ fun j => l.getD j 0 := funext fun j => getD_mp rfl
  rw [List.map_set, List.map_append, List.map_map, List.map_drop, e]
theorem set_rl {gs g1 : Shp} {k : Nat} {q : Nat × Nat × List Nat} (hk : 2 ≤ k) : (gs ++ rlS gs.length g1).set (rlN gs.length k - 2) (rlQ gs.length q) = gs ++ rlS gs.length (g1.set (k - 2) q) := by
  rw [rlN_2 hk, List.set_append_right _ _ (by omega), show k + gs.length - 2 - gs.length = k - 2 by omega]
  unfold rlS
  rw [List.map_set]
theorem setR_rl {gs : Shp} {N : Nat} {g : Shp × Nat} {k i v : Nat} (hk : 2 ≤ k) : setR (rlG gs N g) (rlN gs.length k) i (rlN gs.length v) = rlG gs N (setR g k i v) := by
  unfold setR
  rw [ent_rl hk]
  refine Prod.ext ?_ rfl
  refine Eq.trans ?_ (set_rl hk)
  exact congrArg (fun z => (gs ++ rlS gs.length g.1).set (rlN gs.length k - 2) ((ent g k).1, (ent g k).2.1, z)) setl_rl
theorem len_rl {gs : Shp} {N : Nat} {g : Shp × Nat} : (rlG gs N g).1.length = g.1.length + gs.length := by
  show (gs ++ g.1.map (rlQ gs.length)).length = _
  rw [List.length_append, List.length_map]
  omega
theorem adr_rl {gs : Shp} {N : Nat} {g : Shp × Nat} : (rlG gs N g).1.length + 2 = rlN gs.length (g.1.length + 2) := by
  rw [len_rl, rlN_2 (by omega)]
  omega
theorem app_rl {gs : Shp} {N m : Nat} {g : Shp × Nat} {t t' : Shp} (h : rlS gs.length t = t') : ((rlG gs N g).1 ++ t', (rlG gs N g).2 + m) = rlG gs N (g.1 ++ t, g.2 + m) := by
  show (gs ++ g.1.map (rlQ gs.length) ++ t', N + g.2 + m) = (gs ++ (g.1 ++ t).map (rlQ gs.length), N + (g.2 + m))
  rw [List.map_append, ← h, List.append_assoc, Nat.add_assoc]
  rfl
theorem rlS_app {a : Nat} {t t' : Shp} : rlS a (t ++ t') = rlS a t ++ rlS a t' := List.map_append ..
theorem rows_rl {n t k a : Nat} : rlS n (rowsE t k a) = rowsE t k a := by
  unfold rlS rowsE
  rw [List.map_replicate]
  rfl
theorem one_rl {n t a : Nat} {l l' : List Nat} (h : l.map (rlN n) = l') : rlS n [(t, a, l)] = [(t, a, l')] := by
  subst h
  rfl
theorem mid3_rl {n b c h : Nat} (hh : 2 ≤ h) : ∀ a, rlS n (mid3 h b c a) = mid3 (h + n) b c a := by
  intro a
  induction a with
  | zero => rfl
  | succ i ih =>
    have e : ((List.range b).map fun j => h + i * (b + 1) + 1 + j).map (rlN n) = (List.range b).map fun j => h + n + i * (b + 1) + 1 + j := by
      rw [List.map_map]
      refine List.map_congr_left (fun j _ => ?_)
      show rlN n (h + i * (b + 1) + 1 + j) = h + n + i * (b + 1) + 1 + j
      generalize i * (b + 1) = w
      rw [rlN_2 (by omega)]
      omega
    show rlS n (mid3 h b c i ++ ([(106, b, (List.range b).map fun j => h + i * (b + 1) + 1 + j)] ++ rowsE 100 c b)) = mid3 (h + n) b c i ++ ([(106, b, (List.range b).map fun j => h + n + i * (b + 1) + 1 + j)] ++ rowsE 100 c b)
    rw [rlS_app, rlS_app, ih, rows_rl, one_rl e]
theorem newE_rl {gs : Shp} {N : Nat} {g : Shp × Nat} {D D2 : Dat} {t a : Nat} : newE (rlG gs N g, D2) t a = (rlG gs N (newE (g, D) t a).1, D2) := by
  have hy := app_rl (gs := gs) (N := N) (g := g) (m := a) (t := [(t, a, [])]) (t' := [(t, a, [])]) rfl
  unfold newE
  dsimp only
  rw [hy]
theorem new2E_rl {gs : Shp} {N : Nat} {g : Shp × Nat} {D D2 : Dat} {t a t1 b : Nat} : new2E (rlG gs N g, D2) t a t1 b = (rlG gs N (new2E (g, D) t a t1 b).1, D2) := by
  have e : ((List.range a).map fun i => g.1.length + 2 + 1 + i).map (rlN gs.length) = (List.range a).map fun i => (rlG gs N g).1.length + 2 + 1 + i := by
    rw [List.map_map]
    refine List.map_congr_left (fun i _ => ?_)
    show rlN gs.length (g.1.length + 2 + 1 + i) = (rlG gs N g).1.length + 2 + 1 + i
    rw [rlN_2 (by omega), len_rl]
    omega
  have hx : rlS gs.length ([(t, a, (List.range a).map fun i => g.1.length + 2 + 1 + i)] ++ rowsE t1 b a) = [(t, a, (List.range a).map fun i => (rlG gs N g).1.length + 2 + 1 + i)] ++ rowsE t1 b a := by
    rw [rlS_app, rows_rl, one_rl e]
  have hy := app_rl (gs := gs) (N := N) (g := g) (m := a + a * b) hx
  unfold new2E
  dsimp only
  rw [List.append_assoc (rlG gs N g).1, List.append_assoc g.1, Nat.add_assoc (rlG gs N g).2, Nat.add_assoc g.2, hy]
theorem new3E_rl {gs : Shp} {N : Nat} {g : Shp × Nat} {D D2 : Dat} {a b c : Nat} : new3E (rlG gs N g, D2) a b c = (rlG gs N (new3E (g, D) a b c).1, D2) := by
  have e : ((List.range a).map fun i => g.1.length + 2 + 1 + i * (b + 1)).map (rlN gs.length) = (List.range a).map fun i => (rlG gs N g).1.length + 2 + 1 + i * (b + 1) := by
    rw [List.map_map]
    refine List.map_congr_left (fun i _ => ?_)
    show rlN gs.length (g.1.length + 2 + 1 + i * (b + 1)) = (rlG gs N g).1.length + 2 + 1 + i * (b + 1)
    generalize i * (b + 1) = w
    rw [rlN_2 (by omega), len_rl]
    omega
  have e2 : rlS gs.length (mid3 (g.1.length + 2 + 1) b c a) = mid3 ((rlG gs N g).1.length + 2 + 1) b c a := by
    rw [mid3_rl (by omega), show (rlG gs N g).1.length + 2 + 1 = g.1.length + 2 + 1 + gs.length by rw [len_rl]; omega]
  have hx : rlS gs.length ([(107, a, (List.range a).map fun i => g.1.length + 2 + 1 + i * (b + 1))] ++ mid3 (g.1.length + 2 + 1) b c a) = [(107, a, (List.range a).map fun i => (rlG gs N g).1.length + 2 + 1 + i * (b + 1))] ++ mid3 ((rlG gs N g).1.length + 2 + 1) b c a := by
    rw [rlS_app, e2, one_rl e]
  have hy := app_rl (gs := gs) (N := N) (g := g) (m := a + a * (b + b * c)) hx
  unfold new3E
  dsimp only
  rw [List.append_assoc (rlG gs N g).1, List.append_assoc g.1, Nat.add_assoc (rlG gs N g).2, Nat.add_assoc g.2, hy]
theorem isL_rl {n : Nat} {v : MV} : isL (rlV n v) = isL v := by
  rcases v with x | x | x | x <;> rfl
theorem get_rl {n i : Nat} {ls : List MV} : (ls.map (rlV n)).getD i vu = rlV n (ls.getD i vu) := getD_mp rfl
theorem clr_rl {n i : Nat} {ls : List MV} : clrL (ls.map (rlV n)) i = (clrL ls i).map (rlV n) := by
  cases i with
  | zero => rfl
  | succ i =>
    show (if isL ((ls.map (rlV n)).getD i vu) = true then (ls.map (rlV n)).set i vu else ls.map (rlV n)) = (if isL (ls.getD i vu) = true then ls.set i vu else ls).map (rlV n)
    rw [get_rl, isL_rl]
    split
    · rw [List.map_set]; rfl
    · rfl
theorem put_rl {n i : Nat} {ls : List MV} {v w : MV} (h : rlV n v = w) : put1 (ls.map (rlV n)) i w = (put1 ls i v).map (rlV n) := by
  unfold put1
  rw [clr_rl, List.map_set, h]
theorem cat_rl {n : Nat} {st : List MV} : catSum (st.map (rlV n)) = catSum st := by
  unfold catSum
  rw [List.map_map]
  congr 2
  funext v
  show (if isL (rlV n v) = true then 2 else 1) = _
  rw [isL_rl]
def rlO (gs : Shp) (N : Nat) (D : Dat) : Out → Out
  | .inl x => .inl (x.1.map (rlV gs.length), x.2.1.map (rlV gs.length), (rlG gs N x.2.2.1, D))
  | .inr (.inl x) => .inr (.inl (x.1, x.2.1.map (rlV gs.length), x.2.2.1.map (rlV gs.length), (rlG gs N x.2.2.2.1, D)))
  | .inr (.inr (.inl x)) => .inr (.inr (.inl (x.1.map (rlV gs.length), (rlG gs N x.2.1, D))))
  | .inr (.inr (.inr x)) => .inr (.inr (.inr (x.1, x.2.1.map (rlV gs.length), x.2.2.1.map (rlV gs.length), x.2.2.2.1.map (rlV gs.length), (rlG gs N x.2.2.2.2.1, D))))
def rlE (gs : Shp) (N : Nat) : Ev → Ev
  | .inl x => .inl (x.1.map (rlV gs.length), x.2.1.map (rlV gs.length), rlG gs N x.2.2.1, rlW gs.length x.2.2.2)
  | .inr (.inl x) => .inr (.inl (x.1, x.2.1.map (rlV gs.length), x.2.2.1.map (rlV gs.length), rlG gs N x.2.2.2.1, rlW gs.length x.2.2.2.2))
  | .inr (.inr (.inl x)) => .inr (.inr (.inl (x.1.map (rlV gs.length), rlG gs N x.2.1, rlW gs.length x.2.2)))
  | .inr (.inr (.inr x)) => .inr (.inr (.inr (x.1, x.2.1.map (rlV gs.length), x.2.2.1.map (rlV gs.length), x.2.2.2.1.map (rlV gs.length), rlG gs N x.2.2.2.2.1, rlW gs.length x.2.2.2.2.2)))
theorem outE_rl {gs : Shp} {N : Nat} {D : Dat} {W : Wr} {o : Out} : outE D (rlE gs N (wrE W o)) = rlO gs N (apW (rlW gs.length W) D) o := by
  rcases o with x | x | x | x <;> rfl
theorem rt_of {F : List MV → List MV → Mem → Option Out} {gs : Shp} {N : Nat} {ls st : List MV} {g : Shp × Nat} {W : Wr} {D : Dat} {e : Ev} (h : ∀ o, F ls st (g, Dz) = some o → ∀ D2, F (ls.map (rlV gs.length)) (st.map (rlV gs.length)) (rlG gs N g, D2) = some (rlO gs N D2 o)) (he : (F ls st (g, Dz)).map (wrE W) = some e) : F (ls.map (rlV gs.length)) (st.map (rlV gs.length)) (rlG gs N g, apW (rlW gs.length W) D) = some (outE D (rlE gs N e)) := by
  cases hF : F ls st (g, Dz) with
  | none => rw [hF] at he; cases he
  | some o =>
    rw [hF] at he
    obtain rfl : wrE W o = e := Option.some.inj he
    rw [outE_rl]
    exact h o hF _
theorem rl_2 {gs : Shp} {N : Nat} {a : Nat} {ls st : List MV} {g : Shp × Nat} {D D2 : Dat} {o : Out} (h : q_iload a ls st (g, D) = some o) : q_iload a (ls.map (rlV gs.length)) (st.map (rlV gs.length)) (rlG gs N g, D2) = some (rlO gs N D2 o) := by
  unfold q_iload at h ⊢
  rw [get_rl]
  generalize ls.getD a vu = v at h ⊢
  rcases v with x | x | x | x
  · obtain rfl := Option.some.inj h; rfl
  · cases h
  · cases h
  · cases h
theorem rl_4 {gs : Shp} {N : Nat} {a : Nat} {ls st : List MV} {g : Shp × Nat} {D D2 : Dat} {o : Out} (h : q_aload a ls st (g, D) = some o) : q_aload a (ls.map (rlV gs.length)) (st.map (rlV gs.length)) (rlG gs N g, D2) = some (rlO gs N D2 o) := by
  unfold q_aload at h ⊢
  rw [get_rl]
  generalize ls.getD a vu = v at h ⊢
  rcases v with x | x | x | x
  · cases h
  · cases h
  · obtain rfl := Option.some.inj h; rfl
  · cases h
theorem rl_8 {gs : Shp} {N : Nat} {a : Nat} {b : Int} {ls st : List MV} {g : Shp × Nat} {D D2 : Dat} {o : Out} (h : q_iinc a b ls st (g, D) = some o) : q_iinc a b (ls.map (rlV gs.length)) (st.map (rlV gs.length)) (rlG gs N g, D2) = some (rlO gs N D2 o) := by
  unfold q_iinc at h ⊢
  rw [get_rl]
  generalize ls.getD a vu = v at h ⊢
  rcases v with x | x | x | x
  · obtain rfl := Option.some.inj h
    show some _ = some (Sum.inl (List.map _ (put1 ls a (vi (w32 (x + b)))), _, _))
    rw [← put_rl (v := vi (w32 (x + b))) rfl]
    rfl
  · cases h
  · cases h
  · cases h
theorem rl_5 {gs : Shp} {N : Nat} {a : Nat} {ls st : List MV} {g : Shp × Nat} {D D2 : Dat} {o : Out} (h : q_istore a ls st (g, D) = some o) : q_istore a (ls.map (rlV gs.length)) (st.map (rlV gs.length)) (rlG gs N g, D2) = some (rlO gs N D2 o) := by
  unfold q_istore at h ⊢
  rcases st with _ | ⟨v, r⟩
  · cases h
  rcases v with x | x | x | x
  · obtain rfl := Option.some.inj h
    show some _ = some (Sum.inl (List.map _ (put1 ls a (vi x)), _, _))
    rw [← put_rl (v := vi x) rfl]
    rfl
  · cases h
  · cases h
  · cases h
theorem rl_7 {gs : Shp} {N : Nat} {a : Nat} {ls st : List MV} {g : Shp × Nat} {D D2 : Dat} {o : Out} (h : q_astore a ls st (g, D) = some o) : q_astore a (ls.map (rlV gs.length)) (st.map (rlV gs.length)) (rlG gs N g, D2) = some (rlO gs N D2 o) := by
  unfold q_astore at h ⊢
  rcases st with _ | ⟨v, r⟩
  · cases h
  rcases v with x | x | x | x
  · cases h
  · cases h
  · obtain rfl := Option.some.inj h
    show some _ = some (Sum.inl (List.map _ (put1 ls a (vr x)), _, _))
    rw [← put_rl (v := vr x) rfl]
    rfl
  · cases h
theorem rl_29 {gs : Shp} {N : Nat} {a : Nat} {b : Int} {ls st : List MV} {g : Shp × Nat} {D D2 : Dat} {o : Out} (h : q_icmp b a ls st (g, D) = some o) : q_icmp b a (ls.map (rlV gs.length)) (st.map (rlV gs.length)) (rlG gs N g, D2) = some (rlO gs N D2 o) := by
  unfold q_icmp at h ⊢
  rcases st with _ | ⟨x | x | x | x, _ | ⟨y | y | y | y, r⟩⟩ <;> try (cases h; done)
  simp only [List.map_cons, rlV] at h ⊢
  split at h
  · rename_i hc
    rw [if_pos hc]
    obtain rfl := Option.some.inj h; rfl
  · rename_i hc
    rw [if_neg hc]
    obtain rfl := Option.some.inj h; rfl
theorem rl_33 {gs : Shp} {N : Nat} {a : Nat} {b : Int} {ls st : List MV} {g : Shp × Nat} {D D2 : Dat} {o : Out} (hb : b ≠ 999) (h : q_getr b a ls st (g, D) = some o) : q_getr b a (ls.map (rlV gs.length)) (st.map (rlV gs.length)) (rlG gs N g, D2) = some (rlO gs N D2 o) := by
  unfold q_getr at h ⊢
  rcases st with _ | ⟨x | x | x | x, r⟩ <;> try (cases h; done)
  simp only [List.map_cons, rlV] at h ⊢
  split at h
  · rename_i hc
    have h2 : 2 ≤ x := kd_ge2 (g := g) (fun e => hb (by omega))
    rw [kd_rl, if_pos hc, rf_rl h2]
    obtain rfl := Option.some.inj h; rfl
  · cases h
theorem rl_36 {gs : Shp} {N : Nat} {a : Nat} {b : Int} {ls st : List MV} {g : Shp × Nat} {D D2 : Dat} {o : Out} (hb : b ≠ 999) (h : q_putr b a ls st (g, D) = some o) : q_putr b a (ls.map (rlV gs.length)) (st.map (rlV gs.length)) (rlG gs N g, D2) = some (rlO gs N D2 o) := by
  unfold q_putr at h ⊢
  rcases st with _ | ⟨x | x | x | x, _ | ⟨y | y | y | y, r⟩⟩ <;> try (cases h; done)
  simp only [List.map_cons, rlV] at h ⊢
  split at h
  · rename_i hc
    have h2 : 2 ≤ y := kd_ge2 (g := g) (fun e => hb (by omega))
    rw [kd_rl, if_pos ⟨hc.1, rlN_n1.mpr hc.2⟩, setR_rl h2]
    obtain rfl := Option.some.inj h; rfl
  · cases h
theorem rl_40 {gs : Shp} {N : Nat} {ls st : List MV} {g : Shp × Nat} {D D2 : Dat} {o : Out} (h : q_aald  ls st (g, D) = some o) : q_aald  (ls.map (rlV gs.length)) (st.map (rlV gs.length)) (rlG gs N g, D2) = some (rlO gs N D2 o) := by
  unfold q_aald at h ⊢
  rcases st with _ | ⟨x | x | x | x, _ | ⟨y | y | y | y, r⟩⟩ <;> try (cases h; done)
  simp only [List.map_cons, rlV] at h ⊢
  split at h
  · rename_i hc
    have h2 : 2 ≤ y := kd_ge2 (g := g) (by omega)
    rw [kd_rl, ln_rl h2, if_pos hc, rf_rl h2]
    obtain rfl := Option.some.inj h; rfl
  · cases h
theorem rl_44 {gs : Shp} {N : Nat} {ls st : List MV} {g : Shp × Nat} {D D2 : Dat} {o : Out} (h : q_aast  ls st (g, D) = some o) : q_aast  (ls.map (rlV gs.length)) (st.map (rlV gs.length)) (rlG gs N g, D2) = some (rlO gs N D2 o) := by
  unfold q_aast at h ⊢
  rcases st with _ | ⟨z | z | z | z, _ | ⟨x | x | x | x, _ | ⟨y | y | y | y, r⟩⟩⟩ <;> try (cases h; done)
  simp only [List.map_cons, rlV] at h ⊢
  split at h
  · rename_i hc
    have h2 : 2 ≤ y := kd_ge2 (g := g) (by omega)
    rw [kd_rl, kd_rl, ln_rl h2, if_pos ⟨rlN_ge.mpr hc.1, hc.2⟩, setR_rl h2]
    obtain rfl := Option.some.inj h; rfl
  · cases h
theorem rl_46 {gs : Shp} {N : Nat} {a a2 : Nat} {ls st : List MV} {g : Shp × Nat} {D D2 : Dat} {o : Out} (h : q_new a a2 ls st (g, D) = some o) : q_new a a2 (ls.map (rlV gs.length)) (st.map (rlV gs.length)) (rlG gs N g, D2) = some (rlO gs N D2 o) := by
  unfold q_new at h ⊢
  obtain rfl := Option.some.inj h
  show some (Sum.inl (_, vr ((rlG gs N g).1.length + 2) :: _, (((rlG gs N g).1 ++ [(a, 0, [])], (rlG gs N g).2 + a2), D2))) = _
  rw [app_rl (t := [(a, 0, [])]) (t' := [(a, 0, [])]) rfl, adr_rl]
  rfl
theorem rl_47 {gs : Shp} {N : Nat} {a : Nat} {ls st : List MV} {g : Shp × Nat} {D D2 : Dat} {o : Out} (h : q_newa a ls st (g, D) = some o) : q_newa a (ls.map (rlV gs.length)) (st.map (rlV gs.length)) (rlG gs N g, D2) = some (rlO gs N D2 o) := by
  unfold q_newa at h ⊢
  rcases st with _ | ⟨x | x | x | x, r⟩ <;> try (cases h; done)
  simp only [List.map_cons, rlV] at h ⊢
  split at h
  · rename_i hc
    rw [if_pos hc, newE_rl (D := D), adr_rl]
    obtain rfl := Option.some.inj h; rfl
  · cases h
theorem rl_49 {gs : Shp} {N : Nat} {ls st : List MV} {g : Shp × Nat} {D D2 : Dat} {o : Out} (h : q_new2  ls st (g, D) = some o) : q_new2  (ls.map (rlV gs.length)) (st.map (rlV gs.length)) (rlG gs N g, D2) = some (rlO gs N D2 o) := by
  unfold q_new2 at h ⊢
  rcases st with _ | ⟨x | x | x | x, _ | ⟨y | y | y | y, r⟩⟩ <;> try (cases h; done)
  simp only [List.map_cons, rlV] at h ⊢
  split at h
  · rename_i hc
    rw [if_pos hc, new2E_rl (D := D), adr_rl]
    obtain rfl := Option.some.inj h; rfl
  · cases h
theorem rl_50 {gs : Shp} {N : Nat} {ls st : List MV} {g : Shp × Nat} {D D2 : Dat} {o : Out} (h : q_new3  ls st (g, D) = some o) : q_new3  (ls.map (rlV gs.length)) (st.map (rlV gs.length)) (rlG gs N g, D2) = some (rlO gs N D2 o) := by
  unfold q_new3 at h ⊢
  rcases st with _ | ⟨z | z | z | z, _ | ⟨x | x | x | x, _ | ⟨y | y | y | y, r⟩⟩⟩ <;> try (cases h; done)
  simp only [List.map_cons, rlV] at h ⊢
  split at h
  · rename_i hc
    rw [if_pos hc, new3E_rl (D := D), adr_rl]
    obtain rfl := Option.some.inj h; rfl
  · cases h
theorem rl_53 {gs : Shp} {N : Nat} {ls st : List MV} {g : Shp × Nat} {D D2 : Dat} {o : Out} (h : q_drop1  ls st (g, D) = some o) : q_drop1  (ls.map (rlV gs.length)) (st.map (rlV gs.length)) (rlG gs N g, D2) = some (rlO gs N D2 o) := by
  unfold q_drop1 at h ⊢
  rcases st with _ | ⟨x | x | x | x, r⟩ <;> try (cases h; done)
  simp only [List.map_cons, rlV] at h ⊢
  split at h
  · rename_i hc
    rw [cat_rl, if_pos ⟨rlN_ge.mpr hc.1, hc.2⟩]
    obtain rfl := Option.some.inj h; rfl
  · cases h
theorem rl_59 {gs : Shp} {N : Nat} {ls st : List MV} {g : Shp × Nat} {D D2 : Dat} {o : Out} (h : q_vret  ls st (g, D) = some o) : q_vret  (ls.map (rlV gs.length)) (st.map (rlV gs.length)) (rlG gs N g, D2) = some (rlO gs N D2 o) := by
  unfold q_vret at h ⊢
  rcases st with _ | ⟨x, r⟩
  · obtain rfl := Option.some.inj h; rfl
  · cases h
theorem rl_60 {gs : Shp} {N : Nat} {ls st : List MV} {g : Shp × Nat} {D D2 : Dat} {o : Out} (h : q_dup  ls st (g, D) = some o) : q_dup  (ls.map (rlV gs.length)) (st.map (rlV gs.length)) (rlG gs N g, D2) = some (rlO gs N D2 o) := by
  unfold q_dup at h ⊢
  rcases st with _ | ⟨x | x | x | x, r⟩ <;> try (cases h; done)
  · obtain rfl := Option.some.inj h; rfl
  · obtain rfl := Option.some.inj h; rfl
theorem rl_52 {gs : Shp} {N : Nat} {a a2 : Nat} {ls st : List MV} {g : Shp × Nat} {D D2 : Dat} {o : Out} {c : Nat} (h : q_invV a a2 c ls st (g, D) = some o) : q_invV a a2 c (ls.map (rlV gs.length)) (st.map (rlV gs.length)) (rlG gs N g, D2) = some (rlO gs N D2 o) := by
  unfold q_invV at h ⊢
  rw [← List.map_take, ← List.map_reverse, ← List.map_drop, cat_rl, List.length_map]
  generalize hq : (st.take a).reverse = q at h ⊢
  rcases q with _ | ⟨x | x | x | x, r⟩ <;> try (cases h; done)
  simp only [List.map_cons, rlV] at h ⊢
  rw [kd_rl]
  split at h
  · rename_i hc
    rw [if_pos hc]
    obtain rfl := Option.some.inj h; rfl
  · cases h
