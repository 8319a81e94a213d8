/-! ONE INSTRUCTION of the small machine -/
def q_ii (f : Int → Int → Option Int) (ls st : List MV) (m : Mem) : Option Out := match st with
  | .inl y :: .inl x :: r => (match f x y with | some z => oN ls (vi z :: r) m | none => none)
  | _ => none
def q_ll (f : Int → Int → Option Int) (ls st : List MV) (m : Mem) : Option Out := match st with
  | .inr (.inl y) :: .inr (.inl x) :: r => (match f x y with | some z => oN ls (vl z :: r) m | none => none)
  | _ => none
def q_li (f : Int → Int → Int) (ls st : List MV) (m : Mem) : Option Out := match st with
  | .inl y :: .inr (.inl x) :: r => oN ls (vl (f x y) :: r) m
  | _ => none
def q_cmp (ls st : List MV) (m : Mem) : Option Out := match st with
  | .inr (.inl y) :: .inr (.inl x) :: r => oN ls (vi (if x < y then -1 else if x = y then 0 else 1) :: r) m
  | _ => none
def q_i (f : Int → MV) (ls st : List MV) (m : Mem) : Option Out := match st with
  | .inl x :: r => oN ls (f x :: r) m
  | _ => none
def q_i2c (ls st : List MV) (m : Mem) : Option Out := match st with
  | .inl x :: r => if 0 ≤ x ∧ x < 65536 then oN ls (vi x :: r) m else none
  | _ => none
def q_l (f : Int → MV) (ls st : List MV) (m : Mem) : Option Out := match st with
  | .inr (.inl x) :: r => oN ls (f x :: r) m
  | _ => none
def q_iload (i : Nat) (ls st : List MV) (m : Mem) : Option Out := match ls.getD i vu with
  | .inl x => oN ls (vi x :: st) m
  | _ => none
def q_lload (i : Nat) (ls st : List MV) (m : Mem) : Option Out := match ls.getD i vu with
  | .inr (.inl x) => oN ls (vl x :: st) m
  | _ => none
def q_aload (i : Nat) (ls st : List MV) (m : Mem) : Option Out := match ls.getD i vu with
  | .inr (.inr (.inl k)) => oN ls (vr k :: st) m
  | _ => none
def q_istore (i : Nat) (ls st : List MV) (m : Mem) : Option Out := match st with
  | .inl x :: r => oN (put1 ls i (vi x)) r m
  | _ => none
def q_lstore (i : Nat) (ls st : List MV) (m : Mem) : Option Out := match st with
  | .inr (.inl x) :: r => oN (put2 ls i (vl x)) r m
  | _ => none
def q_astore (i : Nat) (ls st : List MV) (m : Mem) : Option Out := match st with
  | .inr (.inr (.inl k)) :: r => oN (put1 ls i (vr k)) r m
  | _ => none
def q_iinc (i : Nat) (n : Int) (ls st : List MV) (m : Mem) : Option Out := match ls.getD i vu with
  | .inl x => oN (put1 ls i (vi (w32 (x + n)))) st m
  | _ => none
def q_if (a : Int) (t : Nat) (ls st : List MV) (m : Mem) : Option Out := match st with
  | .inl x :: r => if cnd a x 0 = true then oJ t ls r m else oN ls r m
  | _ => none
def q_icmp (a : Int) (t : Nat) (ls st : List MV) (m : Mem) : Option Out := match st with
  | .inl y :: .inl x :: r => if cnd a x y = true then oJ t ls r m else oN ls r m
  | _ => none
def q_swt (d : Nat) (t : List (Int × Nat)) (ls st : List MV) (m : Mem) : Option Out := match st with
  | .inl x :: r => oJ (swt t d x) ls r m
  | _ => none
def q_geti (ci : Int) (f : Nat) (ls st : List MV) (m : Mem) : Option Out := match st with
  | .inr (.inr (.inl k)) :: r => if (kd m.1 k : Int) = ci then oN ls (vi (m.2 k f) :: r) m else none
  | _ => none
def q_getr (ci : Int) (f : Nat) (ls st : List MV) (m : Mem) : Option Out := match st with
  | .inr (.inr (.inl k)) :: r => if (kd m.1 k : Int) = ci then oN ls (vr (rf m.1 k f) :: r) m else none
  | _ => none
def q_puti (ci : Int) (f : Nat) (ls st : List MV) (m : Mem) : Option Out := match st with
  | .inl v :: .inr (.inr (.inl k)) :: r => if (kd m.1 k : Int) = ci then oN ls r (m.1, upD m.2 k f v) else none
  | _ => none
def q_putz (ci : Int) (f : Nat) (ls st : List MV) (m : Mem) : Option Out := match st with
  | .inl v :: .inr (.inr (.inl k)) :: r => if (kd m.1 k : Int) = ci ∧ (v = 0 ∨ v = 1) then oN ls r (m.1, upD m.2 k f v) else none
  | _ => none
def q_putr (ci : Int) (f : Nat) (ls st : List MV) (m : Mem) : Option Out := match st with
  | .inr (.inr (.inl v)) :: .inr (.inr (.inl k)) :: r => if (kd m.1 k : Int) = ci ∧ v ≠ 1 then oN ls r (setR m.1 k f v, m.2) else none
  | _ => none
/-- a load from an array of the kind t -/
def q_ald (t : Nat) (g : Nat → Nat → MV) (ls st : List MV) (m : Mem) : Option Out := match st with
  | .inl i :: .inr (.inr (.inl k)) :: r => if kd m.1 k = t ∧ 0 ≤ i ∧ i < (ln m.1 k : Int) then oN ls (g k i.toNat :: r) m else none
  | _ => none
/-- from the script -/
def q_sald (ls st : List MV) (m : Mem) : Option Out := match st with
  | .inl i :: .inr (.inr (.inl k)) :: r => if k = 1 ∧ 0 ≤ i ∧ i < m.2 0 0 then oN ls (vi (m.2 1 i.toNat) :: r) m else none
  | _ => none
def q_slen (ls st : List MV) (m : Mem) : Option Out := match st with
  | .inr (.inr (.inl k)) :: r => if k = 1 then oN ls (vi (m.2 0 0) :: r) m else none
  | _ => none
def q_aald (ls st : List MV) (m : Mem) : Option Out := match st with
  | .inl i :: .inr (.inr (.inl k)) :: r => if (103 ≤ kd m.1 k ∧ kd m.1 k ≤ 107) ∧ 0 ≤ i ∧ i < (ln m.1 k : Int) then oN ls (vr (rf m.1 k i.toNat) :: r) m else none
  | _ => none
def q_iast (ls st : List MV) (m : Mem) : Option Out := match st with
  | .inl v :: .inl i :: .inr (.inr (.inl k)) :: r => if kd m.1 k = 100 ∧ 0 ≤ i ∧ i < (ln m.1 k : Int) then oN ls r (m.1, upD m.2 k i.toNat v) else none
  | _ => none
def q_cast (ls st : List MV) (m : Mem) : Option Out := match st with
  | .inl v :: .inl i :: .inr (.inr (.inl k)) :: r => if kd m.1 k = 102 ∧ (0 ≤ v ∧ v < 65536) ∧ 0 ≤ i ∧ i < (ln m.1 k : Int) then oN ls r (m.1, upD m.2 k i.toNat v) else none
  | _ => none
def q_last (ls st : List MV) (m : Mem) : Option Out := match st with
  | .inr (.inl v) :: .inl i :: .inr (.inr (.inl k)) :: r => if kd m.1 k = 101 ∧ 0 ≤ i ∧ i < (ln m.1 k : Int) then oN ls r (m.1, upD m.2 k i.toNat v) else none
  | _ => none
/-- an array's kind from its objects' class: State, Representation, Matrix -/
def arrK (c : Nat) : Nat := if c = 8 then 103 else if c = 6 then 104 else if c = 2 then 105 else 0
def q_aast (ls st : List MV) (m : Mem) : Option Out := match st with
  | .inr (.inr (.inl v)) :: .inl i :: .inr (.inr (.inl k)) :: r => if 2 ≤ v ∧ arrK (kd m.1 v) = kd m.1 k ∧ (103 ≤ kd m.1 k ∧ kd m.1 k ≤ 105) ∧ 0 ≤ i ∧ i < (ln m.1 k : Int) then oN ls r (setR m.1 k i.toNat v, m.2) else none
  | _ => none
def q_alen (ls st : List MV) (m : Mem) : Option Out := match st with
  | .inr (.inr (.inl k)) :: r => if 100 ≤ kd m.1 k ∧ kd m.1 k ≤ 107 then oN ls (vi (ln m.1 k) :: r) m else none
  | _ => none
def q_new (ci n : Nat) (ls st : List MV) (m : Mem) : Option Out := oN ls (vr (m.1.1.length + 2) :: st) ((m.1.1 ++ [(ci, 0, [])], m.1.2 + n), m.2)
def q_newa (t : Nat) (ls st : List MV) (m : Mem) : Option Out := match st with
  | .inl n :: r => if 0 ≤ n ∧ n < 1000 then oN ls (vr (m.1.1.length + 2) :: r) (newE m t n.toNat) else none
  | _ => none
def q_new2 (ls st : List MV) (m : Mem) : Option Out := match st with
  | .inl k :: .inl n :: r => if (0 ≤ n ∧ n < 1000) ∧ 0 ≤ k ∧ k < 1000 then oN ls (vr (m.1.1.length + 2) :: r) (new2E m 106 n.toNat 100 k.toNat) else none
  | _ => none
def q_new3 (ls st : List MV) (m : Mem) : Option Out := match st with
  | .inl c :: .inl b :: .inl a :: r => if (0 ≤ a ∧ a < 1000) ∧ (0 ≤ b ∧ b < 1000) ∧ 0 ≤ c ∧ c < 1000 then oN ls (vr (m.1.1.length + 2) :: r) (new3E m a.toNat b.toNat c.toNat) else none
  | _ => none
def q_invS (n j : Nat) (ls st : List MV) (m : Mem) : Option Out := if n ≤ st.length ∧ catSum (st.drop n) ≤ 8 then oC j (st.take n).reverse ls (st.drop n) m else none
def q_invV (n j ci : Nat) (ls st : List MV) (m : Mem) : Option Out := match (st.take n).reverse with
  | .inr (.inr (.inl k)) :: _ => if (n ≤ st.length ∧ kd m.1 k = ci) ∧ catSum (st.drop n) ≤ 8 then oC j (st.take n).reverse ls (st.drop n) m else none
  | _ => none
def q_drop1 (ls st : List MV) (m : Mem) : Option Out := match st with
  | .inr (.inr (.inl k)) :: r => if 2 ≤ k ∧ catSum r ≤ 8 then oN ls r m else none
  | _ => none
def q_cpy (ls st : List MV) (m : Mem) : Option Out := match st with
  | .inl n :: .inl dp :: .inr (.inr (.inl b)) :: .inl sp :: .inr (.inr (.inl a)) :: r => if ((kd m.1 a = 100 ∧ kd m.1 b = 100) ∧ (0 ≤ n ∧ 0 ≤ dp ∧ 0 ≤ sp) ∧ sp + n ≤ (ln m.1 a : Int) ∧ dp + n ≤ (ln m.1 b : Int)) ∧ catSum r ≤ 8 then oN ls r (m.1, cpy m.2 a sp.toNat b dp.toNat n.toNat) else none
  | _ => none
def q_mm (mx : Bool) (ls st : List MV) (m : Mem) : Option Out := match st with
  | .inl y :: .inl x :: r => if catSum r ≤ 8 then oN ls (vi (if mx = true then (if x < y then y else x) else (if y < x then y else x)) :: r) m else none
  | _ => none
def q_ret (ls st : List MV) (m : Mem) : Option Out := match st with
  | [.inl x] => oR (some (vi x)) m
  | _ => none
def q_zret (ls st : List MV) (m : Mem) : Option Out := match st with
  | [.inl x] => if x = 0 ∨ x = 1 then oR (some (vi x)) m else none
  | _ => none
def q_cret (ls st : List MV) (m : Mem) : Option Out := match st with
  | [.inl x] => if 0 ≤ x ∧ x < 65536 then oR (some (vi x)) m else none
  | _ => none
def q_vret (ls st : List MV) (m : Mem) : Option Out := match st with
  | [] => oR none m
  | _ => none
def q_dup (ls st : List MV) (m : Mem) : Option Out := match st with
  | v :: r => (match v with | .inl _ => oN ls (v :: v :: r) m | .inr (.inr (.inl _)) => oN ls (v :: v :: r) m | _ => none)
  | _ => none
def q_pop (ls st : List MV) (m : Mem) : Option Out := match st with
  | v :: r => (match v with | .inl _ => oN ls r m | .inr (.inr (.inl _)) => oN ls r m | _ => none)
  | _ => none
def i_and (x y : Int) : Int := (Int32.ofInt x &&& Int32.ofInt y).toInt
def i_shr (x y : Int) : Int := (Int32.ofInt x >>> (Int32.ofInt y &&& 31)).toInt
def i_ushr (x y : Int) : Int := (((Int32.ofInt x).toUInt32 >>> ((Int32.ofInt y).toUInt32 &&& Int32.toUInt32 31)).toInt32).toInt
def l_and (x y : Int) : Int := (Int64.ofInt x &&& Int64.ofInt y).toInt
def l_or (x y : Int) : Int := (Int64.ofInt x ||| Int64.ofInt y).toInt
def l_shl (x y : Int) : Int := (Int64.ofInt x <<< ((Int32.ofInt y).toInt64 &&& 63)).toInt
def step1 (o : Op) (ls st : List MV) (m : Mem) : Option Out := match o.1 with
  | 0 => oN ls (vi o.2.1 :: st) m
  | 1 => oN ls (vl o.2.1 :: st) m
  | 2 => q_iload o.2.2.1 ls st m
  | 3 => q_lload o.2.2.1 ls st m
  | 4 => q_aload o.2.2.1 ls st m
  | 5 => q_istore o.2.2.1 ls st m
  | 6 => q_lstore o.2.2.1 ls st m
  | 7 => q_astore o.2.2.1 ls st m
  | 8 => q_iinc o.2.2.1 o.2.1 ls st m
  | 9 => q_ii (fun x y => some (w32 (x + y))) ls st m
  | 10 => q_ii (fun x y => some (w32 (x - y))) ls st m
  | 11 => q_ii (fun x y => some (w32 (x * y))) ls st m
  | 12 => q_ii (fun x y => if y = 0 then none else some (w32 (x.tdiv y))) ls st m
  | 13 => q_ii (fun x y => if y = 0 then none else some (x.tmod y)) ls st m
  | 14 => q_ii (fun x y => some (i_and x y)) ls st m
  | 15 => q_ii (fun x y => some (i_shr x y)) ls st m
  | 16 => q_ii (fun x y => some (i_ushr x y)) ls st m
  | 17 => q_ll (fun x y => some (w64 (x + y))) ls st m
  | 18 => q_ll (fun x y => some (w64 (x * y))) ls st m
  | 19 => q_ll (fun x y => if y = 0 then none else some (w64 (x.tdiv y))) ls st m
  | 20 => q_ll (fun x y => if y = 0 then none else some (x.tmod y)) ls st m
  | 21 => q_ll (fun x y => some (l_and x y)) ls st m
  | 22 => q_ll (fun x y => some (l_or x y)) ls st m
  | 23 => q_li l_shl ls st m
  | 24 => q_cmp ls st m
  | 25 => q_i (fun x => vl x) ls st m
  | 26 => q_l (fun x => vi (w32 x)) ls st m
  | 27 => q_i2c ls st m
  | 28 => q_if o.2.1 o.2.2.1 ls st m
  | 29 => q_icmp o.2.1 o.2.2.1 ls st m
  | 30 => oJ o.2.2.1 ls st m
  | 31 => q_swt o.2.2.1 o.2.2.2 ls st m
  | 32 => q_geti o.2.1 o.2.2.1 ls st m
  | 33 => q_getr o.2.1 o.2.2.1 ls st m
  | 34 => q_puti o.2.1 o.2.2.1 ls st m
  | 35 => q_putz o.2.1 o.2.2.1 ls st m
  | 36 => q_putr o.2.1 o.2.2.1 ls st m
  | 37 => q_ald 100 (fun k i => vi (m.2 k i)) ls st m
  | 38 => q_ald 101 (fun k i => vl (m.2 k i)) ls st m
  | 39 => q_ald 102 (fun k i => vi (m.2 k i)) ls st m
  | 40 => q_aald ls st m
  | 41 => q_iast ls st m
  | 42 => q_last ls st m
  | 43 => q_cast ls st m
  | 44 => q_aast ls st m
  | 45 => q_alen ls st m
  | 46 => q_new o.2.2.1 o.2.1.toNat ls st m
  | 47 => q_newa o.2.2.1 ls st m
  | 48 => q_newa o.2.2.1 ls st m
  | 49 => q_new2 ls st m
  | 50 => q_new3 ls st m
  | 51 => q_invS o.2.1.toNat o.2.2.1 ls st m
  | 52 => (match o.2.2.2 with | q :: _ => q_invV o.2.1.toNat o.2.2.1 q.2 ls st m | _ => none)
  | 53 => q_drop1 ls st m
  | 54 => q_cpy ls st m
  | 55 => q_mm true ls st m
  | 56 => q_mm false ls st m
  | 57 => q_ret ls st m
  | 58 => q_zret ls st m
  | 59 => q_vret ls st m
  | 60 => q_dup ls st m
  | 61 => q_pop ls st m
  | 62 => q_cret ls st m
  | 63 => q_sald ls st m
  | 64 => q_slen ls st m
  | _ => none
/-- an instruction's outcome handed on: to the next, to a target, to the caller, to a callee -/
def sem1 (N : List MV → List MV → Mem → Prop) (J : Nat → List MV → List MV → Mem → Prop) (Q : Option MV → Mem → Prop) (C : Nat → List MV → Mem → (Option MV → Mem → Prop) → Prop) (o : Option Out) : Prop := match o with
  | none => False
  | some (.inl x) => N x.1 x.2.1 x.2.2
  | some (.inr (.inl x)) => J x.1 x.2.1 x.2.2.1 x.2.2.2
  | some (.inr (.inr (.inl x))) => Q x.1 x.2
  | some (.inr (.inr (.inr x))) => C x.1 x.2.1 x.2.2.2.2 (fun r m' => N x.2.2.1 (r.toList ++ x.2.2.2.1) m')
abbrev CallP : Type := Nat → List MV → Mem → (Option MV → Mem → Prop) → Prop
def stepX (F : CodeF) (C : CallP) (Q : Option MV → Mem → Prop) (X : Nat → List MV → List MV → Mem → Prop) (pc : Nat) (ls st : List MV) (m : Mem) : Prop := match F pc with
  | none => False
  | some q => sem1 (X (pc + q.1)) X Q C (step1 q.2 ls st m)
/-- from here the method comes to its end, with Q -/
def Run (F : CodeF) (C : CallP) (Q : Option MV → Mem → Prop) (pc : Nat) (ls st : List MV) (m : Mem) : Prop :=
  ∀ X : Nat → List MV → List MV → Mem → Prop, (∀ pc ls st m, stepX F C Q X pc ls st m → X pc ls st m) → X pc ls st m
def padL (as : List MV) (n : Nat) : List MV := (as.flatMap fun v => if isL v = true then [v, vu] else [v]) ++ List.replicate (n - (as.flatMap fun v => if isL v = true then [v, vu] else [v]).length) vu
def CallG (F : Nat → CodeF) (ml : Nat → Nat) : Nat → CallP
  | 0 => fun _ _ _ _ => False
  | d + 1 => fun j as m k => (padL as (ml j)).length = ml j ∧ Run (F j) (CallG F ml d) k 0 (padL as (ml j)) [] m
theorem sem1_mono {N N' : List MV → List MV → Mem → Prop} {J J' : Nat → List MV → List MV → Mem → Prop} {Q Q' : Option MV → Mem → Prop} {C : CallP} (hC : ∀ j as m k k', C j as m k → (∀ r m', k r m' → k' r m') → C j as m k') (hN : ∀ ls st m, N ls st m → N' ls st m) (hJ : ∀ t ls st m, J t ls st m → J' t ls st m) (hQ : ∀ r m, Q r m → Q' r m) {o : Option Out} (h : sem1 N J Q C o) : sem1 N' J' Q' C o := by
  match o, h with
  | some (.inl x), h => exact hN _ _ _ h
  | some (.inr (.inl x)), h => exact hJ _ _ _ _ h
  | some (.inr (.inr (.inl x))), h => exact hQ _ _ h
  | some (.inr (.inr (.inr x))), h => exact hC _ _ _ _ _ h (fun r m' => hN _ _ _)
theorem stepX_mono {F : CodeF} {C : CallP} {Q Q' : Option MV → Mem → Prop} {X X' : Nat → List MV → List MV → Mem → Prop} (hC : ∀ j as m k k', C j as m k → (∀ r m', k r m' → k' r m') → C j as m k') (hX : ∀ pc ls st m, X pc ls st m → X' pc ls st m) (hQ : ∀ r m, Q r m → Q' r m) {pc : Nat} {ls st : List MV} {m : Mem} (h : stepX F C Q X pc ls st m) : stepX F C Q' X' pc ls st m := by
  unfold stepX at h ⊢
  cases hf : F pc with
  | none => rw [hf] at h; exact h
  | some q => rw [hf] at h; exact sem1_mono hC (hX _) hX hQ h
theorem Run.mono {F : CodeF} {C : CallP} {Q Q' : Option MV → Mem → Prop} (hC : ∀ j as m k k', C j as m k → (∀ r m', k r m' → k' r m') → C j as m k') (hQ : ∀ r m, Q r m → Q' r m) {pc : Nat} {ls st : List MV} {m : Mem} (h : Run F C Q pc ls st m) : Run F C Q' pc ls st m := by
  intro X hX
  exact h X (fun pc ls st m hs => hX _ _ _ _ (stepX_mono hC (fun _ _ _ _ h => h) hQ hs))
theorem CallG.mono {F : Nat → CodeF} {ml : Nat → Nat} : ∀ (d : Nat) (j : Nat) (as : List MV) (m : Mem) (k k' : Option MV → Mem → Prop), CallG F ml d j as m k → (∀ r m', k r m' → k' r m') → CallG F ml d j as m k'
  | 0, _, _, _, _, _, h, _ => h
  | d + 1, j, as, m, k, k', h, hk => ⟨h.1, Run.mono (CallG.mono d) hk h.2⟩
theorem Run.fold {F : CodeF} {C : CallP} {Q : Option MV → Mem → Prop} (hC : ∀ j as m k k', C j as m k → (∀ r m', k r m' → k' r m') → C j as m k') {pc : Nat} {ls st : List MV} {m : Mem} (h : stepX F C Q (Run F C Q) pc ls st m) : Run F C Q pc ls st m := by
  intro X hX
  exact hX _ _ _ _ (stepX_mono hC (fun _ _ _ _ h => h X hX) (fun _ _ h => h) h)
/-- one outcome: the run is a function's -/
theorem sem1_det {C : CallP} (hD : ∀ j as m k, C j as m k → ∃ r m', k r m' ∧ C j as m (fun r' m'' => r' = r ∧ m'' = m')) (hC : ∀ j as m k k', C j as m k → (∀ r m', k r m' → k' r m') → C j as m k') {Q : Option MV → Mem → Prop} {Y : (Option MV → Mem → Prop) → Nat → List MV → List MV → Mem → Prop} {pn : Nat} {o : Option Out}
    (h : sem1 (fun ls st m => ∃ r m', Q r m' ∧ Y (fun r' m'' => r' = r ∧ m'' = m') pn ls st m) (fun t ls st m => ∃ r m', Q r m' ∧ Y (fun r' m'' => r' = r ∧ m'' = m') t ls st m) Q C o) : ∃ r m', Q r m' ∧ sem1 (Y (fun r' m'' => r' = r ∧ m'' = m') pn) (Y (fun r' m'' => r' = r ∧ m'' = m')) (fun r' m'' => r' = r ∧ m'' = m') C o := by
  match o, h with
  | some (.inl x), h => exact h
  | some (.inr (.inl x)), h => exact h
  | some (.inr (.inr (.inl x))), h => exact ⟨_, _, h, rfl, rfl⟩
  | some (.inr (.inr (.inr x))), h =>
    obtain ⟨r, m', ⟨r2, m2, hq, hy⟩, hc⟩ := hD _ _ _ _ h
    exact ⟨r2, m2, hq, hC _ _ _ _ _ hc (fun r' m'' e => by obtain ⟨rfl, rfl⟩ := e; exact hy)⟩
theorem Run.det {F : CodeF} {C : CallP} (hD : ∀ j as m k, C j as m k → ∃ r m', k r m' ∧ C j as m (fun r' m'' => r' = r ∧ m'' = m')) (hC : ∀ j as m k k', C j as m k → (∀ r m', k r m' → k' r m') → C j as m k') {Q : Option MV → Mem → Prop} {pc : Nat} {ls st : List MV} {m : Mem} (h : Run F C Q pc ls st m) : ∃ r m', Q r m' ∧ Run F C (fun r' m'' => r' = r ∧ m'' = m') pc ls st m := by
  refine h (fun pc ls st m => ∃ r m', Q r m' ∧ Run F C (fun r' m'' => r' = r ∧ m'' = m') pc ls st m) (fun pc ls st m hs => ?_)
  unfold stepX at hs
  cases hf : F pc with
  | none => rw [hf] at hs; exact hs.elim
  | some q =>
    rw [hf] at hs
    obtain ⟨r, m', hq, h2⟩ := sem1_det (Y := fun Q' => Run F C Q') hD hC (pn := pc + q.1) hs
    exact ⟨r, m', hq, Run.fold hC (by unfold stepX; rw [hf]; exact h2)⟩
theorem CallG.det {F : Nat → CodeF} {ml : Nat → Nat} : ∀ (d : Nat) (j : Nat) (as : List MV) (m : Mem) (k : Option MV → Mem → Prop), CallG F ml d j as m k → ∃ r m', k r m' ∧ CallG F ml d j as m (fun r' m'' => r' = r ∧ m'' = m')
  | 0, _, _, _, _, h => h.elim
  | d + 1, _, _, _, _, h => by
    obtain ⟨r, m', h1, h2⟩ := Run.det (CallG.det d) (CallG.mono d) h.2
    exact ⟨r, m', h1, h.1, h2⟩
