/-! THE CONSTRUCTORS: an evaluator with a table of those already known -/
theorem evO_rl {gs : Shp} {N : Nat} {o : Op} {ls st : List MV} {g : Shp × Nat} {W : Wr} {D : Dat} {e : Ev} (hb : o.2.1 ≠ 999) (h : evO o ls st g W = some e) : step1 o (ls.map (rlV gs.length)) (st.map (rlV gs.length)) (rlG gs N g, apW (rlW gs.length W) D) = some (outE D (rlE gs N e)) := by
  obtain ⟨c, a, f, t⟩ := o
  unfold evO at h
  split at h
  · rename_i hc
    obtain rfl : c = 34 := hc
    show q_puti a f (ls.map (rlV gs.length)) (st.map (rlV gs.length)) (rlG gs N g, apW (rlW gs.length W) D) = _
    unfold evW at h
    unfold q_puti
    rcases st with _ | ⟨x | x | x | x, _ | ⟨y | y | y | y, r⟩⟩ <;> try (cases h; done)
    simp only [List.map_cons, rlV] at h ⊢
    split at h
    · rename_i hk
      rw [decide_eq_true_eq] at hk
      obtain rfl := Option.some.inj h
      rw [kd_rl, if_pos hk]
      rfl
    · cases h
  · rename_i hc
    obtain rfl : c = 35 := hc
    show q_putz a f (ls.map (rlV gs.length)) (st.map (rlV gs.length)) (rlG gs N g, apW (rlW gs.length W) D) = _
    unfold q_putz
    rcases st with _ | ⟨x | x | x | x, _ | ⟨y | y | y | y, r⟩⟩ <;> try (cases h; done)
    simp only [List.map_cons, rlV] at h ⊢
    split at h
    · rename_i hk
      obtain rfl := Option.some.inj h
      rw [kd_rl, if_pos hk]
      rfl
    · cases h
  · rename_i hc
    obtain rfl : c = 41 := hc
    show q_iast (ls.map (rlV gs.length)) (st.map (rlV gs.length)) (rlG gs N g, apW (rlW gs.length W) D) = _
    unfold q_iast
    rcases st with _ | ⟨z | z | z | z, _ | ⟨x | x | x | x, _ | ⟨y | y | y | y, r⟩⟩⟩ <;> try (cases h; done)
    simp only [List.map_cons, rlV] at h ⊢
    split at h
    · rename_i hk
      obtain rfl := Option.some.inj h
      have h2 : 2 ≤ y := kd_ge2 (g := g) (by omega)
      rw [kd_rl, ln_rl h2, if_pos hk]
      rfl
    · cases h
  · rename_i hc
    obtain rfl : c = 0 := hc
    exact rt_of (F := fun ls st m => step1 (0, a, f, t) ls st m) (fun o ho D2 => by obtain rfl := Option.some.inj ho; rfl) h
  · rename_i hc
    obtain rfl : c = 2 := hc
    exact rt_of (F := fun ls st m => step1 (2, a, f, t) ls st m) (fun o ho D2 => rl_2 (a := f) ho) h
  · rename_i hc
    obtain rfl : c = 4 := hc
    exact rt_of (F := fun ls st m => step1 (4, a, f, t) ls st m) (fun o ho D2 => rl_4 (a := f) ho) h
  · rename_i hc
    obtain rfl : c = 5 := hc
    exact rt_of (F := fun ls st m => step1 (5, a, f, t) ls st m) (fun o ho D2 => rl_5 (a := f) ho) h
  · rename_i hc
    obtain rfl : c = 7 := hc
    exact rt_of (F := fun ls st m => step1 (7, a, f, t) ls st m) (fun o ho D2 => rl_7 (a := f) ho) h
  · rename_i hc
    obtain rfl : c = 8 := hc
    exact rt_of (F := fun ls st m => step1 (8, a, f, t) ls st m) (fun o ho D2 => rl_8 (a := f) (b := a) ho) h
  · rename_i hc
    obtain rfl : c = 29 := hc
    exact rt_of (F := fun ls st m => step1 (29, a, f, t) ls st m) (fun o ho D2 => rl_29 (a := f) (b := a) ho) h
  · rename_i hc
    obtain rfl : c = 30 := hc
    exact rt_of (F := fun ls st m => step1 (30, a, f, t) ls st m) (fun o ho D2 => by obtain rfl := Option.some.inj ho; rfl) h
  · rename_i hc
    obtain rfl : c = 33 := hc
    exact rt_of (F := fun ls st m => step1 (33, a, f, t) ls st m) (fun o ho D2 => rl_33 (a := f) (b := a) hb ho) h
  · rename_i hc
    obtain rfl : c = 36 := hc
    exact rt_of (F := fun ls st m => step1 (36, a, f, t) ls st m) (fun o ho D2 => rl_36 (a := f) (b := a) hb ho) h
  · rename_i hc
    obtain rfl : c = 40 := hc
    exact rt_of (F := fun ls st m => step1 (40, a, f, t) ls st m) (fun o ho D2 => rl_40 ho) h
  · rename_i hc
    obtain rfl : c = 44 := hc
    exact rt_of (F := fun ls st m => step1 (44, a, f, t) ls st m) (fun o ho D2 => rl_44 ho) h
  · rename_i hc
    obtain rfl : c = 46 := hc
    exact rt_of (F := fun ls st m => step1 (46, a, f, t) ls st m) (fun o ho D2 => rl_46 (a := f) (a2 := a.toNat) ho) h
  · rename_i hc
    obtain rfl : c = 47 := hc
    exact rt_of (F := fun ls st m => step1 (47, a, f, t) ls st m) (fun o ho D2 => rl_47 (a := f) ho) h
  · rename_i hc
    obtain rfl : c = 48 := hc
    exact rt_of (F := fun ls st m => step1 (48, a, f, t) ls st m) (fun o ho D2 => rl_47 (a := f) ho) h
  · rename_i hc
    obtain rfl : c = 49 := hc
    exact rt_of (F := fun ls st m => step1 (49, a, f, t) ls st m) (fun o ho D2 => rl_49 ho) h
  · rename_i hc
    obtain rfl : c = 50 := hc
    exact rt_of (F := fun ls st m => step1 (50, a, f, t) ls st m) (fun o ho D2 => rl_50 ho) h
  · rename_i hc
    obtain rfl : c = 52 := hc
    refine rt_of (F := fun ls st m => step1 (52, a, f, t) ls st m) (fun o ho D2 => ?_) h
    cases t with
    | nil => cases ho
    | cons q r => exact rl_52 (a := a.toNat) (a2 := f) (c := q.2) ho
  · rename_i hc
    obtain rfl : c = 53 := hc
    exact rt_of (F := fun ls st m => step1 (53, a, f, t) ls st m) (fun o ho D2 => rl_53 ho) h
  · rename_i hc
    obtain rfl : c = 59 := hc
    exact rt_of (F := fun ls st m => step1 (59, a, f, t) ls st m) (fun o ho D2 => rl_59 (ls := ls) ho) h
  · rename_i hc
    obtain rfl : c = 60 := hc
    exact rt_of (F := fun ls st m => step1 (60, a, f, t) ls st m) (fun o ho D2 => rl_60 ho) h
  · cases h
/-- method, class, shape, slots, writes -/
abbrev Mk : Type := Nat × Nat × Shp × Nat × Wr
def MkOK (dd : Nat) (q : Mk) : Prop := ∀ (gs : Shp) (n : Nat) (D : Dat) (e : Nat) (k : Option MV → Mem → Prop), k none ((gs ++ rlS gs.length q.2.2.1, n + q.2.2.2.1), apW (rlW gs.length q.2.2.2.2) D) → CG (dd + e) q.1 [vr (gs.length + 2)] ((gs ++ [(q.2.1, 0, [])], n), D) k
theorem MkOK.up {dd dd' : Nat} {q : Mk} (h : MkOK dd q) (hd : dd ≤ dd') : MkOK dd' q := by
  intro gs n D e k hk
  obtain ⟨c, rfl⟩ := Nat.exists_eq_add_of_le hd
  rw [Nat.add_assoc]
  exact h gs n D (c + e) k hk
theorem rlN_rl {a b k : Nat} : rlN a (rlN b k) = rlN (a + b) k := by
  rcases Nat.lt_or_ge k 2 with h | h
  · rw [rlN_1 h, rlN_1 h, rlN_1 h]
  · rw [rlN_2 h, rlN_2 h, rlN_2 (by omega)]; omega
theorem rlS_rl {a b : Nat} {t : Shp} : rlS a (rlS b t) = rlS (a + b) t := by
  unfold rlS
  rw [List.map_map]
  congr 1
  funext q
  show (q.1, q.2.1, (q.2.2.map (rlN b)).map (rlN a)) = (q.1, q.2.1, q.2.2.map (rlN (a + b)))
  rw [List.map_map]
  congr 3
  funext k
  exact rlN_rl
theorem rlW_rl {a b : Nat} {W : Wr} : rlW a (rlW b W) = rlW (a + b) W := by
  unfold rlW
  rw [List.map_map]
  congr 1
  funext q
  show (rlN a (rlN b q.1), q.2) = (rlN (a + b) q.1, q.2)
  rw [rlN_rl]
theorem rlW_app {a : Nat} {W W' : Wr} : rlW a (W ++ W') = rlW a W ++ rlW a W' := List.map_append ..
theorem rlS_len {a : Nat} {t : Shp} : (rlS a t).length = t.length := List.length_map ..
theorem apW_app {W W' : Wr} {D : Dat} : apW (W ++ W') D = apW W (apW W' D) := List.foldr_append ..
/-- a constructor's call, by the table -/
def tbl (T : List Mk) (j : Nat) (as : List MV) (g : Shp × Nat) (W : Wr) : Option ((Shp × Nat) × Wr) := match T with
  | [] => none
  | q :: r => if q.1 = j then (if as = [vr (g.1.length - 1 + 2)] ∧ g.1.drop (g.1.length - 1) = [(q.2.1, 0, [])] then some ((g.1.take (g.1.length - 1) ++ rlS (g.1.length - 1) q.2.2.1, g.2 + q.2.2.2.1), rlW (g.1.length - 1) q.2.2.2.2 ++ W) else none) else tbl r j as g W
theorem tbl_ok {dd : Nat} {gs : Shp} {N j : Nat} {as : List MV} {g : Shp × Nat} {W : Wr} {y : (Shp × Nat) × Wr} {D : Dat} {e : Nat} {k : Option MV → Mem → Prop} : ∀ (T : List Mk), (∀ q ∈ T, MkOK dd q) → tbl T j as g W = some y → k none (rlG gs N y.1, apW (rlW gs.length y.2) D) → CG (dd + e) j (as.map (rlV gs.length)) (rlG gs N g, apW (rlW gs.length W) D) k := by
  intro T hT
  induction T with
  | nil => intro h; cases h
  | cons q r ih =>
    intro h hk
    unfold tbl at h
    split at h
    · rename_i hj
      split at h
      · rename_i ha
        obtain rfl := Option.some.inj h
        subst hj
        obtain ⟨rfl, hl⟩ := ha
        obtain ⟨t, n⟩ := g
        dsimp only at hl hk ⊢
        have hs : t = t.take (t.length - 1) ++ [(q.2.1, 0, [])] := by
          rw [← hl]; exact (List.take_append_drop _ _).symm
        have hn : (t.take (t.length - 1)).length = t.length - 1 := by
          rw [List.length_take]; omega
        generalize ht : t.take (t.length - 1) = u at hs hn hk
        generalize t.length - 1 = m at hn hk ⊢
        subst hn
        subst hs
        have key := hT q (List.mem_cons_self ..) (gs ++ rlS gs.length u) (N + n) (apW (rlW gs.length W) D) e k
        have e1 : (gs ++ rlS gs.length u).length = gs.length + u.length := by rw [List.length_append, rlS_len]
        rw [e1] at key
        have e2 : (gs ++ rlS gs.length u) ++ rlS (gs.length + u.length) q.2.2.1 = gs ++ rlS gs.length (u ++ rlS u.length q.2.2.1) := by
          rw [rlS_app, rlS_rl, List.append_assoc]
        have e3 : apW (rlW (gs.length + u.length) q.2.2.2.2) (apW (rlW gs.length W) D) = apW (rlW gs.length (rlW u.length q.2.2.2.2 ++ W)) D := by
          rw [rlW_app, rlW_rl, apW_app]
        have e4 : rlG gs N (u ++ [(q.2.1, 0, [])], n) = ((gs ++ rlS gs.length u) ++ [(q.2.1, 0, [])], N + n) := by
          unfold rlG
          dsimp only
          rw [rlS_app, List.append_assoc]
          rfl
        have e5 : [vr (u.length + 2)].map (rlV gs.length) = [vr (gs.length + u.length + 2)] := by
          show [vr (rlN gs.length (u.length + 2))] = _
          rw [rlN_2 (by omega), show u.length + 2 + gs.length = gs.length + u.length + 2 by omega]
        rw [e5, e4]
        refine key ?_
        rw [e2, e3, Nat.add_assoc]
        exact hk
      · cases h
    · exact ih (fun q hq => hT q (List.mem_cons_of_mem _ hq)) h hk
/-- the list's own cells made before going on -/
def fzL {α β : Type} : List α → (List α → β) → β
  | [], k => k []
  | x :: r, k => fzL r (fun s => k (x :: s))
theorem fzL_eq {α β : Type} : ∀ (l : List α) (k : List α → β), fzL l k = k l := by
  intro l
  induction l with
  | nil => intro k; rfl
  | cons x r ih => intro k; exact ih _
/-- what a call does to shape and writes -/
abbrev Rsv : Type := Nat → List MV → (Shp × Nat) → Wr → Option ((Shp × Nat) × Wr)
def ROK (dd : Nat) (R : Rsv) : Prop := ∀ (gs : Shp) (N j : Nat) (as : List MV) (g : Shp × Nat) (W : Wr) (y : (Shp × Nat) × Wr) (D : Dat) (e : Nat) (k : Option MV → Mem → Prop), R j as g W = some y → k none (rlG gs N y.1, apW (rlW gs.length y.2) D) → CG (dd + e) j (as.map (rlV gs.length)) (rlG gs N g, apW (rlW gs.length W) D) k
theorem ROK.tb {dd : Nat} {T : List Mk} (hT : ∀ q ∈ T, MkOK dd q) : ROK dd (tbl T) := fun _ _ _ _ _ _ _ _ _ _ h hk => tbl_ok T hT h hk
/-- f steps at most, every call by R -/
def evT (R : Rsv) : Nat → Nat → Nat → List MV → List MV → (Shp × Nat) → Wr → Option (Option MV × (Shp × Nat) × Wr)
  | 0, _, _, _, _, _, _ => none
  | f + 1, j, pc, ls, st, g, W => match FC j pc with
    | none => none
    | some q => if q.2.2.1 = 999 then none else match evO q.2 ls st g W with
      | none => none
      | some (.inl x) => evT R f j (pc + q.1) x.1 x.2.1 x.2.2.1 x.2.2.2
      | some (.inr (.inl x)) => evT R f j x.1 x.2.1 x.2.2.1 x.2.2.2.1 x.2.2.2.2
      | some (.inr (.inr (.inl x))) => some x
      | some (.inr (.inr (.inr x))) => match R x.1 x.2.1 x.2.2.2.2.1 x.2.2.2.2.2 with
        | none => none
        | some y => fzL y.1.1 fun s => evT R f j (pc + q.1) x.2.2.1 x.2.2.2.1 (s, y.1.2) y.2
theorem evT_ok {R : Rsv} {dd : Nat} (hR : ROK dd R) {gs : Shp} {N : Nat} : ∀ (f j pc : Nat) (ls st : List MV) (g : Shp × Nat) (W : Wr) (y : Option MV × (Shp × Nat) × Wr) (D : Dat) (e : Nat) (k : Option MV → Mem → Prop), evT R f j pc ls st g W = some y → k (y.1.map (rlV gs.length)) (rlG gs N y.2.1, apW (rlW gs.length y.2.2) D) → Rn (dd + e) j k pc (ls.map (rlV gs.length)) (st.map (rlV gs.length)) (rlG gs N g, apW (rlW gs.length W) D) := by
  intro f
  induction f with
  | zero => intro j pc ls st g W y D e k h; cases h
  | succ f ih =>
    intro j pc ls st g W y D e k h hk
    unfold evT at h
    unfold Rn
    rw [Run_eq (CallG.mono (dd + e))]
    unfold stepX
    cases hq : FC j pc with
    | none => rw [hq] at h; cases h
    | some q =>
      rw [hq] at h
      dsimp only at h ⊢
      split at h
      · cases h
      rename_i hb
      cases ho : evO q.2 ls st g W with
      | none => rw [ho] at h; cases h
      | some o =>
        rw [ho] at h
        rw [evO_rl hb ho]
        rcases o with x | x | x | x
        · exact ih j _ _ _ _ _ y D e k h hk
        · exact ih j _ _ _ _ _ y D e k h hk
        · obtain rfl := Option.some.inj h
          exact hk
        · dsimp only at h
          split at h
          · cases h
          · rename_i z hz
            rw [fzL_eq] at h
            exact hR _ _ _ _ _ _ _ _ _ _ hz (ih j _ _ _ _ _ y D e k h hk)
theorem padL_rl {n m : Nat} {as : List MV} : padL (as.map (rlV n)) m = (padL as m).map (rlV n) := by
  have e : ∀ l : List MV, ((l.map (rlV n)).flatMap fun v => if isL v = true then [v, vu] else [v]) = (l.flatMap fun v => if isL v = true then [v, vu] else [v]).map (rlV n) := by
    intro l
    induction l with
    | nil => rfl
    | cons v r ih =>
      rw [List.map_cons, List.flatMap_cons, List.flatMap_cons, List.map_append, ih, isL_rl]
      split
      · rfl
      · rfl
  unfold padL
  rw [e, List.map_append, List.map_replicate, List.length_map]
  rfl
/-- a method of the class itself, run at the call -/
def rsub (R : Rsv) (f : Nat) : Rsv := fun j as g W => if (padL as (Yl j)).length = Yl j then (match evT R f j 0 (padL as (Yl j)) [] g W with
  | some (none, y) => some y
  | _ => none) else none
theorem ROK.sub {dd : Nat} {R : Rsv} (hR : ROK dd R) {f : Nat} : ROK (dd + 1) (rsub R f) := by
  intro gs N j as g W y D e k h hk
  unfold rsub at h
  split at h
  · rename_i hl
    split at h
    · rename_i z hz
      obtain rfl := Option.some.inj h
      rw [show dd + 1 + e = (dd + e) + 1 by omega]
      show (padL (as.map (rlV gs.length)) (Yl j)).length = Yl j ∧ Rn (dd + e) j k 0 (padL (as.map (rlV gs.length)) (Yl j)) [] _
      rw [padL_rl]
      exact ⟨by rw [List.length_map]; exact hl, evT_ok hR f j 0 _ [] g W _ D e k hz hk⟩
    · cases h
  · cases h
/-- no answer, this shape, these slots and these writes -/
def isMk (t : Shp) (N : Nat) (W : Wr) (y : Option (Option MV × (Shp × Nat) × Wr)) : Bool := match y with
  | some (none, (t', N'), W') => decide (t' = t) && (decide (N' = N) && decide (W' = W))
  | _ => false
theorem isMk_t {t : Shp} {N : Nat} {W : Wr} {y : Option (Option MV × (Shp × Nat) × Wr)} (h : isMk t N W y = true) : y = some (none, (t, N), W) := by
  unfold isMk at h
  split at h
  · rw [Bool.and_eq_true, Bool.and_eq_true, decide_eq_true_eq, decide_eq_true_eq, decide_eq_true_eq] at h
    rw [h.1, h.2.1, h.2.2]
  · cases h
theorem MkOK.of {R : Rsv} {dd : Nat} (hR : ROK dd R) {j ci N f r : Nat} {t : Shp} {W : Wr} (hl : Yl j = r + 1) (hm : isMk t N W (evT R f j 0 (vr 2 :: List.replicate r vu) [] ([(ci, 0, [])], 0) []) = true) : MkOK (dd + 1) (j, ci, t, N, W) := by
  intro gs n D e k hk
  have h := isMk_t hm
  have e0 : ∀ a : Nat, padL [vr a] (r + 1) = vr a :: List.replicate r vu := fun a => rfl
  rw [show dd + 1 + e = (dd + e) + 1 by omega]
  show (padL [vr (gs.length + 2)] (Yl j)).length = Yl j ∧ Rn (dd + e) j k 0 (padL [vr (gs.length + 2)] (Yl j)) [] _
  rw [hl, e0]
  refine ⟨by rw [List.length_cons, List.length_replicate], ?_⟩
  have key := evT_ok hR (gs := gs) (N := n) f j 0 _ _ _ _ _ D e k h hk
  rw [List.map_cons, List.map_replicate] at key
  have e1 : rlV gs.length (vr 2) = vr (gs.length + 2) := by
    show vr (rlN gs.length 2) = _
    rw [rlN_2 (Nat.le_refl 2), Nat.add_comm]
  rw [e1] at key
  exact key
