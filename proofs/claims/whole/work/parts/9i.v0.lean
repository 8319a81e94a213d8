/-! THE CONSTRUCTORS: an evaluator that keeps the writes in a list -/
abbrev Wr : Type := List (Nat × Nat × Int)
def apW (W : Wr) (D : Dat) : Dat := W.foldr (fun q D => upD D q.1 q.2.1 q.2.2) D
abbrev Ev : Type := (List MV × List MV × (Shp × Nat) × Wr) ⊕ (Nat × List MV × List MV × (Shp × Nat) × Wr) ⊕ (Option MV × (Shp × Nat) × Wr) ⊕ (Nat × List MV × List MV × List MV × (Shp × Nat) × Wr)
def outE (D : Dat) : Ev → Out
  | .inl x => .inl (x.1, x.2.1, (x.2.2.1, apW x.2.2.2 D))
  | .inr (.inl x) => .inr (.inl (x.1, x.2.1, x.2.2.1, (x.2.2.2.1, apW x.2.2.2.2 D)))
  | .inr (.inr (.inl x)) => .inr (.inr (.inl (x.1, (x.2.1, apW x.2.2 D))))
  | .inr (.inr (.inr x)) => .inr (.inr (.inr (x.1, x.2.1, x.2.2.1, x.2.2.2.1, (x.2.2.2.2.1, apW x.2.2.2.2.2 D))))
def Dz : Dat := fun _ _ => 0
/-- an outcome with the memory's numbers left aside -/
def wrE (W : Wr) : Out → Ev
  | .inl x => .inl (x.1, x.2.1, x.2.2.1, W)
  | .inr (.inl x) => .inr (.inl (x.1, x.2.1, x.2.2.1, x.2.2.2.1, W))
  | .inr (.inr (.inl x)) => .inr (.inr (.inl (x.1, x.2.1, W)))
  | .inr (.inr (.inr x)) => .inr (.inr (.inr (x.1, x.2.1, x.2.2.1, x.2.2.2.1, x.2.2.2.2.1, W)))
def evW (f : Nat) (W : Wr) (ls st : List MV) (g : Shp × Nat) (c : Nat → Bool) : Option Ev := match st with
  | .inl v :: .inr (.inr (.inl k)) :: r => if c k = true then some (.inl (ls, r, g, (k, f, v) :: W)) else none
  | _ => none
def evO (o : Op) (ls st : List MV) (g : Shp × Nat) (W : Wr) : Option Ev := match o.1 with
  | 34 => evW o.2.2.1 W ls st g (fun k => decide ((kd g k : Int) = o.2.1))
  | 35 => (match st with
    | .inl v :: .inr (.inr (.inl k)) :: r => if (kd g k : Int) = o.2.1 ∧ (v = 0 ∨ v = 1) then some (.inl (ls, r, g, (k, o.2.2.1, v) :: W)) else none
    | _ => none)
  | 41 => (match st with
    | .inl v :: .inl i :: .inr (.inr (.inl k)) :: r => if kd g k = 100 ∧ 0 ≤ i ∧ i < (ln g k : Int) then some (.inl (ls, r, g, (k, i.toNat, v) :: W)) else none
    | _ => none)
  | 0 => (step1 o ls st (g, Dz)).map (wrE W)
  | 2 => (step1 o ls st (g, Dz)).map (wrE W)
  | 4 => (step1 o ls st (g, Dz)).map (wrE W)
  | 5 => (step1 o ls st (g, Dz)).map (wrE W)
  | 7 => (step1 o ls st (g, Dz)).map (wrE W)
  | 8 => (step1 o ls st (g, Dz)).map (wrE W)
  | 29 => (step1 o ls st (g, Dz)).map (wrE W)
  | 30 => (step1 o ls st (g, Dz)).map (wrE W)
  | 33 => (step1 o ls st (g, Dz)).map (wrE W)
  | 36 => (step1 o ls st (g, Dz)).map (wrE W)
  | 40 => (step1 o ls st (g, Dz)).map (wrE W)
  | 44 => (step1 o ls st (g, Dz)).map (wrE W)
  | 46 => (step1 o ls st (g, Dz)).map (wrE W)
  | 47 => (step1 o ls st (g, Dz)).map (wrE W)
  | 48 => (step1 o ls st (g, Dz)).map (wrE W)
  | 49 => (step1 o ls st (g, Dz)).map (wrE W)
  | 50 => (step1 o ls st (g, Dz)).map (wrE W)
  | 52 => (step1 o ls st (g, Dz)).map (wrE W)
  | 53 => (step1 o ls st (g, Dz)).map (wrE W)
  | 59 => (step1 o ls st (g, Dz)).map (wrE W)
  | 60 => (step1 o ls st (g, Dz)).map (wrE W)
  | _ => none
def setD (D : Dat) : Out → Out
  | .inl x => .inl (x.1, x.2.1, (x.2.2.1, D))
  | .inr (.inl x) => .inr (.inl (x.1, x.2.1, x.2.2.1, (x.2.2.2.1, D)))
  | .inr (.inr (.inl x)) => .inr (.inr (.inl (x.1, (x.2.1, D))))
  | .inr (.inr (.inr x)) => .inr (.inr (.inr (x.1, x.2.1, x.2.2.1, x.2.2.2.1, (x.2.2.2.2.1, D))))
theorem outE_wr {D : Dat} {W : Wr} {o : Out} : outE D (wrE W o) = setD (apW W D) o := by
  rcases o with x | x | x | x <;> rfl
theorem nt_of {F : Mem → Option Out} {g : Shp × Nat} {W : Wr} {D : Dat} {e : Ev} (h : ∀ D', F (g, D') = (F (g, Dz)).map (setD D')) (he : (F (g, Dz)).map (wrE W) = some e) : F (g, apW W D) = some (outE D e) := by
  rw [h (apW W D)]
  cases hF : F (g, Dz) with
  | none => rw [hF] at he; cases he
  | some o =>
    rw [hF] at he
    obtain rfl : wrE W o = e := Option.some.inj he
    rw [outE_wr]
    rfl
theorem nd_2 {a a2 : Nat} {b : Int} {ls st : List MV} {g : Shp × Nat} (D : Dat) : q_iload a ls st (g, D) = (q_iload a ls st (g, Dz)).map (setD D) := by
  unfold q_iload
  repeat' (split <;> try rfl)
theorem nd_4 {a a2 : Nat} {b : Int} {ls st : List MV} {g : Shp × Nat} (D : Dat) : q_aload a ls st (g, D) = (q_aload a ls st (g, Dz)).map (setD D) := by
  unfold q_aload
  repeat' (split <;> try rfl)
theorem nd_5 {a a2 : Nat} {b : Int} {ls st : List MV} {g : Shp × Nat} (D : Dat) : q_istore a ls st (g, D) = (q_istore a ls st (g, Dz)).map (setD D) := by
  unfold q_istore
  repeat' (split <;> try rfl)
theorem nd_7 {a a2 : Nat} {b : Int} {ls st : List MV} {g : Shp × Nat} (D : Dat) : q_astore a ls st (g, D) = (q_astore a ls st (g, Dz)).map (setD D) := by
  unfold q_astore
  repeat' (split <;> try rfl)
theorem nd_8 {a a2 : Nat} {b : Int} {ls st : List MV} {g : Shp × Nat} (D : Dat) : q_iinc a b ls st (g, D) = (q_iinc a b ls st (g, Dz)).map (setD D) := by
  unfold q_iinc
  repeat' (split <;> try rfl)
theorem nd_29 {a a2 : Nat} {b : Int} {ls st : List MV} {g : Shp × Nat} (D : Dat) : q_icmp b a ls st (g, D) = (q_icmp b a ls st (g, Dz)).map (setD D) := by
  unfold q_icmp
  repeat' (split <;> try rfl)
theorem nd_33 {a a2 : Nat} {b : Int} {ls st : List MV} {g : Shp × Nat} (D : Dat) : q_getr b a ls st (g, D) = (q_getr b a ls st (g, Dz)).map (setD D) := by
  unfold q_getr
  repeat' (split <;> try rfl)
theorem nd_36 {a a2 : Nat} {b : Int} {ls st : List MV} {g : Shp × Nat} (D : Dat) : q_putr b a ls st (g, D) = (q_putr b a ls st (g, Dz)).map (setD D) := by
  unfold q_putr
  repeat' (split <;> try rfl)
theorem nd_40 {a a2 : Nat} {b : Int} {ls st : List MV} {g : Shp × Nat} (D : Dat) : q_aald  ls st (g, D) = (q_aald  ls st (g, Dz)).map (setD D) := by
  unfold q_aald
  repeat' (split <;> try rfl)
theorem nd_44 {a a2 : Nat} {b : Int} {ls st : List MV} {g : Shp × Nat} (D : Dat) : q_aast  ls st (g, D) = (q_aast  ls st (g, Dz)).map (setD D) := by
  unfold q_aast
  repeat' (split <;> try rfl)
theorem nd_46 {a a2 : Nat} {b : Int} {ls st : List MV} {g : Shp × Nat} (D : Dat) : q_new a a2 ls st (g, D) = (q_new a a2 ls st (g, Dz)).map (setD D) := rfl
theorem nd_47 {a a2 : Nat} {b : Int} {ls st : List MV} {g : Shp × Nat} (D : Dat) : q_newa a ls st (g, D) = (q_newa a ls st (g, Dz)).map (setD D) := by
  unfold q_newa
  repeat' (split <;> try rfl)
theorem nd_49 {a a2 : Nat} {b : Int} {ls st : List MV} {g : Shp × Nat} (D : Dat) : q_new2  ls st (g, D) = (q_new2  ls st (g, Dz)).map (setD D) := by
  unfold q_new2
  repeat' (split <;> try rfl)
theorem nd_50 {a a2 : Nat} {b : Int} {ls st : List MV} {g : Shp × Nat} (D : Dat) : q_new3  ls st (g, D) = (q_new3  ls st (g, Dz)).map (setD D) := by
  unfold q_new3
  repeat' (split <;> try rfl)
theorem nd_53 {a a2 : Nat} {b : Int} {ls st : List MV} {g : Shp × Nat} (D : Dat) : q_drop1  ls st (g, D) = (q_drop1  ls st (g, Dz)).map (setD D) := by
  unfold q_drop1
  repeat' (split <;> try rfl)
theorem nd_59 {a a2 : Nat} {b : Int} {ls st : List MV} {g : Shp × Nat} (D : Dat) : q_vret  ls st (g, D) = (q_vret  ls st (g, Dz)).map (setD D) := by
  unfold q_vret
  repeat' (split <;> try rfl)
theorem nd_60 {a a2 : Nat} {b : Int} {ls st : List MV} {g : Shp × Nat} (D : Dat) : q_dup  ls st (g, D) = (q_dup  ls st (g, Dz)).map (setD D) := by
  unfold q_dup
  repeat' (split <;> try rfl)
theorem nd_30 {a : Nat} {ls st : List MV} {g : Shp × Nat} (D : Dat) : oJ a ls st (g, D) = (oJ a ls st (g, Dz)).map (setD D) := rfl
theorem nd_0 {b : Int} {ls st : List MV} {g : Shp × Nat} (D : Dat) : oN ls (vi b :: st) (g, D) = (oN ls (vi b :: st) (g, Dz)).map (setD D) := rfl
theorem nd_52 {o : Op} {ls st : List MV} {g : Shp × Nat} (D : Dat) (h : o.1 = 52) : step1 o ls st (g, D) = (step1 o ls st (g, Dz)).map (setD D) := by
  obtain ⟨c, a, f, t⟩ := o
  obtain rfl : c = 52 := h
  cases t with
  | nil => rfl
  | cons q r =>
    show q_invV a.toNat f q.2 ls st (g, D) = (q_invV a.toNat f q.2 ls st (g, Dz)).map (setD D)
    unfold q_invV
    repeat' (split <;> try rfl)
theorem evO_ok {o : Op} {ls st : List MV} {g : Shp × Nat} {W : Wr} {D : Dat} {e : Ev} (h : evO o ls st g W = some e) : step1 o ls st (g, apW W D) = some (outE D e) := by
  obtain ⟨c, a, f, t⟩ := o
  unfold evO at h
  split at h
  · rename_i hc
    obtain rfl : c = 34 := hc
    show q_puti a f ls st (g, apW W D) = _
    unfold evW at h
    unfold q_puti
    split at h
    · split at h
      · rename_i hk
        rw [decide_eq_true_eq] at hk
        obtain rfl := Option.some.inj h
        show (if _ then _ else _) = _
        rw [if_pos hk]
        rfl
      · cases h
    · cases h
  · rename_i hc
    obtain rfl : c = 35 := hc
    show q_putz a f ls st (g, apW W D) = _
    unfold q_putz
    split at h
    · split at h
      · rename_i hk
        obtain rfl := Option.some.inj h
        show (if _ then _ else _) = _
        rw [if_pos hk]
        rfl
      · cases h
    · cases h
  · rename_i hc
    obtain rfl : c = 41 := hc
    show q_iast ls st (g, apW W D) = _
    unfold q_iast
    split at h
    · split at h
      · rename_i hk
        obtain rfl := Option.some.inj h
        show (if _ then _ else _) = _
        rw [if_pos hk]
        rfl
      · cases h
    · cases h
  · rename_i hc
    obtain rfl : c = 0 := hc
    exact nt_of (F := fun m => step1 (0, a, f, t) ls st m) (fun D' => nd_0 D') h
  · rename_i hc
    obtain rfl : c = 2 := hc
    exact nt_of (F := fun m => step1 (2, a, f, t) ls st m) (fun D' => nd_2 (a := f) (a2 := 0) (b := a) D') h
  · rename_i hc
    obtain rfl : c = 4 := hc
    exact nt_of (F := fun m => step1 (4, a, f, t) ls st m) (fun D' => nd_4 (a := f) (a2 := 0) (b := a) D') h
  · rename_i hc
    obtain rfl : c = 5 := hc
    exact nt_of (F := fun m => step1 (5, a, f, t) ls st m) (fun D' => nd_5 (a := f) (a2 := 0) (b := a) D') h
  · rename_i hc
    obtain rfl : c = 7 := hc
    exact nt_of (F := fun m => step1 (7, a, f, t) ls st m) (fun D' => nd_7 (a := f) (a2 := 0) (b := a) D') h
  · rename_i hc
    obtain rfl : c = 8 := hc
    exact nt_of (F := fun m => step1 (8, a, f, t) ls st m) (fun D' => nd_8 (a := f) (a2 := 0) (b := a) D') h
  · rename_i hc
    obtain rfl : c = 29 := hc
    exact nt_of (F := fun m => step1 (29, a, f, t) ls st m) (fun D' => nd_29 (a := f) (a2 := 0) (b := a) D') h
  · rename_i hc
    obtain rfl : c = 30 := hc
    exact nt_of (F := fun m => step1 (30, a, f, t) ls st m) (fun D' => nd_30 D') h
  · rename_i hc
    obtain rfl : c = 33 := hc
    exact nt_of (F := fun m => step1 (33, a, f, t) ls st m) (fun D' => nd_33 (a := f) (a2 := 0) (b := a) D') h
  · rename_i hc
    obtain rfl : c = 36 := hc
    exact nt_of (F := fun m => step1 (36, a, f, t) ls st m) (fun D' => nd_36 (a := f) (a2 := 0) (b := a) D') h
  · rename_i hc
    obtain rfl : c = 40 := hc
    exact nt_of (F := fun m => step1 (40, a, f, t) ls st m) (fun D' => nd_40 (a := f) (a2 := 0) (b := a) D') h
  · rename_i hc
    obtain rfl : c = 44 := hc
    exact nt_of (F := fun m => step1 (44, a, f, t) ls st m) (fun D' => nd_44 (a := f) (a2 := 0) (b := a) D') h
  · rename_i hc
    obtain rfl : c = 46 := hc
    exact nt_of (F := fun m => step1 (46, a, f, t) ls st m) (fun D' => nd_46 (a := f) (a2 := a.toNat) (b := 0) D') h
  · rename_i hc
    obtain rfl : c = 47 := hc
    exact nt_of (F := fun m => step1 (47, a, f, t) ls st m) (fun D' => nd_47 (a := f) (a2 := 0) (b := a) D') h
  · rename_i hc
    obtain rfl : c = 48 := hc
    exact nt_of (F := fun m => step1 (48, a, f, t) ls st m) (fun D' => nd_47 (a := f) (a2 := 0) (b := a) D') h
  · rename_i hc
    obtain rfl : c = 49 := hc
    exact nt_of (F := fun m => step1 (49, a, f, t) ls st m) (fun D' => nd_49 (a := f) (a2 := 0) (b := a) D') h
  · rename_i hc
    obtain rfl : c = 50 := hc
    exact nt_of (F := fun m => step1 (50, a, f, t) ls st m) (fun D' => nd_50 (a := f) (a2 := 0) (b := a) D') h
  · rename_i hc
    exact nt_of (F := fun m => step1 (c, a, f, t) ls st m) (fun D' => nd_52 D' hc) h
  · rename_i hc
    obtain rfl : c = 53 := hc
    exact nt_of (F := fun m => step1 (53, a, f, t) ls st m) (fun D' => nd_53 (a := f) (a2 := 0) (b := a) D') h
  · rename_i hc
    obtain rfl : c = 59 := hc
    exact nt_of (F := fun m => step1 (59, a, f, t) ls st m) (fun D' => nd_59 (a := f) (a2 := 0) (b := a) (ls := ls) D') h
  · rename_i hc
    obtain rfl : c = 60 := hc
    exact nt_of (F := fun m => step1 (60, a, f, t) ls st m) (fun D' => nd_60 (a := f) (a2 := 0) (b := a) D') h
  · cases h
/-- f steps at most, d calls deep at most -/
def ev : Nat → Nat → Nat → Nat → List MV → List MV → (Shp × Nat) → Wr → Option (Option MV × (Shp × Nat) × Wr)
  | 0, _, _, _, _, _, _, _ => none
  | f + 1, d, j, pc, ls, st, g, W => match FC j pc with
    | none => none
    | some q => match evO q.2 ls st g W with
      | none => none
      | some (.inl x) => ev f d j (pc + q.1) x.1 x.2.1 x.2.2.1 x.2.2.2
      | some (.inr (.inl x)) => ev f d j x.1 x.2.1 x.2.2.1 x.2.2.2.1 x.2.2.2.2
      | some (.inr (.inr (.inl x))) => some x
      | some (.inr (.inr (.inr x))) => match d with
        | 0 => none
        | d' + 1 => if (padL x.2.1 (Yl x.1)).length = Yl x.1 then (match ev f d' x.1 0 (padL x.2.1 (Yl x.1)) [] x.2.2.2.2.1 x.2.2.2.2.2 with
          | none => none
          | some y => ev f (d' + 1) j (pc + q.1) x.2.2.1 (y.1.toList ++ x.2.2.2.1) y.2.1 y.2.2) else none
theorem ev_ok : ∀ (f d j pc : Nat) (ls st : List MV) (g : Shp × Nat) (W : Wr) (y : Option MV × (Shp × Nat) × Wr) (D : Dat) (e : Nat) (k : Option MV → Mem → Prop), ev f d j pc ls st g W = some y → k y.1 (y.2.1, apW y.2.2 D) → Rn (d + e) j k pc ls st (g, apW W D) := by
  intro f
  induction f with
  | zero => intro d j pc ls st g W y D e k h; cases h
  | succ f ih =>
    intro d j pc ls st g W y D e k h hk
    unfold ev at h
    unfold Rn
    rw [Run_eq (CallG.mono (d + e))]
    unfold stepX
    cases hq : FC j pc with
    | none => rw [hq] at h; cases h
    | some q =>
      rw [hq] at h
      dsimp only at h ⊢
      cases ho : evO q.2 ls st g W with
      | none => rw [ho] at h; cases h
      | some o =>
        rw [ho] at h
        rw [evO_ok ho]
        rcases o with x | x | x | x
        · exact ih d j _ _ _ _ _ y D e k h hk
        · exact ih d j _ _ _ _ _ y D e k h hk
        · obtain rfl := Option.some.inj h
          exact hk
        · cases d with
          | zero => cases h
          | succ d' =>
            dsimp only at h
            split at h
            · rename_i hl
              split at h
              · cases h
              · rename_i z hz
                rw [show d' + 1 + e = (d' + e) + 1 by omega]
                refine ⟨hl, ih d' x.1 0 _ _ _ _ z D e _ hz ?_⟩
                have := ih (d' + 1) j _ _ _ _ _ y D e k h hk
                rw [show d' + 1 + e = (d' + e) + 1 by omega] at this
                exact this
            · cases h
