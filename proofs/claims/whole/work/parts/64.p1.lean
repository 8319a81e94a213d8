/-! exploring: the kept vectors, their lengths and numbers -/
abbrev Kst : Type := Nat × (Nat → Nat → Int) × (Nat → Nat) × (Nat → Nat)
noncomputable def adm (w : Nat) (v : Nat → Int) (l n : Nat) (S : Kst) : Kst := @ite _ (InSp w S.1 S.2.1 v) (Classical.propDecidable _) S (S.1 + 1, (fun i => if i = S.1 then v else S.2.1 i), (fun i => if i = S.1 then l else S.2.2.1 i), fun i => if i = S.1 then n else S.2.2.2 i)
theorem adm_in {w : Nat} {v : Nat → Int} {l n : Nat} {S : Kst} (h : InSp w S.1 S.2.1 v) : adm w v l n S = S := if_pos h
theorem adm_out {w : Nat} {v : Nat → Int} {l n : Nat} {S : Kst} (h : ¬ InSp w S.1 S.2.1 v) : adm w v l n S = (S.1 + 1, (fun i => if i = S.1 then v else S.2.1 i), (fun i => if i = S.1 then l else S.2.2.1 i), fun i => if i = S.1 then n else S.2.2.2 i) := if_neg h
def emp : Kst := (0, fun _ _ => 0, fun _ => 0, fun _ => 0)
def KI (w : Nat) (S : Kst) : Prop := Ind w S.1 S.2.1 ∧ ∀ i j, i < S.1 → j < w → rs (S.2.1 i j)
theorem KI.emp {w : Nat} : KI w emp := ⟨fun _ _ _ i hi => absurd hi (Nat.not_lt_zero i), fun i _ hi => absurd hi (Nat.not_lt_zero i)⟩
theorem KI.le {w : Nat} {S : Kst} (h : KI w S) : S.1 ≤ w := ind_le _ _ _ h.1
theorem KI.adm {w l n : Nat} {v : Nat → Int} {S : Kst} (h : KI w S) (hv : ∀ j, j < w → rs (v j)) : KI w (adm w v l n S) := by
  by_cases hi : InSp w S.1 S.2.1 v
  · rw [adm_in hi]; exact h
  · rw [adm_out hi]
    have hK : ∀ i j, i < S.1 → j < w → (if i = S.1 then v else S.2.1 i) j = S.2.1 i j := fun i j q _ => by rw [if_neg (by omega)]
    refine ⟨ind_snoc (h.1.fam hK) (fun j hj => ?_) (fun z => hi ?_), fun i j q hj => ?_⟩
    · show rs ((if S.1 = S.1 then v else _) j)
      rw [if_pos rfl]; exact hv j hj
    · have z2 : InSp w S.1 S.2.1 (if S.1 = S.1 then v else S.2.1 S.1) := z.mono (Nat.le_refl _) (fun i j q hj => (hK i j q hj).symm)
      rw [if_pos rfl] at z2
      exact z2
    · show rs ((if i = S.1 then v else S.2.1 i) j)
      by_cases e : i = S.1
      · rw [if_pos e]; exact hv j hj
      · rw [if_neg e]
        have q' : i < S.1 + 1 := q
        exact h.2 i j (by omega) hj
/-- the one is the other's beginning -/
def PR (S T : Kst) : Prop := S.1 ≤ T.1 ∧ ∀ i, i < S.1 → T.2.1 i = S.2.1 i ∧ T.2.2.1 i = S.2.2.1 i ∧ T.2.2.2 i = S.2.2.2 i
theorem PR.refl {S : Kst} : PR S S := ⟨Nat.le_refl _, fun _ _ => ⟨rfl, rfl, rfl⟩⟩
theorem PR.trans {S T U : Kst} (h : PR S T) (h' : PR T U) : PR S U := ⟨Nat.le_trans h.1 h'.1, fun i hi => by
  have a := h.2 i hi
  have c := h'.2 i (Nat.lt_of_lt_of_le hi h.1)
  exact ⟨c.1.trans a.1, c.2.1.trans a.2.1, c.2.2.trans a.2.2⟩⟩
theorem PR.adm {w l n : Nat} {v : Nat → Int} {S : Kst} : PR S (adm w v l n S) := by
  by_cases hi : InSp w S.1 S.2.1 v
  · rw [adm_in hi]; exact PR.refl
  · rw [adm_out hi]
    exact ⟨Nat.le_succ _, fun i q => ⟨if_neg (by omega), if_neg (by omega), if_neg (by omega)⟩⟩
theorem PR.sp {w : Nat} {S T : Kst} {v : Nat → Int} (h : PR S T) (hv : InSp w S.1 S.2.1 v) : InSp w T.1 T.2.1 v := hv.mono h.1 (fun i j hi _ => by rw [(h.2 i hi).1])
theorem adm_sp {w l n : Nat} {v : Nat → Int} {S : Kst} (hv : ∀ j, j < w → rs (v j)) : InSp w (adm w v l n S).1 (adm w v l n S).2.1 v := by
  by_cases hi : InSp w S.1 S.2.1 v
  · rw [adm_in hi]; exact hi
  · rw [adm_out hi]
    have z : InSp w (S.1 + 1) (fun i => if i = S.1 then v else S.2.1 i) (if S.1 = S.1 then v else S.2.1 S.1) := InSp.mem (K := fun i => if i = S.1 then v else S.2.1 i) (Nat.lt_succ_self _) (fun j hj => by
      show rs ((if S.1 = S.1 then v else S.2.1 S.1) j)
      rw [if_pos rfl]; exact hv j hj)
    rw [if_pos rfl] at z
    exact z
def LI (b : Nat) (S : Kst) : Prop := ∀ i, i < S.1 → S.2.2.1 i ≤ i ∧ S.2.2.2 i < b ^ S.2.2.1 i
theorem LI.emp {b : Nat} : LI b emp := fun i hi => absurd hi (Nat.not_lt_zero i)
theorem LI.adm {w b l n : Nat} {v : Nat → Int} {S : Kst} (h : LI b S) (hl : l ≤ S.1) (hn : n < b ^ l) : LI b (adm w v l n S) := by
  by_cases hi : InSp w S.1 S.2.1 v
  · rw [adm_in hi]; exact h
  · rw [adm_out hi]
    intro i q
    have q' : i < S.1 + 1 := q
    show (if i = S.1 then l else S.2.2.1 i) ≤ i ∧ (if i = S.1 then n else S.2.2.2 i) < b ^ (if i = S.1 then l else S.2.2.1 i)
    by_cases e : i = S.1
    · rw [if_pos e, if_pos e]; exact ⟨by omega, hn⟩
    · rw [if_neg e, if_neg e]; exact h i (by omega)
/-- the successors of the kept vector k by the digits below g -/
noncomputable def xd (w b : Nat) (N : Nat → (Nat → Int) → Nat → Int) (lim k : Nat) : Nat → Kst → Kst
  | 0, S => S
  | g + 1, S => if (xd w b N lim k g S).2.2.1 k < lim then adm w (N g ((xd w b N lim k g S).2.1 k)) ((xd w b N lim k g S).2.2.1 k + 1) ((xd w b N lim k g S).2.2.2 k * b + g) (xd w b N lim k g S) else xd w b N lim k g S
theorem xd_eq {w b lim k g : Nat} {N : Nat → (Nat → Int) → Nat → Int} {S : Kst} : xd w b N lim k (g + 1) S = if (xd w b N lim k g S).2.2.1 k < lim then adm w (N g ((xd w b N lim k g S).2.1 k)) ((xd w b N lim k g S).2.2.1 k + 1) ((xd w b N lim k g S).2.2.2 k * b + g) (xd w b N lim k g S) else xd w b N lim k g S := rfl
theorem xd_all {w b lim k : Nat} {N : Nat → (Nat → Int) → Nat → Int} {S : Kst} (hN : ∀ g v j, rs (N g v j)) (hI : KI w S) (hL : LI b S) (hk : k < S.1) : ∀ g, g ≤ b → KI w (xd w b N lim k g S) ∧ LI b (xd w b N lim k g S) ∧ PR S (xd w b N lim k g S)
  | 0, _ => ⟨hI, hL, PR.refl⟩
  | g + 1, hg => by
    obtain ⟨h1, h2, h3⟩ := xd_all (lim := lim) hN hI hL hk g (by omega)
    rw [xd_eq]
    split
    · have hk2 : k < (xd w b N lim k g S).1 := Nat.lt_of_lt_of_le hk h3.1
      have a := h2 k hk2
      refine ⟨h1.adm (fun j _ => hN _ _ j), h2.adm (by omega) ?_, h3.trans PR.adm⟩
      rw [Nat.pow_succ]
      have := Nat.mul_le_mul_right b (Nat.succ_le_of_lt a.2)
      rw [Nat.succ_mul] at this
      omega
    · exact ⟨h1, h2, h3⟩
theorem xd_1 {w b lim k g : Nat} {N : Nat → (Nat → Int) → Nat → Int} {S : Kst} : PR (xd w b N lim k g S) (xd w b N lim k (g + 1) S) := by
  rw [xd_eq]
  split
  · exact PR.adm
  · exact PR.refl
theorem xd_pr {w b lim k : Nat} {N : Nat → (Nat → Int) → Nat → Int} {S : Kst} : ∀ g g', g ≤ g' → PR (xd w b N lim k g S) (xd w b N lim k g' S)
  | g, 0, h => by rw [show g = 0 by omega]; exact PR.refl
  | g, g' + 1, h => by
    by_cases e : g = g' + 1
    · rw [e]; exact PR.refl
    · exact PR.trans (xd_pr (k := k) g g' (by omega)) xd_1
theorem xd_sp {w b lim k g : Nat} {N : Nat → (Nat → Int) → Nat → Int} {S : Kst} (hN : ∀ g v j, rs (N g v j)) (hk : k < S.1) (hl : S.2.2.1 k < lim) (hg : g < b) : InSp w (xd w b N lim k b S).1 (xd w b N lim k b S).2.1 (N g (S.2.1 k)) := by
  have h3 : PR S (xd w b N lim k g S) := xd_pr (b := b) (N := N) (lim := lim) (k := k) (S := S) 0 g (Nat.zero_le _)
  have a := h3.2 k hk
  have z : InSp w (xd w b N lim k (g + 1) S).1 (xd w b N lim k (g + 1) S).2.1 (N g (S.2.1 k)) := by
    rw [xd_eq, a.2.1, if_pos hl, a.1]
    exact adm_sp (fun j _ => hN _ _ j)
  exact (xd_pr (g + 1) b hg).sp z
noncomputable def bf (w b : Nat) (N : Nat → (Nat → Int) → Nat → Int) (lim : Nat) : Nat → Kst → Kst
  | 0, S => S
  | k + 1, S => if k < (bf w b N lim k S).1 then xd w b N lim k b (bf w b N lim k S) else bf w b N lim k S
theorem bf_eq {w b lim k : Nat} {N : Nat → (Nat → Int) → Nat → Int} {S : Kst} : bf w b N lim (k + 1) S = if k < (bf w b N lim k S).1 then xd w b N lim k b (bf w b N lim k S) else bf w b N lim k S := rfl
theorem bf_all {w b lim : Nat} {N : Nat → (Nat → Int) → Nat → Int} {S : Kst} (hN : ∀ g v j, rs (N g v j)) (hI : KI w S) (hL : LI b S) : ∀ k, KI w (bf w b N lim k S) ∧ LI b (bf w b N lim k S)
  | 0 => ⟨hI, hL⟩
  | k + 1 => by
    obtain ⟨h1, h2⟩ := bf_all (lim := lim) hN hI hL k
    rw [bf_eq]
    split
    · rename_i h
      obtain ⟨a, c, _⟩ := xd_all (lim := lim) hN h1 h2 h b (Nat.le_refl _)
      exact ⟨a, c⟩
    · exact ⟨h1, h2⟩
theorem bf_1 {w b lim k : Nat} {N : Nat → (Nat → Int) → Nat → Int} {S : Kst} : PR (bf w b N lim k S) (bf w b N lim (k + 1) S) := by
  rw [bf_eq]
  split
  · exact xd_pr (S := bf w b N lim k S) 0 b (Nat.zero_le _)
  · exact PR.refl
theorem bf_pr {w b lim : Nat} {N : Nat → (Nat → Int) → Nat → Int} {S : Kst} : ∀ k k', k ≤ k' → PR (bf w b N lim k S) (bf w b N lim k' S)
  | k, 0, h => by rw [show k = 0 by omega]; exact PR.refl
  | k, k' + 1, h => by
    by_cases e : k = k' + 1
    · rw [e]; exact PR.refl
    · exact PR.trans (bf_pr k k' (by omega)) bf_1
theorem bf_fix {w b lim k : Nat} {N : Nat → (Nat → Int) → Nat → Int} {S : Kst} (h : (bf w b N lim k S).1 ≤ k) : ∀ m, bf w b N lim (k + m) S = bf w b N lim k S
  | 0 => rfl
  | m + 1 => by
    have ih := bf_fix h m
    rw [← Nat.add_assoc, bf_eq, ih, if_neg (by omega)]
theorem bf_end {w b lim k m : Nat} {N : Nat → (Nat → Int) → Nat → Int} {S : Kst} (h : (bf w b N lim k S).1 ≤ k) (hm : k ≤ m) : bf w b N lim m S = bf w b N lim k S := by
  obtain ⟨q, rfl⟩ : ∃ q, m = k + q := ⟨m - k, by omega⟩
  exact bf_fix h q
/-- what is kept at the end was kept when its turn came -/
theorem bf_in {w b lim k m : Nat} {N : Nat → (Nat → Int) → Nat → Int} {S : Kst} (h : k < (bf w b N lim m S).1) (hm : k ≤ m) : k < (bf w b N lim k S).1 := by
  by_cases e : k < (bf w b N lim k S).1
  · exact e
  · rw [bf_end (by omega) hm] at h
    omega
theorem bf_sp {w b lim k m g : Nat} {N : Nat → (Nat → Int) → Nat → Int} {S : Kst} (hN : ∀ g v j, rs (N g v j)) (h : k < (bf w b N lim m S).1) (hm : k < m) (hl : (bf w b N lim m S).2.2.1 k < lim) (hg : g < b) : InSp w (bf w b N lim m S).1 (bf w b N lim m S).2.1 (N g ((bf w b N lim m S).2.1 k)) := by
  have hk := bf_in h (by omega)
  have p : PR (bf w b N lim k S) (bf w b N lim m S) := bf_pr k m (by omega)
  have a := p.2 k hk
  have p1 : PR (bf w b N lim (k + 1) S) (bf w b N lim m S) := bf_pr (k + 1) m hm
  have e : bf w b N lim (k + 1) S = xd w b N lim k b (bf w b N lim k S) := if_pos hk
  rw [a.2.1] at hl
  rw [a.1]
  rw [e] at p1
  exact p1.sp (xd_sp hN hk hl hg)
/-- two representations side by side -/
def prN (A B : RepA) (g : Nat) (v : Nat → Int) : Nat → Int := fun j => if j < dmA A then vmt (dmA A) v (mtA A g) j else vmt (dmA B) (fun i => v (dmA A + i)) (mtA B g) (j - dmA A)
def prV (A B : RepA) : Nat → Int := fun j => if j < dmA A then rwA A j else rwA B (j - dmA A)
theorem prN_rs {A B : RepA} (g : Nat) (v : Nat → Int) (j : Nat) : rs (prN A B g v j) := by
  unfold prN
  split
  · exact rs_mod
  · exact rs_mod
theorem prV_rs {b : Nat} {A B : RepA} (hA : okA b A) (hB : okA b B) {j : Nat} (hj : j < dmA A + dmA B) : rs (prV A B j) := by
  unfold prV
  split
  · rename_i h; exact hA.2.1 j h
  · exact hB.2.1 _ (by omega)
noncomputable def st0 (A B : RepA) : Kst := adm (dmA A + dmA B) (prV A B) 0 0 emp
noncomputable def exB (b lim : Nat) (A B : RepA) (k : Nat) : Kst := bf (dmA A + dmA B) b (prN A B) lim k (st0 A B)
noncomputable def exA (b lim : Nat) (A B : RepA) : Kst := exB b lim A B (dmA A + dmA B)
theorem st0_all {b : Nat} {A B : RepA} (hA : okA b A) (hB : okA b B) : KI (dmA A + dmA B) (st0 A B) ∧ LI b (st0 A B) := ⟨KI.emp.adm (fun _ hj => prV_rs hA hB hj), LI.emp.adm (Nat.zero_le _) (by rw [Nat.pow_zero]; omega)⟩
theorem exB_all {b lim k : Nat} {A B : RepA} (hA : okA b A) (hB : okA b B) : KI (dmA A + dmA B) (exB b lim A B k) ∧ LI b (exB b lim A B k) := by
  obtain ⟨h1, h2⟩ := st0_all hA hB
  exact bf_all prN_rs h1 h2 k
theorem exB_le {b lim k : Nat} {A B : RepA} (hA : okA b A) (hB : okA b B) : (exB b lim A B k).1 ≤ dmA A + dmA B := (exB_all hA hB).1.le
/-- the loop's end -/
theorem exA_end {b lim k : Nat} {A B : RepA} (hA : okA b A) (hB : okA b B) (h : (exB b lim A B k).1 ≤ k) : exA b lim A B = exB b lim A B k := by
  by_cases e : k ≤ dmA A + dmA B
  · exact bf_end h e
  · exact (bf_end (exB_le (lim := lim) (k := dmA A + dmA B) hA hB) (by omega)).symm
theorem exA_le {b lim : Nat} {A B : RepA} (hA : okA b A) (hB : okA b B) : (exA b lim A B).1 ≤ dmA A + dmA B := exB_le hA hB
theorem exA_all {b lim : Nat} {A B : RepA} (hA : okA b A) (hB : okA b B) : KI (dmA A + dmA B) (exA b lim A B) ∧ LI b (exA b lim A B) := exB_all hA hB
theorem exB_sp {b lim k m g : Nat} {A B : RepA} (h : k < (exB b lim A B m).1) (hm : k < m) (hl : (exB b lim A B m).2.2.1 k < lim) (hg : g < b) : InSp (dmA A + dmA B) (exB b lim A B m).1 (exB b lim A B m).2.1 (prN A B g ((exB b lim A B m).2.1 k)) := bf_sp prN_rs h hm hl hg
theorem exA_sp2 {b lim k g : Nat} {A B : RepA} (hA : okA b A) (hB : okA b B) (h : k < (exA b lim A B).1) (hl : (exA b lim A B).2.2.1 k < lim) (hg : g < b) : InSp (dmA A + dmA B) (exA b lim A B).1 (exA b lim A B).2.1 (prN A B g ((exA b lim A B).2.1 k)) := by
  have z := exA_le (lim := lim) hA hB
  have h1 := hA.1
  have h2 := hB.1
  exact exB_sp h (Nat.lt_of_lt_of_le h z) hl hg
theorem exA_sp {b k g : Nat} {A B : RepA} (hA : okA b A) (hB : okA b B) (h : k < (exA b 16 A B).1) (hg : g < b) : InSp (dmA A + dmA B) (exA b 16 A B).1 (exA b 16 A B).2.1 (prN A B g ((exA b 16 A B).2.1 k)) := by
  have z := exA_le (lim := 16) hA hB
  have h1 := hA.1
  have h2 := hB.1
  have l := ((exA_all (lim := 16) hA hB).2 k h).1
  exact exA_sp2 hA hB h (by omega) hg
def zr0 : RepA := (0, fun _ => 0, fun _ => 0, fun _ _ _ => 0)
theorem okA_zr0 {b : Nat} : okA b zr0 := ⟨Nat.zero_le _, fun _ h => absurd h (Nat.not_lt_zero _), fun _ h => absurd h (Nat.not_lt_zero _), fun _ _ _ _ h => absurd h (Nat.not_lt_zero _)⟩
/-- the left reduction; the minimized form -/
noncomputable def lredA (b : Nat) (A : RepA) : RepA := ((exA b 16 A zr0).1, (fun i => if i = 0 then 1 else 0), (fun i => dtt (dmA A) ((exA b 16 A zr0).2.1 i) (clA A)), fun g i => coef (dmA A) (exA b 16 A zr0).1 (exA b 16 A zr0).2.1 (prN A zr0 g ((exA b 16 A zr0).2.1 i)))
noncomputable def minA (b : Nat) (A : RepA) : RepA := rvA (lredA b (rvA (lredA b A)))
theorem okA_lred {b : Nat} {A : RepA} (hA : okA b A) : okA b (lredA b A) := by
  have z : (exA b 16 A zr0).1 ≤ dmA A + dmA zr0 := exA_le hA okA_zr0
  have h1 := hA.1
  refine ⟨Nat.le_trans z h1, fun i _ => ?_, fun i _ => rs_mod, fun g hg i j hi hj => ?_⟩
  · show rs (if i = 0 then 1 else 0)
    split
    · exact rs_1
    · exact rs_0
  · exact (coef_spec (exA_sp hA okA_zr0 hi hg)).1 j hj
theorem okA_min {b : Nat} {A : RepA} (hA : okA b A) : okA b (minA b A) := okA_rv (okA_lred (okA_rv (okA_lred hA)))
theorem exA_in {b lim t : Nat} {A B : RepA} (h : t < (exA b lim A B).1) (h16 : t ≤ dmA A + dmA B) : t < (exB b lim A B t).1 := bf_in h h16
theorem exB_s {b lim t : Nat} {A B : RepA} (h : t < (exB b lim A B t).1) : exB b lim A B (t + 1) = xd (dmA A + dmA B) b (prN A B) lim t b (exB b lim A B t) := if_pos h
theorem xd_s {w b lim k g : Nat} {N : Nat → (Nat → Int) → Nat → Int} {S : Kst} (h : (xd w b N lim k g S).2.2.1 k < lim) : xd w b N lim k (g + 1) S = adm w (N g ((xd w b N lim k g S).2.1 k)) ((xd w b N lim k g S).2.2.1 k + 1) ((xd w b N lim k g S).2.2.2 k * b + g) (xd w b N lim k g S) := if_pos h
theorem exB_pr {b lim k k' : Nat} {A B : RepA} (h : k ≤ k') : PR (exB b lim A B k) (exB b lim A B k') := bf_pr k k' h
theorem exA_fin {b lim : Nat} {A B : RepA} (hA : okA b A) (hB : okA b B) : exB b lim A B (exA b lim A B).1 = exA b lim A B := by
  have z := exA_le (lim := lim) hA hB
  have h1 := hA.1
  have h2 := hB.1
  have p : PR (exB b lim A B (exA b lim A B).1) (exA b lim A B) := exB_pr z
  exact (exA_end hA hB p.1).symm
theorem KI.lt {w : Nat} {v : Nat → Int} {S : Kst} (h : KI w S) (hv : ∀ j, j < w → rs (v j)) (hn : ¬ InSp w S.1 S.2.1 v) : S.1 < w := by
  have z := (h.adm (l := 0) (n := 0) hv).le
  rw [adm_out hn] at z
  exact z
