/-! THE LAW'S START: what holds ahead of its loop -/
theorem lw_first {L : Nat} {xs : Nat → Int32} : ∃ sc, LwI L sc (apW mkW (mem0 L xs).2) := by
  have hz : ∀ k f, 2 ≤ k → apW mkW (mem0 L xs).2 k f = (lkW mkW k f).getD 0 := by
    intro k f hk
    rw [apW_lk]
    congr 1
    show (if k = 0 ∧ f = 0 then (L : Int) else if k = 1 ∧ f < L then (xs f).toInt else 0) = 0
    rw [if_neg (by omega), if_neg (by omega)]
  have hl : ∀ k f, k < 2 → apW mkW (mem0 L xs).2 k f = (mem0 L xs).2 k f := by
    intro k f hk
    rw [apW_lk, lkW_n hk mkW mkW_2]
    rfl
  generalize hD : apW mkW (mem0 L xs).2 = D at hz hl ⊢
  obtain ⟨f1, f2, f3, f4, f5, f6, f7, f8, f9, f10, f11⟩ := mkW_f
  refine ⟨D 1, 2, fun _ => none, (0, fun _ => 0, fun _ => 0), (0, fun _ => 0), (0, fun _ => 0, fun _ => 0), (0, fun _ => 0, fun _ _ => none), ⟨?_, rfl, ?_, ⟨?_, by decide, by decide, fun s hs => ?_⟩, ⟨?_, by decide, fun i hi => absurd hi (Nat.not_lt_zero _)⟩, ⟨?_, by decide, fun i hi => absurd hi (Nat.not_lt_zero _)⟩, ⟨?_, by decide, fun i hi => absurd hi (Nat.not_lt_zero _)⟩, ⟨?_, by decide, fun i hi => absurd hi (Nat.not_lt_zero _)⟩⟩, ⟨?_, by decide, by decide, fun s hs => ?_⟩, ⟨?_, by decide, fun i hi => absurd hi (Nat.not_lt_zero _)⟩, ⟨?_, by decide, fun i hi => absurd hi (Nat.not_lt_zero _)⟩, ⟨?_, by decide, fun i hi => absurd hi (Nat.not_lt_zero _)⟩, ⟨?_, by decide, fun i hi => absurd hi (Nat.not_lt_zero _)⟩⟩
  · refine (hl 0 0 (by decide)).trans ?_
    show (if (0 : Nat) = 0 ∧ (0 : Nat) = 0 then (L : Int) else if (0 : Nat) = 1 ∧ 0 < L then (xs 0).toInt else 0) = (L : Int)
    rw [if_pos ⟨rfl, rfl⟩]
  · exact (hz _ _ (by decide)).trans f1
  · exact (hz _ _ (by decide)).trans f2
  · exact (hz _ _ (by omega)).trans (mkW_c s hs)
  · exact (hz _ _ (by decide)).trans f3
  · exact (hz _ _ (by decide)).trans f4
  · exact (hz _ _ (by decide)).trans f5
  · exact (hz _ _ (by decide)).trans f6
  · exact (hz _ _ (by decide)).trans f7
  · exact (hz _ _ (by omega)).trans (mkW_m s hs)
  · exact (hz _ _ (by decide)).trans f8
  · exact (hz _ _ (by decide)).trans f9
  · exact (hz _ _ (by decide)).trans f10
  · exact (hz _ _ (by decide)).trans f11
theorem lw_start {d L : Nat} {xs : Nat → Int32} {k : Option MV → Mem → Prop} (hL : L ≤ 3072) (hk : ∀ D, k (some (vi 1)) (G0, D)) : CG (d + 13) 215 [vr 1] (mem0 L xs) k := by
  obtain ⟨sc, h⟩ := lw_first (L := L) (xs := xs)
  refine lw_s mk_0 mk_128 (by decide +kernel) ?_
  rw [mk_G0, ← apW_app]
  exact lw_loop hL hk 512 0 _ (by omega) (by omega) h
theorem G0_room : G0.1.length ≤ 600000 ∧ G0.2 ≤ 7302250 := by decide +kernel
theorem whole_start {p : Program} {e : Env} {s : State} {m : MethodId} {below : List Frame} {meth : Method} {c : Code} (l : Launch) (hflags : l.flags = flags0) {b L : Nat} {xs : Nat → Int32} (hL : L ≤ 3072) (C0 : lw_At p s m meth c b L xs) : W p l e room_1 s m #[Value.ref b] below meth c s.heap [] 0 0 (lw_Z below #[Value.ref b] s) (entryFrame m ([Value.ref b] : List Value).toArray 4) :=
  law_of_run l hL code_all (d := 12) (by decide) (lw_start (d := 0) hL (fun D => ⟨rfl, G0_room⟩)) C0
