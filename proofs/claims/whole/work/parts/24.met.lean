/-! every method meets its contract, as the small machine runs it -/
abbrev flatL (as : List MV) : List MV := as.flatMap fun v => if isL v = true then [v, vu] else [v]
theorem lg_len (B b : Nat) : ∀ as : List MV, (lg_sl (as.map (tv B b))).length = (flatL as).length
  | [] => rfl
  | v :: r => by
    have ih := lg_len B b r
    unfold lg_sl flatL at ih ⊢
    rw [List.map_cons, List.flatMap_cons, List.flatMap_cons, List.length_append, List.length_append, ih, tv_cat]
    by_cases h : isL v = true
    · rw [if_pos h, if_pos h, if_pos rfl]; rfl
    · rw [if_neg h, if_neg h, if_neg (by decide)]; rfl
theorem lpr_args (B b : Nat) : ∀ (as : List MV) (i n : Nat) (q : Nat × Value), q ∈ lpr B b i (flatL as ++ List.replicate n vu) → q ∈ lv_args i (as.map (tv B b))
  | [], i, 0, q, h => by cases h
  | [], i, n + 1, q, h => lpr_args B b [] (i + 1) n q h
  | v :: r, i, n, q, h => by
    have hf : flatL (v :: r) = (if isL v = true then [v, vu] else [v]) ++ flatL r := List.flatMap_cons
    rw [hf, List.append_assoc] at h
    show q ∈ (i, tv B b v) :: lv_args (if (tv B b v).category = 2 then i + 2 else i + 1) (r.map (tv B b))
    rw [tv_cat]
    by_cases hl : isL v = true
    · rw [if_pos hl] at h ⊢
      rw [if_pos rfl]
      have hu : isU v = false := by
        match v, hl with
        | .inr (.inl _), _ => rfl
      have h2 : q ∈ (i, tv B b v) :: lpr B b (i + 2) (flatL r ++ List.replicate n vu) := by
        have : lpr B b i ([v, vu] ++ (flatL r ++ List.replicate n vu)) = (i, tv B b v) :: lpr B b (i + 2) (flatL r ++ List.replicate n vu) := by
          show (if isU v = true then _ else _) = _
          rw [if_neg (by rw [hu]; decide)]
          rfl
        rw [← this]; exact h
      rcases List.mem_cons.mp h2 with h3 | h3
      · rw [h3]; exact List.mem_cons_self
      · exact List.mem_cons_of_mem _ (lpr_args B b r (i + 2) n q h3)
    · rw [if_neg hl] at h ⊢
      rw [if_neg (by decide)]
      have h1 : lpr B b i ([v] ++ (flatL r ++ List.replicate n vu)) = if isU v = true then lpr B b (i + 1) (flatL r ++ List.replicate n vu) else (i, tv B b v) :: lpr B b (i + 1) (flatL r ++ List.replicate n vu) := rfl
      rw [h1] at h
      by_cases hu : isU v = true
      · rw [if_pos hu] at h
        exact List.mem_cons_of_mem _ (lpr_args B b r (i + 1) n q h)
      · rw [if_neg hu] at h
        rcases List.mem_cons.mp h with h3 | h3
        · rw [h3]; exact List.mem_cons_self
        · exact List.mem_cons_of_mem _ (lpr_args B b r (i + 1) n q h3)
theorem LR_entry {B b n : Nat} {as : List MV} (h : (padL as n).length = n) : LR B b (padL as n) ((lg_sl (as.map (tv B b)) ++ List.replicate (n - (lg_sl (as.map (tv B b))).length) Slot.unset).toArray) n := by
  have hl : (lg_sl (as.map (tv B b))).length ≤ n := by
    rw [lg_len]
    have : (padL as n).length = (flatL as).length + (n - (flatL as).length) := by unfold padL; rw [List.length_append, List.length_replicate]
    omega
  have he := lv_entry (as.map (tv B b)) hl
  exact ⟨h, he.1, he.2.1, fun q hq => he.2.2 q (lpr_args B b as 0 _ q hq)⟩
theorem okV_flat {as : List MV} {n : Nat} (h : ∀ v ∈ as, okV v) : ∀ v ∈ padL as n, okV v := by
  intro v hv
  unfold padL at hv
  rcases List.mem_append.mp hv with h1 | h1
  · obtain ⟨w, hw, h2⟩ := List.mem_flatMap.mp h1
    by_cases hl : isL w = true
    · rw [if_pos hl] at h2
      rcases List.mem_cons.mp h2 with rfl | h3
      · exact h _ hw
      · rw [List.mem_singleton] at h3; rw [h3]; trivial
    · rw [if_neg hl] at h2
      rw [List.mem_singleton] at h2
      rw [h2]; exact h _ hw
  · rw [(List.mem_replicate.mp h1).2]; trivial
section MET
variable {l : Launch} {B b L : Nat} {xs : Nat → Int32} {dC : Nat → ClassId} {dI : Nat → Nat → Nat} {aC : Nat → ClassId}
/-- a run of the small machine from any place -/
theorem snd_run {p : Program} {e : Env} {R : Room} {s : State} {m : MethodId} {args : Array Value} {below : List Frame} {meth : Method} {c : Code} {j d : Nat} {m0 mF : Mem} {Qe : State → Prop} {rF : Option MV} {pc : Nat} {ls st : List MV} {mm : Mem} (hcode : codeOK j) (IH : IHd l B b L xs dC dI aC d) (hC : CtxM p R s m args meth c B dC dI aC j m0 mF) (hR : d + 1 ≤ R.frames ∧ 100 * (d + 1) ≤ R.locals) (hret : RetI p l e R s m args below meth c B b L xs dC dI aC j m0 mF Qe rF)
    (h : Run (FC j) (CallG FC Yl d) (fun r m' => r = rF ∧ m' = mF) pc ls st mm) : WX p l e R s m args below meth c B b L xs dC dI aC j m0 mF Qe pc ls st mm := by
  refine h (WX p l e R s m args below meth c B b L xs dC dI aC j m0 mF Qe) (fun pc ls st mm hs => ?_)
  unfold stepX at hs
  cases hf : FC j pc with
  | none => rw [hf] at hs; exact hs.elim
  | some x =>
    rw [hf] at hs
    obtain ⟨ins, pp, h1, h2⟩ := hcode pc x hf
    exact snd_step hC hR hret IH h1 h2 hs
theorem snd_met {d j : Nat} (hj : j < 215) (hcode : codeOK j) (hpn : plainName (Yn j).cls = true) (IH : IHd l B b L xs dC dI aC d) {as : List MV} {mm m' : Mem} {r : Option MV} (h : CallG FC Yl (d + 1) j as mm (fun r' m'' => r' = r ∧ m'' = m')) : MetM l B b L xs dC dI aC (d + 1) j as mm r m' := by
  refine Met.ofW (cc := Yb j) (maxL := Yl j) (ret := Yr j) (ws' := GW) hpn rfl ?_
  intro p e s m args below meth c s₁ Bd hml hv
  obtain ⟨rfl, hsz, hM, hK, hok⟩ := hv
  have hY := mw_use hj
  have hlocks := Bd.notSynchronized
  have hts := atoms_spec (ws := wsM j) Bd.pre
  have hown : s.vm.findClass (RC (Yc j)) = some m.cls := by rw [← hY.2.2.1]; exact findClass_of_methodNamed Bd.named
  have hC : CtxM p (headSpec (wsM j) (rmM (d + 1) (m'.1.1.length - mm.1.1.length) (m'.1.2 - mm.1.2))).room s m (as.map (tv B b)).toArray meth c B dC dI aC j mm m' :=
    ⟨⟨Bd.exec, Bd.bytes, hml, hown⟩, fun w hw hg => hts w (List.mem_cons_of_mem _ (GW_mem hw hg)), hK, hsz, fun hn => (name_of_methodNamed Bd.named Bd.method).1.trans hn, Nat.succ_le_succ (Nat.zero_le d), by show 100 ≤ 100 * (d + 1); omega, Nat.le_refl _, Nat.le_refl _⟩
  have hret : RetI p l e (headSpec (wsM j) (rmM (d + 1) (m'.1.1.length - mm.1.1.length) (m'.1.2 - mm.1.2))).room s m (as.map (tv B b)).toArray below meth c B b L xs dC dI aC j mm m' (MQ below (QcM B b L xs dC dI aC r m') (as.map (tv B b)).toArray s (m'.1.1.length - mm.1.1.length) (m'.1.2 - mm.1.2) (AA B)) r := by
    intro pc H locs lsr hMF hS
    refine ⟨fun x ty e1 e2 e3 e4 e5 => ?_, fun e1 e2 e5 => ?_⟩
    · refine W.zret (ty := ty) Bd.exec Bd.bytes (by rw [Bd.returns]; exact e3) e4 (fun t ht hW => ?_) hS.2.2 e5 hlocks
      refine ⟨by rw [e1]; rfl, by rw [ht]; exact hMF.moved hW.alike, hS.F ht, fun v hv => ?_⟩
      rw [e1] at hv
      cases hv
      exact e2
    · refine W.vret Bd.exec Bd.bytes (by rw [Bd.returns]; exact e2) (fun t ht hW => ?_) hS.2.2 e5 hlocks
      refine ⟨by rw [e1]; rfl, by rw [ht]; exact hMF.moved hW.alike, hS.F ht, fun v hv => ?_⟩
      rw [e1] at hv
      cases hv
  have hW := snd_run (Qe := MQ below (QcM B b L xs dC dI aC r m') (as.map (tv B b)).toArray s (m'.1.1.length - mm.1.1.length) (m'.1.2 - mm.1.2) (AA B)) hcode IH hC ⟨Nat.le_refl _, Nat.le_refl _⟩ hret h.2
  have k := hW.2 s.heap [] _ memLe.rf (okV_flat hok) (fun _ hv => by cases hv) (LR_entry h.1) hM va_S.rf
  rw [Nat.sub_self, Nat.sub_self] at k
  rw [lg_entry_eq]
  exact k
theorem snd_all (hcode : ∀ j, j < 215 → codeOK j) : ∀ d, IHd l B b L xs dC dI aC d
  | 0 => fun j as mm r m' hj h => h.elim
  | d + 1 => fun j as mm r m' hj h => snd_met hj (hcode j hj) (by
      have hk := List.all_eq_true.mp mw_ok j (List.mem_range.mpr hj)
      unfold mwC at hk
      simp only [Bool.and_eq_true, decide_eq_true_eq] at hk
      exact hk.2.2.2.2.2.2.2) (snd_all hcode d) h
end MET
