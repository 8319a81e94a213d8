/-! every instruction; every method -/
section ALL
variable {p : Program} {l : Launch} {e : Env} {R : Room} {s : State} {m : MethodId} {args : Array Value} {below : List Frame} {meth : Method} {c : Code} {B b L : Nat} {xs : Nat → Int32} {dC : Nat → ClassId} {dI : Nat → Nat → Nat} {aC : Nat → ClassId} {j : Nat} {m0 mF : Mem} {Qe : State → Prop} {pc : Nat} {ls st : List MV} {mm : Mem}
/-- what is known of the calls one level down -/
def IHd (l : Launch) (B b L : Nat) (xs : Nat → Int32) (dC : Nat → ClassId) (dI : Nat → Nat → Nat) (aC : Nat → ClassId) (d : Nat) : Prop := ∀ (j : Nat) (as : List MV) (mm : Mem) (r : Option MV) (m' : Mem), j < 215 → CallG FC Yl d j as mm (fun r' m'' => r' = r ∧ m'' = m') → MetM l B b L xs dC dI aC d j as mm r m'
set_option maxHeartbeats 4000000 in
theorem snd_step {d : Nat} {rF : Option MV} (hC : CtxM p R s m args meth c B dC dI aC j m0 mF) (hR : d + 1 ≤ R.frames ∧ 100 * (d + 1) ≤ R.locals) (hret : RetI p l e R s m args below meth c B b L xs dC dI aC j m0 mF Qe rF) (IH : IHd l B b L xs dC dI aC d) {len pp : Nat} {ins : Instr} {o : Op} (hd : decode (Yb j) pc = .ok (ins, len)) (hk : chkI j pc len ins o pp = true)
    (h : WXa p l e R s m args below meth c B b L xs dC dI aC j m0 mF Qe d rF pc len o ls st mm) : WX p l e R s m args below meth c B b L xs dC dI aC j m0 mF Qe pc ls st mm := by
  have call : ∀ {j' : Nat} {as : List MV} {K : Option MV → Mem → Prop}, j' < 215 → CallG FC Yl d j' as mm K → ∃ r m', K r m' ∧ memLe mm m' ∧ MetM l B b L xs dC dI aC d j' as mm r m' := fun hj hc => by
    obtain ⟨r, m', h1, h2⟩ := CallG.det d _ _ _ _ hc
    exact ⟨r, m', h1, CallG.le1 h2, IH _ _ _ _ _ hj h2⟩
  cases ins with
  | iconst n => obtain ⟨rfl, rfl, h3⟩ := of_decide_eq_true hk; exact s_iconst hC hd h3 h
  | bipush n => obtain ⟨rfl, rfl, h3, h4⟩ := of_decide_eq_true hk; exact s_bipush hC hd h3 h4 h
  | sipush n => obtain ⟨rfl, rfl, h3, h4⟩ := of_decide_eq_true hk; exact s_sipush hC hd h3 h4 h
  | lconst n => obtain ⟨rfl, rfl, h3⟩ := of_decide_eq_true hk; exact s_lconst hC hd h3 h
  | ldc i => obtain ⟨rfl, h1, h2, h3, h4, rfl⟩ := of_decide_eq_true hk; obtain ⟨g1, g2⟩ := (kp_use h1 h2 h3).1 h4; exact s_ldc hC hd g2 g1 h
  | ldc2_w i => obtain ⟨rfl, h1, h2, h3, h4, rfl⟩ := of_decide_eq_true hk; obtain ⟨g1, g2⟩ := (kp_use h1 h2 h3).2 h4; exact s_ldc2 hC hd g2 g1 h
  | iload i => obtain ⟨rfl, rfl⟩ := of_decide_eq_true hk; obtain ⟨x, h1, h2⟩ := q_iload_inv h; exact s_iload hC hd h1 h2
  | iload_n q => obtain ⟨rfl, rfl⟩ := of_decide_eq_true hk; obtain ⟨x, h1, h2⟩ := q_iload_inv h; exact s_iload_n hC hd h1 h2
  | lload i => obtain ⟨rfl, rfl⟩ := of_decide_eq_true hk; obtain ⟨x, h1, h2⟩ := q_lload_inv h; exact s_lload hC hd h1 h2
  | lload_n q => obtain ⟨rfl, rfl⟩ := of_decide_eq_true hk; obtain ⟨x, h1, h2⟩ := q_lload_inv h; exact s_lload_n hC hd h1 h2
  | aload i => obtain ⟨rfl, rfl⟩ := of_decide_eq_true hk; obtain ⟨x, h1, h2⟩ := q_aload_inv h; exact s_aload hC hd h1 h2
  | aload_n q => obtain ⟨rfl, rfl⟩ := of_decide_eq_true hk; obtain ⟨x, h1, h2⟩ := q_aload_inv h; exact s_aload_n hC hd h1 h2
  | istore i => obtain ⟨rfl, rfl, h3⟩ := of_decide_eq_true hk; obtain ⟨x, r, rfl, h2⟩ := q_istore_inv h; exact s_istore hC hd h3 h2
  | istore_n q => obtain ⟨rfl, rfl, h3⟩ := of_decide_eq_true hk; obtain ⟨x, r, rfl, h2⟩ := q_istore_inv h; exact s_istore_n hC hd h3 h2
  | lstore i => obtain ⟨rfl, rfl, h3⟩ := of_decide_eq_true hk; obtain ⟨x, r, rfl, h2⟩ := q_lstore_inv h; exact s_lstore hC hd h3 h2
  | lstore_n q => obtain ⟨rfl, rfl, h3⟩ := of_decide_eq_true hk; obtain ⟨x, r, rfl, h2⟩ := q_lstore_inv h; exact s_lstore_n hC hd h3 h2
  | astore i => obtain ⟨rfl, rfl, h3⟩ := of_decide_eq_true hk; obtain ⟨x, r, rfl, h2⟩ := q_astore_inv h; exact s_astore hC hd h3 h2
  | astore_n q => obtain ⟨rfl, rfl, h3⟩ := of_decide_eq_true hk; obtain ⟨x, r, rfl, h2⟩ := q_astore_inv h; exact s_astore_n hC hd h3 h2
  | iinc i n => obtain ⟨rfl, rfl, h3⟩ := of_decide_eq_true hk; obtain ⟨x, h1, h2⟩ := q_iinc_inv h; exact s_iinc hC hd h3 h1 h2
  | iadd => obtain ⟨rfl, rfl⟩ := of_decide_eq_true hk; obtain ⟨x, y, r, z, rfl, hz, h2⟩ := q_ii_inv (f := fun x y => some (w32 (x + y))) h; cases hz; exact s_iadd hC hd h2
  | isub => obtain ⟨rfl, rfl⟩ := of_decide_eq_true hk; obtain ⟨x, y, r, z, rfl, hz, h2⟩ := q_ii_inv (f := fun x y => some (w32 (x - y))) h; cases hz; exact s_isub hC hd h2
  | imul => obtain ⟨rfl, rfl⟩ := of_decide_eq_true hk; obtain ⟨x, y, r, z, rfl, hz, h2⟩ := q_ii_inv (f := fun x y => some (w32 (x * y))) h; cases hz; exact s_imul hC hd h2
  | idiv => obtain ⟨rfl, rfl⟩ := of_decide_eq_true hk; obtain ⟨x, y, r, z, rfl, hz, h2⟩ := q_ii_inv h; by_cases h0 : y = 0 <;> simp only [h0, if_true, if_false] at hz <;> cases hz; exact s_idiv hC hd h0 h2
  | irem => obtain ⟨rfl, rfl⟩ := of_decide_eq_true hk; obtain ⟨x, y, r, z, rfl, hz, h2⟩ := q_ii_inv h; by_cases h0 : y = 0 <;> simp only [h0, if_true, if_false] at hz <;> cases hz; exact s_irem hC hd h0 h2
  | iand => obtain ⟨rfl, rfl⟩ := of_decide_eq_true hk; obtain ⟨x, y, r, z, rfl, hz, h2⟩ := q_ii_inv (f := fun x y => some (i_and x y)) h; cases hz; exact s_iand hC hd h2
  | ishr => obtain ⟨rfl, rfl⟩ := of_decide_eq_true hk; obtain ⟨x, y, r, z, rfl, hz, h2⟩ := q_ii_inv (f := fun x y => some (i_shr x y)) h; cases hz; exact s_ishr hC hd h2
  | iushr => obtain ⟨rfl, rfl⟩ := of_decide_eq_true hk; obtain ⟨x, y, r, z, rfl, hz, h2⟩ := q_ii_inv (f := fun x y => some (i_ushr x y)) h; cases hz; exact s_iushr hC hd h2
  | ladd => obtain ⟨rfl, rfl⟩ := of_decide_eq_true hk; obtain ⟨x, y, r, z, rfl, hz, h2⟩ := q_ll_inv (f := fun x y => some (w64 (x + y))) h; cases hz; exact s_ladd hC hd h2
  | lmul => obtain ⟨rfl, rfl⟩ := of_decide_eq_true hk; obtain ⟨x, y, r, z, rfl, hz, h2⟩ := q_ll_inv (f := fun x y => some (w64 (x * y))) h; cases hz; exact s_lmul hC hd h2
  | ldiv => obtain ⟨rfl, rfl⟩ := of_decide_eq_true hk; obtain ⟨x, y, r, z, rfl, hz, h2⟩ := q_ll_inv h; by_cases h0 : y = 0 <;> simp only [h0, if_true, if_false] at hz <;> cases hz; exact s_ldiv hC hd h0 h2
  | lrem => obtain ⟨rfl, rfl⟩ := of_decide_eq_true hk; obtain ⟨x, y, r, z, rfl, hz, h2⟩ := q_ll_inv h; by_cases h0 : y = 0 <;> simp only [h0, if_true, if_false] at hz <;> cases hz; exact s_lrem hC hd h0 h2
  | land => obtain ⟨rfl, rfl⟩ := of_decide_eq_true hk; obtain ⟨x, y, r, z, rfl, hz, h2⟩ := q_ll_inv (f := fun x y => some (l_and x y)) h; cases hz; exact s_land hC hd h2
  | lor => obtain ⟨rfl, rfl⟩ := of_decide_eq_true hk; obtain ⟨x, y, r, z, rfl, hz, h2⟩ := q_ll_inv (f := fun x y => some (l_or x y)) h; cases hz; exact s_lor hC hd h2
  | lshl => obtain ⟨rfl, rfl⟩ := of_decide_eq_true hk; obtain ⟨x, y, r, rfl, h2⟩ := q_li_inv h; exact s_lshl hC hd h2
  | lcmp => obtain ⟨rfl, rfl⟩ := of_decide_eq_true hk; obtain ⟨x, y, r, rfl, h2⟩ := q_cmp_inv h; exact s_lcmp hC hd h2
  | i2l => obtain ⟨rfl, rfl⟩ := of_decide_eq_true hk; obtain ⟨x, r, rfl, h2⟩ := q_i_inv h; exact s_i2l hC hd h2
  | l2i => obtain ⟨rfl, rfl⟩ := of_decide_eq_true hk; obtain ⟨x, r, rfl, h2⟩ := q_l_inv h; exact s_l2i hC hd h2
  | i2c => obtain ⟨rfl, rfl⟩ := of_decide_eq_true hk; obtain ⟨x, r, rfl, ⟨h0, h1⟩, h2⟩ := q_i2c_inv h; exact s_i2c hC hd h0 h1 h2
  | ifCond cc off => obtain ⟨rfl, h1, h2⟩ := of_decide_eq_true hk; rw [h1] at h; obtain ⟨x, r, rfl, h3, h4⟩ := q_if_inv h; exact s_if hC hd h2 h3 h4
  | if_icmp cc off => obtain ⟨rfl, h1, h2⟩ := of_decide_eq_true hk; rw [h1] at h; obtain ⟨x, y, r, rfl, h3, h4⟩ := q_icmp_inv h; exact s_icmp hC hd h2 h3 h4
  | goto off => obtain ⟨rfl, h1, h2⟩ := of_decide_eq_true hk; rw [h1] at h; exact s_goto hC hd h2 h
  | tableswitch q lo hi offs =>
    simp only [chkI, Bool.and_eq_true, decide_eq_true_eq, List.all_eq_true] at hk
    obtain ⟨⟨h1, h2, h3⟩, h4⟩ := hk
    rw [h1] at h
    obtain ⟨x, r, rfl, h5⟩ := q_swt_inv h
    exact s_table hC hd h2 h3 h4 h5
  | lookupswitch q ps =>
    simp only [chkI, Bool.and_eq_true, decide_eq_true_eq] at hk
    obtain ⟨⟨h1, h2⟩, h3, h4⟩ := hk
    rw [h1] at h
    obtain ⟨x, r, rfl, h5⟩ := q_swt_inv h
    exact s_lookup hC hd h2 h3 (fun q hq => of_decide_eq_true (List.all_eq_true.mp h4 q hq)) h5
  | getfield i =>
    obtain ⟨rfl, h1, h2, h3, h4⟩ := of_decide_eq_true hk
    obtain ⟨g1, g2, g3, g4, -⟩ := fp_use h1 h2 h3
    rw [h4] at h
    by_cases hr : isR (fE pp).2.2.1 (fE pp).2.2.2.1 = true
    · rw [if_pos hr] at h
      obtain ⟨k, r, rfl, h5, h6⟩ := q_getr_inv h
      exact s_getr hC hd g2 g3 g4 g1 hr (Int.ofNat.inj h5) h6
    · rw [if_neg hr] at h
      obtain ⟨k, r, rfl, h5, h6⟩ := q_geti_inv h
      exact s_geti hC hd g2 g3 g4 g1 (by simpa using hr) (Int.ofNat.inj h5) h6
  | putfield i =>
    obtain ⟨rfl, h1, h2, h3, h4, h7⟩ := of_decide_eq_true hk
    obtain ⟨g1, g2, g3, g4, g5⟩ := fp_use h1 h2 h3
    rw [h4] at h
    rcases h7 with ⟨e1, e2, e3, e4⟩ | ⟨e1, e2, e3, e4⟩ | ⟨e1, e2, e3, e4, e5, e6, e7⟩
    · rw [e1] at h
      obtain ⟨v, k, r, rfl, h5, h6⟩ := q_puti_inv h
      exact s_puti hC hd g2 g3 g4 e4 g1 e3 (Or.inl e2) (Int.ofNat.inj h5) h6
    · rw [e1] at h
      obtain ⟨v, k, r, rfl, ⟨h5, h8⟩, h6⟩ := q_putz_inv h
      exact s_puti hC hd g2 g3 g4 e4 g1 e3 (Or.inr ⟨e2, h8⟩) (Int.ofNat.inj h5) h6
    · rw [e1] at h
      obtain ⟨v, k, r, rfl, ⟨h5, h8⟩, h6⟩ := q_putr_inv h
      exact s_putr hC hd g2 g3 g4 e5 e6 (by rw [e7]) (g5 e2) e4 e3 (Int.ofNat.inj h5) h6
  | iaload =>
    obtain ⟨rfl, rfl | rfl⟩ := of_decide_eq_true hk
    · obtain ⟨i, k, r, rfl, ⟨h1, h2, h3⟩, h4⟩ := q_ald_inv (t := 100) (g := fun k i => vi (mm.2 k i)) h
      exact s_iald hC hd h1 h2 h3 h4
    · obtain ⟨i, k, r, rfl, ⟨rfl, h2, h3⟩, h4⟩ := q_sald_inv h
      exact s_iald1 hC hd h2 h3 h4
  | laload => obtain ⟨rfl, rfl⟩ := of_decide_eq_true hk; obtain ⟨i, k, r, rfl, ⟨h1, h2, h3⟩, h4⟩ := q_ald_inv (t := 101) (g := fun k i => vl (mm.2 k i)) h; exact s_lald hC hd h1 h2 h3 h4
  | caload => obtain ⟨rfl, rfl⟩ := of_decide_eq_true hk; obtain ⟨i, k, r, rfl, ⟨h1, h2, h3⟩, h4⟩ := q_ald_inv (t := 102) (g := fun k i => vi (mm.2 k i)) h; exact s_cald hC hd h1 h2 h3 h4
  | aaload => obtain ⟨rfl, rfl⟩ := of_decide_eq_true hk; obtain ⟨i, k, r, rfl, ⟨h1, h2, h3⟩, h4⟩ := q_aald_inv h; exact s_aald hC hd h1 h2 h3 h4
  | iastore => obtain ⟨rfl, rfl⟩ := of_decide_eq_true hk; obtain ⟨v, i, k, r, rfl, ⟨h1, h2, h3⟩, h4⟩ := q_iast_inv h; exact s_iast hC hd h1 h2 h3 h4
  | lastore => obtain ⟨rfl, rfl⟩ := of_decide_eq_true hk; obtain ⟨v, i, k, r, rfl, ⟨h1, h2, h3⟩, h4⟩ := q_last_inv h; exact s_last hC hd h1 h2 h3 h4
  | castore => obtain ⟨rfl, rfl⟩ := of_decide_eq_true hk; obtain ⟨v, i, k, r, rfl, ⟨h1, ⟨h5, h6⟩, h2, h3⟩, h4⟩ := q_cast_inv h; exact s_cast hC hd h1 h5 h6 h2 h3 h4
  | aastore => obtain ⟨rfl, rfl⟩ := of_decide_eq_true hk; obtain ⟨v, i, k, r, rfl, ⟨h1, h2, h3, h5, h6⟩, h4⟩ := q_aast_inv h; exact s_aast hC hd h1 h2 h3 h5 h6 h4
  | arraylength =>
    obtain ⟨rfl, rfl | rfl⟩ := of_decide_eq_true hk
    · obtain ⟨k, r, rfl, h1, h2⟩ := q_alen_inv h
      exact s_alen hC hd h1 h2
    · obtain ⟨k, r, rfl, rfl, h2⟩ := q_slen_inv h
      exact s_alen1 hC hd h2
  | new i =>
    obtain ⟨rfl, h1, h2, h3, h4, h5, h6⟩ := of_decide_eq_true hk
    have g1 := cp_use h1 h2 h3
    rw [h4] at g1
    obtain ⟨g2, g3⟩ := cw_use h5
    rw [h6] at h
    exact s_new hC hd h5 g1 g2 g3 h
  | newarray t =>
    obtain ⟨rfl, h1, h2, h3⟩ := of_decide_eq_true hk
    rw [h1] at h
    obtain ⟨n, r, rfl, ⟨h4, h5⟩, h6⟩ := q_newa_inv h
    subst h2
    refine s_newarr hC hd h3 ?_ h4 h5 h6
    rcases h3 with e | e | e <;> rw [e]
    · exact wAt_mem aw_ok.1
    · exact wAt_mem aw_ok.2.1
    · exact wAt_mem aw_ok.2.2.1
  | anewarray i =>
    obtain ⟨rfl, h1, h2, h3, h4, h5, h6⟩ := of_decide_eq_true hk
    have g1 := cp_use h2 h3 h4
    rw [h1] at h
    obtain ⟨n, r, rfl, ⟨h7, h8⟩, h9⟩ := q_newa_inv h
    refine s_anew hC hd h5 h6 g1 ?_ h7 h8 h9
    rw [← h6]
    rcases h5 with e | e | e <;> rw [e]
    · exact wAt_mem aw_ok.2.2.2.1
    · exact wAt_mem aw_ok.2.2.2.2.1
    · exact wAt_mem aw_ok.2.2.2.2.2.1
  | multianewarray i n =>
    obtain ⟨rfl, h2, h3, h4, h5⟩ := of_decide_eq_true hk
    have g1 := cp_use h2 h3 h4
    rcases h5 with ⟨rfl, rfl, e⟩ | ⟨rfl, rfl, e⟩
    · rw [e] at g1
      obtain ⟨k, n, r, rfl, ⟨⟨h6, h7⟩, h8, h9⟩, h10⟩ := q_new2_inv h
      exact s_new2 hC hd g1 (wAt_mem aw_ok.2.2.2.2.2.2.1) (wAt_mem aw_ok.1) h6 h7 h8 h9 h10
    · rw [e] at g1
      obtain ⟨z, y, x, r, rfl, ⟨⟨h6, h7⟩, ⟨h8, h9⟩, h11, h12⟩, h10⟩ := q_new3_inv h
      exact s_new3 hC hd g1 (wAt_mem aw_ok.2.2.2.2.2.2.2) (wAt_mem aw_ok.2.2.2.2.2.2.1) (wAt_mem aw_ok.1) h6 h7 h8 h9 h11 h12 h10
  | invokestatic i =>
    simp only [chkI, Bool.and_eq_true, Bool.or_eq_true, decide_eq_true_eq] at hk
    obtain ⟨⟨rfl, h2, h3, h4⟩, h5⟩ := hk
    obtain ⟨u1, u2⟩ := mp_use h2 h3 h4
    obtain ⟨n0, n1, n2, n3, n4, n5, n6, n7, -⟩ := nw_ok
    rcases h5 with ⟨e1, rfl⟩ | ⟨e1, rfl⟩ | ⟨e1, rfl⟩ | ⟨e1, rfl⟩
    · obtain ⟨g1, g2, g3⟩ := u1 (by omega)
      obtain ⟨as, r, rfl, h6, h7, h8⟩ := q_invS_inv h
      obtain ⟨rv, m', k1, k2, k3⟩ := call g3 h8
      refine s_callS hC hd hR (mw_use g3) g1 ?_ (by rw [h6]; exact Int.toNat_natCast _) h7 k2 k3 k1
      unfold mwK at g2
      rw [if_neg (by omega), if_pos (by omega)] at g2
      exact wAt_mem g2
    · have g1 := u2 (by omega)
      rw [e1] at g1
      obtain ⟨n, dp, bb, sp, a, r, rfl, ⟨⟨⟨q1, q2⟩, ⟨q3, q4, q5⟩, q6, q7⟩, q8⟩, q9⟩ := q_cpy_inv h
      exact s_cpy hC hd g1 (wAt_mem n0) (wAt_mem n1) (wAt_mem n2) q1 q2 q3 q4 q5 q6 q7 q8 q9
    · have g1 := u2 (by omega)
      rw [e1] at g1
      obtain ⟨y, x, r, rfl, q1, q2⟩ := q_mm_inv h
      exact s_max hC hd g1 (wAt_mem n3) (wAt_mem n7) (wAt_mem n4) q1 q2
    · have g1 := u2 (by omega)
      rw [e1] at g1
      obtain ⟨y, x, r, rfl, q1, q2⟩ := q_mm_inv h
      exact s_min hC hd g1 (wAt_mem n5) (wAt_mem n7) (wAt_mem n6) q1 q2
  | invokevirtual i =>
    obtain ⟨rfl, h2, h3, h4, h5, h6, rfl⟩ := of_decide_eq_true hk
    obtain ⟨g1, g2, g3⟩ := (mp_use h2 h3 h4).1 (by omega)
    obtain ⟨k, as, r, rfl, h7, h8, h9, h10⟩ := q_invV_inv h
    obtain ⟨rv, m', k1, k2, k3⟩ := call g3 h10
    unfold mwK at g2
    rw [if_pos (by omega), Bool.and_eq_true] at g2
    exact s_callV hC hd hR (mw_use g3) g1 (wAt_mem g2.1) (wAt_mem g2.2) h6 h8 (by rw [List.length_cons, Int.toNat_natCast] at h7; omega) h9 k2 k3 k1
  | invokespecial i =>
    obtain ⟨rfl, h2, h3, h4, h5⟩ := of_decide_eq_true hk
    obtain ⟨u1, u2⟩ := mp_use h2 h3 h4
    rcases h5 with ⟨h5, h6, rfl⟩ | ⟨e1, rfl⟩
    · obtain ⟨g1, g2, g3⟩ := u1 (by omega)
      obtain ⟨k, as, r, rfl, h7, h8, h9, h10⟩ := q_invV_inv h
      obtain ⟨rv, m', k1, k2, k3⟩ := call g3 h10
      unfold mwK at g2
      rw [if_neg (by omega), if_neg (by omega)] at g2
      simp only [Bool.and_eq_true, decide_eq_true_eq] at g2
      exact s_callI hC hd hR (mw_use g3) g1 (wAt_mem g2.1) g2.2.1 g2.2.2 (kd_lt (show kd mm.1 k ≠ 999 by omega)).1 (by rw [List.length_cons, Int.toNat_natCast] at h7; omega) h9 k2 k3 k1
    · have g1 := u2 (by omega)
      rw [e1] at g1
      obtain ⟨-, -, -, -, -, -, -, -, n8, n9⟩ := nw_ok
      obtain ⟨k, r, rfl, ⟨q1, q2⟩, q3⟩ := q_drop1_inv h
      exact s_oinit hC hd g1 (wAt_mem n8) (wAt_mem n9) q1 q2 q3
  | ireturn =>
    obtain ⟨rfl, ⟨rfl, h2⟩ | ⟨rfl, h2⟩ | ⟨rfl, h2⟩⟩ := of_decide_eq_true hk
    · obtain ⟨x, rfl, h3⟩ := q_ret_inv (ls := ls) h
      exact s_ireturn hret hd h2 rfl h3
    · obtain ⟨x, rfl, h4, h3⟩ := q_zret_inv (ls := ls) h
      exact s_ireturn hret hd h2 (by rcases h4 with rfl | rfl <;> rfl) h3
    · obtain ⟨x, rfl, ⟨h4, h5⟩, h3⟩ := q_cret_inv (ls := ls) h
      exact s_ireturn hret hd h2 (by rw [← i2c_eq h4 h5]; exact pk_nc _) h3
  | return_ =>
    obtain ⟨rfl, rfl, h2⟩ := of_decide_eq_true hk
    obtain ⟨rfl, h3⟩ := q_vret_inv (ls := ls) h
    exact s_vreturn hret hd h2 h3
  | dup => obtain ⟨rfl, rfl⟩ := of_decide_eq_true hk; obtain ⟨v, r, rfl, h1, h2⟩ := q_dup_inv h; exact s_dup hC h1 hd h2
  | pop => obtain ⟨rfl, rfl⟩ := of_decide_eq_true hk; obtain ⟨v, r, rfl, h1, h2⟩ := q_pop_inv h; exact s_pop hC h1 hd h2
  | _ => exact absurd hk Bool.false_ne_true
end ALL
