/-! programs: the automaton against the reader of statements -/
abbrev isD (c : Int) : Prop := 48 ≤ c ∧ c ≤ 57
def cur (o : Buf) (p : Nat) : Int := if p < o.1 then o.2 p else -1
def nx2 (c : Int) : Int := if c = 109 ∨ c = 114 ∨ c = 99 then 5 else if c = 116 ∨ c = 108 then 4 else if c = 107 then 6 else if c = 110 then 11 else if isD c then 3 else -1
def nxt (s c : Int) : Int := if s = 0 then (if isD c then 1 else -1) else if s = 1 then (if c = 61 then 2 else -1) else if s = 2 then nx2 c else if s = 3 then (if c = 43 ∨ c = 45 ∨ c = 42 then 5 else if c = 59 then 0 else -1) else if s = 4 then (if isD c then 5 else -1) else if s = 5 then (if isD c then 11 else -1) else if s < 11 ∧ isD c then s + 1 else if 6 < s then (if c = 59 then 0 else -1) else -1
/-- the error position or -1; where statements begin -/
def au (o : Buf) : Nat → Nat → Int → Int × List Nat
  | 0, _, s => (if s = 3 ∨ 6 < s then -1 else (o.1 : Int), [])
  | f + 1, a, s => if nxt s (o.2 a) = -1 then ((a : Int), if s = 0 then [a] else []) else ((au o f (a + 1) (nxt s (o.2 a))).1, if s = 0 then a :: (au o f (a + 1) (nxt s (o.2 a))).2 else (au o f (a + 1) (nxt s (o.2 a))).2)
def auA (o : Buf) (a : Nat) (s : Int) : Int × List Nat := au o (o.1 - a) a s
theorem auA_s {o : Buf} {a : Nat} {s : Int} (h : a < o.1) : auA o a s = if nxt s (o.2 a) = -1 then ((a : Int), if s = 0 then [a] else []) else ((auA o (a + 1) (nxt s (o.2 a))).1, if s = 0 then a :: (auA o (a + 1) (nxt s (o.2 a))).2 else (auA o (a + 1) (nxt s (o.2 a))).2) := by
  unfold auA
  rw [show o.1 - a = (o.1 - (a + 1)) + 1 from by omega]
  rfl
theorem auA_e {o : Buf} {s : Int} : auA o o.1 s = (if s = 3 ∨ 6 < s then -1 else (o.1 : Int), []) := by
  unfold auA
  rw [Nat.sub_self]
  rfl
theorem cur_lt {o : Buf} {a : Nat} (h : a < o.1) : cur o a = o.2 a := if_pos h
theorem cur_in {o : Buf} {a : Nat} (h : cur o a ≠ -1) : a < o.1 := by
  unfold cur at h
  by_cases e : a < o.1
  · exact e
  · rw [if_neg e] at h; exact absurd rfl h
theorem auA_bad {o : Buf} {a : Nat} {s : Int} (ha : a ≤ o.1) (hs : ¬ (s = 3 ∨ 6 < s)) (h : nxt s (cur o a) = -1) : (auA o a s).1 = a := by
  by_cases e : a < o.1
  · rw [auA_s e, if_pos (by rw [← cur_lt e]; exact h)]
  · obtain rfl : a = o.1 := by omega
    rw [auA_e, if_neg hs]
theorem auA_go {o : Buf} {a : Nat} {s t : Int} (ha : a < o.1) (hs : s ≠ 0) (h : nxt s (cur o a) = t) (ht : t ≠ -1) : auA o a s = auA o (a + 1) t := by
  rw [auA_s ha, ← cur_lt ha, h, if_neg ht, if_neg hs]
theorem auA_go0 {o : Buf} {a : Nat} (ha : a < o.1) (h : nxt 0 (cur o a) = 1) : auA o a 0 = ((auA o (a + 1) 1).1, a :: (auA o (a + 1) 1).2) := by
  rw [auA_s ha, ← cur_lt ha, h, if_neg (by omega), if_pos rfl]
/-- how many digits, at most m; what they say -/
def nd (o : Buf) : Nat → Nat → Nat
  | 0, _ => 0
  | m + 1, p => if isD (cur o p) then nd o m (p + 1) + 1 else 0
def nv (o : Buf) : Nat → Int → Nat → Int
  | 0, a, _ => a
  | m + 1, a, p => if isD (cur o p) then nv o m (10 * a + (cur o p - 48)) (p + 1) else a
theorem nd_le (o : Buf) : ∀ m p, nd o m p ≤ m
  | 0, _ => Nat.le_refl _
  | m + 1, p => by
    unfold nd
    split
    · have := nd_le o m (p + 1); omega
    · omega
theorem nd_run {o : Buf} : ∀ m p, m ≤ 5 → p ≤ o.1 → p + nd o m p ≤ o.1 ∧ auA o p (11 - (m : Int)) = auA o (p + nd o m p) (11 - (m : Int) + (nd o m p : Nat)) ∧ (nd o m p = m ∨ ¬ isD (cur o (p + nd o m p)))
  | 0, p, _, hp => ⟨hp, by show auA o p _ = auA o (p + 0) (11 - ((0 : Nat) : Int) + ((0 : Nat) : Int)); simp, Or.inl rfl⟩
  | m + 1, p, hm, hp => by
    unfold nd
    by_cases e : isD (cur o p)
    · rw [if_pos e]
      have hl : p < o.1 := cur_in (by have := e.1; omega)
      obtain ⟨h1, h2, h3⟩ := nd_run (o := o) m (p + 1) (by omega) hl
      have e1 : p + 1 + nd o m (p + 1) = p + (nd o m (p + 1) + 1) := by omega
      rw [e1] at h1 h2 h3
      refine ⟨h1, ?_, ?_⟩
      · have g := auA_go (o := o) (a := p) (s := 11 - ((m + 1 : Nat) : Int)) (t := 11 - (m : Int)) hl (by omega) (by
          unfold nxt
          rw [if_neg (by omega), if_neg (by omega), if_neg (by omega), if_neg (by omega), if_neg (by omega), if_neg (by omega), if_pos ⟨by omega, e⟩]
          omega) (by omega)
        rw [g, h2]
        congr 1
        omega
      · rcases h3 with h | h
        · exact Or.inl (by omega)
        · exact Or.inr h
    · rw [if_neg e]
      exact ⟨hp, by simp, Or.inr e⟩
/-- a statement from p on: is it one, where its reading ends, what it says -/
def rdS (o : Buf) (p : Nat) : Bool × Nat × Int × Int × Int × Int :=
  if isD (cur o p) then
    (if cur o (p + 1) = 61 then
      (if isD (cur o (p + 2)) then
        (if cur o (p + 3) = 43 ∨ cur o (p + 3) = 45 ∨ cur o (p + 3) = 42 then
          (if isD (cur o (p + 4)) then (true, p + 5, cur o p - 48, cur o (p + 3), cur o (p + 2) - 48, cur o (p + 4) - 48) else (false, p + 4, 0, 0, 0, 0))
        else (true, p + 3, cur o p - 48, 97, cur o (p + 2) - 48, 0))
      else if cur o (p + 2) = 110 then (true, p + 3, cur o p - 48, 110, 0, 0)
      else if cur o (p + 2) = 107 then (if nd o 5 (p + 3) = 0 then (false, p + 3, 0, 0, 0, 0) else (true, p + 3 + nd o 5 (p + 3), cur o p - 48, 107, nv o 5 0 (p + 3), 0))
      else if cur o (p + 2) = 109 ∨ cur o (p + 2) = 114 ∨ cur o (p + 2) = 99 then (if isD (cur o (p + 3)) then (true, p + 4, cur o p - 48, cur o (p + 2), cur o (p + 3) - 48, 0) else (false, p + 3, 0, 0, 0, 0))
      else if cur o (p + 2) = 116 ∨ cur o (p + 2) = 108 then (if isD (cur o (p + 3)) then (if isD (cur o (p + 4)) then (true, p + 5, cur o p - 48, cur o (p + 2), cur o (p + 3) - 48, cur o (p + 4) - 48) else (false, p + 4, 0, 0, 0, 0)) else (false, p + 3, 0, 0, 0, 0))
      else (false, p + 2, 0, 0, 0, 0))
    else (false, p + 1, 0, 0, 0, 0))
  else (false, p, 0, 0, 0, 0)
/-- a stage at which a statement may end, and what follows is its end or nothing -/
def EndS (o : Buf) (s : Int) (q : Nat) : Prop := s ≠ 0 ∧ (s = 3 ∨ 6 < s) ∧ (q < o.1 → nxt s (cur o q) = if cur o q = 59 then 0 else -1)
theorem end3 {o : Buf} {q : Nat} (h : ¬ (cur o q = 43 ∨ cur o q = 45 ∨ cur o q = 42)) : EndS o 3 q := ⟨by omega, Or.inl rfl, fun _ => by
  unfold nxt
  rw [if_neg (by omega), if_neg (by omega), if_neg (by omega), if_pos rfl, if_neg h]⟩
theorem end7 {o : Buf} {q : Nat} {s : Int} (h6 : 6 < s) (h : s = 11 ∨ ¬ isD (cur o q)) (h11 : s ≤ 11) : EndS o s q := ⟨by omega, Or.inr h6, fun _ => by
  unfold nxt
  rw [if_neg (by omega), if_neg (by omega), if_neg (by omega), if_neg (by omega), if_neg (by omega), if_neg (by omega), if_neg (by rintro ⟨a, c⟩; rcases h with h | h; omega; exact h c), if_pos h6]⟩
theorem nxt1 {c : Int} : nxt 1 c = if c = 61 then 2 else -1 := by unfold nxt; rw [if_neg (by omega), if_pos rfl]
theorem nxt2 {c : Int} : nxt 2 c = nx2 c := by unfold nxt; rw [if_neg (by omega), if_neg (by omega), if_pos rfl]
theorem nxt3 {c : Int} : nxt 3 c = if c = 43 ∨ c = 45 ∨ c = 42 then 5 else if c = 59 then 0 else -1 := by unfold nxt; rw [if_neg (by omega), if_neg (by omega), if_neg (by omega), if_pos rfl]
theorem nxt4 {c : Int} : nxt 4 c = if isD c then 5 else -1 := by unfold nxt; rw [if_neg (by omega), if_neg (by omega), if_neg (by omega), if_neg (by omega), if_pos rfl]
theorem nxt5 {c : Int} : nxt 5 c = if isD c then 11 else -1 := by unfold nxt; rw [if_neg (by omega), if_neg (by omega), if_neg (by omega), if_neg (by omega), if_neg (by omega), if_pos rfl]
theorem nxt0 {c : Int} : nxt 0 c = if isD c then 1 else -1 := by unfold nxt; rw [if_pos rfl]
theorem rd_au {o : Buf} {p : Nat} (hp : p ≤ o.1) : ((rdS o p).1 = true → (rdS o p).2.1 ≤ o.1 ∧ p + 3 ≤ (rdS o p).2.1 ∧ ∃ s, EndS o s (rdS o p).2.1 ∧ auA o p 0 = ((auA o (rdS o p).2.1 s).1, p :: (auA o (rdS o p).2.1 s).2)) ∧ ((rdS o p).1 = false → (auA o p 0).1 = (rdS o p).2.1) := by
  unfold rdS
  by_cases c0 : isD (cur o p)
  case neg =>
    rw [if_neg c0]
    exact ⟨fun h => (by cases h), fun _ => auA_bad hp (by omega) (by rw [nxt0, if_neg c0])⟩
  have l0 : p < o.1 := cur_in (by have := c0.1; omega)
  have g0 := auA_go0 l0 (by rw [nxt0, if_pos c0])
  rw [if_pos c0]
  by_cases c1 : cur o (p + 1) = 61
  case neg =>
    rw [if_neg c1]
    exact ⟨fun h => (by cases h), fun _ => by rw [g0]; exact auA_bad (by omega) (by omega) (by rw [nxt1, if_neg c1])⟩
  have l1 : p + 1 < o.1 := cur_in (by omega)
  have g1 := auA_go (s := 1) (t := 2) l1 (by omega) (by rw [nxt1, if_pos c1]) (by omega)
  rw [if_pos c1]
  rw [g1] at g0
  have bad2 : ∀ {q : Nat} {s : Int}, auA o (p + 1 + 1) 2 = auA o q s → q ≤ o.1 → ¬ (s = 3 ∨ 6 < s) → nxt s (cur o q) = -1 → (auA o p 0).1 = q := fun h1 h2 h3 h4 => by rw [g0, h1]; exact auA_bad h2 h3 h4
  have good : ∀ {q : Nat} {s : Int}, auA o (p + 1 + 1) 2 = auA o q s → q ≤ o.1 → p + 3 ≤ q → EndS o s q → q ≤ o.1 ∧ p + 3 ≤ q ∧ ∃ s, EndS o s q ∧ auA o p 0 = ((auA o q s).1, p :: (auA o q s).2) := fun {q s} h1 h2 h3 h4 => ⟨h2, h3, s, h4, by rw [g0, h1]⟩
  by_cases c2 : isD (cur o (p + 2))
  · rw [if_pos c2]
    have l2 : p + 1 + 1 < o.1 := cur_in (by have := c2.1; show cur o (p + 2) ≠ -1; omega)
    have g2 := auA_go (o := o) (a := p + 1 + 1) (s := 2) (t := 3) l2 (by omega) (by
      rw [nxt2]
      have := c2.1
      have := c2.2
      show nx2 (cur o (p + 2)) = 3
      unfold nx2
      rw [if_neg (by omega), if_neg (by omega), if_neg (by omega), if_neg (by omega), if_pos c2]) (by omega)
    by_cases c3 : cur o (p + 3) = 43 ∨ cur o (p + 3) = 45 ∨ cur o (p + 3) = 42
    · rw [if_pos c3]
      have l3 : p + 1 + 1 + 1 < o.1 := cur_in (by show cur o (p + 3) ≠ -1; omega)
      have g3 := auA_go (o := o) (a := p + 1 + 1 + 1) (s := 3) (t := 5) l3 (by omega) (by rw [nxt3]; exact if_pos c3) (by omega)
      by_cases c4 : isD (cur o (p + 4))
      · rw [if_pos c4]
        have l4 : p + 1 + 1 + 1 + 1 < o.1 := cur_in (by have := c4.1; show cur o (p + 4) ≠ -1; omega)
        have g4 := auA_go (o := o) (a := p + 1 + 1 + 1 + 1) (s := 5) (t := 11) l4 (by omega) (by rw [nxt5]; exact if_pos c4) (by omega)
        exact ⟨fun _ => good (q := p + 5) ((g2.trans g3).trans g4) l4 (by omega) (end7 (by omega) (Or.inl rfl) (by omega)), fun h => by cases h⟩
      · rw [if_neg c4]
        exact ⟨fun h => (by cases h), fun _ => bad2 (g2.trans g3) l3 (by omega) (by rw [nxt5]; exact if_neg c4)⟩
    · rw [if_neg c3]
      exact ⟨fun _ => good (q := p + 3) g2 l2 (by omega) (end3 c3), fun h => by cases h⟩
  rw [if_neg c2]
  by_cases n : cur o (p + 2) = 110
  · rw [if_pos n]
    have l2 : p + 1 + 1 < o.1 := cur_in (by show cur o (p + 2) ≠ -1; omega)
    have g2 := auA_go (o := o) (a := p + 1 + 1) (s := 2) (t := 11) l2 (by omega) (by
      rw [nxt2]
      show nx2 (cur o (p + 2)) = 11
      rw [n]; rfl) (by omega)
    exact ⟨fun _ => good (q := p + 3) g2 l2 (by omega) (end7 (by omega) (Or.inl rfl) (by omega)), fun h => by cases h⟩
  rw [if_neg n]
  by_cases kk : cur o (p + 2) = 107
  · rw [if_pos kk]
    have l2 : p + 1 + 1 < o.1 := cur_in (by show cur o (p + 2) ≠ -1; omega)
    have g2 := auA_go (o := o) (a := p + 1 + 1) (s := 2) (t := 6) l2 (by omega) (by
      rw [nxt2]
      show nx2 (cur o (p + 2)) = 6
      rw [kk]; rfl) (by omega)
    obtain ⟨h1, h2, h3⟩ := nd_run (o := o) 5 (p + 3) (by omega) l2
    have hle := nd_le o 5 (p + 3)
    have g3 : auA o (p + 3) 6 = auA o (p + 3 + nd o 5 (p + 3)) (6 + (nd o 5 (p + 3) : Nat)) := h2
    by_cases hn : nd o 5 (p + 3) = 0
    · rw [if_pos hn]
      rw [hn] at h3
      refine ⟨fun h => (by cases h), fun _ => bad2 g2 l2 (by omega) ?_⟩
      unfold nxt
      rw [if_neg (by omega), if_neg (by omega), if_neg (by omega), if_neg (by omega), if_neg (by omega), if_neg (by omega), if_neg (by rintro ⟨a, c⟩; rcases h3 with h | h; omega; exact h c), if_neg (by omega)]
    · rw [if_neg hn]
      refine ⟨fun _ => good (q := p + 3 + nd o 5 (p + 3)) (g2.trans g3) h1 (by omega) (end7 (by omega) ?_ (by omega)), fun h => by cases h⟩
      rcases h3 with h | h
      · exact Or.inl (by omega)
      · exact Or.inr h
  rw [if_neg kk]
  by_cases m : cur o (p + 2) = 109 ∨ cur o (p + 2) = 114 ∨ cur o (p + 2) = 99
  · rw [if_pos m]
    have l2 : p + 1 + 1 < o.1 := cur_in (by show cur o (p + 2) ≠ -1; omega)
    have g2 := auA_go (o := o) (a := p + 1 + 1) (s := 2) (t := 5) l2 (by omega) (by
      rw [nxt2]
      exact if_pos m) (by omega)
    by_cases c3 : isD (cur o (p + 3))
    · rw [if_pos c3]
      have l3 : p + 1 + 1 + 1 < o.1 := cur_in (by have := c3.1; show cur o (p + 3) ≠ -1; omega)
      have g3 := auA_go (o := o) (a := p + 1 + 1 + 1) (s := 5) (t := 11) l3 (by omega) (by rw [nxt5]; exact if_pos c3) (by omega)
      exact ⟨fun _ => good (q := p + 4) (g2.trans g3) l3 (by omega) (end7 (by omega) (Or.inl rfl) (by omega)), fun h => by cases h⟩
    · rw [if_neg c3]
      exact ⟨fun h => (by cases h), fun _ => bad2 g2 l2 (by omega) (by rw [nxt5]; exact if_neg c3)⟩
  rw [if_neg m]
  by_cases tt : cur o (p + 2) = 116 ∨ cur o (p + 2) = 108
  · rw [if_pos tt]
    have l2 : p + 1 + 1 < o.1 := cur_in (by show cur o (p + 2) ≠ -1; omega)
    have g2 := auA_go (o := o) (a := p + 1 + 1) (s := 2) (t := 4) l2 (by omega) (by
      rw [nxt2]
      show nx2 (cur o (p + 2)) = 4
      unfold nx2
      rw [if_neg m, if_pos tt]) (by omega)
    by_cases c3 : isD (cur o (p + 3))
    · rw [if_pos c3]
      have l3 : p + 1 + 1 + 1 < o.1 := cur_in (by have := c3.1; show cur o (p + 3) ≠ -1; omega)
      have g3 := auA_go (o := o) (a := p + 1 + 1 + 1) (s := 4) (t := 5) l3 (by omega) (by rw [nxt4]; exact if_pos c3) (by omega)
      by_cases c4 : isD (cur o (p + 4))
      · rw [if_pos c4]
        have l4 : p + 1 + 1 + 1 + 1 < o.1 := cur_in (by have := c4.1; show cur o (p + 4) ≠ -1; omega)
        have g4 := auA_go (o := o) (a := p + 1 + 1 + 1 + 1) (s := 5) (t := 11) l4 (by omega) (by rw [nxt5]; exact if_pos c4) (by omega)
        exact ⟨fun _ => good (q := p + 5) ((g2.trans g3).trans g4) l4 (by omega) (end7 (by omega) (Or.inl rfl) (by omega)), fun h => by cases h⟩
      · rw [if_neg c4]
        exact ⟨fun h => (by cases h), fun _ => bad2 (g2.trans g3) l3 (by omega) (by rw [nxt5]; exact if_neg c4)⟩
    · rw [if_neg c3]
      exact ⟨fun h => (by cases h), fun _ => bad2 g2 l2 (by omega) (by rw [nxt4]; exact if_neg c3)⟩
  rw [if_neg tt]
  refine ⟨fun h => (by cases h), fun _ => bad2 rfl l1 (by omega) ?_⟩
  rw [nxt2]
  show nx2 (cur o (p + 2)) = -1
  unfold nx2
  rw [if_neg m, if_neg tt, if_neg kk, if_neg n, if_neg c2]
/-- behind a statement: the end, or a semicolon and the next, or a fault -/
theorem end_au {o : Buf} {s : Int} {q : Nat} (h : EndS o s q) (hq : q ≤ o.1) : (q = o.1 → auA o q s = (-1, [])) ∧ (q < o.1 → cur o q = 59 → auA o q s = auA o (q + 1) 0) ∧ (q < o.1 → cur o q ≠ 59 → auA o q s = ((q : Int), [])) := by
  obtain ⟨h0, h1, h2⟩ := h
  refine ⟨fun e => ?_, fun e c => ?_, fun e c => ?_⟩
  · rw [e, auA_e, if_pos h1]
  · have z := h2 e
    rw [if_pos c] at z
    exact auA_go e h0 z (by omega)
  · have z := h2 e
    rw [if_neg c] at z
    rw [auA_s e, ← cur_lt e, z, if_pos rfl, if_neg h0]
