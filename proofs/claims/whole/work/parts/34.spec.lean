/-! THE MATHEMATICS that both classes are held against: representations, vectors -/
/-- dimension, row vector, column vector, matrices -/
abbrev RepA : Type := Nat × (Nat → Int) × (Nat → Int) × (Nat → Nat → Nat → Int)
abbrev dmA (A : RepA) : Nat := A.1
abbrev rwA (A : RepA) : Nat → Int := A.2.1
abbrev clA (A : RepA) : Nat → Int := A.2.2.1
abbrev mtA (A : RepA) : Nat → Nat → Nat → Int := A.2.2.2
def okA (b : Nat) (A : RepA) : Prop := dmA A ≤ 8 ∧ (∀ i, i < dmA A → rs (rwA A i)) ∧ (∀ i, i < dmA A → rs (clA A i)) ∧ ∀ g, g < b → ∀ i j, i < dmA A → j < dmA A → rs (mtA A g i j)
def vmt (d : Nat) (v : Nat → Int) (M : Nat → Nat → Int) : Nat → Int := fun j => sumN d (fun i => v i * M i j) % 10007
def mvt (d : Nat) (M : Nat → Nat → Int) (c : Nat → Int) : Nat → Int := fun i => sumN d (fun j => M i j * c j) % 10007
def dtt (d : Nat) (v c : Nat → Int) : Int := sumN d (fun i => v i * c i) % 10007
/-- the reached vector of the string of t digits whose number is p -/
def rv (A : RepA) (b : Nat) : Nat → Nat → Nat → Int
  | 0, _ => rwA A
  | t + 1, p => vmt (dmA A) (rv A b t (p / b)) (mtA A (p % b))
/-- the column of the t lowest digits of n -/
def cv (A : RepA) (b : Nat) : Nat → Nat → Nat → Int
  | 0, _ => clA A
  | t + 1, n => mvt (dmA A) (mtA A ((n / b ^ t) % b)) (cv A b t n)
def valA (A : RepA) (b L n : Nat) : Int := dtt (dmA A) (rv A b L n) (clA A)
theorem rv_rs {A : RepA} {b : Nat} (h : okA b A) : ∀ t p i, i < dmA A → rs (rv A b t p i)
  | 0, _, i, hi => h.2.1 i hi
  | _ + 1, _, _, _ => rs_mod
theorem cv_rs {A : RepA} {b : Nat} (h : okA b A) : ∀ t p i, i < dmA A → rs (cv A b t p i)
  | 0, _, i, hi => h.2.2.1 i hi
  | _ + 1, _, _, _ => rs_mod
def dgt (b : Nat) : Nat → Nat → Nat
  | 0, _ => 0
  | f + 1, n => if n = 0 then 0 else dgt b f (n / b) + 1
/-- the number of digits (n below 2^64) -/
def digs (b n : Nat) : Nat := dgt b 64 n
theorem dgt_le (b : Nat) : ∀ f n, dgt b f n ≤ f
  | 0, _ => Nat.le_refl _
  | f + 1, n => by
    unfold dgt
    split
    · omega
    · have := dgt_le b f (n / b); omega
theorem dv_s (N b u : Nat) : ((N / b ^ u : Nat) : Int) / (b : Int) = ((N / b ^ (u + 1) : Nat) : Int) := by
  rw [← Int.natCast_ediv, Nat.div_div_eq_div_mul, Nat.pow_succ]
theorem md_c (N b : Nat) : ((N : Nat) : Int) % (b : Int) = ((N % b : Nat) : Int) := (Int.natCast_emod N b).symm
theorem dv_c (N b : Nat) : ((N : Nat) : Int) / (b : Int) = ((N / b : Nat) : Int) := (Int.natCast_ediv N b).symm
theorem dv_le (N b u : Nat) : N / b ^ u ≤ N := Nat.div_le_self _ _
/-- what the reference's row of ints says -/
def RepM (b : Nat) (D : Dat) (s : Nat) (A : RepA) : Prop := D s 0 = dmA A ∧ (∀ i, i < dmA A → D s (1 + i) = rwA A i) ∧ (∀ i, i < dmA A → D s (9 + i) = clA A i) ∧ ∀ g, g < b → ∀ i j, i < dmA A → j < dmA A → D s (17 + 64 * g + 8 * i + j) = mtA A g i j
theorem RepM.to {b : Nat} {D D' : Dat} {s s' : Nat} {A : RepA} (h : RepM b D s A) (e : ∀ i, i < 273 → D' s' i = D s i) (hA : okA b A) (hb : b ≤ 4) : RepM b D' s' A := by
  have h8 := hA.1
  refine ⟨(e 0 (by omega)).trans h.1, fun i hi => (e _ (by omega)).trans (h.2.1 i hi), fun i hi => (e _ (by omega)).trans (h.2.2.1 i hi), fun g hg i j hi hj => (e _ (by omega)).trans (h.2.2.2 g hg i j hi hj)⟩
