/-! THE LAW: both classes against one state -/
theorem l_or_lt {x y : Int} : l_or x y < 9223372036854775808 := by
  have h := Int64.toInt_lt (Int64.ofInt x ||| Int64.ofInt y)
  exact h
theorem SlC.fr {b : Nat} {D D' : Dat} {sl : Nat → Option RepA} (h : SlC b D sl) (e : ∀ x f, 3 ≤ x → x < 53 → D' x f = D x f) : SlC b D' sl := ⟨(e 3 0 (by omega) (by omega)).trans h.1, h.2.1, h.2.2.1, fun s hs => (h.2.2.2 s hs).to h.2.2.1 (SR.same (fun x f g1 g2 => e x f (by omega) (by omega)))⟩
def RelC (L : Int) (sc : Nat → Int) (D : Dat) (b : Nat) (sl : Nat → Option RepA) (O : Obs) (T : Buf) (E : Ers) (V : Svd) : Prop := D 0 0 = L ∧ D 1 = sc ∧ D 758 4 = 0 ∧ SlC b D sl ∧ ObC D O ∧ BufC D T ∧ ErC D E ∧ SvC D V
def RelM (D : Dat) (b : Nat) (sl : Nat → Option RepA) (O : Obs) (T : Buf) (E : Ers) (V : Svd) : Prop := SlM b D sl ∧ ObM D O ∧ BufM D T ∧ ErM D E ∧ SvM D V
theorem ObC.fr {D D' : Dat} {o : Obs} (h : ObC D o) (e : ∀ x f, 104 ≤ x → x ≤ 106 → D' x f = D x f) : ObC D' o := ⟨(e _ _ (by omega) (by omega)).trans h.1, h.2.1, fun i hi => by rw [e 105 i (by omega) (by omega), e 106 i (by omega) (by omega)]; exact h.2.2 i hi⟩
theorem BufC.fr {D D' : Dat} {o : Buf} (h : BufC D o) (e : ∀ x f, 107 ≤ x → x ≤ 108 → D' x f = D x f) : BufC D' o := ⟨(e _ _ (by omega) (by omega)).trans h.1, h.2.1, fun i hi => by rw [e 108 i (by omega) (by omega)]; exact h.2.2 i hi⟩
theorem ErC.fr {D D' : Dat} {o : Ers} (h : ErC D o) (e : ∀ x f, 110 ≤ x → x ≤ 112 → D' x f = D x f) : ErC D' o := ⟨(e _ _ (by omega) (by omega)).trans h.1, h.2.1, fun i hi => by rw [e 111 i (by omega) (by omega), e 112 i (by omega) (by omega)]; exact h.2.2 i hi⟩
theorem SvC.fr {D D' : Dat} {o : Svd} (h : SvC D o) (e0 : D' 2 3 = D 2 3) (e : ∀ x f, 852 ≤ x → x < 1052 → D' x f = D x f) : SvC D' o := ⟨e0.trans h.1, h.2.1, fun i hi => by
  have h4 := h.2.1
  obtain ⟨a1, a2, a3, a4⟩ := h.2.2 i hi
  exact ⟨(e _ _ (by omega) (by omega)).trans a1, a2, a3, fun s hs => (a4 s hs).to a3 (SR.same (fun x f g1 g2 => e x f (by omega) (by omega)))⟩⟩
theorem ObM.fr {D D' : Dat} {o : Obs} (h : ObM D o) (e0 : D' 1052 22 = D 1052 22) (e : ∀ x f, 1199 ≤ x → x ≤ 1200 → D' x f = D x f) : ObM D' o := ⟨e0.trans h.1, h.2.1, fun i hi => by rw [e 1199 i (by omega) (by omega), e 1200 i (by omega) (by omega)]; exact h.2.2 i hi⟩
theorem BufM.fr {D D' : Dat} {o : Buf} (h : BufM D o) (e0 : D' 1052 24 = D 1052 24) (e : ∀ f, D' 1201 f = D 1201 f) : BufM D' o := ⟨e0.trans h.1, h.2.1, fun i hi => by rw [e i]; exact h.2.2 i hi⟩
theorem ErM.fr {D D' : Dat} {o : Ers} (h : ErM D o) (e0 : D' 1052 28 = D 1052 28) (e : ∀ x f, 1202 ≤ x → x ≤ 1203 → D' x f = D x f) : ErM D' o := ⟨e0.trans h.1, h.2.1, fun i hi => by rw [e 1202 i (by omega) (by omega), e 1203 i (by omega) (by omega)]; exact h.2.2 i hi⟩
theorem SvM.fr {D D' : Dat} {o : Svd} (h : SvM D o) (e0 : D' 1052 36 = D 1052 36) (e : ∀ x f, 1209 ≤ x → D' x f = D x f) : SvM D' o := ⟨e0.trans h.1, h.2.1, fun i hi => by
  obtain ⟨a1, a2, a3, a4⟩ := h.2.2 i hi
  exact ⟨(e _ _ (by omega)).trans a1, a2, a3, fun s hs => (a4 s hs).to a3 (fun j _ => e _ _ (by omega))⟩⟩
theorem RelM.fm {D D' : Dat} {b : Nat} {sl : Nat → Option RepA} {O : Obs} {T : Buf} {E : Ers} {V : Svd} (h : RelM D b sl O T E V) (e : ∀ x f, 1052 ≤ x → D' x f = D x f) : RelM D' b sl O T E V := by
  obtain ⟨h1, h2, h3, h4, h5⟩ := h
  exact ⟨h1.fr (e _ _ (by omega)) (fun s _ i _ => e _ _ (by omega)), h2.fr (e _ _ (by omega)) (fun x f _ _ => e _ _ (by omega)), h3.fr (e _ _ (by omega)) (fun f => e _ _ (by omega)), h4.fr (e _ _ (by omega)) (fun x f _ _ => e _ _ (by omega)), h5.fr (e _ _ (by omega)) (fun x f _ => e _ _ (by omega))⟩
theorem RelC.fx {L : Int} {sc : Nat → Int} {D D' : Dat} {b : Nat} {sl : Nat → Option RepA} {O : Obs} {T : Buf} {E : Ers} {V : Svd} (h : RelC L sc D b sl O T E V) (e : ∀ x f, x < 1052 → D' x f = D x f) : RelC L sc D' b sl O T E V := by
  obtain ⟨l0, l1, lz, h1, h2, h3, h4, h5⟩ := h
  exact ⟨(e _ _ (by omega)).trans l0, (funext fun f => e _ f (by omega)).trans l1, (e _ _ (by omega)).trans lz, h1.fr (fun x f _ _ => e _ _ (by omega)), h2.fr (fun x f _ _ => e _ _ (by omega)), h3.fr (fun x f _ _ => e _ _ (by omega)), h4.fr (fun x f _ _ => e _ _ (by omega)), h5.fr (e _ _ (by omega)) (fun x f _ _ => e _ _ (by omega))⟩
theorem RelC.kc {L : Int} {sc : Nat → Int} {D D' : Dat} {b : Nat} {sl : Nat → Option RepA} {O : Obs} {T : Buf} {E : Ers} {V : Svd} (h : RelC L sc D b sl O T E V) (e : KC D D') : RelC L sc D' b sl O T E V := by
  obtain ⟨l0, l1, lz, h1, h2, h3, h4, h5⟩ := h
  exact ⟨(e _ _ (by omega)).trans l0, (funext fun f => e _ f (by omega)).trans l1, (e _ _ (by omega)).trans lz, h1.fr (fun x f _ _ => e _ _ (by omega)), h2.fr (fun x f _ _ => e _ _ (by omega)), h3.fr (fun x f _ _ => e _ _ (by omega)), h4.fr (fun x f _ _ => e _ _ (by omega)), h5.fr (e _ _ (by omega)) (fun x f _ _ => e _ _ (by omega))⟩
theorem RelC.kc2 {L : Int} {sc : Nat → Int} {D D' : Dat} {b b' : Nat} {sl sl' : Nat → Option RepA} {O : Obs} {T : Buf} {E : Ers} {V : Svd} (h : RelC L sc D b sl O T E V) (e : KC2 D D') (g : SlC b' D' sl') : RelC L sc D' b' sl' O T E V := by
  obtain ⟨l0, l1, lz, h1, h2, h3, h4, h5⟩ := h
  exact ⟨(e _ _ (by omega)).trans l0, (funext fun f => e _ f (by omega)).trans l1, (e _ _ (by omega)).trans lz, g, h2.fr (fun x f _ _ => e _ _ (by omega)), h3.fr (fun x f _ _ => e _ _ (by omega)), h4.fr (fun x f _ _ => e _ _ (by omega)), h5.fr (e _ _ (by omega)) (fun x f _ _ => e _ _ (by omega))⟩
theorem RelM.km {D D' : Dat} {b : Nat} {sl : Nat → Option RepA} {O : Obs} {T : Buf} {E : Ers} {V : Svd} (h : RelM D b sl O T E V) (e : KM D D') : RelM D' b sl O T E V := by
  obtain ⟨h1, h2, h3, h4, h5⟩ := h
  exact ⟨h1.to e, h2.fr (e _ _ (by omega)) (fun x f _ _ => e _ _ (by omega)), h3.fr (e _ _ (by omega)) (fun f => e _ _ (by omega)), h4.fr (e _ _ (by omega)) (fun x f _ _ => e _ _ (by omega)), h5.fr (e _ _ (by omega)) (fun x f _ => e _ _ (by omega))⟩
theorem RelM.km2 {D D' : Dat} {b b' : Nat} {sl sl' : Nat → Option RepA} {O : Obs} {T : Buf} {E : Ers} {V : Svd} (h : RelM D b sl O T E V) (e : KM2 D D') (g : SlM b' D' sl') : RelM D' b' sl' O T E V := by
  obtain ⟨h1, h2, h3, h4, h5⟩ := h
  exact ⟨g, h2.fr (e _ _ (by omega)) (fun x f _ _ => e _ _ (by omega)), h3.fr (e _ _ (by omega)) (fun f => e _ _ (by omega)), h4.fr (e _ _ (by omega)) (fun x f _ _ => e _ _ (by omega)), h5.fr (e _ _ (by omega)) (fun x f _ => e _ _ (by omega))⟩
def LwI (L : Int) (sc : Nat → Int) (D : Dat) : Prop := ∃ b sl O T E V, RelC L sc D b sl O T E V ∧ RelM D b sl O T E V
