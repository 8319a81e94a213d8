/-! new T[a][b][k]: the outer array, then each middle one with its rows behind it -/
def o3 (c : ClassId) (N h0 w : Nat) : Nat → Cell
  | 0 => { cls := c, slots := Array.replicate N .null, vm := .none }
  | i + 1 => (o3 c N h0 w i).setSlot i (.ref (h0 + 1 + i * w))
def fill3 (s : State) (c1 c2 c3 : ClassId) (a b k : Nat) (dv : Value) : Nat → State
  | 0 => s.pushCell (o3 c1 a s.heap.size (b + 1) 0)
  | i + 1 => (Jvm.Free.Multi.fill (fill3 s c1 c2 c3 a b k dv i) c2 c3 b k dv b).setCell s.heap.size (o3 c1 a s.heap.size (b + 1) (i + 1))
theorem o3_facts (c : ClassId) (N h0 w : Nat) : ∀ i, (o3 c N h0 w i).cls = c ∧ (o3 c N h0 w i).vm = .none ∧ (o3 c N h0 w i).slots.size = N
  | 0 => ⟨rfl, rfl, by simp [o3]⟩
  | i + 1 => by
    obtain ⟨a, b, d⟩ := o3_facts c N h0 w i
    exact ⟨by simp [o3, Cell.setSlot, a], by simp [o3, Cell.setSlot, b], by simp [o3, Cell.setSlot, d]⟩
theorem fill3_facts (s : State) (c1 c2 c3 : ClassId) (a b k : Nat) (dv : Value) : ∀ i, (fill3 s c1 c2 c3 a b k dv i).heap.size = s.heap.size + 1 + i * (b + 1) ∧ (fill3 s c1 c2 c3 a b k dv i).heap[s.heap.size]? = some (o3 c1 a s.heap.size (b + 1) i) ∧ (fill3 s c1 c2 c3 a b k dv i).vm = s.vm ∧ (fill3 s c1 c2 c3 a b k dv i).slotsUsed = s.slotsUsed + a + i * (b + b * k)
  | 0 => ⟨by simp [fill3], by simp [fill3], rfl, by simp [fill3, o3]⟩
  | i + 1 => by
    obtain ⟨h1, h2, h3, h4⟩ := fill3_facts s c1 c2 c3 a b k dv i
    obtain ⟨f1, f2, f3, f4⟩ := Jvm.Free.Multi.fill_facts (fill3 s c1 c2 c3 a b k dv i) c2 c3 b k dv b
    have hlt : s.heap.size < (fill3 s c1 c2 c3 a b k dv i).heap.size := by omega
    have hb' : (Jvm.Free.Multi.fill (fill3 s c1 c2 c3 a b k dv i) c2 c3 b k dv b).heap[s.heap.size]? = some (o3 c1 a s.heap.size (b + 1) i) := by rw [Jvm.Free.Multi.fill_old (ha := hlt)]; exact h2
    have hm : (i + 1) * (b + 1) = i * (b + 1) + (b + 1) := Nat.succ_mul _ _
    have hm2 : (i + 1) * (b + b * k) = i * (b + b * k) + (b + b * k) := Nat.succ_mul _ _
    refine ⟨?_, State.heap_setCell_self hb', by simp [fill3, f3, h3], ?_⟩
    · simp only [fill3, State.setCell, Array.size_setIfInBounds, f1, h1, hm]; omega
    · show (Jvm.Free.Multi.fill (fill3 s c1 c2 c3 a b k dv i) c2 c3 b k dv b).slotsUsed = _
      rw [f4, h4, hm2]; omega
theorem fill3_setTop (s : State) (f : JFrame) (c1 c2 c3 : ClassId) (a b k : Nat) (dv : Value) : ∀ i, fill3 (s.setTop f) c1 c2 c3 a b k dv i = (fill3 s c1 c2 c3 a b k dv i).setTop f
  | 0 => rfl
  | i + 1 => by simp only [fill3, fill3_setTop s f c1 c2 c3 a b k dv i, Jvm.Free.Multi.fill_setTop, State.heap_setTop, State.setCell_setTop]
theorem fill3_old (s : State) (c1 c2 c3 : ClassId) (a b k : Nat) (dv : Value) {q : Addr} (hq : q < s.heap.size) : ∀ i, (fill3 s c1 c2 c3 a b k dv i).heap[q]? = s.heap[q]?
  | 0 => State.heap_pushCell_of_lt _ _ hq
  | i + 1 => by
    have f1 := (fill3_facts s c1 c2 c3 a b k dv i).1
    have hlt : q < (fill3 s c1 c2 c3 a b k dv i).heap.size := Nat.lt_of_lt_of_le hq (by rw [f1]; omega)
    show ((Jvm.Free.Multi.fill _ c2 c3 b k dv b).setCell s.heap.size _).heap[q]? = _
    rw [State.heap_setCell_other (Nat.ne_of_gt hq), Jvm.Free.Multi.fill_old (ha := hlt)]
    exact fill3_old s c1 c2 c3 a b k dv hq i
theorem fill3_mid (s : State) (c1 c2 c3 : ClassId) (a b k : Nat) (dv : Value) : ∀ i q, q < i → (fill3 s c1 c2 c3 a b k dv i).heap[s.heap.size + 1 + q * (b + 1)]? = some (Jvm.Free.Multi.outerC c2 b (s.heap.size + 1 + q * (b + 1)) b) ∧ ∀ r, r < b → (fill3 s c1 c2 c3 a b k dv i).heap[s.heap.size + 1 + q * (b + 1) + 1 + r]? = some (Jvm.Free.Multi.innerC c3 k dv)
  | 0, _, h => absurd h (Nat.not_lt_zero _)
  | i + 1, q, h => by
    have f1 := (fill3_facts s c1 c2 c3 a b k dv i).1
    have key : ∀ x, x ≠ s.heap.size → (fill3 s c1 c2 c3 a b k dv (i + 1)).heap[x]? = (Jvm.Free.Multi.fill (fill3 s c1 c2 c3 a b k dv i) c2 c3 b k dv b).heap[x]? := fun x hx => State.heap_setCell_other (Ne.symm hx)
    rcases Nat.lt_or_ge q i with hq | hq
    · obtain ⟨g1, g2⟩ := fill3_mid s c1 c2 c3 a b k dv i q hq
      have hm : (q + 1) * (b + 1) ≤ i * (b + 1) := Nat.mul_le_mul_right _ hq
      rw [Nat.succ_mul] at hm
      refine ⟨?_, fun r hr => ?_⟩
      · have l1 : s.heap.size + 1 + q * (b + 1) < (fill3 s c1 c2 c3 a b k dv i).heap.size := by rw [f1]; omega
        rw [key _ (by omega), Jvm.Free.Multi.fill_old (ha := l1)]; exact g1
      · have l1 : s.heap.size + 1 + q * (b + 1) + 1 + r < (fill3 s c1 c2 c3 a b k dv i).heap.size := by rw [f1]; omega
        rw [key _ (by omega), Jvm.Free.Multi.fill_old (ha := l1)]; exact g2 r hr
    · have e : q = i := by omega
      subst e
      obtain ⟨g1, g2, -, -⟩ := Jvm.Free.Multi.fill_facts (fill3 s c1 c2 c3 a b k dv q) c2 c3 b k dv b
      refine ⟨?_, fun r hr => ?_⟩
      · rw [key _ (by omega), ← f1]; exact g2
      · rw [key _ (by omega), ← f1]
        exact Jvm.Free.Multi.fill_inner (fill3 s c1 c2 c3 a b k dv q) c2 c3 b k dv b r hr
section WP3
variable {E : CtlPost} {e : Env} {d : Bool} {acts : List Action} {s : State}
theorem wp_make3 {c1 c2 c3 cc : ClassId} {k1 k2 k3 : Class} {t1 t2 ty : FieldType} {x y z : Int32} (hk1 : s.vm.classes[c1]? = some k1) (hd1 : k1.kind = .array c2 t1) (hr1 : t1.isReference = true) (hk2 : s.vm.classes[c2]? = some k2) (hd2 : k2.kind = .array c3 t2) (hr2 : t2.isReference = true) (hk3 : s.vm.classes[c3]? = some k3) (hd3 : k3.kind = .array cc ty)
    (hx : ¬ x < 0) (hy : ¬ y < 0) (hz : ¬ z < 0)
    (hl1 : ¬ x.toNatClampNeg > e.platform.arrayLengthLimit) (hh1 : ¬ x.toNatClampNeg * componentBytes t1 > e.platform.maxHeapBytes)
    (hl2 : ¬ y.toNatClampNeg > e.platform.arrayLengthLimit) (hh2 : ¬ y.toNatClampNeg * componentBytes t2 > e.platform.maxHeapBytes)
    (hl3 : ¬ z.toNatClampNeg > e.platform.arrayLengthLimit) (hh3 : ¬ z.toNatClampNeg * componentBytes ty > e.platform.maxHeapBytes)
    (hdf : fits ty (defaultValue ty) = true) (hdd : (defaultValue ty).isDefault = true)
    (hc : s.heap.size + 1 + x.toNatClampNeg * (y.toNatClampNeg + 1) ≤ e.platform.maxCells) (hs : s.slotsUsed + x.toNatClampNeg + x.toNatClampNeg * (y.toNatClampNeg + y.toNatClampNeg * z.toNatClampNeg) ≤ e.platform.maxSlots)
    {Q : Addr → Pre} (hq : ∀ d' acts', Q s.heap.size d' acts' (fill3 s c1 c2 c3 x.toNatClampNeg y.toNatClampNeg z.toNatClampNeg (defaultValue ty) x.toNatClampNeg)) :
    wp (multianewarray.make c1 [x, y, z]) Q E e d acts s := by
  have hfind : ([y, z].find? (· < 0)) = none := by simp [hy, hz]
  rw [multianewarray.make]
  simp only [wp_bind', W.ite, hx, if_false, wp_pure', W.theClass, hk1, hd1, Option.some.injEq, exists_eq_left']
  refine Jvm.Free.Multi.wp_newArray hk1 hd1 hl1 hh1 (Jvm.Free.Multi.refFits hr1 _ (Or.inl rfl)) rfl (by omega) (by omega) ?_
  simp only [hfind]
  rw [ite_self, wp_bind', Std.Legacy.Range.forIn_eq_forIn_range']
  have hsz : ([:x.toNatClampNeg] : Std.Legacy.Range).size = x.toNatClampNeg := by simp [Std.Legacy.Range.size]
  rw [hsz]
  show wp (forIn (List.range' 0 x.toNatClampNeg 1) PUnit.unit _) _ E e d acts _
  refine wp_forIn_inv (fun rest s' => ∃ i, i ≤ x.toNatClampNeg ∧ rest = List.range' i (x.toNatClampNeg - i) ∧ s' = fill3 s c1 c2 c3 x.toNatClampNeg y.toNatClampNeg z.toNatClampNeg (defaultValue ty) i) _ _ ⟨0, Nat.zero_le _, rfl, rfl⟩ ?_ ?_
  · rintro q rest s' d' acts' Q' ⟨i, hi, hl, rfl⟩ hnext
    have hlt : i < x.toNatClampNeg := by
      rcases Nat.lt_or_ge i x.toNatClampNeg with h | h
      · exact h
      · rw [show x.toNatClampNeg - i = 0 from by omega] at hl; simp at hl
    obtain ⟨rfl, hrest⟩ : q = i ∧ rest = List.range' (i + 1) (x.toNatClampNeg - (i + 1)) := by
      rw [show x.toNatClampNeg - i = (x.toNatClampNeg - (i + 1)) + 1 from by omega, List.range'_succ] at hl
      exact ⟨(List.cons.inj hl).1, (List.cons.inj hl).2⟩
    obtain ⟨f1, f2, f3, f4⟩ := fill3_facts s c1 c2 c3 x.toNatClampNeg y.toNatClampNeg z.toNatClampNeg (defaultValue ty) q
    obtain ⟨o1, o2, o3'⟩ := o3_facts c1 x.toNatClampNeg s.heap.size (y.toNatClampNeg + 1) q
    have hm1 : q * (y.toNatClampNeg + 1) + (y.toNatClampNeg + 1) ≤ x.toNatClampNeg * (y.toNatClampNeg + 1) := by
      have := Nat.mul_le_mul_right (y.toNatClampNeg + 1) (show q + 1 ≤ x.toNatClampNeg from hlt)
      rw [Nat.succ_mul] at this; exact this
    have hm2 : q * (y.toNatClampNeg + y.toNatClampNeg * z.toNatClampNeg) + (y.toNatClampNeg + y.toNatClampNeg * z.toNatClampNeg) ≤ x.toNatClampNeg * (y.toNatClampNeg + y.toNatClampNeg * z.toNatClampNeg) := by
      have := Nat.mul_le_mul_right (y.toNatClampNeg + y.toNatClampNeg * z.toNatClampNeg) (show q + 1 ≤ x.toNatClampNeg from hlt)
      rw [Nat.succ_mul] at this; exact this
    simp only [wp_bind']
    refine Jvm.Free.Multi.wp_make2 (by rw [f3]; exact hk2) hd2 hr2 (by rw [f3]; exact hk3) hd3 hy hz hl2 hh2 hl3 hh3 hdf hdd (by rw [f1]; omega) (by rw [f4]; omega) (fun d2 acts2 => ?_)
    have hlt0 : s.heap.size < (fill3 s c1 c2 c3 x.toNatClampNeg y.toNatClampNeg z.toNatClampNeg (defaultValue ty) q).heap.size := by rw [f1]; omega
    have f5 := (Jvm.Free.Multi.fill_facts (fill3 s c1 c2 c3 x.toNatClampNeg y.toNatClampNeg z.toNatClampNeg (defaultValue ty) q) c2 c3 y.toNatClampNeg z.toNatClampNeg (defaultValue ty) y.toNatClampNeg).2.2.1
    simp only [wp_bind', W.writeLoc, wp_pure']
    refine ⟨o3 c1 x.toNatClampNeg s.heap.size (y.toNatClampNeg + 1) q, by rw [Jvm.Free.Multi.fill_old (ha := hlt0)]; exact f2, by rw [o2]; simp, by rw [o3']; exact hlt, ?_, hnext _ _ _ ⟨q + 1, hlt, hrest, ?_⟩⟩
    · rw [o1, o2]
      simp [State.fitsSlot, State.slotType?, f3, f5, hk1, hd1, Jvm.Free.Multi.refFits hr1 _ (Or.inr ⟨_, rfl⟩)]
    · rw [f1]; rfl
  · rintro s' d' acts' ⟨i, hi, hl, rfl⟩
    have hiN : i = x.toNatClampNeg := by
      rcases Nat.lt_or_ge i x.toNatClampNeg with h | h
      · rw [show x.toNatClampNeg - i = (x.toNatClampNeg - (i + 1)) + 1 from by omega, List.range'_succ] at hl; cases hl
      · omega
    subst hiN
    simp only [wp_pure']
    exact hq _ _
end WP3
section SF3
variable {p : Program} {l : Launch} {e : Env} {R : Room} {s : State} {m : MethodId} {args : Array Value} {below : List Frame} {meth : Method} {c : Code} {T : State} {locs : List Loc} {cells slots : Nat}
theorem filled3 (X : Stand p l e R s m args below meth c T locs cells slots) (c1 c2 c3 : ClassId) (a b k : Nat) (dv : Value) : ∀ i, Stand p l e R s m args below meth c (fill3 T c1 c2 c3 a b k dv i) locs (cells + 1 + i * (b + 1)) (slots + a + i * (b + b * k))
  | 0 => by
    have h := X.pushed (o3 c1 a T.heap.size (b + 1) 0)
    rw [(o3_facts c1 a T.heap.size (b + 1) 0).2.2] at h
    rw [Nat.zero_mul, Nat.zero_mul]
    exact h
  | i + 1 => by
    have Xi := filled3 X c1 c2 c3 a b k dv i
    obtain ⟨f1, f2, f3, f4⟩ := fill3_facts T c1 c2 c3 a b k dv i
    have hlt0 : T.heap.size < (fill3 T c1 c2 c3 a b k dv i).heap.size := by rw [f1]; omega
    have X2 := (Xi.filled c2 c3 b k dv b).dropFresh (fun x hx => by
      obtain ⟨q, -, rfl⟩ := List.mem_map.mp hx
      exact Xi.heapGrown)
    have hcell : (Jvm.Free.Multi.fill (fill3 T c1 c2 c3 a b k dv i) c2 c3 b k dv b).heap[T.heap.size]? = some (o3 c1 a T.heap.size (b + 1) i) := by rw [Jvm.Free.Multi.fill_old (ha := hlt0)]; exact f2
    have X3 := (X2.stored hcell i (.ref (T.heap.size + 1 + i * (b + 1)))).dropFresh (fun x hx => by
      rw [List.mem_singleton] at hx
      subst hx
      exact X.heapGrown)
    rw [Nat.succ_mul, Nat.succ_mul, show cells + 1 + (i * (b + 1) + (b + 1)) = cells + 1 + i * (b + 1) + 1 + b from by omega, show slots + a + (i * (b + b * k) + (b + b * k)) = slots + a + i * (b + b * k) + b + b * k from by omega]
    exact X3
theorem multi3 (X : Stand p l e R s m args below meth c T locs cells slots) (hexec : p.tables.exec = Jvm.exec) {own : String} {index : Nat} {ty : FieldType}
    (hown : s.vm.findClass own = some m.cls) (hclink : (Cond.classLink own index ("[" ++ (FieldType.array (.array ty)).toString)).before args s = true)
    (hover1 : (Cond.arrayOver (.array (.array ty))).before args s = true) (hover2 : (Cond.arrayOver (.array ty)).before args s = true) (harr : (Cond.arrayClass ty).before args s = true)
    {g : JFrame} (hg : g.method = m) (hdg : decode c.code g.pc = .ok (.multianewarray index 3, 4)) {x y z : Int32} {rest : List Value} (hstack : g.stack = .int z :: .int y :: .int x :: rest)
    (hx : ¬ x < 0) (hy : ¬ y < 0) (hz : ¬ z < 0) (hb1 : x.toNatClampNeg * 4 ≤ 536870912) (hb2 : y.toNatClampNeg * 4 ≤ 536870912) (hb3 : z.toNatClampNeg * componentBytes ty ≤ 536870912) (hb4 : z.toNatClampNeg ≤ 536870912)
    (hdf : fits ty (defaultValue ty) = true) (hdd : (defaultValue ty).isDefault = true)
    (hcells : cells + (1 + x.toNatClampNeg * (y.toNatClampNeg + 1)) ≤ R.cells) (hslots : slots + (x.toNatClampNeg + x.toNatClampNeg * (y.toNatClampNeg + y.toNatClampNeg * z.toNatClampNeg)) ≤ R.slots) :
    ∃ (vm₁ : Vm) (c1 c2 c3 : ClassId), s.vm.findClass ("[" ++ (FieldType.array (.array ty)).toString) = some c1 ∧ s.vm.findClass ("[" ++ (FieldType.array ty).toString) = some c2 ∧ s.vm.findClass (FieldType.array ty).toString = some c3 ∧
      Stand p l e R s m args below meth c (fill3 (T.setVm vm₁) c1 c2 c3 x.toNatClampNeg y.toNatClampNeg z.toNatClampNeg (defaultValue ty) x.toNatClampNeg) locs (cells + 1 + x.toNatClampNeg * (y.toNatClampNeg + 1)) (slots + x.toNatClampNeg + x.toNatClampNeg * (y.toNatClampNeg + y.toNatClampNeg * z.toNatClampNeg)) ∧
      ∀ target, Steps p.tables e below ((fill3 (T.setVm vm₁) c1 c2 c3 x.toNatClampNeg y.toNatClampNeg z.toNatClampNeg (defaultValue ty) x.toNatClampNeg).setTop { g with pc := g.pc + 4, stack := .ref T.heap.size :: rest }) target →
        Steps p.tables e below (T.setTop g) target := by
  subst hg
  have hpl : e.platform.magicAccessors = ({} : Platform).magicAccessors := by rw [X.admits.platform]
  obtain ⟨c2, c1, k1, hf2, hk1, hd1, hf1⟩ := Cond.arrayOver_specA hover1
  obtain ⟨c3, c2', k2, hf3, hk2, hd2, hf2'⟩ := Cond.arrayOver_specA hover2
  have e2 : c2' = c2 := Option.some.inj (hf2'.symm.trans hf2)
  subst e2
  obtain ⟨c3', k3, cc, hf3', hk3, hd3⟩ := Cond.arrayClass_spec harr
  have e3 : c3' = c3 := Option.some.inj (hf3'.symm.trans hf3)
  subst e3
  obtain ⟨c0, hfc0, hcl⟩ := Cond.classLink_spec hown hclink e.platform hpl
  cases hf1.symm.trans hfc0
  obtain ⟨hg₁, hwarm₁, hready₁⟩ := State.classEntry (e := e) X.warmed hcl
  generalize T.vm.noted g.method.cls index (.cls c1) = vm₁ at hg₁ hwarm₁ hready₁
  have hal : s.vm.Alike vm₁ := hwarm₁.alike
  obtain ⟨k1', hk1', he1⟩ := hal.2.2 _ _ hk1
  obtain ⟨k2', hk2', he2⟩ := hal.2.2 _ _ hk2
  obtain ⟨k3', hk3', he3⟩ := hal.2.2 _ _ hk3
  have hd1' : k1'.kind = .array c2' (.array (.array ty)) := by rw [he1]; exact hd1
  have hd2' : k2'.kind = .array c3' (.array ty) := by rw [he2]; exact hd2
  have hd3' : k3'.kind = .array cc ty := by rw [he3]; exact hd3
  have X₁ := X.noted hwarm₁
  obtain ⟨hr1, hr2⟩ := X.roomAbove hcells hslots
  refine ⟨vm₁, c1, c2', c3', hf1, hf2', hf3, filled3 X₁ c1 c2' c3' _ _ _ _ _, fun target hrest => ?_⟩
  have hl1 : ¬ x.toNatClampNeg > e.platform.arrayLengthLimit := by rw [Launch.admits_arrayLengthLimit X.admits]; omega
  have hh1 : ¬ x.toNatClampNeg * componentBytes (.array (.array ty)) > e.platform.maxHeapBytes := by
    rw [Launch.admits_maxHeapBytes X.admits]; show ¬ x.toNatClampNeg * 4 > 536870912; omega
  have hl2 : ¬ y.toNatClampNeg > e.platform.arrayLengthLimit := by rw [Launch.admits_arrayLengthLimit X.admits]; omega
  have hh2 : ¬ y.toNatClampNeg * componentBytes (.array ty) > e.platform.maxHeapBytes := by
    rw [Launch.admits_maxHeapBytes X.admits]; show ¬ y.toNatClampNeg * 4 > 536870912; omega
  have hl3 : ¬ z.toNatClampNeg > e.platform.arrayLengthLimit := by rw [Launch.admits_arrayLengthLimit X.admits]; omega
  have hh3 : ¬ z.toNatClampNeg * componentBytes ty > e.platform.maxHeapBytes := by rw [Launch.admits_maxHeapBytes X.admits]; omega
  jvm_step X.here [hexec, hdg]
  simp only [multianewarray.sem, wp_bind', W.resolveClassAt_links (State.method?_setTop g X.here.top) hg₁]
  rw [W.popN, if_neg (by decide)]
  refine ⟨g, State.topJava?_setTop' (s := T.setVm vm₁) g X.here.top, [.int x, .int y, .int z], rest, rfl, hstack, ?_⟩
  simp only [List.mapM_cons, List.mapM_nil, wp_bind', wp_pure']
  refine wp_make3 (c2 := c2') (c3 := c3') (cc := cc) (k1 := k1') (k2 := k2') (k3 := k3') (t1 := .array (.array ty)) (t2 := .array ty) (ty := ty) hk1' hd1' rfl hk2' hd2' rfl hk3' hd3' hx hy hz hl1 hh1 hl2 hh2 hl3 hh3 hdf hdd (by show T.heap.size + 1 + _ ≤ _; omega) (by show T.slotsUsed + _ + _ ≤ _; omega) (fun d' acts' => ?_)
  have XF := filled3 X₁ c1 c2' c3' x.toNatClampNeg y.toNatClampNeg z.toNatClampNeg (defaultValue ty) x.toNatClampNeg
  have eS : ((T.setTop g).setVm vm₁).setTop { g with stack := rest } = (T.setVm vm₁).setTop { g with stack := rest } := by
    show ((T.setVm vm₁).setTop g).setTop _ = _
    rw [State.setTop_setTop]
  rw [eS, fill3_setTop]
  simp only [wp_bind', W.mark, W.pushRef, State.topJava?_setTop' _ XF.here.top, Option.some.injEq, exists_eq_left', State.setTop_setTop, State.heap_setTop]
  intro acts
  simp [jvm, XF.here.top]
  exact hrest
end SF3
theorem o3_arr (c : ClassId) (N h0 w : Nat) : ∀ i : Nat, o3 c N h0 w i = arrV c N (fun q => va_rf (if q < i then some (h0 + 1 + q * w) else none))
  | 0 => by
    show ({ cls := c, slots := Array.replicate N .null, vm := .none } : Cell) = _
    rw [arrV_new]
    refine congrArg (arrV c N) (funext fun q => ?_)
    rw [if_neg (Nat.not_lt_zero _)]
    rfl
  | i + 1 => by
    show (o3 c N h0 w i).setSlot i (.ref (h0 + 1 + i * w)) = _
    rw [o3_arr c N h0 w i, arrV_store]
    refine congrArg (arrV c N) (funext fun q => ?_)
    unfold updV
    by_cases e : q = i
    · subst e
      rw [if_pos rfl, if_pos (Nat.lt_succ_self _)]
      rfl
    · rw [if_neg e]
      dsimp only
      by_cases h : q < i
      · rw [if_pos h, if_pos (Nat.lt_succ_of_lt h)]
      · rw [if_neg h, if_neg (by omega)]
