/-! Constructors: walks over small worlds. -/
def cx_ty (g : ClassId × ClassId × ClassId) : List (ClassId × FieldType) := [(g.1, .int), (g.2.1, .boolean), (g.2.2, .long)]
def cx_C (D : va_G) (g : ClassId × ClassId × ClassId) (A : Nat → Prop) (y : Nat) (p : Program) (s : State) (m : MethodId) (args : Array Value) (meth : Method) (c : Code) : Prop :=
  p.tables.exec = Jvm.exec ∧ c.code = wm_by y ∧ c.maxLocals = wm_mx y ∧ s.vm.findClass (wm_ow (wm_oc y)) = some m.cls ∧ (∀ w ∈ wm_T, w.before args s = true) ∧ va_K D wm_cl (cx_ty g) s ∧ meth.name = "<init>" ∧ ∀ q : Nat, s.heap.size ≤ q → A q
def cx_J (D : va_G) (A : Nat → Prop) (p : Program) (l : Launch) (e : Env) (R : Room) (s : State) (m : MethodId) (args : Array Value) (below : List Frame) (meth : Method) (c : Code) (Q : State → Prop) (pc : Nat) (ls : Array Slot) (st : List Value) (ws : va_W) (cells slots : Nat) : Prop :=
  ∀ (H : Heap) (locs : List Loc), va_P D wm_cl ws H → va_D A ws → va_S A s.heap H locs → W p l e R s m args below meth c H locs cells slots Q (F0 m pc ls st)
section CXS
variable {D : va_G} {g : ClassId × ClassId × ClassId} {A : Nat → Prop} {y : Nat} {p : Program} {l : Launch} {e : Env} {R : Room} {s : State} {m : MethodId} {args : Array Value} {below : List Frame} {meth : Method} {c : Code} {Q : State → Prop} {pc : Nat} {ls : Array Slot} {st rest : List Value} {ws : va_W} {cells slots : Nat}
/-- a new row of ints, of booleans, of longs -/
theorem cx_newi (C : cx_C D g A y p s m args meth c) (harr : Cond.arrayClass .int ∈ wm_T) {n : Int32} {N : Nat} (hn : ¬ n < 0) (hN : n.toNatClampNeg = N) (hb4 : N * componentBytes .int ≤ 536870912) (hc : cells + 1 ≤ R.cells) (hs : slots + N ≤ R.slots) (hdg : decode (wm_by y) pc = .ok (.newarray .int, 2))
    (k : ∀ q : Nat, cx_J D A p l e R s m args below meth c Q (pc + 2) ls (.ref q :: rest) (ws ++ [(q, .inl (g.1, N, .inl (fun _ => 0)))]) (cells + 1) (slots + N)) : cx_J D A p l e R s m args below meth c Q pc ls (.int n :: rest) ws cells slots := by
  obtain ⟨hx, hb, hml, hown, hts, hK, hin, hA⟩ := C
  intro H locs hP hD hS
  refine va_newa (atype := .int) (ty := .int) (a0 := (N, .inl (fun _ => 0))) hx hb (hts _ harr) rfl hK hP hD hS hA (fun cA => rfl) hn hN hb4 hc hs hdg (fun q cA H1 hK1 hP1 hD1 hS1 => ?_)
  have e1 := (hK1.2 3 (cA, .int) rfl).2
  have e2 := (hK.2 0 (g.1, .int) rfl).2
  have e3 : cA = g.1 := Option.some.inj (e1.symm.trans e2)
  subst e3
  exact k q H1 locs hP1 hD1 hS1
theorem cx_newz (C : cx_C D g A y p s m args meth c) (harr : Cond.arrayClass .boolean ∈ wm_T) {n : Int32} {N : Nat} (hn : ¬ n < 0) (hN : n.toNatClampNeg = N) (hb4 : N * componentBytes .boolean ≤ 536870912) (hc : cells + 1 ≤ R.cells) (hs : slots + N ≤ R.slots) (hdg : decode (wm_by y) pc = .ok (.newarray .boolean, 2))
    (k : ∀ q : Nat, cx_J D A p l e R s m args below meth c Q (pc + 2) ls (.ref q :: rest) (ws ++ [(q, .inl (g.2.1, N, .inl (fun _ => 0)))]) (cells + 1) (slots + N)) : cx_J D A p l e R s m args below meth c Q pc ls (.int n :: rest) ws cells slots := by
  obtain ⟨hx, hb, hml, hown, hts, hK, hin, hA⟩ := C
  intro H locs hP hD hS
  refine va_newa (atype := .boolean) (ty := .boolean) (a0 := (N, .inl (fun _ => 0))) hx hb (hts _ harr) rfl hK hP hD hS hA (fun cA => rfl) hn hN hb4 hc hs hdg (fun q cA H1 hK1 hP1 hD1 hS1 => ?_)
  have e1 := (hK1.2 3 (cA, .boolean) rfl).2
  have e2 := (hK.2 1 (g.2.1, .boolean) rfl).2
  have e3 : cA = g.2.1 := Option.some.inj (e1.symm.trans e2)
  subst e3
  exact k q H1 locs hP1 hD1 hS1
theorem cx_newj (C : cx_C D g A y p s m args meth c) (harr : Cond.arrayClass .long ∈ wm_T) {n : Int32} {N : Nat} (hn : ¬ n < 0) (hN : n.toNatClampNeg = N) (hb4 : N * componentBytes .long ≤ 536870912) (hc : cells + 1 ≤ R.cells) (hs : slots + N ≤ R.slots) (hdg : decode (wm_by y) pc = .ok (.newarray .long, 2))
    (k : ∀ q : Nat, cx_J D A p l e R s m args below meth c Q (pc + 2) ls (.ref q :: rest) (ws ++ [(q, .inl (g.2.2, N, .inr (.inl (fun _ => 0))))]) (cells + 1) (slots + N)) : cx_J D A p l e R s m args below meth c Q pc ls (.int n :: rest) ws cells slots := by
  obtain ⟨hx, hb, hml, hown, hts, hK, hin, hA⟩ := C
  intro H locs hP hD hS
  refine va_newa (atype := .long) (ty := .long) (a0 := (N, .inr (.inl (fun _ => 0)))) hx hb (hts _ harr) rfl hK hP hD hS hA (fun cA => rfl) hn hN hb4 hc hs hdg (fun q cA H1 hK1 hP1 hD1 hS1 => ?_)
  have e1 := (hK1.2 3 (cA, .long) rfl).2
  have e2 := (hK.2 2 (g.2.2, .long) rfl).2
  have e3 : cA = g.2.2 := Option.some.inj (e1.symm.trans e2)
  subst e3
  exact k q H1 locs hP1 hD1 hS1
end CXS
