/-! Constructors: words, contracts, calls. -/
def cx_Wd : List (Nat × Jvm.Cond) := [(132, .classLink "WindBoatLaw" 7 "WindBoat"), (133, .instantiable "WindBoat" 12), (137, .methodLink "WindBoat" 3 Lib.objectInit), (138, .instanceMethod Lib.objectInit), (139, .code Lib.objectInit ⟨#[0xb1]⟩ 1 none), (140, .classLink "WindBoat" 9 "WindBoat$Log"), (141, .instantiable "WindBoat$Log" 9), (145, .methodLink "WindBoat$Log" 3 Lib.objectInit), (146, .classLink "WindBoat$Log" 9 "WindBoat$Sea"), (147, .instantiable "WindBoat$Sea" 5), (151, .methodLink "WindBoat$Sea" 3 Lib.objectInit), (180, .arrayClass .boolean), (181, .arrayClass .int), (182, .classLink "WindBoat$Log" 18 "WindBoat$Speeds"), (183, .instantiable "WindBoat$Speeds" 5), (187, .methodLink "WindBoat$Speeds" 3 Lib.objectInit), (209, .classLink "WindBoat$Log" 25 "WindBoat$Boat"), (210, .instantiable "WindBoat$Boat" 15), (214, .methodLink "WindBoat$Boat" 3 Lib.objectInit), (288, .classLink "WindBoat$Log" 32 "WindBoat$Rules"), (289, .instantiable "WindBoat$Rules" 9), (293, .methodLink "WindBoat$Rules" 5 Lib.objectInit), (374, .classLink "WindBoat" 16 "WindBoat$Tape"), (375, .instantiable "WindBoat$Tape" 10), (379, .methodLink "WindBoat$Tape" 3 Lib.objectInit), (416, .classLink "WindBoat" 31 "WindBoat$Chart"), (417, .instantiable "WindBoat$Chart" 9), (421, .methodLink "WindBoat$Chart" 3 Lib.objectInit), (457, .classLink "WindBoat" 36 "WindBoat$Ways"), (458, .instantiable "WindBoat$Ways" 8), (462, .methodLink "WindBoat$Ways" 3 Lib.objectInit), (492, .classLink "WindBoat" 52 "WindBoat$Choices"), (493, .instantiable "WindBoat$Choices" 11), (497, .methodLink "WindBoat$Choices" 3 Lib.objectInit), (535, .classLink "WindBoat" 61 "WindBoat$Losses"), (536, .instantiable "WindBoat$Losses" 6), (540, .methodLink "WindBoat$Losses" 3 Lib.objectInit), (561, .classLink "WindBoat" 71 "WindBoat$Game"), (562, .instantiable "WindBoat$Game" 4), (566, .methodLink "WindBoat$Game" 1 Lib.objectInit), (580, .arrayClass .long), (1482, .classLink "WindBoatLaw" 10 "WindBoatModel"), (1483, .instantiable "WindBoatModel" 50), (1487, .methodLink "WindBoatModel" 11 Lib.objectInit)]
set_option maxRecDepth 100000 in
theorem cx_all : wm_scan (fun w q => decide (w = id q) && goodWord w) lw_tbl 0 cx_Wd = true := by decide +kernel
theorem cx_w (k : Nat) {i : Nat} {w : Jvm.Cond} (h : cx_Wd[k]? = some (i, w)) : w ∈ wm_T := wm_scan_T (g := id) cx_all (List.mem_of_getElem? h)
def cx_dk (y : Nat) (L : List (Nat × Instr × Nat)) : Bool := L.all (fun q => decide (decode (wm_by y) q.1 = .ok (q.2.1, q.2.2)))
theorem cx_d {y : Nat} {L : List (Nat × Instr × Nat)} (h : cx_dk y L = true) (k : Nat) {pc len : Nat} {i : Instr} (hk : L[k]? = some (pc, i, len)) : decode (wm_by y) pc = .ok (i, len) := by
  have := List.all_eq_true.mp h _ (List.mem_of_getElem? hk)
  simpa using this
def cx_N (U : State) : Prop := ∀ q ∈ wm_NL, va_Nw (wm_nlc q.2) U
def cx_rm (d mc ms : Nat) : Room := { frames := d, cells := mc, slots := ms, locals := 100 * d }
def cx_Pc (D : va_G) (g : ClassId × ClassId × ClassId) (as : List Value) (w0 : va_W) (sz : Nat) : Array Value → State → Prop := va_Pc as (fun U => U.heap.size = sz ∧ va_P D wm_cl w0 U.heap ∧ va_K D wm_cl (cx_ty g) U ∧ va_D (fun _ => True) w0 ∧ cx_N U)
def cx_Bd (D : va_G) (w0 : va_W) (sz : Nat) (u : va_W) (t : State) : Prop := va_P D wm_cl u t.heap ∧ va_D (va_A w0 sz) u
/-- a method's contract over its own small world: what it leaves -/
def cx_Ok (D : va_G) (g : ClassId × ClassId × ClassId) (y d mc ms : Nat) (as : List Value) (w0 : va_W) (P : va_W → Prop) : Prop := ∀ (l : Launch) (sz : Nat), Met l (wm_nm y) (wm_wo y) (cx_rm d mc ms) (cx_Pc D g as w0 sz) (va_Qv P (cx_Bd D w0 sz) (va_A w0 sz)) mc ms (va_A w0 sz)
def cx_E (D : va_G) (g : ClassId × ClassId × ClassId) (A : Nat → Prop) (y : Nat) (p : Program) (s : State) (m : MethodId) (args : Array Value) (c : Code) : Prop :=
  p.tables.exec = Jvm.exec ∧ c.code = wm_by y ∧ c.maxLocals = wm_mx y ∧ s.vm.findClass (wm_ow (wm_oc y)) = some m.cls ∧ (∀ w ∈ wm_T, w.before args s = true) ∧ va_K D wm_cl (cx_ty g) s ∧ ∀ q : Nat, s.heap.size ≤ q → A q
theorem cx_E.c {D : va_G} {g : ClassId × ClassId × ClassId} {A : Nat → Prop} {y : Nat} {p : Program} {s : State} {m : MethodId} {args : Array Value} {meth : Method} {c : Code} (h : cx_E D g A y p s m args c) (hn : meth.name = "<init>") : cx_C D g A y p s m args meth c := ⟨h.1, h.2.1, h.2.2.1, h.2.2.2.1, h.2.2.2.2.1, h.2.2.2.2.2.1, hn, h.2.2.2.2.2.2⟩
theorem cx_enter {D : va_G} {g : ClassId × ClassId × ClassId} {y d mc ms : Nat} {as : List Value} {w0 : va_W} {P : va_W → Prop} (hy : Nat.blt y wm_N = true) (hm : plainName (wm_nm y).cls = true) (hal : (lg_sl as).length ≤ wm_mx y) (hr : wm_rt y = none)
    (h : ∀ (l : Launch) (A : Nat → Prop) (p : Program) (e : Env) (s : State) (m : MethodId) (below : List Frame) (meth : Method) (c : Code) (Q : State → Prop), cx_E D g A y p s m as.toArray c → meth.name = (wm_nm y).name → cx_N s → (∀ (u : va_W), P u → ∀ (pc : Nat) (ls : Array Slot), decode (wm_by y) pc = .ok (.return_, 1) → cx_J D A p l e (cx_rm d mc ms) s m as.toArray below meth c Q pc ls [] u mc ms) → ∀ ls : Array Slot, lv_has ls (wm_mx y) (lv_args 0 as) → cx_J D A p l e (cx_rm d mc ms) s m as.toArray below meth c Q 0 ls [] w0 0 0) : cx_Ok D g y d mc ms as w0 P := by
  intro l sz
  have hyN := wm_blt hy
  have hmk := wm_mok_of hyN
  obtain ⟨f1, f2, f3, f4, f5, f6⟩ := wm_mok_facts hmk
  refine Met.ofW (cc := wm_by y) (maxL := wm_mx y) (ret := wm_rt y) hm rfl ?_
  intro p en s m args below meth c s₁ B hml hv
  obtain ⟨rfl, hsz, hP, hK, hD0, hN⟩ := hv
  have hts := atoms_spec (ws := wm_wo y) B.pre
  have hown : s.vm.findClass (wm_ow (wm_oc y)) = some m.cls := by rw [← f3]; exact findClass_of_methodNamed B.named
  subst hsz
  have hD := hD0.self (sz := s.heap.size)
  have hle := lv_entry as (n := wm_mx y) hal
  have hlocks := B.notSynchronized
  rw [lg_entry_eq]
  exact h l (va_A w0 s.heap.size) p en s m below meth c _ ⟨B.exec, B.bytes, hml, hown, fun w hw => hts w (List.mem_cons_of_mem _ hw), hK, fun q hq => Or.inr hq⟩ (name_of_methodNamed B.named B.method).1 hN (fun u hu pc ls hd H locs hP hD hS => W.vret B.exec B.bytes (B.returns.trans hr) (fun t ht hW => ⟨⟨u, rfl, hu, by rw [ht]; exact hP, hD⟩, hS.F ht⟩) hS.2.2 hd hlocks) _ hle s.heap [] hP hD va_S.rf
theorem cx_blind (D : va_G) (g : ClassId × ClassId × ClassId) (as : List Value) (w0 : va_W) (sz : Nat) : FrameBlind (cx_Pc D g as w0 sz) := by
  intro a U gg mk q
  obtain ⟨q0, q1, qP, qK, qD, qN⟩ := q
  exact ⟨q0, q1, qP, va_K.moved (u := U) (U := U.calling gg mk a) (Vm.Alike.refl U.vm) qK, qD, fun q hq => va_Nw.same rfl (u := U) (U := U.calling gg mk a) rfl (qN q hq)⟩
theorem cx_nd : ∀ (n k : Nat), va_nd ((List.range n).map (· + k)) = true := by
  intro n
  induction n with
  | zero => intro k; rfl
  | succ n ih =>
    intro k
    rw [List.range_succ_eq_map]
    have e : ((0 :: (List.range n).map Nat.succ).map (· + k)) = k :: (List.range n).map (· + (k + 1)) := by
      simp only [List.map_cons, List.map_map, Nat.zero_add, List.cons.injEq, true_and]
      apply List.map_congr_left
      intro a _
      simp only [Function.comp]
      omega
    rw [e]
    simp only [va_nd, Bool.and_eq_true, decide_eq_true_eq]
    refine ⟨fun h => ?_, ih (k + 1)⟩
    obtain ⟨a, _, h2⟩ := List.mem_map.mp h
    omega
theorem cx_lft (w wc : va_W) : ((List.range w.length).map (· + 0)).map (fun i => (w ++ wc)[i]?) = w.map some := by
  apply List.ext_getElem?
  intro k
  by_cases hk : k < w.length
  · simp [hk, List.getElem?_append_left hk]
  · simp [hk]
theorem cx_rgt (w wc : va_W) : ((List.range wc.length).map (· + w.length)).map (fun i => (w ++ wc)[i]?) = wc.map some := by
  apply List.ext_getElem?
  intro k
  by_cases hk : k < wc.length
  · simp [hk, List.getElem?_append_right (Nat.le_add_left w.length k)]
  · simp [hk]
theorem cx_dis (w wc : va_W) : ∀ i ∈ (List.range w.length).map (· + 0), i ∉ (List.range wc.length).map (· + w.length) := by
  intro i hi hj
  obtain ⟨a, h1, h2⟩ := List.mem_map.mp hi
  obtain ⟨b, h3, h4⟩ := List.mem_map.mp hj
  have := List.mem_range.mp h1
  omega
theorem cx_set {D : va_G} {A : Nat → Prop} {ws : va_W} {j a : Nat} {e e1 : va_E} {H H1 : Heap} (hP : va_P D wm_cl ws H) (hD : va_D A ws) (he : ws[j]? = some (a, e)) (hk : ∀ q : Nat, q < H.size → ¬ va_A [(a, e)] H.size q → H1[q]? = H[q]?) (h1 : va_at D wm_cl (a, e1) H1) : va_P D wm_cl (ws.set j (a, e1)) H1 ∧ va_D A (ws.set j (a, e1)) := by
  refine ⟨fun k q hq => ?_, hD.set he⟩
  rw [List.getElem?_set] at hq
  by_cases hj : j = k
  · rw [if_pos hj] at hq
    split at hq
    · cases hq; exact h1
    · cases hq
  · rw [if_neg hj] at hq
    refine (hP k q hq).kept (hk q.1 ((hP k q hq).lt) (fun z => ?_))
    rcases z with ⟨i, f, hi⟩ | z
    · cases i with
      | zero =>
        cases hi
        exact hj (hD.1 j k _ _ he hq rfl)
      | succ i => cases hi
    · have := (hP k q hq).lt
      omega
section CXU
variable {D : va_G} {g : ClassId × ClassId × ClassId} {A : Nat → Prop} {y : Nat} {p : Program} {l : Launch} {e : Env} {R : Room} {s : State} {m : MethodId} {args : Array Value} {below : List Frame} {meth : Method} {c : Code} {Q : State → Prop} {pc : Nat} {ls : Array Slot} {st rest : List Value} {ws : va_W} {cells slots : Nat}
theorem cx_w8 {ws' : va_W} (h : ws' = ws) (k : cx_J D A p l e R s m args below meth c Q pc ls st ws' cells slots) : cx_J D A p l e R s m args below meth c Q pc ls st ws cells slots := h ▸ k
theorem cx_new (C : cx_C D g A y p s m args meth c) {i ci : Nat} {q : vw_C} (hq : wm_cl[ci]? = some q) (hcl : Jvm.Cond.classLink (wm_ow (wm_oc y)) i q.1 ∈ wm_T) (hin : Jvm.Cond.instantiable q.1 q.2.2 ∈ wm_T) (hini : Jvm.Cond.initialized q.1 ∈ wm_T) {fs : List Value} (hfs : ∀ j, j < q.2.2 → (parseFieldDescriptor (q.2.1 j).2.2.1).map defaultValue = some (vp_V fs j)) {N : Nat} (hN : q.2.2 = N) (hc : cells + 1 ≤ R.cells) (hs : slots + N ≤ R.slots) (hdg : decode (wm_by y) pc = .ok (.new i, 3))
    (k : ∀ a : Nat, cx_J D A p l e R s m args below meth c Q (pc + 3) ls (.ref a :: rest) (ws ++ [(a, .inr (ci, fs))]) (cells + 1) (slots + N)) : cx_J D A p l e R s m args below meth c Q pc ls rest ws cells slots := by
  subst hN
  obtain ⟨hx, hb, hml, hown, hts, hK, hin0, hA⟩ := C
  obtain ⟨hnf, hin2, hnm, ty0, hty0, hdc, hft⟩ := wm_cls_ok ci q hq
  intro H locs hP hD hS
  refine va_new (C := q.1) (T := q.2.1) (N := q.2.2) (ci := ci) (fs := fs) hx hb hts hin2 ty0 hty0 hown (hts _ hcl) (hts _ hin) (hts _ hini) hK hP hD hS hA hq (fun j hj => ?_) hc hs hdg (fun a H1 hP1 hD1 hS1 => k a H1 locs hP1 hD1 hS1)
  have h1 := hfs j hj
  rw [hty0 j hj] at h1
  exact Option.some.inj h1
theorem cx_obj (C : cx_C D g A y p s m args meth c) {i x : Nat} (hl : Jvm.Cond.methodLink (wm_ow (wm_oc y)) i Lib.objectInit ∈ wm_T) (hsz : ls.size = wm_mx y) (hdg : decode (wm_by y) pc = .ok (.invokespecial i, 3)) (hf : 1 ≤ R.frames) (hlo : 20 ≤ R.locals)
    (k : cx_J D A p l e R s m args below meth c Q (pc + 3) ls [] ws cells slots) : cx_J D A p l e R s m args below meth c Q pc ls [.ref x] ws cells slots := by
  obtain ⟨hx, hb, hml, hown, hts, hK, hin0, hA⟩ := C
  intro H locs hP hD hS
  refine W.objInit hx hb hown (hts _ hl) (hts _ (cx_w 3 rfl)) (hts _ (cx_w 4 rfl)) rfl (by rw [hml]; exact hsz) (rest := []) rfl hdg hf ?_ (k H locs hP hD hS)
  have := lv_room (m := m) (pc := pc) (ls := ls) (rest := [.ref x]) (st := []) (by simp)
  omega
end CXU
