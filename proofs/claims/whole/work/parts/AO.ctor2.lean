/-! Constructors: calls of own constructors, of Arrays.fill; rows. -/
theorem cx_im {z : Nat} (h : wm_IM.any (fun t => Nat.beq t.2 z) = true) : Jvm.Cond.instanceMethod (wm_nm z) ∈ wm_T := by
  obtain ⟨t2, ht2, et2⟩ := wm_any_id h
  have him := wm_scan_T (g := fun q => Jvm.Cond.instanceMethod (wm_nm q)) wm_im_all ht2
  rw [et2] at him
  exact him
theorem cx_st {z : Nat} (h : wm_ST.any (fun t => Nat.beq t.2 z) = true) : Jvm.Cond.static (wm_nm z) ∈ wm_T := by
  obtain ⟨t2, ht2, et2⟩ := wm_any_id h
  have him := wm_scan_T (g := fun q => Jvm.Cond.static (wm_nm q)) wm_st_all ht2
  rw [et2] at him
  exact him
theorem cx_in {o : Nat} (h : wm_IN.any (fun t => Nat.beq t.2 o) = true) : Jvm.Cond.initialized (wm_ow o) ∈ wm_T := by
  obtain ⟨t2, ht2, et2⟩ := wm_any_id h
  have him := wm_scan_T (g := fun q => Jvm.Cond.initialized (wm_ow q)) wm_in_all ht2
  rw [et2] at him
  exact him
theorem cx_ml {o i z : Nat} (h : wm_ML.any (fun t => wm_q3 t.2 o i z) = true) : Jvm.Cond.methodLink (wm_ow o) i (wm_nm z) ∈ wm_T := by
  obtain ⟨t, ht, e1⟩ := wm_any_q h
  have hml1 := wm_scan_T (g := wm_mlc) wm_ml_all ht
  rw [wm_q3_ok e1] at hml1
  exact hml1
section CXV
variable {D : va_G} {g : ClassId × ClassId × ClassId} {A : Nat → Prop} {y : Nat} {p : Program} {l : Launch} {e : Env} {R : Room} {s : State} {m : MethodId} {args : Array Value} {below : List Frame} {meth : Method} {c : Code} {Q : State → Prop} {pc : Nat} {ls : Array Slot} {st rest : List Value} {ws w : va_W} {cells slots : Nat}
/-- a call of an own constructor: its world is the last cell -/
theorem cx_init (C : cx_C D g A y p s m args meth c) (hN : cx_N s) {i z d mc ms b : Nat} {e0 : va_E} {P : va_W → Prop} {As : List Value} (hl : (wm_ML.any (fun t => wm_q3 t.2 (wm_oc y) i z) || wm_NL.any (fun t => wm_q3 t.2 (wm_oc y) i z)) = true) (him : wm_IM.any (fun t => Nat.beq t.2 z) = true) (hz : Nat.blt z wm_N = true) (hnm : (wm_nm z).name = "<init>") (hrt : wm_rt z = none) (hnp : As.length = wm_np z) (hM : cx_Ok D g z d mc ms (.ref b :: As) [(b, e0)] P) (hR : d + 1 ≤ R.frames ∧ 100 * (d + 1) ≤ R.locals)
    (hsz : ls.size = wm_mx y) {st : List Value} (hst : st = As.reverse ++ .ref b :: rest) (hsum : (rest.map fun v => v.category).sum ≤ 8) (hc : cells + mc ≤ R.cells) (hs : slots + ms ≤ R.slots) (hdg : decode (wm_by y) pc = .ok (.invokespecial i, 3))
    (k : ∀ u : va_W, P u → cx_J D A p l e R s m args below meth c Q (pc + 3) ls rest (w ++ u) (cells + mc) (slots + ms)) : cx_J D A p l e R s m args below meth c Q pc ls st (w ++ [(b, e0)]) cells slots := by
  obtain ⟨hx, hb, hml, hown, hts, hK, hin0, hA⟩ := C
  have hmk := wm_mok_of (wm_blt hz)
  obtain ⟨f1, f2, f3, f4, f5, f6⟩ := wm_mok_facts hmk
  intro H locs hP hD hS
  have hPc : va_P D wm_cl [(b, e0)] H := by
    intro k q hq
    cases k with
    | zero => cases hq; exact hP w.length _ (by simp)
    | succ k => cases hq
  have hDc : va_D (fun _ => True) [(b, e0)] := ⟨fun i j p q h1 h2 _ => by
    have := (List.getElem?_eq_some_iff.mp h1).1
    have := (List.getElem?_eq_some_iff.mp h2).1
    simp at *
    omega, fun _ _ _ => trivial⟩
  have hFc := va_free (wc := [(b, e0)]) hD hS hA _ (cx_rgt w [(b, e0)])
  have hroom : (cx_rm d mc ms).frames + 1 ≤ R.frames ∧ 8 + (wm_mx z + 11) + (cx_rm d mc ms).locals ≤ R.locals := by
    simp only [cx_rm]
    omega
  have hpre : PreS s H (cx_Pc D g (.ref b :: As) [(b, e0)] H.size) (.ref b :: As) := ⟨cx_blind _ _ _ _ _, fun U hU hW => ⟨rfl, by rw [hU], by rw [hU]; exact hPc, va_K.moved hW.alike hK, hDc, fun q hq => va_Nw.warmM hW (hN q hq)⟩⟩
  have hW8 : 2 * (F0 m pc ls st).monitorRoom + (rest.map fun v => v.category).sum ≤ 8 := lv_room hsum
  have hwo : wm_wo z = Jvm.Cond.code (wm_nm z) (wm_by z) (wm_mx z) none :: wm_T := by unfold wm_wo wm_cdc; rw [hrt]
  have hrun : va_Run p l e R s m args below meth c H locs cells slots mc ms (F0 m pc ls st) rest (va_Qv P (cx_Bd D [(b, e0)] H.size) (va_A [(b, e0)] H.size) (Value.ref b :: As).toArray) (va_A [(b, e0)] H.size) := by
    rcases (Bool.or_eq_true _ _).mp hl with h1 | h1
    · exact va_runI (g := F0 m pc ls st) (nL := wm_mx y) (Ts := wm_T) (own := wm_ow (wm_oc y)) ⟨hx, hb, hml, hown, hts⟩ (hM l H.size) (cwI (bytes := wm_by z) (maxL := wm_mx z) (ws' := wm_T) (wm_np z) hts (wm_wo_good hmk) hwo rfl rfl (hts _ f2) (hts _ (cx_ml h1)) (hts _ (cx_im him)) hnm ⟨f4, f5, f6⟩ hroom) hpre rfl hnp hsz hst hW8 hdg ⟨hc, hs⟩
    · obtain ⟨t, ht, e1⟩ := wm_any_q h1
      have hn1 := hN t ht
      rw [wm_q3_ok e1] at hn1
      exact va_runIN (host := "WindBoat") (g := F0 m pc ls st) (nL := wm_mx y) (Ts := wm_T) (own := wm_ow (wm_oc y)) ⟨hx, hb, hml, hown, hts⟩ (hM l H.size) ⟨va_cnB (bytes := wm_by z) (maxL := wm_mx z) (ws' := wm_T) (wm_np z) hts (wm_wo_good hmk) hwo rfl rfl hn1 (hts _ f2) ⟨f4, f5, f6⟩ hroom, hnm, hts _ (cx_im him)⟩ hpre rfl hnp hsz hst hW8 hdg ⟨hc, hs⟩
  refine va_callv hrun hS (fun q _ h => hFc q h) hFc (fun u t H1 locs1 ht hvm hw hB hz1 hk1 hS1 => ?_)
  obtain ⟨hP1, hD1⟩ := hB
  rw [ht] at hP1
  obtain ⟨hP2, hD2⟩ := va_join (wr := w) (w1 := u) hP hD _ _ (cx_rgt w [(b, e0)]) (cx_lft w [(b, e0)]) (cx_nd _ _) (cx_dis _ _) hk1 hFc hP1 hD1
  exact k u hw H1 locs1 hP2 hD2 hS1
/-! rows -/
theorem cx_ic (C : cx_C D g A y p s m args meth c) {n : Int} {v : Int32} (hdg : decode (wm_by y) pc = .ok (.iconst n, 1)) (hv : Int32.ofInt n = v) (k : cx_J D A p l e R s m args below meth c Q (pc + 1) ls (.int v :: rest) ws cells slots) : cx_J D A p l e R s m args below meth c Q pc ls rest ws cells slots := fun H locs hP hD hS => lv_iconst C.1 C.2.1 hdg hv (k H locs hP hD hS)
theorem cx_bp (C : cx_C D g A y p s m args meth c) {n : Int} {v : Int32} (hdg : decode (wm_by y) pc = .ok (.bipush n, 2)) (hv : (Int8.ofInt n).toInt32 = v) (k : cx_J D A p l e R s m args below meth c Q (pc + 2) ls (.int v :: rest) ws cells slots) : cx_J D A p l e R s m args below meth c Q pc ls rest ws cells slots := fun H locs hP hD hS => lv_bipush C.1 C.2.1 hdg hv (k H locs hP hD hS)
theorem cx_sp (C : cx_C D g A y p s m args meth c) {n : Int} {v : Int32} (hdg : decode (wm_by y) pc = .ok (.sipush n, 3)) (hv : (Int16.ofInt n).toInt32 = v) (k : cx_J D A p l e R s m args below meth c Q (pc + 3) ls (.int v :: rest) ws cells slots) : cx_J D A p l e R s m args below meth c Q pc ls rest ws cells slots := fun H locs hP hD hS => lv_sipush C.1 C.2.1 hdg hv (k H locs hP hD hS)
theorem cx_al2 (C : cx_C D g A y p s m args meth c) {i x : Nat} (hdg : decode (wm_by y) pc = .ok (.aload i, 2)) (hl : ls[i]? = some (.val (.ref x))) (kk : cx_J D A p l e R s m args below meth c Q (pc + 2) ls (.ref x :: rest) ws cells slots) : cx_J D A p l e R s m args below meth c Q pc ls rest ws cells slots := fun H locs hP hD hS => lv_aload C.1 C.2.1 hdg hl (kk H locs hP hD hS)
theorem cx_as (C : cx_C D g A y p s m args meth c) {k : Fin 4} {i nL x : Nat} {lv lv' : List (Nat × Value)} (hdg : decode (wm_by y) pc = .ok (.astore_n k, 1)) (hi : (k : Nat) = i) (h : lv_has ls nL lv) (hn : i < nL) (hl : (i, Value.ref x) :: lv.filter (fun q => !(q.1 == i) && !(q.1 + 1 == i && q.2.category == 2)) = lv')
    (kk : ∀ ls' : Array Slot, lv_has ls' nL lv' → cx_J D A p l e R s m args below meth c Q (pc + 1) ls' rest ws cells slots) : cx_J D A p l e R s m args below meth c Q pc ls (.ref x :: rest) ws cells slots := fun H locs hP hD hS => lv_astore_n C.1 C.2.1 hdg hi h hn hl (fun ls' h' => kk ls' h' H locs hP hD hS)
theorem cx_as2 (C : cx_C D g A y p s m args meth c) {i nL x : Nat} {lv lv' : List (Nat × Value)} (hdg : decode (wm_by y) pc = .ok (.astore i, 2)) (h : lv_has ls nL lv) (hn : i < nL) (hl : (i, Value.ref x) :: lv.filter (fun q => !(q.1 == i) && !(q.1 + 1 == i && q.2.category == 2)) = lv')
    (kk : ∀ ls' : Array Slot, lv_has ls' nL lv' → cx_J D A p l e R s m args below meth c Q (pc + 2) ls' rest ws cells slots) : cx_J D A p l e R s m args below meth c Q pc ls (.ref x :: rest) ws cells slots := fun H locs hP hD hS => lv_astore C.1 C.2.1 hdg h hn hl (fun ls' h' => kk ls' h' H locs hP hD hS)
theorem cx_is (C : cx_C D g A y p s m args meth c) {k : Fin 4} {i nL : Nat} {x : Int32} {lv lv' : List (Nat × Value)} (hdg : decode (wm_by y) pc = .ok (.istore_n k, 1)) (hi : (k : Nat) = i) (h : lv_has ls nL lv) (hn : i < nL) (hl : (i, Value.int x) :: lv.filter (fun q => !(q.1 == i) && !(q.1 + 1 == i && q.2.category == 2)) = lv')
    (kk : ∀ ls' : Array Slot, lv_has ls' nL lv' → cx_J D A p l e R s m args below meth c Q (pc + 1) ls' rest ws cells slots) : cx_J D A p l e R s m args below meth c Q pc ls (.int x :: rest) ws cells slots := fun H locs hP hD hS => lv_istore_n C.1 C.2.1 hdg hi h hn hl (fun ls' h' => kk ls' h' H locs hP hD hS)
theorem cx_il (C : cx_C D g A y p s m args meth c) {k : Fin 4} {i : Nat} {x : Int32} (hdg : decode (wm_by y) pc = .ok (.iload_n k, 1)) (hi : (k : Nat) = i) (hl : ls[i]? = some (.val (.int x))) (kk : cx_J D A p l e R s m args below meth c Q (pc + 1) ls (.int x :: rest) ws cells slots) : cx_J D A p l e R s m args below meth c Q pc ls rest ws cells slots := fun H locs hP hD hS => lv_iload_n C.1 C.2.1 hdg hi hl (kk H locs hP hD hS)
theorem cx_inc (C : cx_C D g A y p s m args meth c) {i nL k : Nat} {n : Int} {x v : Int32} {lv lv' : List (Nat × Value)} (hdg : decode (wm_by y) pc = .ok (.iinc i n, 3)) (h : lv_has ls nL lv) (hk : lv[k]? = some (i, .int x)) (hv : x + Int32.ofInt n = v) (hn : i < nL) (hl : (i, Value.int v) :: lv.filter (fun q => !(q.1 == i) && !(q.1 + 1 == i && q.2.category == 2)) = lv')
    (kk : ∀ ls' : Array Slot, lv_has ls' nL lv' → cx_J D A p l e R s m args below meth c Q (pc + 3) ls' rest ws cells slots) : cx_J D A p l e R s m args below meth c Q pc ls rest ws cells slots := fun H locs hP hD hS => lv_iinc C.1 C.2.1 hdg h hk hv hn hl (fun ls' h' => kk ls' h' H locs hP hD hS)
theorem cx_goto (C : cx_C D g A y p s m args meth c) {off : Int} {tgt : Nat} (hdg : decode (wm_by y) pc = .ok (.goto off, 3)) (ht : (pc : Int) + off = (tgt : Int)) (k : cx_J D A p l e R s m args below meth c Q tgt ls rest ws cells slots) : cx_J D A p l e R s m args below meth c Q pc ls rest ws cells slots := fun H locs hP hD hS => lv_goto C.1 C.2.1 hdg ht (k H locs hP hD hS)
theorem cx_ge (C : cx_C D g A y p s m args meth c) {x x2 : Int32} {off : Int} {tgt : Nat} (hdg : decode (wm_by y) pc = .ok (.if_icmp .ge off, 3)) (ht : (pc : Int) + off = (tgt : Int)) (kt : x2 ≤ x → cx_J D A p l e R s m args below meth c Q tgt ls rest ws cells slots) (kf : ¬ x2 ≤ x → cx_J D A p l e R s m args below meth c Q (pc + 3) ls rest ws cells slots) : cx_J D A p l e R s m args below meth c Q pc ls (.int x2 :: .int x :: rest) ws cells slots := fun H locs hP hD hS => lv_icmp_ge C.1 C.2.1 hdg ht (fun z => kt z H locs hP hD hS) (fun z => kf z H locs hP hD hS)
theorem cx_add (C : cx_C D g A y p s m args meth c) {x x2 : Int32} (hdg : decode (wm_by y) pc = .ok (.iadd, 1)) (k : cx_J D A p l e R s m args below meth c Q (pc + 1) ls (.int (x + x2) :: rest) ws cells slots) : cx_J D A p l e R s m args below meth c Q pc ls (.int x2 :: .int x :: rest) ws cells slots := fun H locs hP hD hS => lv_iadd C.1 C.2.1 hdg (k H locs hP hD hS)
theorem cx_div (C : cx_C D g A y p s m args meth c) {x x2 : Int32} (hdg : decode (wm_by y) pc = .ok (.idiv, 1)) (hne : ¬ x2 = 0) (k : cx_J D A p l e R s m args below meth c Q (pc + 1) ls (.int (x / x2) :: rest) ws cells slots) : cx_J D A p l e R s m args below meth c Q pc ls (.int x2 :: .int x :: rest) ws cells slots := fun H locs hP hD hS => lv_idiv C.1 C.2.1 hdg hne (k H locs hP hD hS)
theorem cx_rem (C : cx_C D g A y p s m args meth c) {x x2 : Int32} (hdg : decode (wm_by y) pc = .ok (.irem, 1)) (hne : ¬ x2 = 0) (k : cx_J D A p l e R s m args below meth c Q (pc + 1) ls (.int (x - x / x2 * x2) :: rest) ws cells slots) : cx_J D A p l e R s m args below meth c Q pc ls (.int x2 :: .int x :: rest) ws cells slots := fun H locs hP hD hS => lv_irem C.1 C.2.1 hdg hne (k H locs hP hD hS)
theorem cx_ist (C : cx_C D g A y p s m args meth c) (q0 : Nat) {a N : Nat} {f : Nat → Int32} (ha : ws[q0]? = some (a, .inl (g.1, N, .inl f))) {i x : Int32} (hin : vp_in i N) (hdg : decode (wm_by y) pc = .ok (.iastore, 1)) (k : cx_J D A p l e R s m args below meth c Q (pc + 1) ls rest (ws.set q0 (a, .inl (g.1, N, .inl (upd f i.toNatClampNeg x)))) cells slots) : cx_J D A p l e R s m args below meth c Q pc ls (.int x :: .int i :: .ref a :: rest) ws cells slots := fun H locs hP hD hS => va_iast C.1 C.2.1 C.2.2.2.2.2.1 hP hD hS q0 0 ha rfl hin hdg (fun H1 locs1 hP1 hD1 hS1 => k H1 locs1 hP1 hD1 hS1)
end CXV
/-! Arrays.fill over one row -/
set_option maxRecDepth 100000 in
theorem dk_343 : cx_dk 343 [(0, .iconst 0, 1), (1, .istore_n 2, 1), (2, .aload_n 0, 1), (3, .arraylength, 1), (4, .istore_n 3, 1), (5, .iload_n 2, 1), (6, .iload_n 3, 1), (7, .if_icmp .ge 13, 3), (10, .aload_n 0, 1), (11, .iload_n 2, 1), (12, .iload_n 1, 1), (13, .iastore, 1), (14, .iinc 2 1, 3), (17, .goto (-12), 3), (20, .return_, 1)] = true := by decide +kernel
set_option maxRecDepth 100000 in
theorem cx_fill (D : va_G) (g : ClassId × ClassId × ClassId) {a N : Nat} (hN : N < 2 ^ 31) (v : Int32) (f : Nat → Int32) : cx_Ok D g 343 0 0 0 [.ref a, .int v] [(a, .inl (g.1, N, .inl f))] (fun u => ∃ f1 : Nat → Int32, (∀ j, j < N → f1 j = v) ∧ u = [(a, .inl (g.1, N, .inl f1))]) := by
  refine cx_enter (by decide +kernel) (by decide +kernel) (Nat.le_of_ble_eq_true rfl) (by decide +kernel) ?_
  intro l A p e s m below meth c Q C hn hNw hret ls hl
  obtain ⟨hx, hb, hml, hown, hts, hK, hA⟩ := C
  have hl : lv_has ls 4 [(0, .ref a), (1, .int v)] := hl
  intro H locs hP hD hS
  refine lv_iconst (v := 0) hx hb (cx_d dk_343 0 rfl) (by decide) ?_
  refine lv_istore_n (lv' := [(2, .int 0), (0, .ref a), (1, .int v)]) hx hb (cx_d dk_343 1 rfl) rfl hl (by decide) rfl (fun ls hl => ?_)
  refine lv_aload_n hx hb (cx_d dk_343 2 rfl) rfl (lv_at hl 1 rfl) ?_
  refine va_alen (v := nI N) hx hb hK hP 0 0 rfl rfl rfl (cx_d dk_343 3 rfl) ?_
  refine lv_istore_n (lv' := [(3, .int (nI N)), (2, .int 0), (0, .ref a), (1, .int v)]) hx hb (cx_d dk_343 4 rfl) rfl hl (by decide) rfl (fun ls hl => ?_)
  have loop : ∀ (n i : Nat) (f1 : Nat → Int32), i + n = N → (∀ j, j < i → f1 j = v) → ∀ (H : Heap) (locs : List Loc), va_P D wm_cl [(a, .inl (g.1, N, .inl f1))] H → va_D A [(a, .inl (g.1, N, .inl f1))] → va_S A s.heap H locs → ∀ (ls : Array Slot), lv_has ls 4 [(3, .int (nI N)), (2, .int (nI i)), (0, .ref a), (1, .int v)] → W p l e (cx_rm 0 0 0) s m [Value.ref a, Value.int v].toArray below meth c H locs 0 0 Q (F0 m 5 ls []) := by
    intro n
    induction n with
    | zero =>
      intro i f1 hi hf H locs hP hD hS ls hl
      refine lv_iload_n hx hb (cx_d dk_343 5 rfl) rfl (lv_at hl 1 rfl) ?_
      refine lv_iload_n hx hb (cx_d dk_343 6 rfl) rfl (lv_at hl 0 rfl) ?_
      refine lv_icmp_ge (tgt := 20) hx hb (cx_d dk_343 7 rfl) (by decide) (fun z => ?_) (fun z => absurd (by rw [show i = N by omega]; exact Int32.le_refl _) z)
      exact hret _ ⟨f1, fun j hj => hf j (by omega), rfl⟩ 20 ls (cx_d dk_343 14 rfl) H locs hP hD hS
    | succ n ih =>
      intro i f1 hi hf H locs hP hD hS ls hl
      refine lv_iload_n hx hb (cx_d dk_343 5 rfl) rfl (lv_at hl 1 rfl) ?_
      refine lv_iload_n hx hb (cx_d dk_343 6 rfl) rfl (lv_at hl 0 rfl) ?_
      refine lv_icmp_ge (tgt := 20) hx hb (cx_d dk_343 7 rfl) (by decide) (fun z => ?_) (fun z => ?_)
      · have := (nI_leI (a := N) (b := i) (by omega) (by omega)).mp z
        omega
      refine lv_aload_n hx hb (cx_d dk_343 8 rfl) rfl (lv_at hl 2 rfl) ?_
      refine lv_iload_n hx hb (cx_d dk_343 9 rfl) rfl (lv_at hl 1 rfl) ?_
      refine lv_iload_n hx hb (cx_d dk_343 10 rfl) rfl (lv_at hl 3 rfl) ?_
      refine va_iast hx hb hK hP hD hS 0 0 rfl rfl (vp_in_nI (by omega) (by omega)) (cx_d dk_343 11 rfl) (fun H1 locs1 hP1 hD1 hS1 => ?_)
      refine lv_iinc (v := nI (i + 1)) (lv' := [(2, .int (nI (i + 1))), (3, .int (nI N)), (0, .ref a), (1, .int v)]) hx hb (cx_d dk_343 12 rfl) hl (k := 1) rfl (nI_1 i) (by decide) rfl (fun ls hl => ?_)
      refine lv_goto (tgt := 5) hx hb (cx_d dk_343 13 rfl) (by decide) ?_
      refine ih (i + 1) (upd f1 (nI i).toNatClampNeg v) (by omega) (fun j hj => ?_) H1 locs1 hP1 hD1 hS1 ls (lv_sub hl [1, 0, 2, 3] rfl)
      rw [nI_clamp (by omega)]
      unfold upd
      by_cases hji : j = i
      · simp [hji]
      · simp [hji]; exact hf j (by omega)
  exact loop N 0 f (Nat.zero_add N) (fun j hj => absurd hj (Nat.not_lt_zero j)) H locs hP hD hS ls hl
section CXX
variable {D : va_G} {g : ClassId × ClassId × ClassId} {A : Nat → Prop} {y : Nat} {p : Program} {l : Launch} {e : Env} {R : Room} {s : State} {m : MethodId} {args : Array Value} {below : List Frame} {meth : Method} {c : Code} {Q : State → Prop} {pc : Nat} {ls : Array Slot} {st rest : List Value} {ws w : va_W} {cells slots : Nat}
theorem cx_fl (C : cx_C D g A y p s m args meth c) (hN : cx_N s) {i : Nat} (hl : wm_ML.any (fun t => wm_q3 t.2 (wm_oc y) i 343) = true) (j : Nat) {a N : Nat} {f : Nat → Int32} {v : Int32} (he : ws[j]? = some (a, .inl (g.1, N, .inl f))) (hN2 : N < 2 ^ 31) (hR : 1 ≤ R.frames ∧ 100 ≤ R.locals) (hsz : ls.size = wm_mx y) (hsum : (rest.map fun v => v.category).sum ≤ 8) (hc : cells ≤ R.cells) (hs : slots ≤ R.slots) (hdg : decode (wm_by y) pc = .ok (.invokestatic i, 3))
    (k : ∀ f1 : Nat → Int32, (∀ j, j < N → f1 j = v) → cx_J D A p l e R s m args below meth c Q (pc + 3) ls rest (ws.set j (a, .inl (g.1, N, .inl f1))) cells slots) : cx_J D A p l e R s m args below meth c Q pc ls (.int v :: .ref a :: rest) ws cells slots := by
  obtain ⟨hx, hb, hml, hown, hts, hK, hin0, hA⟩ := C
  have hmk := wm_mok_of (wm_blt (show Nat.blt 343 wm_N = true by decide +kernel))
  obtain ⟨f1, f2, f3, f4, f5, f6⟩ := wm_mok_facts hmk
  intro H locs hP hD hS
  have hPc : va_P D wm_cl [(a, .inl (g.1, N, .inl f))] H := by
    intro k q hq
    cases k with
    | zero => cases hq; exact hP j _ he
    | succ k => cases hq
  have hDc : va_D (fun _ => True) ([(a, .inl (g.1, N, .inl f))] : va_W) := ⟨fun i j p q h1 h2 _ => by
    have := (List.getElem?_eq_some_iff.mp h1).1
    have := (List.getElem?_eq_some_iff.mp h2).1
    simp at *
    omega, fun _ _ _ => trivial⟩
  have hFc := va_free (wc := [(a, .inl (g.1, N, .inl f))]) hD hS hA [j] (by rw [List.map_cons, List.map_nil, he]; rfl)
  have hroom : (cx_rm 0 0 0).frames + 1 ≤ R.frames ∧ 8 + (wm_mx 343 + 11) + (cx_rm 0 0 0).locals ≤ R.locals := by
    simp only [cx_rm]
    omega
  have hpre : PreS s H (cx_Pc D g [.ref a, .int v] [(a, .inl (g.1, N, .inl f))] H.size) [.ref a, .int v] := ⟨cx_blind _ _ _ _ _, fun U hU hW => ⟨rfl, by rw [hU], by rw [hU]; exact hPc, va_K.moved hW.alike hK, hDc, fun q hq => va_Nw.warmM hW (hN q hq)⟩⟩
  have hW8 : 2 * (F0 m pc ls (.int v :: .ref a :: rest)).monitorRoom + (rest.map fun v => v.category).sum ≤ 8 := lv_room hsum
  have hst := cx_st (z := 343) (by decide +kernel)
  have hml1 := cx_ml hl
  have hT : GoodIn wm_T (va_wsS (wm_ow (wm_oc y)) i (wm_nm 343) (wm_wo 343)) := by
    intro w hw
    unfold va_wsS at hw
    rcases List.mem_append.mp hw with hw | hw
    · simp only [List.mem_cons, List.not_mem_nil, or_false] at hw
      rcases hw with rfl | rfl | rfl
      · exact ⟨hml1, wm_T_good hml1⟩
      · exact ⟨hst, wm_T_good hst⟩
      · exact ⟨f2, wm_T_good f2⟩
    · exact wm_wo_good hmk w hw
  refine va_callv (va_runS (rest := rest) (As := [.ref a, .int v]) (Ts := wm_T) (own := wm_ow (wm_oc y)) (g := F0 m pc ls (.int v :: .ref a :: rest)) (nL := wm_mx y) (cells := cells) (slots := slots) ⟨hx, hb, hml, hown, hts⟩ (cx_fill D g (a := a) hN2 v f l H.size) (va_cwS (maxL := wm_mx 343) (bytes := wm_by 343) (ret := wm_rt 343) (ws' := wm_T) (wm_np 343) hts hT rfl rfl rfl ⟨f4, f5, f6⟩ hroom) hpre rfl (show 2 = wm_np 343 by decide +kernel) hsz rfl hW8 hdg ⟨hc, hs⟩) hS (fun q _ h => hFc q h) hFc (fun u t H1 locs1 ht hvm hw hB hz1 hk1 hS1 => ?_)
  obtain ⟨f9, hf9, rfl⟩ := hw
  obtain ⟨hP1, hD1⟩ := hB
  rw [ht] at hP1
  obtain ⟨hP2, hD2⟩ := cx_set hP hD he hk1 (hP1 0 _ rfl)
  exact k f9 hf9 H1 locs1 hP2 hD2 hS1
end CXX
