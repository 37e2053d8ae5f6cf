/-! The law's walk from its entry. -/
theorem lx_inst : ∀ (k : Nat) (q : vw_C), wm_cl[k]? = some q → Jvm.Cond.instantiable q.1 q.2.2 ∈ wm_T
  | 0, _, h => by cases h; exact cx_w 17 rfl
  | 1, _, h => by cases h; exact cx_w 26 rfl
  | 2, _, h => by cases h; exact cx_w 32 rfl
  | 3, _, h => by cases h; exact cx_w 38 rfl
  | 4, _, h => by cases h; exact cx_w 6 rfl
  | 5, _, h => by cases h; exact cx_w 35 rfl
  | 6, _, h => by cases h; exact cx_w 20 rfl
  | 7, _, h => by cases h; exact cx_w 9 rfl
  | 8, _, h => by cases h; exact cx_w 14 rfl
  | 9, _, h => by cases h; exact cx_w 23 rfl
  | 10, _, h => by cases h; exact cx_w 29 rfl
  | 11, _, h => by cases h; exact cx_w 1 rfl
  | 12, _, h => by cases h; exact cx_w 42 rfl
  | k + 13, _, h => by simp [wm_cl] at h
theorem lx_D {args : Array Value} {s : State} (hw : ∀ w ∈ wm_T, w.before args s = true) : ∃ D : va_G, ∀ (k : Nat) (q : vw_C), wm_cl[k]? = some q → u_Kn s q.1 q.2.1 q.2.2 (D.1 k) (D.2 k) := by
  have key : ∀ k : Nat, ∃ d : ClassId × (Nat → Nat), ∀ q : vw_C, wm_cl[k]? = some q → u_Kn s q.1 q.2.1 q.2.2 d.1 d.2 := by
    intro k
    cases hq : wm_cl[k]? with
    | none => exact ⟨(default, fun _ => 0), fun q h => by cases h⟩
    | some q =>
      obtain ⟨hnf, hin2, hnm, ty0, hty0, hdc, hft⟩ := wm_cls_ok k q hq
      obtain ⟨c, iS, h⟩ := u_known (n := q.2.2) hw hin2 (hw _ (lx_inst k q hq))
      exact ⟨(c, iS), fun q' h' => by cases h'; exact h⟩
  obtain ⟨d, hd⟩ := Classical.axiomOfChoice key
  exact ⟨(fun k => (d k).1, fun k => (d k).2), fun k q h => hd k q h⟩
theorem lx_arr {args : Array Value} {s : State} {ty : FieldType} (h : (Cond.arrayClass ty).before args s = true) (hty : ty = .int ∨ ty = .boolean ∨ ty = .long) : ∃ cA : ClassId, ArrOfT s cA ty ∧ va_RA s cA ty := by
  obtain ⟨cA, kA, comp, h1, h2, h3⟩ := Cond.arrayClass_spec h
  refine ⟨cA, fun n z => ⟨fun k h => (by cases h), kA, h2, comp, h3⟩, ?_⟩
  rcases hty with rfl | rfl | rfl <;> exact h1
section LXI
variable {D : va_G} {g : ClassId × ClassId × ClassId} {A : Nat → Prop} {p : Program} {l : Launch} {e : Env} {R : Room} {s : State} {m : MethodId} {args : Array Value} {below : List Frame} {meth : Method} {c : Code} {Q : State → Prop} {pc : Nat} {ls : Array Slot} {rest : List Value} {w : va_W} {cells slots : Nat} {cc : ByteArray} {own : String} {nL : Nat}
/-- the law calls a constructor: its world is the last cell -/
theorem lx_init (hx : p.tables.exec = Jvm.exec) (hb : c.code = cc) (hml : c.maxLocals = nL) (hown : s.vm.findClass own = some m.cls) (hts : ∀ w ∈ wm_T, w.before args s = true) (hK : va_K D wm_cl (cx_ty g) s) (hA : ∀ q : Nat, s.heap.size ≤ q → A q) (hN : cx_N s) {i z d mc ms b : Nat} {e0 : va_E} {P : va_W → Prop} (hl : Jvm.Cond.methodLink own i (wm_nm z) ∈ wm_T) (him : wm_IM.any (fun t => Nat.beq t.2 z) = true) (hz : Nat.blt z wm_N = true) (hnm : (wm_nm z).name = "<init>") (hrt : wm_rt z = none) (hnp : 0 = wm_np z) (hM : cx_Ok D g z d mc ms [.ref b] [(b, e0)] P) (hR : d + 1 ≤ R.frames ∧ 100 * (d + 1) ≤ R.locals)
    (hsz : ls.size = nL) (hsum : (rest.map fun v => v.category).sum ≤ 8) (hc : cells + mc ≤ R.cells) (hs : slots + ms ≤ R.slots) (hdg : decode cc pc = .ok (.invokespecial i, 3))
    {H : Heap} {locs : List Loc} (hP : va_P D wm_cl (w ++ [(b, e0)]) H) (hD : va_D A (w ++ [(b, e0)])) (hS : va_S A s.heap H locs)
    (k : ∀ u : va_W, P u → ∀ (H : Heap) (locs : List Loc), va_P D wm_cl (w ++ u) H → va_D A (w ++ u) → va_S A s.heap H locs → W p l e R s m args below meth c H locs (cells + mc) (slots + ms) Q (F0 m (pc + 3) ls rest)) : W p l e R s m args below meth c H locs cells slots Q (F0 m pc ls (.ref b :: rest)) := by
  have hmk := wm_mok_of (wm_blt hz)
  obtain ⟨f1, f2, f3, f4, f5, f6⟩ := wm_mok_facts hmk
  have hPc : va_P D wm_cl [(b, e0)] H := by
    intro k q hq
    cases k with
    | zero => cases hq; exact hP w.length _ (by simp)
    | succ k => cases hq
  have hDc : va_D (fun _ => True) [(b, e0)] := ⟨fun i j p q h1 h2 _ => by
    have := (List.getElem?_eq_some_iff.mp h1).1
    have := (List.getElem?_eq_some_iff.mp h2).1
    simp at *
    omega, fun _ _ _ => trivial⟩
  have hFc := va_free (wc := [(b, e0)]) hD hS hA _ (cx_rgt w [(b, e0)])
  have hroom : (cx_rm d mc ms).frames + 1 ≤ R.frames ∧ 8 + (wm_mx z + 11) + (cx_rm d mc ms).locals ≤ R.locals := by
    simp only [cx_rm]
    omega
  have hpre : PreS s H (cx_Pc D g [.ref b] [(b, e0)] H.size) [.ref b] := ⟨cx_blind _ _ _ _ _, fun U hU hW => ⟨rfl, by rw [hU], by rw [hU]; exact hPc, va_K.moved hW.alike hK, hDc, fun q hq => va_Nw.warmM hW (hN q hq)⟩⟩
  have hW8 : 2 * (F0 m pc ls (.ref b :: rest)).monitorRoom + (rest.map fun v => v.category).sum ≤ 8 := lv_room hsum
  have hwo : wm_wo z = Jvm.Cond.code (wm_nm z) (wm_by z) (wm_mx z) none :: wm_T := by unfold wm_wo wm_cdc; rw [hrt]
  refine va_callv (va_runI (As := []) (rest := rest) (g := F0 m pc ls (.ref b :: rest)) (nL := nL) (Ts := wm_T) (own := own) ⟨hx, hb, hml, hown, hts⟩ (hM l H.size) (cwI (bytes := wm_by z) (maxL := wm_mx z) (ws' := wm_T) (wm_np z) hts (wm_wo_good hmk) hwo rfl rfl (hts _ f2) (hts _ hl) (hts _ (cx_im him)) hnm ⟨f4, f5, f6⟩ hroom) hpre rfl hnp hsz rfl hW8 hdg ⟨hc, hs⟩) hS (fun q _ h => hFc q h) hFc (fun u t H1 locs1 ht hvm hw hB hz1 hk1 hS1 => ?_)
  obtain ⟨hP1, hD1⟩ := hB
  rw [ht] at hP1
  obtain ⟨hP2, hD2⟩ := va_join (wr := w) (w1 := u) hP hD _ _ (cx_rgt w [(b, e0)]) (cx_lft w [(b, e0)]) (cx_nd _ _) (cx_dis _ _) hk1 hFc hP1 hD1
  exact k u hw H1 locs1 hP2 hD2 hS1
end LXI
theorem d_l0 : decode code 0 = .ok (.new 7, 3) := by decide +kernel
theorem d_l3 : decode code 3 = .ok (.dup, 1) := by decide +kernel
theorem d_l4 : decode code 4 = .ok (.invokespecial 9, 3) := by decide +kernel
theorem d_l7 : decode code 7 = .ok (.astore_n 1, 1) := by decide +kernel
theorem d_l8 : decode code 8 = .ok (.new 10, 3) := by decide +kernel
theorem d_l11 : decode code 11 = .ok (.dup, 1) := by decide +kernel
theorem d_l12 : decode code 12 = .ok (.invokespecial 12, 3) := by decide +kernel
theorem d_l15 : decode code 15 = .ok (.astore_n 2, 1) := by decide +kernel
theorem d_l16 : decode code 16 = .ok (.iconst 0, 1) := by decide +kernel
theorem d_l17 : decode code 17 = .ok (.istore_n 3, 1) := by decide +kernel
set_option maxHeartbeats 4000000 in
set_option maxRecDepth 100000 in
/-- THE LAW, from its entry -/
theorem whole_start {p : Program} {e : Env} {s : State} {m : MethodId} {below : List Frame} {meth : Method} {c : Code} (l : Launch) {b L : Nat} {xs : Nat → Int32} (hL : L ≤ 2048) (C0 : lw_At p s m meth c b L xs) : W p l e room_1 s m #[Value.ref b] below meth c s.heap [] 0 0 (lw_Z below #[Value.ref b] s) (entryFrame m ([Value.ref b] : List Value).toArray 4) := by
  obtain ⟨hx, hb, hr, hml, hown, hts, hX, hbl, hlocks, hgv⟩ := C0
  have hw := lx_T hts
  have hN := lx_N hts
  obtain ⟨D, hKc⟩ := lx_D hw
  obtain ⟨gi, gi1⟩ := lx_arr (hw _ (cx_w 12 rfl)) (Or.inl rfl)
  obtain ⟨gz, gz1⟩ := lx_arr (hw _ (cx_w 11 rfl)) (Or.inr (Or.inl rfl))
  obtain ⟨gj, gj1⟩ := lx_arr (hw _ (cx_w 40 rfl)) (Or.inr (Or.inr rfl))
  obtain ⟨ad', hb3, hXX⟩ := lx_X hts hgv
  have hK : va_K D wm_cl (cx_ty (gi, gz, gj)) s := ⟨hKc, fun k q h => by
    match k, h with
    | 0, h => cases h; exact gi1
    | 1, h => cases h; exact gz1
    | 2, h => cases h; exact gj1
    | k + 3, h => simp [cx_ty] at h⟩
  have hA : ∀ q : Nat, s.heap.size ≤ q → (fun q : Nat => s.heap.size ≤ q) q := fun _ h => h
  have hS : va_S (fun q : Nat => s.heap.size ≤ q) s.heap s.heap [] := va_S.rf
  have hP : va_P D wm_cl [] s.heap := fun k q h => by simp at h
  have hD : va_D (fun q : Nat => s.heap.size ≤ q) [] := ⟨fun i j p q h => by simp at h, fun k q h => by simp at h⟩
  have hl := lv_entry ([.ref b]) (n := 4) (Nat.le_of_ble_eq_true rfl)
  rw [lg_entry_eq]
  generalize (lg_sl ([.ref b]) ++ List.replicate (4 - (lg_sl ([.ref b])).length) Slot.unset).toArray = ls at hl ⊢
  have hl : lv_has ls 4 [(0, .ref b)] := hl
  obtain ⟨nf1, in1, nm1, ty1, hty1, dc1, ft1⟩ := wm_cls_ok 11 _ rfl
  refine va_new (ci := 11) (fs := [.null, .null, .int 0, .null, .null, .null, .null, .null, .null, .int 0, .null, .null]) (C := RX11) (T := TX11) (N := 12) (own := "WindBoatLaw") hx hb hw in1 ty1 hty1 hown (hw _ (cx_w 0 rfl)) (hw _ (cx_w 1 rfl)) (hw _ (cx_in (o := 11) (by decide +kernel))) hK hP hD hS hA rfl (fun j hj => ?_) (Nat.le_of_ble_eq_true rfl) (Nat.le_of_ble_eq_true rfl) d_l0 (fun q0 H hP hD hS => ?_)
  · have h1 := (show ∀ j, j < 12 → (parseFieldDescriptor (TX11 j).2.2.1).map defaultValue = some (vp_V [.null, .null, .int 0, .null, .null, .null, .null, .null, .null, .int 0, .null, .null] j) by decide +kernel) j hj
    rw [hty1 j hj] at h1
    exact Option.some.inj h1
  refine lv_dup hx hb d_l3 rfl ?_
  refine lx_init (w := []) (own := "WindBoatLaw") hx hb hml hown hw hK hA hN (cx_ml (o := 21) (i := 9) (z := 115) (by decide +kernel)) (by decide +kernel) (by decide +kernel) (by decide +kernel) (by decide +kernel) (by decide +kernel) (k_115 D (gi, gz, gj) q0) ⟨Nat.le_of_ble_eq_true rfl, Nat.le_of_ble_eq_true rfl⟩ hl.1 (Nat.le_of_ble_eq_true rfl) (Nat.le_of_ble_eq_true rfl) (Nat.le_of_ble_eq_true rfl) d_l4 hP hD hS (fun uB hB H locs hP hD hS => ?_)
  refine lv_astore_n (lv' := [(1, .ref q0), (0, .ref b)]) hx hb d_l7 rfl hl (by decide) rfl (fun ls hl => ?_)
  obtain ⟨nf2, in2, nm2, ty2, hty2, dc2, ft2⟩ := wm_cls_ok 12 _ rfl
  refine va_new (ci := 12) (fs := [.int 0, .null, .null, .null, .int 0, .int 0, .int 0, .int 0, .int 0, .int 0, .long 0, .int 0, .int 0, .int 0, .int 0, .int 0, .int 0, .int 0, .int 0, .int 0, .int 0, .null, .null, .null, .null, .int 0, .null, .int 0, .null, .null, .null, .null, .null, .null, .null, .null, .null, .int 0, .int 0, .int 0, .long 0, .long 0, .null, .null, .null, .null, .int 0, .null, .int 0, .int 0]) (C := RX12) (T := TX12) (N := 50) (own := "WindBoatLaw") hx hb hw in2 ty2 hty2 hown (hw _ (cx_w 41 rfl)) (hw _ (cx_w 42 rfl)) (hw _ (cx_in (o := 12) (by decide +kernel))) hK hP hD hS hA rfl (fun j hj => ?_) (Nat.le_of_ble_eq_true rfl) (Nat.le_of_ble_eq_true rfl) d_l8 (fun q1 H hP hD hS => ?_)
  · have h1 := (show ∀ j, j < 50 → (parseFieldDescriptor (TX12 j).2.2.1).map defaultValue = some (vp_V [.int 0, .null, .null, .null, .int 0, .int 0, .int 0, .int 0, .int 0, .int 0, .long 0, .int 0, .int 0, .int 0, .int 0, .int 0, .int 0, .int 0, .int 0, .int 0, .int 0, .null, .null, .null, .null, .int 0, .null, .int 0, .null, .null, .null, .null, .null, .null, .null, .null, .null, .int 0, .int 0, .int 0, .long 0, .long 0, .null, .null, .null, .null, .int 0, .null, .int 0, .int 0] j) by decide +kernel) j hj
    rw [hty2 j hj] at h1
    exact Option.some.inj h1
  refine lv_dup hx hb d_l11 rfl ?_
  refine lx_init (w := uB) (own := "WindBoatLaw") hx hb hml hown hw hK hA hN (cx_ml (o := 21) (i := 12) (z := 187) (by decide +kernel)) (by decide +kernel) (by decide +kernel) (by decide +kernel) (by decide +kernel) (by decide +kernel) (k_187 D (gi, gz, gj) q1) ⟨Nat.le_of_ble_eq_true rfl, Nat.le_of_ble_eq_true rfl⟩ hl.1 (Nat.le_of_ble_eq_true rfl) (Nat.le_of_ble_eq_true rfl) (Nat.le_of_ble_eq_true rfl) d_l12 hP hD hS (fun uM hM H locs hP hD hS => ?_)
  refine lv_astore_n (lv' := [(2, .ref q1), (1, .ref q0), (0, .ref b)]) hx hb d_l15 rfl hl (by decide) rfl (fun ls hl => ?_)
  refine lv_iconst (v := 0) hx hb d_l16 (by decide) ?_
  refine lv_istore_n (lv' := [(3, .int 0), (2, .ref q1), (1, .ref q0), (0, .ref b)]) hx hb d_l17 rfl hl (by decide) rfl (fun ls hl => ?_)
  refine W.widen (k := 600000) (n := 7302250) (Nat.le_of_ble_eq_true rfl) (Nat.le_of_ble_eq_true rfl) ?_
  obtain ⟨ad, μ, had, ha0, ha1, hP2, hD2, hrel⟩ := lx_fin (s0 := s.heap.size) hB hM hP hD ad'
  have h3 : ad 3000 = b := (had 3000 (by omega)).trans hb3
  have loop := law_loop (L := L) (xs := xs) hL (L + 1) 0 0 μ (by omega) (by omega) (by omega) hrel l (D, (gi, gz, gj), ad, s.heap.size) p e s m below meth c
  have hargs : #[Value.ref (ad 3000)] = #[Value.ref b] := by rw [h3]
  have C : wm_C (D, (gi, gz, gj), ad, s.heap.size) 346 0 21 code 4 (L + 1, xs) p room_1 600000 7302250 s m #[Value.ref (ad 3000)] c := by
    rw [hargs]
    refine ⟨hx, hb, hml, hown, hw, hK, hXX D (gi, gz, gj) ad had, ⟨by decide +kernel, by decide +kernel, by decide +kernel⟩, ⟨Nat.le_refl _, Nat.le_refl _⟩, Or.inr ?_⟩
    show va_X (ad 3000) (L + 1 - 1) xs s s.heap ∧ ad 3000 < s.heap.size ∧ ¬ s.heap.size ≤ ad 3000
    rw [h3]
    exact ⟨hX, hbl, Nat.not_le.mpr hbl⟩
  have fin := loop C hr hlocks rfl H locs ls hP2 hD2 hS ⟨hl.1, hl.2.1, Nat.le_refl _, fun i v hv hn => ?_⟩
  · have fin2 : W p l e room_1 s m #[Value.ref (ad 3000)] below meth c H locs 600000 7302250 (lw_Z below #[Value.ref (ad 3000)] s) (F0 m 18 ls []) := fin
    rw [hargs] at fin2
    exact fin2
  · match i, hv with
    | 0, hv => cases hv; show ls[0]? = some (.val (.ref (ad 3000))); rw [h3]; exact lv_at hl 3 rfl
    | 1, hv => cases hv; show ls[1]? = some (.val (.ref (ad 0))); rw [ha0]; exact lv_at hl 2 rfl
    | 2, hv => cases hv; show ls[2]? = some (.val (.ref (ad 89))); rw [ha1]; exact lv_at hl 1 rfl
    | 3, hv => cases hv; exact lv_at hl 0 rfl
    | i + 4, hv => simp at hv
