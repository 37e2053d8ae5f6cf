/-! ===== calls ===== -/
section WMU
variable {G : wm_G} {y e o : Nat} {cc : ByteArray} {nL : Nat} {X : Nat × (Nat → Int32)} {p : Program} {l0 : Launch} {en : Env} {R : Room} {s : State} {m : MethodId} {args : Array Value} {below : List Frame} {meth : Method} {c : Code} {nc ns : Nat} {Qw : State → Prop} {pc : Nat} {l st : List Value} {μ : wm_M}
theorem wm_any_id {L : List (Nat × Nat)} {z : Nat} (h : L.any (fun t => Nat.beq t.2 z) = true) : ∃ t ∈ L, t.2 = z := by
  obtain ⟨t, ht, h1⟩ := wm_any_q h
  exact ⟨t, ht, Nat.eq_of_beq_eq_true h1⟩
theorem wm_mok_facts {z : Nat} (h : wm_mok z = true) : wm_mx z ≤ 60 ∧ Jvm.Cond.initialized (wm_nm z).cls ∈ wm_T ∧ (wm_nm z).cls = wm_ow (wm_oc z) ∧ (wm_nm z).cls ≠ "java/lang/invoke/MethodHandle" ∧ (wm_nm z).cls ≠ "java/lang/invoke/VarHandle" ∧ (parseMethodDescriptor (wm_nm z).desc).map (fun d => d.parameters.length) = some (wm_np z) := by
  simp only [wm_mok, Bool.and_eq_true, decide_eq_true_eq, Bool.not_eq_true', decide_eq_false_iff_not] at h
  obtain ⟨h1, -, h3, h4, h5, h6, h7⟩ := h
  obtain ⟨t, ht, et⟩ := wm_any_id h3
  refine ⟨Nat.le_of_ble_eq_true h1, ?_, h4, h5, h6, h7⟩
  rw [h4, ← et]
  exact wm_scan_T (g := fun q => Jvm.Cond.initialized (wm_ow q)) wm_in_all ht
theorem wm_room {z e2 : Nat} (hd : wm_dq z e2 + 1 ≤ wm_dq y e) (hm : wm_mx z ≤ 60) (hR : wm_dq y e ≤ R.frames ∧ 100 * wm_dq y e ≤ R.locals) : (wm_rm (wm_dq z e2)).frames + 1 ≤ R.frames ∧ 8 + (wm_mx z + 11) + (wm_rm (wm_dq z e2)).locals ≤ R.locals := by
  simp only [wm_rm]
  omega
theorem wm_pre (hK : va_K G.1 wm_cl (wm_ty G) s) (hX : wm_X G s) {H : Heap} {locs : List Loc} (hP : va_P G.1 wm_cl (wm_ws G μ) H) (hD : va_D (wm_A G) (wm_ws G μ)) (hS : va_S (wm_A G) s.heap H locs) (as : List Value) : ∀ U : State, U.heap = H → s.WarmedH U.vm → wm_Pc G as μ (as.map (wm_v G)).toArray U := by
  intro U hU hW
  exact ⟨rfl, by rw [hU]; exact hP, va_K.moved hW.alike hK, hD, hX.go hW (fun a h1 h2 => by rw [hU]; exact hS.2.1 a h1 h2)⟩
theorem wm_s_vir (C : wm_C G y e o cc nL X p R nc ns s m args c) {i z np r : Nat} (hok : wm_okI y o pc (.invokevirtual i, 3, z, np, r) = true) (hd : decode cc pc = .ok (.invokevirtual i, 3)) {as rs : List Value} {a : Nat} {f : List Value → wm_M → Prop} (hpp : wm_pp (np % 16) st [] = some (as, .ref a :: rs)) (hsum : Nat.ble (wm_sum rs) 8 = true) (h : wm_rcv a (np / 16) (wm_call e z r (.ref a :: as) μ f)) (hk : ∀ v μ, f v μ → wm_J G nL p l0 en R s m args below meth c nc ns Qw (pc + 3) l (v ++ rs) μ) : wm_J G nL p l0 en R s m args below meth c nc ns Qw pc l st μ := by
  obtain ⟨hx, hb, hml, hown, hts, hK, hX, ⟨hd1, hd2, hd3⟩, hcs, -⟩ := C
  simp only [wm_okI, Bool.and_eq_true] at hok
  obtain ⟨h1, h2, h3, h4, h4b, h5, h6⟩ := hok
  have hnp : np % 16 = wm_np z := Nat.eq_of_beq_eq_true h4
  have hoc : np / 16 = wm_oc z := Nat.eq_of_beq_eq_true h4b
  rw [hoc] at h
  have hmk := wm_mok_of (wm_blt h5)
  obtain ⟨f1, f2, f3, f4, f5, f6⟩ := wm_mok_facts hmk
  obtain ⟨t, ht, e1⟩ := wm_any_q h1
  have hml1 := wm_scan_T (g := wm_mlc) wm_ml_all ht
  rw [wm_q3_ok e1] at hml1
  obtain ⟨t2, ht2, et2⟩ := wm_any_id h2
  have him := wm_scan_T (g := fun q => Jvm.Cond.instanceMethod (wm_nm q)) wm_im_all ht2
  rw [et2] at him
  obtain ⟨t3, ht3, et3⟩ := wm_any_id h3
  have hse := wm_scan_T (g := fun q => Jvm.Cond.selects (wm_nm q).cls (wm_nm q) (wm_nm q)) wm_se_all ht3
  rw [et3] at hse
  unfold wm_rcv at h
  obtain ⟨ha, h⟩ := wm_cond_no h
  cases hs1 : (wm_sh a).1 with
  | succ n => rw [hs1] at h; exact h.elim
  | zero =>
    rw [hs1] at h
    obtain ⟨hs2, h⟩ := wm_cond_ok h
    have hs := wm_sh_eq hs1 (Nat.eq_of_beq_eq_true hs2)
    obtain ⟨e2, Qf, hM, hlv, hQf⟩ := wm_call_ok h
    have hdd := wm_dk_ok h6 hlv
    obtain ⟨bs, b1, b2, b3⟩ := wm_pp_ok _ _ _ _ _ hpp
    intro H locs ls hP hD hS hL
    have he := wm_ws_at G μ (wm_lt ha)
    have hat := hP a _ he
    rw [wm_E_obj G μ hs] at he hat
    obtain ⟨q, hq, -⟩ := hat
    have hrec := va_recv hK hP hq he
    have hcl : q.1 = (wm_nm z).cls := by
      have h7 : wm_cl[wm_oc z]? = some q := hq
      have : q.1 = wm_ow (wm_oc z) := by
        have key : ∀ n, n < 13 → ∀ r, wm_cl[n]? = some r → r.1 = wm_ow n := by
          intro n hn r hr
          have : (List.range 13).all (fun n => match wm_cl[n]? with | some r => decide (r.1 = wm_ow n) | none => true) = true := by decide +kernel
          have h8 := List.all_eq_true.mp this n (List.mem_range.mpr hn)
          rw [hr] at h8
          simpa using h8
        have hl : wm_oc z < 13 := (List.getElem?_eq_some_iff.mp h7).1
        exact key _ hl q h7
      rw [this, f3]
    rw [hcl] at hrec
    have hT : GoodIn wm_T (wsV (wm_ow o) i (wm_nm z).cls (wm_nm z) (wm_wo z)) := by
      intro w hw
      unfold wsV at hw
      rcases List.mem_append.mp hw with hw | hw
      · simp only [List.mem_cons, List.not_mem_nil, or_false] at hw
        rcases hw with rfl | rfl | rfl | rfl
        · exact ⟨hml1, wm_T_good hml1⟩
        · exact ⟨him, wm_T_good him⟩
        · exact ⟨hse, wm_T_good hse⟩
        · exact ⟨f2, wm_T_good f2⟩
      · exact wm_wo_good hmk w hw
    have hW8 : 2 * (F0 m pc ls (st.map (wm_v G))).monitorRoom + ((rs.map (wm_v G)).map fun v => v.category).sum ≤ 8 := lv_room (by rw [wm_sum_map]; exact Nat.le_of_ble_eq_true hsum)
    have hstk : (F0 m pc ls (st.map (wm_v G))).stack = (as.map (wm_v G)).reverse ++ .ref (G.2.2.1 a) :: rs.map (wm_v G) := by
      show st.map (wm_v G) = _
      rw [b1, b2]
      simp [wm_v]
    have hrun := va_runV (cells := nc) (slots := ns) (locs := locs) (p := p) (l := l0) (e := en) (below := below) (meth := meth) (rest := rs.map (wm_v G)) (As := as.map (wm_v G)) (Ts := wm_T) (own := wm_ow o) (C := (wm_nm z).cls) (b := G.2.2.1 a) (g := F0 m pc ls (st.map (wm_v G))) (nL := nL) (H := H) (R := R) ⟨hx, hb, hml, hown, hts⟩ (hM l0 G)
      (cwV (maxL := wm_mx z) (bytes := wm_by z) (ret := wm_rt z) (ws' := wm_T) (wm_np z) hts hT rfl rfl rfl ⟨rfl, f4, f5, f6⟩ (wm_room hdd f1 ⟨hd2, hd3⟩)) ⟨wm_blind G _ μ, hrec, wm_pre hK hX hP hD hS (.ref a :: as)⟩ rfl (by rw [List.length_map, b2]; simp [b3, hnp]) hL.1 hstk hW8 hd ⟨hcs.1, hcs.2⟩
    exact wm_back_ok hrun hS (fun v ν H1 locs1 hq1 hP1 hD1 hS1 => by
      have h9 := hk _ ν (hQf v ν hq1) H1 locs1 ls hP1 hD1 hS1 hL
      rw [List.map_append] at h9
      have e9 : v.toList.map (wm_v G) = (v.map (wm_v G)).toList := by cases v <;> rfl
      rw [e9] at h9
      exact h9)
theorem wm_s_sta (C : wm_C G y e o cc nL X p R nc ns s m args c) {i z np r : Nat} (hr20 : Nat.ble 20 r = false) (hok : wm_okI y o pc (.invokestatic i, 3, z, np, r) = true) (hd : decode cc pc = .ok (.invokestatic i, 3)) {as rs : List Value} {f : List Value → wm_M → Prop} (hpp : wm_pp np st [] = some (as, rs)) (hsum : Nat.ble (wm_sum rs) 8 = true) (h : wm_call e z r as μ f) (hk : ∀ v μ, f v μ → wm_J G nL p l0 en R s m args below meth c nc ns Qw (pc + 3) l (v ++ rs) μ) : wm_J G nL p l0 en R s m args below meth c nc ns Qw pc l st μ := by
  obtain ⟨hx, hb, hml, hown, hts, hK, hX, ⟨hd1, hd2, hd3⟩, hcs, -⟩ := C
  simp only [wm_okI, hr20, cond_false, Bool.and_eq_true, Bool.or_eq_true] at hok
  obtain ⟨h1, h2, h4, h5, h6⟩ := hok
  have hnp : np = wm_np z := Nat.eq_of_beq_eq_true h4
  have hmk := wm_mok_of (wm_blt h5)
  obtain ⟨f1, f2, f3, f4, f5, f6⟩ := wm_mok_facts hmk
  obtain ⟨t2, ht2, et2⟩ := wm_any_id h2
  have hst := wm_scan_T (g := fun q => Jvm.Cond.static (wm_nm q)) wm_st_all ht2
  rw [et2] at hst
  obtain ⟨e2, Qf, hM, hlv, hQf⟩ := wm_call_ok h
  have hdd := wm_dk_ok h6 hlv
  obtain ⟨bs, b1, b2, b3⟩ := wm_pp_ok _ _ _ _ _ hpp
  intro H locs ls hP hD hS hL
  have hW8 : 2 * (F0 m pc ls (st.map (wm_v G))).monitorRoom + ((rs.map (wm_v G)).map fun v => v.category).sum ≤ 8 := lv_room (by rw [wm_sum_map]; exact Nat.le_of_ble_eq_true hsum)
  have hstk : (F0 m pc ls (st.map (wm_v G))).stack = (as.map (wm_v G)).reverse ++ rs.map (wm_v G) := by
    show st.map (wm_v G) = _
    rw [b1, b2]
    simp
  have fin : va_Run p l0 en R s m args below meth c H locs nc ns 0 0 (F0 m pc ls (st.map (wm_v G))) (rs.map (wm_v G)) (wm_Qc G Qf (as.map (wm_v G)).toArray) (wm_A G) := by
    rcases h1 with h1 | h1
    · obtain ⟨t, ht, e1⟩ := wm_any_q h1
      have hml1 := wm_scan_T (g := wm_mlc) wm_ml_all ht
      rw [wm_q3_ok e1] at hml1
      have hT : GoodIn wm_T (va_wsS (wm_ow o) i (wm_nm z) (wm_wo z)) := by
        intro w hw
        unfold va_wsS at hw
        rcases List.mem_append.mp hw with hw | hw
        · simp only [List.mem_cons, List.not_mem_nil, or_false] at hw
          rcases hw with rfl | rfl | rfl
          · exact ⟨hml1, wm_T_good hml1⟩
          · exact ⟨hst, wm_T_good hst⟩
          · exact ⟨f2, wm_T_good f2⟩
        · exact wm_wo_good hmk w hw
      exact va_runS (rest := rs.map (wm_v G)) (As := as.map (wm_v G)) (Ts := wm_T) (own := wm_ow o) (g := F0 m pc ls (st.map (wm_v G))) (nL := nL) ⟨hx, hb, hml, hown, hts⟩ (hM l0 G)
        (va_cwS (maxL := wm_mx z) (bytes := wm_by z) (ret := wm_rt z) (ws' := wm_T) (wm_np z) hts hT rfl rfl rfl ⟨f4, f5, f6⟩ (wm_room hdd f1 ⟨hd2, hd3⟩)) ⟨wm_blind G _ μ, wm_pre hK hX hP hD hS as⟩ rfl (by rw [List.length_map, b2]; simp [b3, hnp]) hL.1 hstk hW8 hd ⟨hcs.1, hcs.2⟩
    · obtain ⟨t, ht, e1⟩ := wm_any_q h1
      have hn1 := hX.1 t ht
      rw [wm_q3_ok e1] at hn1
      exact va_runSN (rest := rs.map (wm_v G)) (As := as.map (wm_v G)) (Ts := wm_T) (own := wm_ow o) (host := "WindBoat") (g := F0 m pc ls (st.map (wm_v G))) (nL := nL) ⟨hx, hb, hml, hown, hts⟩ (hM l0 G)
        ⟨va_cnB (maxL := wm_mx z) (bytes := wm_by z) (ret := wm_rt z) (ws' := wm_T) (wm_np z) hts (wm_wo_good hmk) rfl rfl rfl hn1 (hts _ f2) ⟨f4, f5, f6⟩ (wm_room hdd f1 ⟨hd2, hd3⟩), hts _ hst, trivial⟩ ⟨wm_blind G _ μ, wm_pre hK hX hP hD hS as⟩ rfl (by rw [List.length_map, b2]; simp [b3, hnp]) hL.1 hstk hW8 hd ⟨hcs.1, hcs.2⟩
  exact wm_back_ok fin hS (fun v ν H1 locs1 hq1 hP1 hD1 hS1 => by
    have h9 := hk _ ν (hQf v ν hq1) H1 locs1 ls hP1 hD1 hS1 hL
    rw [List.map_append] at h9
    have e9 : v.toList.map (wm_v G) = (v.map (wm_v G)).toList := by cases v <;> rfl
    rw [e9] at h9
    exact h9)
end WMU
