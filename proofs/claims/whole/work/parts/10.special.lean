/-! ===== calls that the machine or the kit does itself ===== -/
theorem wm_sp_words : (∀ q ∈ [Jvm.Cond.native arraycopyName, Jvm.Cond.static arraycopyName, Jvm.Cond.initialized "java/lang/System", Jvm.Cond.initialized "java/lang/Math", Jvm.Cond.static Lib.Math.max.name, Jvm.Cond.static Lib.Math.min.name, Jvm.Cond.static Lib.Math.abs.name, Jvm.Cond.static Lib.MathLoose.max_long.x, Jvm.Cond.static Lib.MathLoose.min_long.x], q ∈ wm_T) := by decide +kernel
theorem wm_sp_c1 : Jvm.Cond.code Lib.Math.max.name Lib.Math.max.code 2 (some .int) ∈ wm_T := by decide +kernel
theorem wm_sp_c2 : Jvm.Cond.code Lib.Math.min.name Lib.Math.min.code 2 (some .int) ∈ wm_T := by decide +kernel
theorem wm_sp_c3 : Jvm.Cond.code Lib.Math.abs.name Lib.Math.abs.code 1 (some .int) ∈ wm_T := by decide +kernel
theorem wm_sp_c4 : Jvm.Cond.code Lib.MathLoose.max_long.x Lib.MathLoose.max_long.code 4 (some .long) ∈ wm_T := by decide +kernel
theorem wm_sp_c5 : Jvm.Cond.code Lib.MathLoose.min_long.x Lib.MathLoose.min_long.code 4 (some .long) ∈ wm_T := by decide +kernel
section WMV
variable {G : wm_G} {y e o : Nat} {cc : ByteArray} {nL : Nat} {X : Nat × (Nat → Int32)} {p : Program} {l0 : Launch} {en : Env} {R : Room} {s : State} {m : MethodId} {args : Array Value} {below : List Frame} {meth : Method} {c : Code} {nc ns : Nat} {Qw : State → Prop} {pc : Nat} {l st : List Value} {μ : wm_M}
theorem wm_s_spc (C : wm_C G y e o cc nL X p R nc ns s m args c) {i z np r : Nat} (hr20 : Nat.ble 20 r = true) (hok : wm_okI y o pc (.invokestatic i, 3, z, np, r) = true) (hd : decode cc pc = .ok (.invokestatic i, 3)) {f : List Value → wm_M → Prop} (h : wm_sp μ (r - 20) st (fun rs ν => bif Nat.ble (wm_sum rs) 10 then f rs ν else False)) (hk : ∀ rs ν, f rs ν → wm_J G nL p l0 en R s m args below meth c nc ns Qw (pc + 3) l rs ν) : wm_J G nL p l0 en R s m args below meth c nc ns Qw pc l st μ := by
  obtain ⟨hx, hb, hml, hown, hts, hK, hX, ⟨hd1, hd2, hd3⟩, hcs, -⟩ := C
  simp only [wm_okI, hr20, cond_true, Bool.and_eq_true] at hok
  obtain ⟨h1, h2⟩ := hok
  obtain ⟨t, ht, e1⟩ := wm_any_q h1
  have hpl := wm_scan_T (g := wm_plc) wm_pl_all ht
  rw [wm_q3_ok e1] at hpl
  have hlink := hts _ hpl
  have hw : ∀ q, q ∈ [Jvm.Cond.native arraycopyName, Jvm.Cond.static arraycopyName, Jvm.Cond.initialized "java/lang/System", Jvm.Cond.initialized "java/lang/Math", Jvm.Cond.static Lib.Math.max.name, Jvm.Cond.static Lib.Math.min.name, Jvm.Cond.static Lib.Math.abs.name, Jvm.Cond.static Lib.MathLoose.max_long.x, Jvm.Cond.static Lib.MathLoose.min_long.x] → q.before args s = true := fun q hq => hts _ (wm_sp_words q hq)
  have hfr : 1 ≤ R.frames := by omega
  have hlo : 100 ≤ R.locals := by omega
  have h6 := wm_blt h2
  generalize r - 20 = j at h h6 hlink
  intro H locs ls hP hD hS hL
  have hml2 : c.maxLocals = ls.size := by rw [hml, hL.1]
  rcases (show j = 0 ∨ j = 1 ∨ j = 2 ∨ j = 3 ∨ j = 4 ∨ j = 5 by omega) with rfl | rfl | rfl | rfl | rfl | rfl
  · obtain ⟨n, r1, rfl, h⟩ := wm_pI_ok h
    obtain ⟨dp, r2, rfl, h⟩ := wm_pI_ok h
    obtain ⟨a1, r3, rfl, h⟩ := wm_pR_ok h
    obtain ⟨sp, r4, rfl, h⟩ := wm_pI_ok h
    obtain ⟨a0, r5, rfl, h⟩ := wm_pR_ok h
    obtain ⟨g0, h⟩ := wm_cond_no h
    obtain ⟨g1, h⟩ := wm_cond_no h
    obtain ⟨g2, h⟩ := wm_cond_ok h
    have g2 := Nat.eq_of_beq_eq_true g2
    have he0 := wm_ws_at G μ (wm_lt g0)
    have he1 := wm_ws_at G μ (wm_lt g1)
    split at h
    · rename_i z0
      obtain ⟨q1, q2, q3, q4, q5, q6⟩ := h
      obtain ⟨q6, q7⟩ := wm_cond_ok (q6 _ rfl)
      have q6 := Nat.le_of_ble_eq_true q6
      have e5 : nativeFrameWords "java/lang/System" "arraycopy" 5 = 7 := by decide +kernel
      have hs0 := wm_sh_eq (a := a0) z0 rfl
      have hs1 := wm_sh_eq (a := a1) (g2.symm.trans z0) rfl
      rw [wm_E_i G μ hs0] at he0
      rw [wm_E_i G μ hs1] at he1
      refine va_copyi hx hb hml2 hown hlink (hw _ (by simp)) (hw _ (by simp)) (hw _ (by simp)) hK hP hD hS a0 a1 0 0 he0 he1 rfl rfl rfl q1 q2 q3 q4 q5 (fun _ _ => rfl) hfr (by rw [wm_sum_map, e5]; omega) hd (fun H1 locs1 hP1 hD1 hS1 => ?_)
      have e9 := wm_ws_sr (μ := μ) (c := a1) (f := va_cpy (μ.1 a0) (μ.1 a1) sp.toNatClampNeg dp.toNatClampNeg n.toNatClampNeg) (E := .inl (G.2.1.1, (wm_sh a1).2, .inl (va_cpy (μ.1 a0) (μ.1 a1) sp.toNatClampNeg dp.toNatClampNeg n.toNatClampNeg))) G (by rw [wm_E_i G _ hs1]; show Sum.inl (_, _, Sum.inl (va_up μ.1 a1 _ a1)) = _; rw [wm_up_eq])
      exact hk _ _ q7 H1 locs1 ls (by rw [← e9]; exact hP1) (by rw [← e9]; exact hD1) hS1 hL
    · rename_i z0
      obtain ⟨q1, q2, q3, q4, q5, q8, q6⟩ := h
      obtain ⟨q6, q7⟩ := wm_cond_ok (q6 _ rfl)
      have q6 := Nat.le_of_ble_eq_true q6
      have e5 : nativeFrameWords "java/lang/System" "arraycopy" 5 = 7 := by decide +kernel
      have hs0 := wm_sh_eq (a := a0) z0 rfl
      have hs1 := wm_sh_eq (a := a1) (g2.symm.trans z0) rfl
      rw [wm_E_z G μ hs0] at he0
      rw [wm_E_z G μ hs1] at he1
      refine va_copyi hx hb hml2 hown hlink (hw _ (by simp)) (hw _ (by simp)) (hw _ (by simp)) hK hP hD hS a0 a1 1 1 he0 he1 rfl rfl rfl q1 q2 q3 q4 q5 (fun i hi => (wm_nb (q8 i hi)).2) hfr (by rw [wm_sum_map, e5]; omega) hd (fun H1 locs1 hP1 hD1 hS1 => ?_)
      have e9 := wm_ws_sr (μ := μ) (c := a1) (f := va_cpy (μ.1 a0) (μ.1 a1) sp.toNatClampNeg dp.toNatClampNeg n.toNatClampNeg) (E := .inl (G.2.1.2.1, (wm_sh a1).2, .inl (va_cpy (μ.1 a0) (μ.1 a1) sp.toNatClampNeg dp.toNatClampNeg n.toNatClampNeg))) G (by rw [wm_E_z G _ hs1]; show Sum.inl (_, _, Sum.inl (va_up μ.1 a1 _ a1)) = _; rw [wm_up_eq])
      exact hk _ _ q7 H1 locs1 ls (by rw [← e9]; exact hP1) (by rw [← e9]; exact hD1) hS1 hL
    · exact h.elim
  · obtain ⟨b, r1, rfl, h⟩ := wm_pI_ok h
    obtain ⟨a, r2, rfl, h⟩ := wm_pI_ok h
    obtain ⟨q6, q7⟩ := wm_cond_ok h
    have q6 := Nat.le_of_ble_eq_true q6
    simp only [wm_sum, Value.category] at q6
    exact va_mmax hx hb hml2 hown hlink (hw _ (by simp)) (hw _ (by simp)) (hts _ wm_sp_c1) hfr (by rw [wm_sum_map]; omega) hcs.1 hcs.2 hd (hk _ _ q7 H locs ls hP hD hS hL)
  · obtain ⟨b, r1, rfl, h⟩ := wm_pI_ok h
    obtain ⟨a, r2, rfl, h⟩ := wm_pI_ok h
    obtain ⟨q6, q7⟩ := wm_cond_ok h
    have q6 := Nat.le_of_ble_eq_true q6
    simp only [wm_sum, Value.category] at q6
    exact va_mmin hx hb hml2 hown hlink (hw _ (by simp)) (hw _ (by simp)) (hts _ wm_sp_c2) hfr (by rw [wm_sum_map]; omega) hcs.1 hcs.2 hd (hk _ _ q7 H locs ls hP hD hS hL)
  · obtain ⟨a, r2, rfl, h⟩ := wm_pI_ok h
    obtain ⟨q6, q7⟩ := wm_cond_ok h
    have q6 := Nat.le_of_ble_eq_true q6
    simp only [wm_sum, Value.category] at q6
    exact va_mabs hx hb hml2 hown hlink (hw _ (by simp)) (hw _ (by simp)) (hts _ wm_sp_c3) hfr (by rw [wm_sum_map]; omega) hcs.1 hcs.2 hd (hk _ _ q7 H locs ls hP hD hS hL)
  · obtain ⟨b, r1, rfl, h⟩ := wm_pJ_ok h
    obtain ⟨a, r2, rfl, h⟩ := wm_pJ_ok h
    obtain ⟨q6, q7⟩ := wm_cond_ok h
    have q6 := Nat.le_of_ble_eq_true q6
    simp only [wm_sum, Value.category] at q6
    exact va_mmax_long hx hb hml2 hown hlink (hw _ (by simp)) (hw _ (by simp)) (hts _ wm_sp_c4) hfr (by rw [wm_sum_map]; omega) hcs.1 hcs.2 hd (hk _ _ q7 H locs ls hP hD hS hL)
  · obtain ⟨b, r1, rfl, h⟩ := wm_pJ_ok h
    obtain ⟨a, r2, rfl, h⟩ := wm_pJ_ok h
    obtain ⟨q6, q7⟩ := wm_cond_ok h
    have q6 := Nat.le_of_ble_eq_true q6
    simp only [wm_sum, Value.category] at q6
    exact va_mmin_long hx hb hml2 hown hlink (hw _ (by simp)) (hw _ (by simp)) (hts _ wm_sp_c5) hfr (by rw [wm_sum_map]; omega) hcs.1 hcs.2 hd (hk _ _ q7 H locs ls hP hD hS hL)
end WMV
