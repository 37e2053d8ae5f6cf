/-! ===== what the tables give to a step ===== -/
set_option maxRecDepth 100000 in
theorem wm_ly_all : wm_scan (fun w q => (match wm_cl[q.1]? with | some r => decide (w = u_lay r.1 r.2.1 q.2) | none => false) && goodWord w) lw_tbl 0 wm_LY = true := by decide +kernel
theorem wm_ly_each : (List.range 13).all (fun c => (List.range (wm_nf c)).all (fun k => wm_LY.any (fun t => Nat.beq t.2.1 c && Nat.beq t.2.2 k))) = true := by decide +kernel
def wm_clsP (ci : Nat) (r : vw_C) : Prop := r.2.2 = wm_nf ci ∧ (∀ w ∈ u_ws r.1 r.2.1 r.2.2, w ∈ wm_T) ∧ (∀ a, a < r.2.2 → ∀ b, b < r.2.2 → a ≠ b → (r.2.1 a).2.1 ≠ (r.2.1 b).2.1) ∧ ∃ ty0 : Nat → FieldType, (∀ k, k < r.2.2 → parseFieldDescriptor (r.2.1 k).2.2.1 = some (ty0 k)) ∧ (∀ k, k < r.2.2 → (r.2.1 k).1 = r.1) ∧ ∀ k, k < r.2.2 → (wm_ft ci k = 0 → ty0 k = .int) ∧ (wm_ft ci k = 1 → ty0 k = .boolean) ∧ (wm_ft ci k = 2 → ty0 k = .long)
theorem wm_cls_words {ci : Nat} {r : vw_C} (h : wm_cl[ci]? = some r) (hl : ci < 13) (hn : r.2.2 = wm_nf ci) : ∀ w ∈ u_ws r.1 r.2.1 r.2.2, w ∈ wm_T := by
  intro w hw
  obtain ⟨k, hk, rfl⟩ := List.mem_map.mp hw
  have hk2 := List.mem_range.mp hk
  rw [hn] at hk2
  have h1 := List.all_eq_true.mp (List.all_eq_true.mp wm_ly_each ci (List.mem_range.mpr hl)) k (List.mem_range.mpr hk2)
  obtain ⟨t, ht, h2⟩ := List.any_eq_true.mp h1
  simp only [Bool.and_eq_true] at h2
  have e1 := Nat.eq_of_beq_eq_true h2.1
  have e2 := Nat.eq_of_beq_eq_true h2.2
  obtain ⟨w1, h3, -, -, h4⟩ := wm_scan_ok _ _ _ _ wm_ly_all t ht
  simp only [Bool.and_eq_true] at h4
  rw [e1, e2, h] at h4
  have e3 : w1 = u_lay r.1 r.2.1 k := by simpa using h4.1
  rw [← e3]
  exact List.mem_filter.mpr ⟨h3, h4.2⟩
set_option maxRecDepth 100000 in
theorem wm_cls_ok : ∀ (ci : Nat) (r : vw_C), wm_cl[ci]? = some r → wm_clsP ci r
  | 0, _, h => by
    have h0 := h
    cases h
    exact ⟨rfl, wm_cls_words h0 (by decide) rfl, nmX0, tyX0, tyX0_ok, by decide +kernel, by decide +kernel⟩
  | 1, _, h => by
    have h0 := h
    cases h
    exact ⟨rfl, wm_cls_words h0 (by decide) rfl, nmX1, tyX1, tyX1_ok, by decide +kernel, by decide +kernel⟩
  | 2, _, h => by
    have h0 := h
    cases h
    exact ⟨rfl, wm_cls_words h0 (by decide) rfl, nmX2, tyX2, tyX2_ok, by decide +kernel, by decide +kernel⟩
  | 3, _, h => by
    have h0 := h
    cases h
    exact ⟨rfl, wm_cls_words h0 (by decide) rfl, nmX3, tyX3, tyX3_ok, by decide +kernel, by decide +kernel⟩
  | 4, _, h => by
    have h0 := h
    cases h
    exact ⟨rfl, wm_cls_words h0 (by decide) rfl, nmX4, tyX4, tyX4_ok, by decide +kernel, by decide +kernel⟩
  | 5, _, h => by
    have h0 := h
    cases h
    exact ⟨rfl, wm_cls_words h0 (by decide) rfl, nmX5, tyX5, tyX5_ok, by decide +kernel, by decide +kernel⟩
  | 6, _, h => by
    have h0 := h
    cases h
    exact ⟨rfl, wm_cls_words h0 (by decide) rfl, nmX6, tyX6, tyX6_ok, by decide +kernel, by decide +kernel⟩
  | 7, _, h => by
    have h0 := h
    cases h
    exact ⟨rfl, wm_cls_words h0 (by decide) rfl, nmX7, tyX7, tyX7_ok, by decide +kernel, by decide +kernel⟩
  | 8, _, h => by
    have h0 := h
    cases h
    exact ⟨rfl, wm_cls_words h0 (by decide) rfl, nmX8, tyX8, tyX8_ok, by decide +kernel, by decide +kernel⟩
  | 9, _, h => by
    have h0 := h
    cases h
    exact ⟨rfl, wm_cls_words h0 (by decide) rfl, nmX9, tyX9, tyX9_ok, by decide +kernel, by decide +kernel⟩
  | 10, _, h => by
    have h0 := h
    cases h
    exact ⟨rfl, wm_cls_words h0 (by decide) rfl, nmX10, tyX10, tyX10_ok, by decide +kernel, by decide +kernel⟩
  | 11, _, h => by
    have h0 := h
    cases h
    exact ⟨rfl, wm_cls_words h0 (by decide) rfl, nmX11, tyX11, tyX11_ok, by decide +kernel, by decide +kernel⟩
  | 12, _, h => by
    have h0 := h
    cases h
    exact ⟨rfl, wm_cls_words h0 (by decide) rfl, nmX12, tyX12, tyX12_ok, by decide +kernel, by decide +kernel⟩
  | n + 13, _, h => by cases h
def wm_q3 (a : Nat × Nat × Nat) (x y z : Nat) : Bool := Nat.beq a.1 x && (Nat.beq a.2.1 y && Nat.beq a.2.2 z)
theorem wm_q3_ok {a : Nat × Nat × Nat} {x y z : Nat} (h : wm_q3 a x y z = true) : a = (x, y, z) := by
  simp only [wm_q3, Bool.and_eq_true] at h
  obtain ⟨a1, a2, a3⟩ := a
  simp only [Prod.mk.injEq]
  exact ⟨Nat.eq_of_beq_eq_true h.1, Nat.eq_of_beq_eq_true h.2.1, Nat.eq_of_beq_eq_true h.2.2⟩
def wm_q4 (a : Nat × Nat × Nat × Nat) (x y z u : Nat) : Bool := Nat.beq a.1 x && (Nat.beq a.2.1 y && (Nat.beq a.2.2.1 z && Nat.beq a.2.2.2 u))
theorem wm_q4_ok {a : Nat × Nat × Nat × Nat} {x y z u : Nat} (h : wm_q4 a x y z u = true) : a = (x, y, z, u) := by
  simp only [wm_q4, Bool.and_eq_true] at h
  obtain ⟨a1, a2, a3, a4⟩ := a
  simp only [Prod.mk.injEq]
  exact ⟨Nat.eq_of_beq_eq_true h.1, Nat.eq_of_beq_eq_true h.2.1, Nat.eq_of_beq_eq_true h.2.2.1, Nat.eq_of_beq_eq_true h.2.2.2⟩
def wm_dk (y z lv : Nat) : Bool := match wm_dg y, wm_dg z, lv with
  | 0, 0, 0 => Nat.blt (wm_dr z) (wm_dr y)
  | 1, 0, 0 => Nat.blt (wm_dr z) 30
  | 2, 0, 0 => Nat.blt (wm_dr z) 30
  | 1, 1, 3 => Nat.blt (wm_dr z) (wm_dr y)
  | 1, 1, 1 => Nat.blt (wm_dr z) 12
  | 2, 1, 2 => Nat.blt (wm_dr z) 12
  | 2, 2, 0 => Nat.blt (wm_dr z) (wm_dr y)
  | _, _, _ => false
def wm_len (i : Instr) (n : Nat) : Nat := match i with
  | .bipush _ => 2
  | .sipush _ => 3
  | .ldc _ => 2
  | .ldc_w _ => 3
  | .ldc2_w _ => 3
  | .iload _ => 2
  | .lload _ => 2
  | .aload _ => 2
  | .istore _ => 2
  | .lstore _ => 2
  | .astore _ => 2
  | .iinc _ _ => 3
  | .ifCond _ _ => 3
  | .if_icmp _ _ => 3
  | .goto _ => 3
  | .getfield _ => 3
  | .putfield _ => 3
  | .getstatic _ => 3
  | .invokevirtual _ => 3
  | .invokestatic _ => 3
  | .tableswitch _ _ _ _ => n
  | .lookupswitch _ _ => n
  | _ => 1
/-- a method that may be called: its words are there -/
def wm_mok (z : Nat) : Bool := Nat.ble (wm_mx z) 60 && (wm_CD.any (fun t => Nat.beq t.2 z) && (wm_IN.any (fun t => Nat.beq t.2 (wm_oc z)) && (decide ((wm_nm z).cls = wm_ow (wm_oc z)) && (!decide ((wm_nm z).cls = "java/lang/invoke/MethodHandle") && (!decide ((wm_nm z).cls = "java/lang/invoke/VarHandle") && decide ((parseMethodDescriptor (wm_nm z).desc).map (fun d => d.parameters.length) = some (wm_np z)))))))
theorem wm_mok_all : (List.range wm_N).all wm_mok = true := by decide +kernel
def wm_okI (y o pc : Nat) (q : wm_Op) : Bool := match q.1 with
  | .iconst n => decide (Int32.ofInt n = wm_k n)
  | .bipush n => decide ((Int8.ofInt n).toInt32 = wm_k n)
  | .sipush n => decide ((Int16.ofInt n).toInt32 = wm_k n)
  | .iinc _ n => decide (Int32.ofInt n = wm_k n)
  | .ldc2_w i => wm_KL.any (fun t => Nat.beq t.2.1 o && (Nat.beq t.2.2.1 i && decide (Int64.ofInt t.2.2.2 = wm_kj q.2.2.1 q.2.2.2.1)))
  | .ldc i => wm_KI.any (fun t => Nat.beq t.2.1 o && (Nat.beq t.2.2.1 i && decide (Int32.ofInt t.2.2.2 = Int32.ofNat q.2.2.1)))
  | .ldc_w i => wm_KI.any (fun t => Nat.beq t.2.1 o && (Nat.beq t.2.2.1 i && decide (Int32.ofInt t.2.2.2 = Int32.ofNat q.2.2.1)))
  | .ifCond _ f => decide ((pc : Int) + f = (q.2.2.1 : Int))
  | .if_icmp _ f => decide ((pc : Int) + f = (q.2.2.1 : Int))
  | .goto f => decide ((pc : Int) + f = (q.2.2.1 : Int))
  | .tableswitch d lo hi offs => decide (0 ≤ (pc : Int) + d) && (offs.toList.all (fun f => decide (0 ≤ (pc : Int) + f)) && decide ((offs.toList.length : Int) = hi - lo + 1))
  | .lookupswitch d ps => decide (0 ≤ (pc : Int) + d) && (ps.toList.all (fun f => decide (0 ≤ (pc : Int) + f.2)) && (ps.toList.zip (ps.toList.drop 1)).all (fun (a, next) => a.1 < next.1))
  | .getfield i => wm_FL.any (fun t => wm_q4 t.2 o i q.2.2.1 q.2.2.2.1) && (Nat.blt q.2.2.2.1 (wm_nf q.2.2.1) && (wm_cl[q.2.2.1]?).isSome)
  | .putfield i => wm_FL.any (fun t => wm_q4 t.2 o i q.2.2.1 q.2.2.2.1) && (Nat.blt q.2.2.2.1 (wm_nf q.2.2.1) && (match wm_cl[q.2.2.1]? with
    | some r => !(r.2.1 q.2.2.2.1).2.2.2
    | none => false))
  | .getstatic i => wm_SL.any (fun t => wm_q3 t.2 o i q.2.2.1)
  | .invokevirtual i => wm_ML.any (fun t => wm_q3 t.2 o i q.2.2.1) && (wm_IM.any (fun t => Nat.beq t.2 q.2.2.1) && (wm_SE.any (fun t => Nat.beq t.2 q.2.2.1) && (Nat.beq (q.2.2.2.1 % 16) (wm_np q.2.2.1) && (Nat.beq (q.2.2.2.1 / 16) (wm_oc q.2.2.1) && (Nat.blt q.2.2.1 wm_N && wm_dk y q.2.2.1 (q.2.2.2.2 % 4))))))
  | .invokestatic i => bif Nat.ble 20 q.2.2.2.2 then wm_PL.any (fun t => wm_q3 t.2 o i (q.2.2.2.2 - 20)) && Nat.blt (q.2.2.2.2 - 20) 6 else (wm_ML.any (fun t => wm_q3 t.2 o i q.2.2.1) || wm_NL.any (fun t => wm_q3 t.2 o i q.2.2.1)) && (wm_ST.any (fun t => Nat.beq t.2 q.2.2.1) && (Nat.beq q.2.2.2.1 (wm_np q.2.2.1) && (Nat.blt q.2.2.1 wm_N && wm_dk y q.2.2.1 (q.2.2.2.2 % 4))))
  | _ => true
def wm_okL (y o : Nat) (cc : ByteArray) : Nat → List wm_Op → Bool
  | _, [] => true
  | pc, q :: os => decide (decode cc pc = .ok (q.1, wm_len q.1 q.2.1)) && (wm_okI y o pc q && wm_okL y o cc (pc + wm_len q.1 q.2.1) os)
def wm_okB (y o : Nat) (cc : ByteArray) (B : wm_B) : Bool := B.all (fun q => wm_okL y o cc q.1 q.2)
/-- words out of the tables -/
theorem wm_any_q {α : Type} {L : List (Nat × α)} {f : Nat × α → Bool} (h : L.any f = true) : ∃ t ∈ L, f t = true := List.any_eq_true.mp h
theorem wm_code_in {z : Nat} (h : wm_mok z = true) : wm_cdc z ∈ wm_T := by
  simp only [wm_mok, Bool.and_eq_true] at h
  have h1 := h.2.1
  cases hf : wm_CD.find? (fun q => Nat.beq q.2 z) with
  | none =>
    obtain ⟨t, ht, h2⟩ := wm_any_q h1
    exact absurd h2 (by simpa using List.find?_eq_none.mp hf t ht)
  | some q =>
    have hm := List.mem_of_find?_eq_some hf
    have hz : q.2 = z := Nat.eq_of_beq_eq_true (by simpa using List.find?_some hf)
    obtain ⟨w, h3, h4, -, h5⟩ := wm_scan_ok _ _ _ _ wm_cd_all q hm
    rw [Nat.sub_zero] at h4
    rw [hz] at h5
    have hp : wm_cdp z = some w := by unfold wm_cdp; rw [hf]; exact h4
    cases w <;> first | (simp [wm_cdk] at h5; done) | skip
    next n b mx r =>
      simp only [wm_cdk, Bool.and_eq_true, decide_eq_true_eq] at h5
      have e : wm_cdc z = .code n b mx r := by
        unfold wm_cdc wm_by
        rw [hp, ← h5.1, ← h5.2.2, ← Nat.eq_of_beq_eq_true h5.2.1]
      rw [e]
      exact List.mem_filter.mpr ⟨h3, rfl⟩
theorem wm_wo_good {z : Nat} (h : wm_mok z = true) : GoodIn wm_T (wm_wo z) := by
  intro w hw
  rcases List.mem_cons.mp hw with rfl | hw
  · exact ⟨wm_code_in h, wm_T_good (wm_code_in h)⟩
  · exact ⟨hw, wm_T_good hw⟩
theorem wm_mok_of {z : Nat} (h : z < wm_N) : wm_mok z = true := List.all_eq_true.mp wm_mok_all z (List.mem_range.mpr h)
