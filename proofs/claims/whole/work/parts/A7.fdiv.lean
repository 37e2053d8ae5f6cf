/-! Math.floorDiv: printed by wip/gen/genfd.py, but for the entry. -/
theorem wm_enterF {e y : Nat} (hy : Nat.blt y wm_N = true) (hm : plainFor (wm_nm y) = true) {as : List Value} (hl : Nat.ble (wm_al as).length (wm_mx y) = true) {μ : wm_M} {Q : Option Value → wm_M → Prop} (h : wm_Wp e y 0 (wm_in as (wm_mx y)) μ Q) : wm_Ok e y as μ Q := by
  intro l G
  have hyN := wm_blt hy
  have hd := List.all_eq_true.mp wm_dr_all y (List.mem_range.mpr hyN)
  simp only [Bool.and_eq_true] at hd
  have hmk := wm_mok_of hyN
  obtain ⟨f1, f2, f3, f4, f5, f6⟩ := wm_mok_facts hmk
  have hdr := Nat.le_of_ble_eq_true hd.1
  have hdq : 1 ≤ wm_dq y e := by unfold wm_dq; split <;> omega
  refine MetFree.of_bodySF (code := wm_by y) (maxLocals := wm_mx y) (ret := wm_rt y) hm (fun args s m hpre hnm => ?_) (fun p en s m args below meth c s₁ B hml hv _ => ?_)
  · obtain ⟨a1, a2, b1, b2, b3, b4, b5, b6, _⟩ := Cond.code_spec hnm (atoms_spec (ws := wm_wo y) hpre _ List.mem_cons_self)
    exact ⟨a1, a2, b1, b2, b3, b4, b5, b6⟩
  have hW : W p l en (headSpec (wm_wo y) (wm_rm (wm_dq y e))).room s m args below meth c s.heap [] 0 0 (MQ below (wm_Qc G Q) args s 0 0 (wm_A G)) (entryFrame m args (wm_mx y)) := by
    obtain ⟨rfl, hP, hK, hD, hX⟩ := hv
    have hts := atoms_spec (ws := wm_wo y) B.pre
    have hown : s.vm.findClass (wm_ow (wm_oc y)) = some m.cls := by rw [← f3]; exact findClass_of_methodNamed B.named
    have hlen := Nat.le_of_ble_eq_true hl
    have hle := lv_entry (as.map (wm_v G)) (n := wm_mx y) (by rw [wm_al_len]; exact hlen)
    rw [lg_entry_eq]
    refine h l G p en _ s m _ below meth c ⟨B.exec, B.bytes, hml, hown, fun w hw => hts w (List.mem_cons_of_mem _ hw), hK, hX, ⟨hdq, Nat.le_refl _, Nat.le_refl _⟩, ⟨Nat.zero_le _, Nat.zero_le _⟩, Or.inl rfl⟩ B.returns B.notSynchronized s.heap [] _ hP hD va_S.rf ⟨hle.1, hle.2.1, ?_, fun i v hv hn => ?_⟩
    · simp only [wm_in, List.length_append, List.length_replicate]; omega
    · by_cases hi : i < (wm_al as).length
      · unfold wm_in at hv
        rw [List.getElem?_append_left hi] at hv
        have h9 := hle.2.2 _ (wm_al_at G as 0 i v hv hn)
        rw [Nat.zero_add] at h9
        exact h9
      · unfold wm_in at hv
        rw [List.getElem?_append_right (by omega)] at hv
        exact absurd (List.eq_of_mem_replicate (List.mem_of_getElem? hv)) hn
  obtain ⟨t, a1, o, b1, b2, b3⟩ := hW s₁ (by rw [B.state]; rfl) (Stand.of_body B)
  exact ⟨t, o, a1, b1, b2, b3.1, b3.2⟩
theorem wm_entF {e y nL : Nat} (hy : Nat.blt y wm_N = true) (hm : plainFor (wm_nm y) = true) (hn : wm_mx y = nL) {as l : List Value} (hl : Nat.ble (wm_al as).length nL = true) (hi : wm_in as nL = l) {μ : wm_M} {Q : Option Value → wm_M → Prop} (h : wm_Wp e y 0 l μ Q) : wm_Ok e y as μ Q := by
  subst hn hi
  exact wm_enterF hy hm hl h

def mb_315 : wm_B := [(0, [(.lload_n 0, 1, 0, 0, 0), (.lload_n 2, 1, 0, 0, 0), (.ldiv, 1, 0, 0, 0), (.lstore 4, 2, 0, 0, 0), (.lload_n 0, 1, 0, 0, 0), (.lload_n 2, 1, 0, 0, 0), (.lxor, 1, 0, 0, 0), (.lconst 0, 1, 0, 0, 0), (.lcmp, 1, 0, 0, 0), (.ifCond .ge 17, 3, 27, 0, 0), (.lload 4, 2, 0, 0, 0), (.lload_n 2, 1, 0, 0, 0), (.lmul, 1, 0, 0, 0), (.lload_n 0, 1, 0, 0, 0), (.lcmp, 1, 0, 0, 0), (.ifCond .eq 8, 3, 27, 0, 0)]), (22, [(.lload 4, 2, 0, 0, 0), (.lconst 1, 1, 0, 0, 0), (.lsub, 1, 0, 0, 0), (.lreturn, 1, 0, 0, 0)]), (27, [(.lload 4, 2, 0, 0, 0), (.lreturn, 1, 0, 0, 0)])]
def mc_315 : List (Nat × List Bool) := [(22, [false, false, false, false, true, false]), (27, [false, false, false, false, true, false])]
set_option maxRecDepth 100000 in
theorem mo_315 : wm_okB 315 (wm_oc 315) (wm_by 315) mb_315 = true := by decide +kernel
-- java/lang/Math.floorDiv(JJ)J
set_option maxRecDepth 100000 in
set_option maxHeartbeats 8000000 in
theorem f_315 (a0 : Int64) (a2 : Int64) (μ : wm_M) (Q : Option Value → wm_M → Prop) (h : (¬ a2 = 0 ∧ (((0 : Int32) ≤ (lg_cmp (a0 ^^^ a2) (0 : Int64)) → wm_Wp 0 315 27 [.null, .null, .null, .null, .long (a0 / a2), .null] μ Q) ∧ (¬ (0 : Int32) ≤ (lg_cmp (a0 ^^^ a2) (0 : Int64)) → (((lg_cmp ((a0 / a2) * a2) a0) = (0 : Int32) → wm_Wp 0 315 27 [.null, .null, .null, .null, .long (a0 / a2), .null] μ Q) ∧ (¬ (lg_cmp ((a0 / a2) * a2) a0) = (0 : Int32) → wm_Wp 0 315 22 [.null, .null, .null, .null, .long (a0 / a2), .null] μ Q)))))) : wm_Ok 0 315 [.long a0, .long a2] μ Q := wm_entF (nL := 6) (l := [.long a0, .null, .long a2, .null, .null, .null]) (by decide +kernel) (by decide +kernel) (by decide +kernel) rfl rfl (wm_vc mo_315 (rt := some .long) (by decide +kernel) mc_315 64 h)
-- java/lang/Math.floorDiv(JJ)J, the place 22
set_option maxRecDepth 100000 in
set_option maxHeartbeats 8000000 in
theorem f_315_22 (x4 : Int64) (μ : wm_M) (Q : Option Value → wm_M → Prop) (h : Q (some (.long (x4 - (1 : Int64)))) μ) : wm_Wp 0 315 22 [.null, .null, .null, .null, .long x4, .null] μ Q := wm_vc mo_315 (rt := some .long) (by decide +kernel) mc_315 64 h
-- java/lang/Math.floorDiv(JJ)J, the place 27
set_option maxRecDepth 100000 in
set_option maxHeartbeats 8000000 in
theorem f_315_27 (x4 : Int64) (μ : wm_M) (Q : Option Value → wm_M → Prop) (h : Q (some (.long x4)) μ) : wm_Wp 0 315 27 [.null, .null, .null, .null, .long x4, .null] μ Q := wm_vc mo_315 (rt := some .long) (by decide +kernel) mc_315 64 h
-- java/lang/Math.floorDiv(JJ)J
set_option maxRecDepth 100000 in
theorem v_315 (a0 : Int64) (a2 : Int64) (μ : wm_M) (Q : Option Value → wm_M → Prop) (h : (¬ a2 = 0 ∧ (((0 : Int32) ≤ (lg_cmp (a0 ^^^ a2) (0 : Int64)) → wm_Wp 0 315 27 [.null, .null, .null, .null, .long (a0 / a2), .null] μ Q) ∧ (¬ (0 : Int32) ≤ (lg_cmp (a0 ^^^ a2) (0 : Int64)) → (((lg_cmp ((a0 / a2) * a2) a0) = (0 : Int32) → wm_Wp 0 315 27 [.null, .null, .null, .null, .long (a0 / a2), .null] μ Q) ∧ (¬ (lg_cmp ((a0 / a2) * a2) a0) = (0 : Int32) → Q (some (.long ((a0 / a2) - (1 : Int64)))) μ)))))) : wm_Ok 0 315 [.long a0, .long a2] μ Q := f_315 a0 a2 μ Q ⟨h.1, ⟨fun c2 => (h.2.1 c2), fun c2 => ⟨fun c1 => ((h.2.2 c2).1 c1), fun c1 => (f_315_22 (a0 / a2) μ Q ((h.2.2 c2).2 c1))⟩⟩⟩
-- .. at 27
set_option maxRecDepth 100000 in
theorem w_315_27 (x4 : Int64) (μ : wm_M) (Q : Option Value → wm_M → Prop) (h : Q (some (.long x4)) μ) : wm_Wp 0 315 27 [.null, .null, .null, .null, .long x4, .null] μ Q := f_315_27 x4 μ Q h
theorem jx_neg (x y : Int64) : (x ^^^ y).toInt < 0 ↔ ¬ (x.toInt < 0 ↔ y.toInt < 0) := by
  have e : ∀ z : Int64, z.toInt < 0 ↔ z.toBitVec.msb = true := fun z => by
    rw [BitVec.msb_eq_toInt]; exact ⟨fun h => decide_eq_true h, fun h => of_decide_eq_true h⟩
  rw [e, e x, e y, Int64.toBitVec_xor, BitVec.msb_xor]
  cases x.toBitVec.msb <;> cases y.toBitVec.msb <;> decide
theorem s_315 {P q : Int} (hP : P.natAbs ≤ 1000000000000000000) (hq : q.natAbs ≤ 1000000000000000000) (h0 : 0 < q) {μ : wm_M} {Q : Int64 → wm_M → Prop} (h : Q (jI (P / q)) μ) : wm_OkJ 0 315 [.long (jI P), .long (jI q)] μ Q := by
  have bP : gB P := by unfold gB; omega
  have bq : gB q := by unfold gB; omega
  have n0 : ¬ jI q = 0 := by rw [show (0 : Int64) = jI 0 from rfl, jI_eq bq gB_0]; omega
  have hd := jI_div bP bq h0
  have ht := Int.tdiv_eq_ediv (a := P) (b := q)
  have l1 := fl_lo (P := P) h0
  have l2 := fl_hi (P := P) h0
  refine v_315 _ _ _ _ ⟨n0, ?_⟩
  rw [lg_cmp_ge, lg_cmp_eq, hd]
  have ex : (0 : Int64) ≤ jI P ^^^ jI q ↔ ¬ P < 0 := by
    rw [Int64.le_iff_toInt_le]
    have := jx_neg (jI P) (jI q)
    rw [jI_T bP, jI_T bq] at this
    rw [show (0 : Int64).toInt = 0 from by decide]
    omega
  rw [ex]
  refine ⟨fun z => w_315_27 _ _ _ ⟨_, rfl, ?_⟩, fun z => ⟨fun y => w_315_27 _ _ _ ⟨_, rfl, ?_⟩, fun y => ⟨_, rfl, ?_⟩⟩⟩
  · rw [Int.tdiv_eq_ediv_of_nonneg (by omega)]; exact h
  · rw [jI_mul] at y
    have hb : P.tdiv q * q = P ∨ ¬ gB (P.tdiv q * q) := by
      by_cases g : gB (P.tdiv q * q)
      · exact Or.inl ((jI_eq g bP).mp y)
      · exact Or.inr g
    rcases hb with e | e
    · have : q ∣ P := ⟨P.tdiv q, by rw [Int.mul_comm]; exact e.symm⟩
      rw [if_pos (Or.inr this), Int.add_zero] at ht
      rw [ht]; exact h
    · exfalso
      have hm : (P.tdiv q * q).natAbs ≤ P.natAbs := by
        rw [Int.natAbs_mul, Int.natAbs_tdiv]; exact Nat.div_mul_le_self _ _
      exact e (by unfold gB at *; omega)
  · have nd : ¬ q ∣ P := fun hd => y (by rw [jI_mul, Int.tdiv_mul_cancel hd])
    rw [if_neg (fun c => by rcases c with c | c; omega; exact nd c), Int.sign_eq_one_of_pos h0] at ht
    rw [ht, show (1 : Int64) = jI 1 from rfl, jI_sub, show P / q + 1 - 1 = P / q by omega]
    exact h

