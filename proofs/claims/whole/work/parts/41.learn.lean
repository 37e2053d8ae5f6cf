theorem m_205 {m : Nat} {A : Nat → Nat} (p v : Nat) (hp : p < 25) (hv : v ≤ 99) {μ : wm_M} {Q : Int32 → wm_M → Prop} (hB : BA m A) (hV : VX A) (hM : RM 91 A μ) (hs : A (349 + p) < 99) (hq : ∀ ν, RM 91 (lrA A p v) ν → Sm KC μ ν → Q (nI (A (349 + p) + 1)) ν) : wm_Wp 0 205 62 [.ref 89, .null, .null, .int (nI v), .int (nI p)] μ (fun w ν => ∃ x, w = some (.int x) ∧ Q x ν) := by
  have b1 := hB.least hp
  have b2 := hB.great hp
  have b3 := hB.sum hp
  have a1 : (349 : Int32) + nI p = nI (349 + p) := nI_add 349 p
  have a2 : (399 : Int32) + nI p = nI (399 + p) := nI_add 399 p
  have a3 : (424 : Int32) + nI p = nI (424 + p) := nI_add 424 p
  have a4 : (374 : Int32) + nI p = nI (374 + p) := nI_add 374 p
  have c1 := nI_clamp (n := 349 + p) (by omega)
  have c2 := nI_clamp (n := 399 + p) (by omega)
  have c3 := nI_clamp (n := 424 + p) (by omega)
  have c4 := nI_clamp (n := 374 + p) (by omega)
  have v1 : vp_in (nI (349 + p)) 2060 := vp_in_nI (by omega) (by decide)
  have v2 : vp_in (nI (399 + p)) 2060 := vp_in_nI (by omega) (by decide)
  have v3 : vp_in (nI (424 + p)) 2060 := vp_in_nI (by omega) (by decide)
  have v4 : vp_in (nI (374 + p)) 2060 := vp_in_nI (by omega) (by decide)
  have fin : ∀ ν, RM 91 (uN (uN A (399 + p) (lsA A p v)) (424 + p) (gtA A p v)) ν → Sm KC μ ν → wm_Wp 0 205 172 [.ref 89, .null, .null, .int (nI v), .int (nI p)] ν (fun w ν => ∃ x, w = some (.int x) ∧ Q x ν) := fun ν h e => by
    have r1 : ν.1 91 (349 + p) = nI (A (349 + p)) := by rw [h _ (by omega), uN_ne _ _ (by omega), uN_ne _ _ (by omega)]
    refine f_205_172 _ _ _ _ ?_
    rw [a1, c1]
    refine ⟨v1, v1, f_205_187 _ _ _ _ ?_⟩
    rw [a4, c4, r1, nI_1]
    refine ⟨v4, v4, f_205_202 _ _ _ ?_⟩
    have h2 := h.w (349 + p) (A (349 + p) + 1)
    have r2 : (wm_si ν 91 (349 + p) (nI (A (349 + p) + 1))).1 91 (374 + p) = nI (A (374 + p)) := by rw [h2 _ (by omega), uN_ne _ _ (by omega), uN_ne _ _ (by omega), uN_ne _ _ (by omega)]
    rw [a1, c1, r2, nI_add]
    have h3 := h2.w (374 + p) (A (374 + p) + v)
    have r3 : (wm_si (wm_si ν 91 (349 + p) (nI (A (349 + p) + 1))) 91 (374 + p) (nI (A (374 + p) + v))).1 91 (349 + p) = nI (A (349 + p) + 1) := by rw [h3 _ (by omega), uN_ne _ _ (by omega), uN_eq]
    rw [r3]
    rw [uN_comm _ _ _ (by omega)] at h3
    exact ⟨v1, _, rfl, hq _ h3 ((e.si rfl).si rfl)⟩
  have mid : ∀ ν, RM 91 (uN A (399 + p) (lsA A p v)) ν → Sm KC μ ν → wm_Wp 0 205 117 [.ref 89, .null, .null, .int (nI v), .int (nI p)] ν (fun w ν => ∃ x, w = some (.int x) ∧ Q x ν) := fun ν h e => by
    have r1 : ν.1 91 (349 + p) = nI (A (349 + p)) := by rw [h _ (by omega), uN_ne _ _ (by omega)]
    have r2 : ν.1 91 (424 + p) = nI (A (424 + p)) := by rw [h _ (by omega), uN_ne _ _ (by omega)]
    refine f_205_117 _ _ _ _ ?_
    rw [a1, c1, a3, c3, r1, r2]
    refine ⟨v1, fun z => ⟨v3, fin _ ?_ (e.si rfl)⟩, fun z => ⟨v3, fun y => ⟨v3, v3, fin _ ?_ (e.si rfl)⟩, fun y => ⟨v3, fin _ ?_ (e.si rfl)⟩⟩⟩
    · have z : A (349 + p) = 0 := (nI_eq (b := 0) (by omega) (by decide)).mp z
      have := h.w (424 + p) (gtA A p v)
      rw [show gtA A p v = v from if_pos (Or.inl z)] at this ⊢; exact this
    · have z : ¬ A (349 + p) = 0 := fun q => z (by rw [q]; rfl)
      have y := (nI_leI (by omega) (by omega)).mp y
      have := h.w (424 + p) (gtA A p v)
      rw [show gtA A p v = A (424 + p) from if_neg (fun q => q.elim z (by omega))] at this ⊢; exact this
    · have y : ¬ v ≤ A (424 + p) := fun q => y ((nI_leI (by omega) (by omega)).mpr q)
      have := h.w (424 + p) (gtA A p v)
      rw [show gtA A p v = v from if_pos (Or.inr (by omega))] at this ⊢; exact this
  have r1 : μ.1 91 (349 + p) = nI (A (349 + p)) := hM _ (by omega)
  have r2 : μ.1 91 (399 + p) = nI (A (399 + p)) := hM _ (by omega)
  refine f_205_62 _ _ _ _ ?_
  rw [a1, c1, a2, c2, r1, r2]
  refine ⟨v1, fun z => ⟨v2, mid _ ?_ ((Sm.rf _ _).si rfl)⟩, fun z => ⟨v2, fun y => ⟨v2, v2, mid _ ?_ ((Sm.rf _ _).si rfl)⟩, fun y => ⟨v2, mid _ ?_ ((Sm.rf _ _).si rfl)⟩⟩⟩
  · have z : A (349 + p) = 0 := (nI_eq (b := 0) (by omega) (by decide)).mp z
    have := hM.w (399 + p) (lsA A p v)
    rw [show lsA A p v = v from if_pos (Or.inl z)] at this ⊢; exact this
  · have z : ¬ A (349 + p) = 0 := fun q => z (by rw [q]; rfl)
    have y := (nI_leI (by omega) (by omega)).mp y
    have := hM.w (399 + p) (lsA A p v)
    rw [show lsA A p v = A (399 + p) from if_neg (fun q => q.elim z (by omega))] at this ⊢; exact this
  · have y : ¬ A (399 + p) ≤ v := fun q => y ((nI_leI (by omega) (by omega)).mpr q)
    have := hM.w (399 + p) (lsA A p v)
    rw [show lsA A p v = v from if_pos (Or.inr (by omega))] at this ⊢; exact this
theorem p_learn (a b c : Int32) {n : Nat} {μ : wm_M} (h : Rel n μ) : wm_OkI 0 121 [.ref 0, .int a, .int b, .int c] μ (Pr n 205 [.ref 89, .int a, .int b, .int c]) := by
  have ref3 : ¬ (ir 4 a ∧ ir 4 b) → Pr n 205 [.ref 89, .int a, .int b, .int c] (-(nI 3)) (rc_ μ 3) := fun z => f_205 _ _ _ _ _ (s_203 (fun x y => absurd ⟨x, y⟩ z) (fun _ => ⟨fun _ => f_205_8 _ _ (s_185 3 (by decide) ⟨_, rfl, rfl, (h.rf 3).up⟩), fun q => absurd rfl q⟩))
  refine v_121 a b c μ _ (s_172 ⟨fun z => w_121_14 μ _ (s_161 3 (by decide) ⟨_, rfl, ref3 (fun q => bI_0.mp z q.1)⟩), fun z => s_173 ⟨fun y => w_121_14 μ _ (s_161 3 (by decide) ⟨_, rfl, ref3 (fun q => bI_0.mp y q.2)⟩), fun y => w_121_21 a b c μ _ (s_174 ⟨fun x => s_161 7 (by decide) ⟨_, rfl, ?_⟩, fun x => ?_⟩)⟩⟩)
  · exact f_205 _ _ _ _ _ (s_203 (fun _ _ => ⟨fun q => absurd q (by decide), fun _ => f_205_15 _ _ _ _ _ (s_184 ⟨fun _ => f_205_25 _ _ (s_185 7 (by decide) ⟨_, rfl, rfl, (h.rf 7).up⟩), fun q => absurd x q⟩)⟩) (fun q => absurd ⟨nz z, nz y⟩ q))
  have z := nz z
  have y := nz y
  have xx := x
  have x := nz x
  obtain ⟨i, hi, rfl⟩ := in_nI 4 (by decide) z
  obtain ⟨j, hj, rfl⟩ := in_nI 4 (by decide) y
  obtain ⟨v, hv, rfl⟩ := in_nI 99 (by decide) x
  have h' := h
  obtain ⟨A, hA, hO⟩ := h
  have hp : i * 5 + j < 25 := by omega
  have e5 : (nI i * (5 : Int32)) + nI j = nI (i * 5 + j) := ix2' 5 i j
  have e6 : ((5 : Int32) * nI i) + nI j = nI (i * 5 + j) := by
    rw [show ((5 : Int32) * nI i) + nI j = nI (5 * i + j) from (by rw [show (5 : Int32) = nI 5 from rfl, pk_mul, nI_add]), Nat.mul_comm]
  generalize hpp : i * 5 + j = p at hp e5 e6
  have b1 := hA.1.seen hp
  have ent : ∀ {ν : wm_M} {Q : Int32 → wm_M → Prop}, wm_Wp 0 205 32 [.ref 89, .int (nI i), .int (nI j), .int (nI v), .null] ν (fun w κ => ∃ x, w = some (.int x) ∧ Q x κ) → wm_OkI 0 205 [.ref 89, .int (nI i), .int (nI j), .int (nI v)] ν Q := fun {ν Q} w => f_205 _ _ _ ν _ (s_203 (fun _ _ => ⟨fun q => absurd q (by decide), fun _ => f_205_15 _ _ _ _ _ (s_184 ⟨fun q => absurd q xx, fun _ => w⟩)⟩) (fun q => absurd ⟨z, y⟩ q))
  refine w_121_35 _ _ _ μ _ ?_
  rw [e5, nI_clamp (by omega), hA.2.2.2.1.1.seen hp]
  refine ⟨vp_in_nI hp (by decide), fun w => ?_, fun w => s_161 8 (by decide) ⟨_, rfl, ?_⟩⟩
  · have w := (nI_ltI (b := 99) (by omega) (by decide)).mp w
    refine w_121_67 _ _ μ _ (s_163 (c_84 p v hp hv (hA.cl (Nat.le_succ n)).ch w (fun ν hC hS => ⟨_, rfl, ?_⟩)))
    have hM := hA.2.2.1.km hS
    refine ent (f_205_32 _ _ _ _ _ ?_)
    rw [e6, show (349 : Int32) + nI p = nI (349 + p) from nI_add 349 p, nI_clamp (by omega), hM _ (by omega)]
    refine ⟨vp_in_nI (by omega) (by decide), fun q => absurd ((nI_eq (b := 99) (by omega) (by decide)).mp q) (by omega), fun _ => ?_⟩
    exact m_205 p v hp hv hA.1 hA.2.1 hM w (fun κ hK hS2 => ⟨rfl, Rel.fin3 hO hS (Nat.le_succ n) hC hS2 hK⟩)
  · have w : ¬ A (349 + p) < 99 := fun q => w ((nI_ltI (b := 99) (by omega) (by decide)).mpr q)
    refine ent (f_205_32 _ _ _ _ _ ?_)
    rw [e6, show (349 : Int32) + nI p = nI (349 + p) from nI_add 349 p, nI_clamp (by omega), show (wm_si μ 88 8 (μ.1 88 8 + 1)).1 91 (349 + p) = nI (A (349 + p)) from hA.2.2.1 _ (by omega)]
    exact ⟨vp_in_nI (by omega) (by decide), fun _ => f_205_55 _ _ (s_185 8 (by decide) ⟨_, rfl, rfl, (h'.rf 8).up⟩), fun q => absurd (by rw [show A (349 + p) = 99 by omega]; rfl) q⟩
/-! ===== by, speedBy; table ===== -/
theorem spA_lt {m : Nat} {A : Nat → Nat} (hB : BA m A) (hV : VX A) (tab : Nat) {p : Nat} (hp : p < 25) : spA A tab p < 100 := by
  unfold spA
  have h1 := hB.maker hp
  have h2 := hV.1 p hp
  split
  · rename_i q
    have : A (374 + p) / A (349 + p) ≤ 99 := Nat.div_le_of_le_mul (by rw [Nat.mul_comm]; exact h2)
    omega
  · exact h1
theorem c_85 {m : Nat} {A : Nat → Nat} (tab p : Nat) (ht : tab < 2) (hp : p < 25) {μ : wm_M} {Q : Int32 → wm_M → Prop} (hC : CL m A μ) (hq : Q (nI (spA A tab p)) μ) : wm_OkI 0 85 [.ref 7, .int (nI tab), .int (nI p)] μ Q := by
  have hc := nI_clamp (n := p) (by omega)
  have hi : vp_in (nI p) 25 := vp_in_nI hp (by decide)
  have b1 := hC.1.seen hp
  have b2 := hC.1.sum hp
  have w29 : spA A tab p = A (324 + p) → wm_Wp 0 85 29 [.ref 7, .null, .int (nI p)] μ (fun v ν => ∃ x, v = some (.int x) ∧ Q x ν) := fun e => w_85_29 _ _ _ ⟨hi, _, rfl, by rw [hc, hC.2.2.1.maker hp, ← e]; exact hq⟩
  refine v_85 _ _ _ _ ⟨fun z => ⟨hi, ?_⟩, fun z => w29 (if_neg (fun q => z (by rw [q.1]; rfl)))⟩
  have z : tab = 1 := (nI_eq (b := 1) (by omega) (by decide)).mp z
  rw [hc, hC.2.2.1.seen hp, hC.2.2.1.sum hp]
  refine ⟨fun y => w29 (if_neg (fun q => ?_)), fun y => ⟨hi, hi, nI_ne0 ?_ (by omega), _, rfl, ?_⟩⟩
  · have y := (nI_ltI (b := 3) (by omega) (by decide)).mp y
    omega
  · have y : ¬ A (349 + p) < 3 := fun q => y ((nI_ltI (b := 3) (by omega) (by decide)).mpr q)
    omega
  · have y : ¬ A (349 + p) < 3 := fun q => y ((nI_ltI (b := 3) (by omega) (by decide)).mpr q)
    rw [pk_div (by omega) (by omega) (by omega), ← show spA A tab p = A (374 + p) / A (349 + p) from if_pos ⟨z, by omega⟩]
    exact hq
theorem m_206 {m : Nat} {A : Nat → Nat} (tab i j : Nat) (ht : tab < 2) (hi : i < 5) (hj : j < 5) {μ : wm_M} {Q : Int32 → wm_M → Prop} (hB : BA m A) (hM : RM 91 A μ) (hq : Q (nI (spA A tab (5 * i + j))) μ) : wm_OkI 0 206 [.ref 89, .int (nI tab), .int (nI i), .int (nI j)] μ Q := by
  have e6 : ((5 : Int32) * nI i) + nI j = nI (5 * i + j) := by rw [show (5 : Int32) = nI 5 from rfl, pk_mul, nI_add]
  have hp : 5 * i + j < 25 := by omega
  generalize hpp : 5 * i + j = p at hp e6 hq
  have b1 := hB.seen hp
  have b2 := hB.sum hp
  have a1 : (349 : Int32) + nI p = nI (349 + p) := nI_add 349 p
  have a3 : (324 : Int32) + nI p = nI (324 + p) := nI_add 324 p
  have a4 : (374 : Int32) + nI p = nI (374 + p) := nI_add 374 p
  have c1 := nI_clamp (n := 349 + p) (by omega)
  have c3 := nI_clamp (n := 324 + p) (by omega)
  have c4 := nI_clamp (n := 374 + p) (by omega)
  have v1 : vp_in (nI (349 + p)) 2060 := vp_in_nI (by omega) (by decide)
  have v3 : vp_in (nI (324 + p)) 2060 := vp_in_nI (by omega) (by decide)
  have v4 : vp_in (nI (374 + p)) 2060 := vp_in_nI (by omega) (by decide)
  have w29 : spA A tab p = A (324 + p) → wm_Wp 0 206 52 [.ref 89, .null, .null, .null, .int (nI p)] μ (fun v ν => ∃ x, v = some (.int x) ∧ Q x ν) := fun e => w_206_52 _ _ _ (by
    rw [a3, c3, hM _ (by omega), ← e]; exact ⟨v3, _, rfl, hq⟩)
  refine v_206 _ _ _ _ _ ?_
  rw [e6, a1, a4, c1, c4, hM _ (show 349 + p < 2060 by omega), hM _ (show 374 + p < 2060 by omega)]
  refine ⟨fun z => w29 (if_neg (fun q => ?_)), fun z => ⟨v1, fun y => w29 (if_neg (fun q => ?_)), fun y => ⟨v4, v1, nI_ne0 ?_ (by omega), _, rfl, ?_⟩⟩⟩
  · have z := (nI_eq (b := 0) (by omega) (by decide)).mp z
    omega
  · have y := (nI_ltI (b := 3) (by omega) (by decide)).mp y
    omega
  · have y : ¬ A (349 + p) < 3 := fun q => y ((nI_ltI (b := 3) (by omega) (by decide)).mpr q)
    omega
  · have y : ¬ A (349 + p) < 3 := fun q => y ((nI_ltI (b := 3) (by omega) (by decide)).mpr q)
    have z : ¬ tab = 0 := fun q => z (by rw [q]; rfl)
    rw [pk_div (by omega) (by omega) (by omega), ← show spA A tab p = A (374 + p) / A (349 + p) from if_pos ⟨by omega, by omega⟩]
    exact hq
theorem p_table (a b c : Int32) {n : Nat} {μ : wm_M} (h : Rel n μ) : wm_OkI 0 122 [.ref 0, .int a, .int b, .int c] μ (Pr n 207 [.ref 89, .int a, .int b, .int c]) := by
  have ref3 : ¬ (ir 4 a ∧ ir 4 b) → Pr n 207 [.ref 89, .int a, .int b, .int c] (-(nI 3)) (rc_ μ 3) := fun z => v_207 _ _ _ _ _ (s_203 (fun x y => absurd ⟨x, y⟩ z) (fun _ => ⟨fun _ => s_185 3 (by decide) ⟨_, rfl, rfl, (h.rf 3).up⟩, fun q => absurd rfl q⟩))
  refine v_122 a b c μ _ (s_172 ⟨fun z => w_122_14 μ _ (s_161 3 (by decide) ⟨_, rfl, ref3 (fun q => bI_0.mp z q.1)⟩), fun z => s_173 ⟨fun y => w_122_14 μ _ (s_161 3 (by decide) ⟨_, rfl, ref3 (fun q => bI_0.mp y q.2)⟩), fun y => w_122_21 a b c μ _ ?_⟩⟩)
  have z := nz z
  have y := nz y
  obtain ⟨i, hi, rfl⟩ := in_nI 4 (by decide) z
  obtain ⟨j, hj, rfl⟩ := in_nI 4 (by decide) y
  have h' := h
  obtain ⟨A, hA, hO⟩ := h
  have hC := hA.cl (Nat.le_refl n)
  have hM := hA.2.2.1
  have hp : 5 * i + j < 25 := by omega
  have e5 : (nI i * (5 : Int32)) + nI j = nI (5 * i + j) := by rw [show (5 : Int32) = nI 5 from rfl, pk_mul, nI_add, Nat.mul_comm]
  have e6 : ((5 : Int32) * nI i) + nI j = nI (5 * i + j) := by rw [show (5 : Int32) = nI 5 from rfl, pk_mul, nI_add]
  have ent : ∀ {ν : wm_M} {Q : Int32 → wm_M → Prop}, wm_Wp 0 207 15 [.ref 89, .int (nI i), .int (nI j), .int c, .null] ν (fun w κ => ∃ x, w = some (.int x) ∧ Q x κ) → wm_OkI 0 207 [.ref 89, .int (nI i), .int (nI j), .int c] ν Q := fun {ν Q} w => v_207 _ _ _ ν _ (s_203 (fun _ _ => ⟨fun q => absurd q (by decide), fun _ => w⟩) (fun q => absurd ⟨z, y⟩ q))
  have ix : ∀ b, (nI b) + nI (5 * i + j) = nI (b + (5 * i + j)) := fun b => nI_add b _
  have hi5 : vp_in (nI (5 * i + j)) 25 := vp_in_nI hp (by decide)
  have hc := nI_clamp (n := 5 * i + j) (by omega)
  have rd : ∀ b, b ≤ 424 → vp_in (nI b + nI (5 * i + j)) 2060 ∧ μ.1 91 (nI b + nI (5 * i + j)).toNatClampNeg = nI (A (b + (5 * i + j))) := fun b hb => by
    rw [ix, nI_clamp (by omega), hM _ (by omega)]; exact ⟨vp_in_nI (by omega) (by decide), rfl⟩
  have bs := hA.1.seen hp
  rw [e5]
  refine ⟨fun q => w_122_117 μ _ (s_161 7 (by decide) ⟨_, rfl, ent (w_207_15 _ _ _ _ _ ⟨fun _ => w_207_148 _ _ (s_185 7 (by decide) ⟨_, rfl, rfl, (h'.rf 7).up⟩), fun r => by omega, fun r => by omega, fun r => by omega, fun r => by omega, fun r => by omega, trivial⟩)⟩), fun q => w_122_72 _ μ _ ⟨hi5, _, rfl, ent (w_207_15 _ _ _ _ _ ?_)⟩, fun q => w_122_81 _ μ _ (c_85 1 _ (by decide) hp hC ⟨_, rfl, ent (w_207_15 _ _ _ _ _ ?_)⟩), fun q => w_122_90 _ μ _ ⟨hi5, _, rfl, ent (w_207_15 _ _ _ _ _ ?_)⟩, fun q => w_122_99 _ μ _ ⟨hi5, _, rfl, ent (w_207_15 _ _ _ _ _ ?_)⟩, fun q => w_122_108 _ μ _ ⟨hi5, _, rfl, ent (w_207_15 _ _ _ _ _ ?_)⟩, trivial⟩
  · rw [e6]
    refine ⟨fun r => by omega, fun _ => w_207_56 _ _ _ ⟨(rd 324 (by decide)).1, _, rfl, ?_, h'.up⟩, fun r => by omega, fun r => by omega, fun r => by omega, fun r => by omega, trivial⟩
    rw [hc]
    exact (hC.2.2.1.maker hp).trans (rd 324 (by decide)).2.symm
  · rw [e6]
    exact ⟨fun r => by omega, fun r => by omega, fun _ => w_207_68 _ _ _ _ (m_206 1 i j (by decide) (by omega) (by omega) hA.1 hM ⟨_, rfl, rfl, h'.up⟩), fun r => by omega, fun r => by omega, fun r => by omega, trivial⟩
  · rw [e6]
    refine ⟨fun r => by omega, fun r => by omega, fun r => by omega, fun _ => w_207_76 _ _ _ ⟨(rd 349 (by decide)).1, _, rfl, ?_, h'.up⟩, fun r => by omega, fun r => by omega, trivial⟩
    rw [hc]
    exact (hC.2.2.1.seen hp).trans (rd 349 (by decide)).2.symm
  · rw [e6]
    have e11 : μ.1 11 (5 * i + j) = _ := hC.2.2.2.1.2.1 _ hp
    refine ⟨fun r => by omega, fun r => by omega, fun r => by omega, fun r => by omega, fun _ => w_207_88 _ _ _ ⟨(rd 349 (by decide)).1, fun w => ⟨_, rfl, ?_, h'.up⟩, fun w => w_207_106 _ _ _ ⟨(rd 399 (by decide)).1, _, rfl, ?_, h'.up⟩⟩, fun r => by omega, trivial⟩
    · have w := (rd 349 (by decide)).2.symm.trans w
      rw [hc, e11, if_pos ((nI_eq (b := 0) (by omega) (by decide)).mp w)]
    · have w : ¬ A (349 + (5 * i + j)) = 0 := fun r => w ((rd 349 (by decide)).2.trans (by rw [r]; rfl))
      rw [hc, e11, if_neg w]; exact (rd 399 (by decide)).2.symm
  · rw [e6]
    have e12 : μ.1 12 (5 * i + j) = _ := hC.2.2.2.1.2.2.1 _ hp
    refine ⟨fun r => by omega, fun r => by omega, fun r => by omega, fun r => by omega, fun r => by omega, fun _ => w_207_118 _ _ _ ⟨(rd 349 (by decide)).1, fun w => ⟨_, rfl, ?_, h'.up⟩, fun w => w_207_136 _ _ _ ⟨(rd 424 (by decide)).1, _, rfl, ?_, h'.up⟩⟩, trivial⟩
    · have w := (rd 349 (by decide)).2.symm.trans w
      rw [hc, e12, if_pos ((nI_eq (b := 0) (by omega) (by decide)).mp w)]
    · have w : ¬ A (349 + (5 * i + j)) = 0 := fun r => w ((rd 349 (by decide)).2.trans (by rw [r]; rfl))
      rw [hc, e12, if_neg w]; exact (rd 424 (by decide)).2.symm
