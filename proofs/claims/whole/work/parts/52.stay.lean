/-! ===== stay, mend ===== -/
theorem tnSA_torn (B : Nat → Nat) (hb : ∀ j, j < 3 → B (452 + j) < 2) : ∀ j, j < 3 → tnSA B (452 + j) < 2 := by
  intro j hj
  unfold tnSA
  split
  · by_cases e : 452 + j = 452 + B 2049
    · rw [e, uN_eq]; omega
    · rw [uN_ne _ _ e]; exact hb j hj
  · exact hb j hj
theorem psA_torn (A : Nat → Nat) (hb : ∀ j, j < 3 → A (452 + j) < 2) : ∀ k j, j < 3 → psA A k (452 + j) < 2
  | 0, j, hj => hb j hj
  | k + 1, j, hj => by
    unfold psA ps1A
    rw [uN_ne _ _ (by omega)]
    exact tnSA_torn _ (fun j hj => by rw [tirA_ne _ _ (fun h hh => by omega)]; exact psA_torn A hb k j hj) j hj
theorem psA_BA {n0 : Nat} {A : Nat → Nat} (hB : BA n0 A) {i : Nat} (ht : A 2050 + i ≤ 120) : BA (n0 + 1) (psA A i) := by
  have a3 := hB.sail
  have a8 := hB.hands
  intro j hj
  by_cases q1 : 455 ≤ j ∧ j < 463
  · have le := psA_le A (130 * n0) a3 (by omega) (fun h hh => by have := hB.tired hh; omega) i (j - 455) (by omega)
    have b := bd_tired (n0 + 1) (show j - 455 < 8 by omega)
    rw [show 455 + (j - 455) = j by omega] at le b
    rw [b]; omega
  · by_cases q2 : 452 ≤ j ∧ j < 455
    · have le := psA_torn A (fun j hj => hB.torn hj) i (j - 452) (by omega)
      have b := bd_torn (n0 + 1) (show j - 452 < 3 by omega)
      rw [show 452 + (j - 452) = j by omega] at le b
      rw [b]; omega
    · by_cases q3 : j = 2050
      · subst q3
        rw [psA_tick]
        show A 2050 + i < 121
        omega
      · rw [psA_ne A a3 (by omega) (by omega) q3]
        exact Nat.lt_of_lt_of_le (hB j hj) (bdA_mono (Nat.le_succ n0))
/-- both halves of a call that lets ticks pass -/
theorem p_ticks {n : Nat} {A : Nat → Nat} {μ : wm_M} (hA : RA n A μ) (hn : n < 8000) (hp : A 2046 = 1) {k : Nat} (ht : A 2050 + k ≤ 120) {Q : wm_M → Prop} (hq : ∀ ν, CL (n + 1) (psA A k) ν → Sm KM (ch_ μ) ν → RM 91 A ν → Q ν) : wm_OkV 0 52 [.ref 1, .int (nI k)] (ch_ μ) Q :=
  c_52 k (hA.cl (Nat.le_succ n)).ch rfl (by omega) hp ht (fun h hh => by have := hA.1.tired hh; omega) (fun ν hC hS => hq ν hC hS (hA.2.2.1.km hS))
theorem q_ticks {n : Nat} {A : Nat → Nat} {ν : wm_M} (hB : BA n A) (hn : n < 8000) {k : Nat} (ht : A 2050 + k ≤ 120) {Q : wm_M → Prop} (hM : RM 91 A ν) (hq : ∀ κ, RM 91 (psA A k) κ → Sm KC ν κ → Q κ) : wm_OkV 0 293 [.ref 89, .int (nI k)] ν Q :=
  m_293 k (hB.mono (Nat.le_succ n)) hM rfl (by omega) ht (fun i hi => psA_BA hB (by omega)) hq
theorem put_01 {n : Nat} {A : Nat → Nat} (hB : BA n A) (h : ¬ A 2046 = 0) : A 2046 = 1 := by
  have := hB.put
  omega
theorem p_stay (a : Int32) {n : Nat} (hn : n < 8000) {μ : wm_M} (h : Rel n μ) : wm_OkI 0 146 [.ref 0, .int a] μ (Pr n 294 [.ref 89, .int a]) := by
  have h' := h
  obtain ⟨A, hA, hO⟩ := h
  have hM := hA.2.2.1
  have bp := hA.1.put
  have bt := hA.1.tick
  have hMr : ∀ k, RM 91 A (wm_si μ 88 k (μ.1 88 k + 1)) := fun k => hM.fr rfl
  have e6 : ∀ {ν : wm_M}, RM 91 A ν → ν.1 91 (2040 + 6) = nI (A 2046) := fun h => h 2046 (by decide)
  have e10 : ∀ {ν : wm_M}, RM 91 A ν → ν.1 91 (2040 + 10) = nI (A 2050) := fun h => h 2050 (by decide)
  refine v_146 _ _ _ ?_
  rw [hA.2.2.2.1.1.put]
  refine ⟨fun z => s_161 2 (by decide) ⟨_, rfl, v_294 _ _ _ (s_188 6 (by decide) ⟨fun _ => s_185 2 (by decide) ⟨_, rfl, rfl, (h'.rf 2).up⟩, fun q => absurd ((e6 (hMr 2)).trans z) q⟩)⟩, fun z => w_146_20 _ _ _ ⟨fun y => ?_, fun y => s_161 4 (by decide) ⟨_, rfl, v_294 _ _ _ (s_188 6 (by decide) ⟨fun q => absurd ((e6 (hMr 4)).symm.trans q) z, fun _ => w_294_16 _ _ _ ⟨fun q => absurd q y, fun _ => s_185 4 (by decide) ⟨_, rfl, rfl, (h'.rf 4).up⟩⟩⟩)⟩⟩⟩
  obtain ⟨k, hk, rfl⟩ := nI_of (Int32.not_lt.mpr y)
  have hp : A 2046 = 1 := put_01 hA.1 (fun q => z (by rw [q]; rfl))
  have ent : ∀ {ν : wm_M} {Q : Int32 → wm_M → Prop}, RM 91 A ν → ((¬ (1 ≤ k ∧ k ≤ 60) → wm_OkI 0 185 [.ref 89, .int (-(nI 7))] ν Q) ∧ ((1 ≤ k ∧ k ≤ 60) → wm_Wp 0 294 44 [.ref 89, .int (nI k)] ν (fun w κ => ∃ x, w = some (.int x) ∧ Q x κ))) → wm_OkI 0 294 [.ref 89, .int (nI k)] ν Q := fun {ν Q} hM w => v_294 _ _ _ (s_188 6 (by decide) ⟨fun q => absurd ((e6 hM).symm.trans q) z, fun _ => w_294_16 _ _ _ ⟨fun _ => w_294_27 _ _ _ (s_184 ⟨fun q => (w.1 (fun r => bI_0.mp q ⟨(nI_leI (a := 1) (by decide) hk).mpr r.1, (nI_leI (b := 60) hk (by decide)).mpr r.2⟩)).mono (fun x κ hx => ⟨_, rfl, hx⟩), fun q => w.2 ⟨(nI_leI (a := 1) (by decide) hk).mp (nz q).1, (nI_leI (b := 60) hk (by decide)).mp (nz q).2⟩⟩), fun q => absurd y q⟩⟩)
  have ref7 : ¬ (1 ≤ k ∧ k ≤ 60) → wm_Wp 0 146 41 [.ref 0, .null] μ (fun v ν => ∃ x, v = some (.int x) ∧ Pr n 294 [.ref 89, .int (nI k)] x ν) := fun q => w_146_41 _ _ (s_161 7 (by decide) ⟨_, rfl, ent (hMr 7) ⟨fun _ => s_185 7 (by decide) ⟨rfl, (h'.rf 7).up⟩, fun r => absurd r q⟩⟩)
  refine w_146_31 _ _ _ ⟨fun x => ref7 (fun q => ?_), fun x => ⟨fun w => w_146_48 _ _ _ ?_, fun w => ref7 (fun q => w ((nI_leI (b := 60) hk (by decide)).mpr q.2))⟩⟩
  · have := (nI_eq (b := 0) hk (by decide)).mp x; omega
  have x : ¬ k = 0 := fun q => x (by rw [q]; rfl)
  have w := (nI_leI (b := 60) hk (by decide)).mp w
  have ok : 1 ≤ k ∧ k ≤ 60 := ⟨by omega, w⟩
  have k120 : (nI (A 2050 + k) ≤ (120 : Int32) ↔ A 2050 + k ≤ 120) := nI_leI (b := 120) (by omega) (by decide)
  rw [hA.2.2.2.1.1.tick, nI_add]
  refine ⟨fun v => w_146_72 _ _ _ (s_163 (p_ticks hA hn hp (k120.mp v) (fun ν hC hS hMν => ⟨_, rfl, ent hMν ⟨fun q => absurd ok q, fun _ => w_294_44 _ _ _ (s_188 10 (by decide) ?_)⟩⟩))), fun v => s_161 8 (by decide) ⟨_, rfl, ent (hMr 8) ⟨fun q => absurd ok q, fun _ => w_294_44 _ _ _ (s_188 10 (by decide) ?_)⟩⟩⟩
  · rw [e10 hMν, nI_add]
    refine ⟨fun _ => w_294_64 _ _ _ (q_ticks hA.1 hn (k120.mp v) hMν (fun κ hK hS2 => s_188 10 (by decide) ⟨_, rfl, ?_, Rel.fin3 hO hS (Nat.le_succ n) hC hS2 hK⟩)), fun q => absurd v q⟩
    exact (hC.2.2.1.tick).trans (hK 2050 (by decide)).symm
  · rw [e10 (hMr 8), nI_add]
    exact ⟨fun q => absurd q v, fun _ => s_185 8 (by decide) ⟨_, rfl, rfl, (h'.rf 8).up⟩⟩
/-- isWhole -/
theorem m_213 {m : Nat} {A : Nat → Nat} {a : Int32} {μ : wm_M} {Q : Int32 → wm_M → Prop} (hB : BA m A) (hM : RM 91 A μ) (h1 : ∀ i, i < A 2040 → a = nI i → A (452 + i) = 0 → Q 1 μ) (h0 : (∀ i, i < A 2040 → a = nI i → ¬ A (452 + i) = 0) → Q 0 μ) : wm_OkI 0 213 [.ref 89, .int a] μ Q := by
  have hs := hB.sails
  refine v_213 _ _ _ (m_191 hB hM (fun i hi e => ⟨fun q => absurd q (by decide), fun _ => ?_⟩) (fun z => ⟨fun _ => w_213_25 _ _ ⟨z01, _, rfl, h0 (fun i hi e => absurd e (z i hi))⟩, fun q => absurd rfl q⟩))
  subst e
  have bt := hB.torn (show i < 3 by omega)
  rw [show (452 : Int32) + nI i = nI (452 + i) from nI_add 452 i, nI_clamp (by omega), hM _ (by omega)]
  refine ⟨vp_in_nI (by omega) (by decide), fun y => ⟨o01, _, rfl, h1 i hi rfl ((nI_eq (b := 0) (by omega) (by decide)).mp y)⟩, fun y => w_213_25 _ _ ⟨z01, _, rfl, h0 (fun j hj e q => ?_)⟩⟩
  have := (nI_eq (by omega) (by omega)).mp e
  subst this
  exact y (by rw [q]; rfl)
theorem p_mend (a : Int32) {n : Nat} (hn : n < 8000) {μ : wm_M} (h : Rel n μ) : wm_OkI 0 149 [.ref 0, .int a] μ (Pr n 297 [.ref 89, .int a]) := by
  have h' := h
  obtain ⟨A, hA, hO⟩ := h
  have hM := hA.2.2.1
  have hC0 := hA.cl (Nat.le_refl n)
  have bp := hA.1.put
  have bt := hA.1.tick
  have bs := hA.1.sails
  have hMr : ∀ k, RM 91 A (wm_si μ 88 k (μ.1 88 k + 1)) := fun k => hM.fr rfl
  have e6 : ∀ {ν : wm_M}, RM 91 A ν → ν.1 91 (2040 + 6) = nI (A 2046) := fun h => h 2046 (by decide)
  have e10 : ∀ {ν : wm_M}, RM 91 A ν → ν.1 91 (2040 + 10) = nI (A 2050) := fun h => h 2050 (by decide)
  refine v_149 _ _ _ ?_
  rw [hA.2.2.2.1.1.put]
  refine ⟨fun z => s_161 2 (by decide) ⟨_, rfl, v_297 _ _ _ (s_188 6 (by decide) ⟨fun _ => s_185 2 (by decide) ⟨_, rfl, rfl, (h'.rf 2).up⟩, fun q => absurd ((e6 (hMr 2)).trans z) q⟩)⟩, fun z => w_149_20 _ _ _ (c_165 hC0 (fun i hi e => ⟨fun q => absurd q (by decide), fun _ => w_149_35 _ _ _ ?_⟩) (fun y => ⟨fun _ => s_161 3 (by decide) ⟨_, rfl, v_297 _ _ _ (s_188 6 (by decide) ⟨fun q => absurd ((e6 (hMr 3)).symm.trans q) z, fun _ => w_297_16 _ _ _ (m_191 hA.1 (hMr 3) (fun i hi e => absurd e (y i hi)) (fun _ => ⟨fun _ => s_185 3 (by decide) ⟨_, rfl, rfl, (h'.rf 3).up⟩, fun q => absurd rfl q⟩))⟩)⟩, fun q => absurd rfl q⟩))⟩
  subst e
  have hp : A 2046 = 1 := put_01 hA.1 (fun q => z (by rw [q]; rfl))
  have hi3 : i < 3 := by omega
  have bto := hA.1.torn hi3
  have ent : ∀ {ν : wm_M} {Q : Int32 → wm_M → Prop}, RM 91 A ν → ((A (452 + i) = 0 → wm_OkI 0 185 [.ref 89, .int (-(nI 7))] ν Q) ∧ (¬ A (452 + i) = 0 → wm_Wp 0 297 46 [.ref 89, .int (nI i)] ν (fun w κ => ∃ x, w = some (.int x) ∧ Q x κ))) → wm_OkI 0 297 [.ref 89, .int (nI i)] ν Q := fun {ν Q} hM w => v_297 _ _ _ (s_188 6 (by decide) ⟨fun q => absurd ((e6 hM).symm.trans q) z, fun _ => w_297_16 _ _ _ (m_191 hA.1 hM (fun _ _ _ => ⟨fun q => absurd q (by decide), fun _ => w_297_31 _ _ _ (m_213 hA.1 hM (fun j hj e q => ⟨fun r => absurd r (by decide), fun _ => (w.1 (by have := (nI_eq (by omega) (by omega)).mp e; subst this; exact q)).mono (fun x κ hx => ⟨_, rfl, hx⟩)⟩) (fun q => ⟨fun _ => w.2 (q i hi rfl), fun r => absurd rfl r⟩))⟩) (fun y => absurd rfl (y i hi)))⟩)
  have v3 : vp_in (nI i) 3 := vp_in_nI hi3 (by decide)
  have cli := nI_clamp (n := i) (by omega)
  rw [cli, hA.2.2.2.1.1.torn hi3]
  refine ⟨v3, fun y => s_161 7 (by decide) ⟨_, rfl, ent (hMr 7) ⟨fun _ => s_185 7 (by decide) ⟨rfl, (h'.rf 7).up⟩, fun q => absurd ((nI_eq (b := 0) (by omega) (by decide)).mp y) q⟩⟩, fun y => w_149_57 _ _ _ ?_⟩
  have y : ¬ A (452 + i) = 0 := fun q => y (by rw [q]; rfl)
  have k120 : (nI (A 2050 + 12) ≤ (120 : Int32) ↔ A 2050 + 12 ≤ 120) := nI_leI (b := 120) (by omega) (by decide)
  rw [hA.2.2.2.1.1.tick, show nI (A 2050) + (12 : Int32) = nI (A 2050 + 12) from nI_add _ 12]
  refine ⟨fun v => w_149_82 _ _ _ (s_163 (p_ticks (k := 12) hA hn hp (k120.mp v) (fun ν hC hS hMν => ⟨v3, _, rfl, ?_⟩))), fun v => s_161 8 (by decide) ⟨_, rfl, ent (hMr 8) ⟨fun q => absurd q y, fun _ => w_297_46 _ _ _ (s_188 10 (by decide) ?_)⟩⟩⟩
  · rw [cli, vn0]
    have hC2 := hC.wr 15 0 452 3 (by decide) (by decide) i hi3 0 (by rw [bd_torn _ hi3]; omega) (by omega)
    rw [Nat.zero_add] at hC2
    have hS' : Sm KM (ch_ μ) (wm_si ν 15 i 0) := hS.si rfl
    have hMν2 : RM 91 A (wm_si ν 15 i 0) := hMν.fr rfl
    refine ent hMν2 ⟨fun q => absurd q y, fun _ => w_297_46 _ _ _ (s_188 10 (by decide) ?_)⟩
    rw [e10 hMν2, show nI (A 2050) + (12 : Int32) = nI (A 2050 + 12) from nI_add _ 12]
    refine ⟨fun _ => w_297_67 _ _ _ (q_ticks (k := 12) hA.1 hn (k120.mp v) hMν2 (fun κ hK hS2 => ?_)), fun q => absurd v q⟩
    rw [show (452 : Int32) + nI i = nI (452 + i) from nI_add 452 i, nI_clamp (show 452 + i < 2 ^ 31 by omega)]
    have hK2 := hK.w (452 + i) 0
    refine ⟨vp_in_nI (by omega) (by decide), s_188 10 (by decide) ⟨_, rfl, ?_, Rel.fin3 hO hS' (Nat.le_succ n) hC2 (hS2.si rfl) hK2⟩⟩
    exact (hC2.2.2.1.tick).trans (hK2 2050 (by decide)).symm
  · rw [e10 (hMr 8), show nI (A 2050) + (12 : Int32) = nI (A 2050 + 12) from nI_add _ 12]
    exact ⟨fun q => absurd q v, fun _ => s_185 8 (by decide) ⟨_, rfl, rfl, (h'.rf 8).up⟩⟩
