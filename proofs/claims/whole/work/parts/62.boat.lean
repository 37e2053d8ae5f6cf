/-! ===== tired ones, change; boat, raise ===== -/
def hq_of (t : Nat) : Nat := hq t
theorem kC_W {c i : Nat} (h : KC c i = true) : kW c i = true := by
  cases hw : kW c i with
  | true => rfl
  | false =>
    exfalso
    unfold kW at hw
    simp only [Bool.not_eq_false', Bool.and_eq_true, Nat.beq_eq, Nat.ble_eq] at hw
    obtain ⟨rfl, h5, h20⟩ := hw
    have k : ∀ i, i ≤ 20 → 5 ≤ i → KC 89 i = false := by decide +kernel
    rw [k i h20 h5] at h
    cases h
theorem m_221 {m : Nat} {A : Nat → Nat} {μ : wm_M} {Q : Int32 → wm_M → Prop} (hB : BA m A) (hX : VX A) (hV : RV A) (hM : RM 91 A μ) (hm : m < 10000) (hq : ∀ ν, Sm kW μ ν → Q (nI (toA A)) ν) : wm_OkI 0 221 [.ref 89] μ Q := by
  have b8 := hB.hands
  have bt := hB.tick
  have bp := hB.put
  have lp : ∀ (least : Int32) (ν : wm_M), RM 91 A ν → Q (nI (trA A least (A 2041))) ν → wm_Wp 0 221 35 [.ref 89, .int least, .int (nI 0), .int (nI 0)] ν (fun w ν => ∃ x, w = some (.int x) ∧ Q x ν) := fun least ν hM hq => by
    rw [trA_sm] at hq
    refine loopS (fun h => if A (463 + h) = 0 ∧ least ≤ nI (A (455 + h)) then 1 else 0) (fun a i => wm_Wp 0 221 35 [.ref 89, .int least, .int (nI a), .int (nI i)] ν (fun w ν => ∃ x, w = some (.int x) ∧ Q x ν)) (A 2041) (fun i a hi ih => w_221_35 _ _ _ _ _ (s_188 1 (by decide) ?_)) (w_221_35 _ _ _ _ _ (s_188 1 (by decide) ?_))
    · have h8 : i < 8 := by omega
      have b2 := hB.sleeps h8
      have a1 : (463 : Int32) + nI i = nI (463 + i) := nI_add 463 i
      have a2 : (455 : Int32) + nI i = nI (455 + i) := nI_add 455 i
      rw [show ν.1 91 (2040 + 1) = nI (A 2041) from hM 2041 (by decide), a1, a2, nI_clamp (show 463 + i < 2 ^ 31 by omega), nI_clamp (show 455 + i < 2 ^ 31 by omega), hM _ (show 463 + i < 2060 by omega), hM _ (show 455 + i < 2060 by omega)]
      have v1 : vp_in (nI (463 + i)) 2060 := vp_in_nI (by omega) (by decide)
      have v2 : vp_in (nI (455 + i)) 2060 := vp_in_nI (by omega) (by decide)
      refine ⟨fun z => absurd z (nI_ge hi (by omega)), fun _ => ⟨v1, fun z => ⟨v2, fun y => ?_, fun y => ?_⟩, fun z => ?_⟩⟩
      · have e : (if A (463 + i) = 0 ∧ least ≤ nI (A (455 + i)) then 1 else 0) = 0 := if_neg (fun q => Int32.not_le.mpr y q.2)
        simp only [e] at ih
        rw [Int32.add_zero, nI_1]; exact ih
      · have e : (if A (463 + i) = 0 ∧ least ≤ nI (A (455 + i)) then 1 else 0) = 1 := if_pos ⟨(nI_eq (b := 0) (by omega) (by decide)).mp z, Int32.not_lt.mp y⟩
        simp only [e] at ih
        rw [nI_1, nI_1]; exact ih
      · have e : (if A (463 + i) = 0 ∧ least ≤ nI (A (455 + i)) then 1 else 0) = 0 := if_neg (fun q => z (by rw [q.1]; rfl))
        simp only [e] at ih
        rw [Int32.add_zero, nI_1]; exact ih
    · rw [show ν.1 91 (2040 + 1) = nI (A 2041) from hM 2041 (by decide)]
      exact ⟨fun _ => w_221_85 _ _ _ ⟨_, rfl, hq⟩, fun z => absurd (nI_le (Nat.le_refl _) (by omega)) z⟩
  refine v_221 _ _ (s_188 6 (by decide) ?_)
  rw [show μ.1 91 (2040 + 6) = nI (A 2046) from hM 2046 (by decide)]
  refine ⟨fun z => s_188 10 (by decide) ?_, fun z => m_241 2 0 0 0 (by decide) (by decide) (by decide) (by decide) hB hV hM (fun ν hS => lp _ ν (fun i hi => (hS 91 i rfl).trans (hM i hi)) ?_)⟩
  · rw [show μ.1 91 (2040 + 10) = nI (A 2050) from hM 2050 (by decide)]
    exact s_192 _ (by omega) (m_241 2 0 0 (hq_of (A 2050)) (by decide) (by decide) (by decide) (hq_lt _) hB hV hM (fun ν hS => lp _ ν (fun i hi => (hS 91 i rfl).trans (hM i hi)) (hq ν hS)))
  · have z : ¬ A 2046 = 1 := fun q => z (by rw [q]; rfl)
    have t0 := hX.2.1 (by omega)
    have := hq ν hS
    unfold toA at this
    rw [t0] at this
    exact this
theorem m_222 {m : Nat} {A : Nat → Nat} {μ : wm_M} {Q : Int32 → wm_M → Prop} (hB : BA m A) (hX : VX A) (hV : RV A) (hM : RM 91 A μ) (hm : m < 10000) (hq : ∀ ν, Sm kW μ ν → Q (nI (chA A)) ν) : wm_OkI 0 222 [.ref 89] μ Q := by
  have b8 := hB.hands
  have al := awk_le A (A 2041)
  refine v_222 _ _ (m_220 hB hM ⟨fun z => ⟨_, rfl, ?_⟩, fun z => w_222_12 _ _ (m_221 hB hX hV hM hm (fun ν hS => ⟨_, rfl, ?_⟩))⟩)
  · have z := (nI_eq (b := 0) (by omega) (by decide)).mp z
    have := hq μ (Sm.rf _ _)
    rw [show chA A = 9 from if_pos z] at this; exact this
  · have z : ¬ awk A (A 2041) = 0 := fun q => z (by rw [q]; rfl)
    have := hq ν hS
    rw [show chA A = 2 + toA A from if_neg z] at this
    rw [show (2 : Int32) + nI (toA A) = nI (2 + toA A) from nI_add 2 _]; exact this
theorem chA_le {m : Nat} {A : Nat → Nat} (hB : BA m A) : 2 ≤ chA A ∧ chA A ≤ 10 := by
  have b8 := hB.hands
  have t := trA_le A (sayV A 2 (k0A A) 0 (hq (A 2050))) (A 2041)
  unfold chA toA
  split <;> omega
theorem rm_sm {μ κ : wm_M} (h : Sm kR μ κ) (k : Nat) : Sm kR (rm_ μ k) (rm_ κ k) := by
  intro c i q
  by_cases hc : c = 90
  · subst hc
    by_cases hi : i = k
    · subst hi
      show (wm_si κ 90 i (κ.1 90 i + 1)).1 90 i = (wm_si μ 90 i (μ.1 90 i + 1)).1 90 i
      rw [si_same, si_same, h 90 i q]
    · show (wm_si κ 90 k (κ.1 90 k + 1)).1 90 i = (wm_si μ 90 k (μ.1 90 k + 1)).1 90 i
      rw [si_other _ _ hi, si_other _ _ hi, h 90 i q]
  · show (wm_si κ 90 k (κ.1 90 k + 1)).1 c i = (wm_si μ 90 k (μ.1 90 k + 1)).1 c i
    rw [si_ne _ _ _ hc, si_ne _ _ _ hc, h c i q]
theorem kR_of_W {μ κ : wm_M} (h : Sm kW μ κ) : Sm kR μ κ := h.le (fun _ _ q => kR_W q)
theorem kR_of_F2 {μ ν : wm_M} (h : F2 μ ν) : Sm kR μ ν := h.sm (fun _ => rfl) (fun _ => rfl)
theorem p_boat (a : Int32) {n : Nat} (hn : n < 8000) {μ : wm_M} (h : Rel n μ) : wm_OkI 0 150 [.ref 0, .int a] μ (Pr n 298 [.ref 89, .int a]) := by
  have h' := h
  obtain ⟨A, hA, hO⟩ := h
  have hM := hA.2.2.1
  have hC := hA.cl (Nat.le_refl n)
  have hV := hA.2.2.2.1.2.2.rv
  have b8 := hA.1.hands
  have hMr : ∀ k, RM 91 A (wm_si μ 88 k (μ.1 88 k + 1)) := fun k => hM.fr rfl
  have e6 : ∀ {ν : wm_M}, RM 91 A ν → ν.1 91 (2040 + 6) = nI (A 2046) := fun h => h 2046 (by decide)
  refine v_150 _ _ _ ?_
  rw [hA.2.2.2.1.1.put]
  refine ⟨fun z => s_161 2 (by decide) ⟨_, rfl, v_298 _ _ _ (s_188 6 (by decide) ⟨fun _ => s_185 2 (by decide) ⟨_, rfl, rfl, (h'.rf 2).up⟩, fun q => absurd ((e6 (hMr 2)).trans z) q⟩)⟩, fun z => w_150_20 _ _ _ ?_⟩
  have ent : ∀ {ν : wm_M} {Q : Int32 → wm_M → Prop}, RM 91 A ν → wm_Wp 0 298 16 [.ref 89, .int a, .null, .null] ν (fun w κ => ∃ x, w = some (.int x) ∧ Q x κ) → wm_OkI 0 298 [.ref 89, .int a] ν Q := fun {ν Q} hM w => v_298 _ _ _ (s_188 6 (by decide) ⟨fun q => absurd ((e6 hM).symm.trans q) z, fun _ => w⟩)
  have F91 : ∀ {ν : wm_M}, F2 μ ν → RM 91 A ν := fun h => hM.fr (h 91 (by decide) (by decide))
  refine ⟨fun q => w_150_150 _ _ (s_161 7 (by decide) ⟨_, rfl, ent (hMr 7) (w_298_16 _ _ _ ⟨fun _ => w_298_139 _ _ (s_185 7 (by decide) ⟨_, rfl, rfl, (h'.rf 7).up⟩), fun r => by omega, fun r => by omega, fun r => by omega, fun r => by omega, fun r => by omega, fun r => by omega, fun r => by omega, fun r => by omega, trivial⟩)⟩), fun q => w_150_68 _ _ ⟨_, rfl, ent hM (w_298_16 _ _ _ ⟨fun r => by omega, fun _ => w_298_64 _ _ (s_188 7 (by decide) ⟨_, rfl, hC.2.2.1.cell.trans (hM 2047 (by decide)).symm, h'.up⟩), fun r => by omega, fun r => by omega, fun r => by omega, fun r => by omega, fun r => by omega, fun r => by omega, fun r => by omega, trivial⟩)⟩, fun q => w_150_79 _ _ ⟨_, rfl, ent hM (w_298_16 _ _ _ ⟨fun r => by omega, fun r => by omega, fun _ => w_298_71 _ _ (s_188 8 (by decide) ⟨_, rfl, hC.2.2.1.heading.trans (hM 2048 (by decide)).symm, h'.up⟩), fun r => by omega, fun r => by omega, fun r => by omega, fun r => by omega, fun r => by omega, fun r => by omega, trivial⟩)⟩, fun q => w_150_90 _ _ ⟨_, rfl, ent hM (w_298_16 _ _ _ ⟨fun r => by omega, fun r => by omega, fun r => by omega, fun _ => w_298_78 _ _ (s_188 9 (by decide) ⟨_, rfl, hC.2.2.1.sail.trans (hM 2049 (by decide)).symm, h'.up⟩), fun r => by omega, fun r => by omega, fun r => by omega, fun r => by omega, fun r => by omega, trivial⟩)⟩, fun q => w_150_101 _ _ ⟨_, rfl, ent hM (w_298_16 _ _ _ ⟨fun r => by omega, fun r => by omega, fun r => by omega, fun r => by omega, fun _ => w_298_85 _ _ (s_188 10 (by decide) ⟨_, rfl, hC.2.2.1.tick.trans (hM 2050 (by decide)).symm, h'.up⟩), fun r => by omega, fun r => by omega, fun r => by omega, fun r => by omega, trivial⟩)⟩, fun q => w_150_112 _ _ (c_49 hC (fun ν hF => ⟨_, rfl, ent (F91 hF) (w_298_16 _ _ _ ⟨fun r => by omega, fun r => by omega, fun r => by omega, fun r => by omega, fun r => by omega, fun _ => w_298_92 _ _ (m_222 hA.1 hA.2.1 hV (F91 hF) (by omega) (fun κ hS => ⟨_, rfl, rfl, (h'.F2W hF hS).up⟩)), fun r => by omega, fun r => by omega, fun r => by omega, trivial⟩)⟩)), fun q => w_150_120 _ _ ⟨_, rfl, ent hM (w_298_16 _ _ _ ⟨fun r => by omega, fun r => by omega, fun r => by omega, fun r => by omega, fun r => by omega, fun r => by omega, fun _ => w_298_97 _ _ (m_220 hA.1 hM ⟨_, rfl, hC.2.2.2.1.2.2.2.2, h'.up⟩), fun r => by omega, fun r => by omega, trivial⟩)⟩, fun q => w_150_131 _ _ (c_48 hC (fun ν hF => ⟨_, rfl, ent (F91 hF) (w_298_16 _ _ _ ⟨fun r => by omega, fun r => by omega, fun r => by omega, fun r => by omega, fun r => by omega, fun r => by omega, fun r => by omega, fun _ => w_298_102 _ _ (m_221 hA.1 hA.2.1 hV (F91 hF) (by omega) (fun κ hS => ⟨_, rfl, rfl, (h'.F2W hF hS).up⟩)), fun r => by omega, trivial⟩)⟩)), fun q => w_150_139 _ _ (c_14 hC ⟨_, rfl, ent hM (w_298_16 _ _ _ ⟨fun r => by omega, fun r => by omega, fun r => by omega, fun r => by omega, fun r => by omega, fun r => by omega, fun r => by omega, fun r => by omega, fun _ => w_298_107 _ _ _ ?_, trivial⟩)⟩), trivial⟩
  refine loopS (fun h => A (455 + h)) (fun a i => wm_Wp 0 298 109 [.ref 89, .null, .int (nI a), .int (nI i)] μ _) (A 2041) (fun i a hi ih => w_298_109 _ _ _ _ (s_188 1 (by decide) ?_)) (w_298_109 _ _ _ _ (s_188 1 (by decide) ?_))
  · rw [show μ.1 91 (2040 + 1) = nI (A 2041) from hM 2041 (by decide), show (455 : Int32) + nI i = nI (455 + i) from nI_add 455 i, nI_clamp (show 455 + i < 2 ^ 31 by omega), hM _ (show 455 + i < 2060 by omega), nI_add, nI_1]
    exact ⟨fun z => absurd z (nI_ge hi (by omega)), fun _ => ⟨vp_in_nI (by omega) (by decide), ih⟩⟩
  · rw [show μ.1 91 (2040 + 1) = nI (A 2041) from hM 2041 (by decide)]
    exact ⟨fun _ => w_298_137 _ _ _ ⟨_, rfl, rfl, h'.up⟩, fun z => absurd (nI_le (Nat.le_refl _) (by omega)) z⟩
theorem CL.sailw {m : Nat} {A : Nat → Nat} {μ : wm_M} (h : CL m A μ) {s : Nat} (hs : s < A 2040) : CL m (uN A 2049 s) (wm_si μ 13 3 (nI s)) := by
  obtain ⟨h1, h2, h3, h4, h5⟩ := h
  have b3 := h1.sails
  have b8 := h1.hands
  have b12 := h1.rules
  refine ⟨h1.w (show s < 3 by omega), ?_, h3.w_sail s, (h4.up (by omega) s (by omega)).fr1 _ (by decide), (h5.up (by omega) s (by omega)).fr1 _ (by decide)⟩
  obtain ⟨x1, x2, x3⟩ := h2
  refine ⟨fun i hi => ?_, ?_, ?_⟩
  · simp (disch := omega) only [uN_ne]; exact x1 i hi
  · simp (disch := omega) only [uN_ne]; exact x2
  · simp (disch := omega) only [uN_ne, uN_eq]
    exact fun q => ⟨hs, (x3 q).2⟩
theorem p_raise (a : Int32) {n : Nat} (hn : n < 8000) {μ : wm_M} (h : Rel n μ) : wm_OkI 0 148 [.ref 0, .int a] μ (Pr n 296 [.ref 89, .int a]) := by
  have h' := h
  obtain ⟨A, hA, hO⟩ := h
  have hM := hA.2.2.1
  have hC0 := hA.cl (Nat.le_refl n)
  have hV := hA.2.2.2.1.2.2.rv
  have bt := hA.1.tick
  have bs := hA.1.sails
  have bsl := hA.1.sail
  have ch := chA_le hA.1
  have hMr : ∀ k, RM 91 A (wm_si μ 88 k (μ.1 88 k + 1)) := fun k => hM.fr rfl
  have e6 : ∀ {ν : wm_M}, RM 91 A ν → ν.1 91 (2040 + 6) = nI (A 2046) := fun h => h 2046 (by decide)
  have e9 : ∀ {ν : wm_M}, RM 91 A ν → ν.1 91 (2040 + 9) = nI (A 2049) := fun h => h 2049 (by decide)
  have e10 : ∀ {ν : wm_M}, RM 91 A ν → ν.1 91 (2040 + 10) = nI (A 2050) := fun h => h 2050 (by decide)
  refine v_148 _ _ _ ?_
  rw [hA.2.2.2.1.1.put]
  refine ⟨fun z => s_161 2 (by decide) ⟨_, rfl, v_296 _ _ _ (s_188 6 (by decide) ⟨fun _ => s_185 2 (by decide) ⟨_, rfl, rfl, (h'.rf 2).up⟩, fun q => absurd ((e6 (hMr 2)).trans z) q⟩)⟩, fun z => w_148_20 _ _ _ (c_165 hC0 (fun i hi e => ⟨fun q => absurd q (by decide), fun _ => w_148_35 _ _ _ ?_⟩) (fun y => ⟨fun _ => s_161 3 (by decide) ⟨_, rfl, v_296 _ _ _ (s_188 6 (by decide) ⟨fun q => absurd ((e6 (hMr 3)).symm.trans q) z, fun _ => w_296_16 _ _ _ (m_191 hA.1 (hMr 3) (fun i hi e => absurd e (y i hi)) (fun _ => ⟨fun _ => s_185 3 (by decide) ⟨_, rfl, rfl, (h'.rf 3).up⟩, fun q => absurd rfl q⟩))⟩)⟩, fun q => absurd rfl q⟩))⟩
  subst e
  have hp : A 2046 = 1 := put_01 hA.1 (fun q => z (by rw [q]; rfl))
  have hi3 : i < 3 := by omega
  have bto := hA.1.torn hi3
  have ent : ∀ {ν : wm_M} {Q : Int32 → wm_M → Prop}, RM 91 A ν → (((i = A 2049 ∨ ¬ A (452 + i) = 0) → wm_OkI 0 185 [.ref 89, .int (-(nI 7))] ν Q) ∧ (¬ (i = A 2049 ∨ ¬ A (452 + i) = 0) → wm_Wp 0 296 56 [.ref 89, .int (nI i), .null] ν (fun w κ => ∃ x, w = some (.int x) ∧ Q x κ))) → wm_OkI 0 296 [.ref 89, .int (nI i)] ν Q := fun {ν Q} hM w => v_296 _ _ _ (s_188 6 (by decide) ⟨fun q => absurd ((e6 hM).symm.trans q) z, fun _ => w_296_16 _ _ _ (m_191 hA.1 hM (fun _ _ _ => ⟨fun q => absurd q (by decide), fun _ => w_296_31 _ _ _ (s_188 9 (by decide) (by
    rw [e9 hM]
    have r7 : (i = A 2049 ∨ ¬ A (452 + i) = 0) → wm_Wp 0 296 49 [.ref 89, .null, .null] ν (fun w κ => ∃ x, w = some (.int x) ∧ Q x κ) := fun q => w_296_49 _ _ ((w.1 q).mono (fun x κ hx => ⟨_, rfl, hx⟩))
    refine ⟨fun q => r7 (Or.inl ((nI_eq (by omega) (by omega)).mp q)), fun q => m_213 hA.1 hM (fun j hj e t0 => ⟨fun r => absurd r (by decide), fun _ => ?_⟩) (fun t => ⟨fun _ => r7 (Or.inr (t i hi rfl)), fun r => absurd rfl r⟩)⟩
    have := (nI_eq (by omega) (by omega)).mp e
    subst this
    exact w.2 (fun r => r.elim (fun r => q (by rw [r])) (fun r => r t0))))⟩) (fun y => absurd rfl (y i hi)))⟩)
  have ref7 : (i = A 2049 ∨ ¬ A (452 + i) = 0) → wm_Wp 0 148 64 [.ref 0, .null, .null] μ (fun v ν => ∃ x, v = some (.int x) ∧ Pr n 296 [.ref 89, .int (nI i)] x ν) := fun q => w_148_64 _ _ (s_161 7 (by decide) ⟨_, rfl, ent (hMr 7) ⟨fun _ => s_185 7 (by decide) ⟨rfl, (h'.rf 7).up⟩, fun r => absurd q r⟩⟩)
  rw [hA.2.2.2.1.1.sail, nI_clamp (show i < 2 ^ 31 by omega), hA.2.2.2.1.1.torn hi3]
  refine ⟨fun y => ref7 (Or.inl ((nI_eq (by omega) (by omega)).mp y)), fun y => ⟨vp_in_nI hi3 (by decide), fun w => w_148_71 _ _ _ (c_49 hC0 (fun ν hF => ?_)), fun w => ref7 (Or.inr (fun q => w (by rw [q]; rfl)))⟩⟩
  have ok : ¬ (i = A 2049 ∨ ¬ A (452 + i) = 0) := fun q => q.elim (fun q => y (by rw [q])) (fun q => q ((nI_eq (b := 0) (by omega) (by decide)).mp w))
  have hAν := hA.sm (kR_of_F2 hF)
  have hOν := hO.sm ((kR_of_F2 hF).le (fun _ _ q => kR_O q))
  have hRν : Rel n ν := ⟨A, hAν, hOν⟩
  have hMν := hAν.2.2.1
  have k120 : (nI (A 2050 + chA A) ≤ (120 : Int32) ↔ A 2050 + chA A ≤ 120) := nI_leI (b := 120) (by omega) (by decide)
  rw [hAν.2.2.2.1.1.tick, nI_add]
  refine ⟨fun v => w_148_103 _ _ _ _ (s_163 (p_ticks hAν hn hp (k120.mp v) (fun κ hC hS hMκ => ⟨_, rfl, ?_⟩))), fun v => s_161 8 (by decide) ⟨_, rfl, ?_⟩⟩
  · have n40 : psA A (chA A) 2040 = A 2040 := psA_ne A bsl (by have := hA.1.hands; omega) (by omega) (by omega) _
    have hC2 := hC.sailw (s := i) (by rw [n40]; exact hi)
    have hS' : Sm KM (ch_ ν) (wm_si κ 13 3 (nI i)) := hS.si rfl
    have hMκ2 : RM 91 A (wm_si κ 13 3 (nI i)) := hMκ.fr rfl
    refine ent hMκ2 ⟨fun q => absurd q ok, fun _ => w_296_56 _ _ _ (m_222 hA.1 hA.2.1 hV hMκ2 (by omega) (fun ξ hW => s_188 10 (by decide) ?_))⟩
    have hMξ : RM 91 A ξ := fun j hj => (hW 91 j rfl).trans (hMκ2 j hj)
    rw [e10 hMξ, nI_add]
    refine ⟨fun _ => w_296_81 _ _ _ _ (q_ticks hA.1 hn (k120.mp v) hMξ (fun η hK hS2 => ?_)), fun q => absurd v q⟩
    rw [show ((2049 : Int32)).toNatClampNeg = 2049 from by decide +kernel]
    have hK2 := hK.w 2049 i
    have hWC : Sm KC (wm_si κ 13 3 (nI i)) ξ := hW.le (fun c j q => kC_W q)
    refine ⟨vp_in_nI (n := 2049) (by decide) (by decide), s_188 10 (by decide) ⟨_, rfl, ?_, Rel.fin3 hOν hS' (Nat.le_succ n) hC2 (hWC.tr (hS2.si rfl)) hK2⟩⟩
    exact (hC2.2.2.1.tick).trans (hK2 2050 (by decide)).symm
  · have hM8 : RM 91 A (wm_si ν 88 8 (ν.1 88 8 + 1)) := hMν.fr rfl
    refine ent hM8 ⟨fun q => absurd q ok, fun _ => w_296_56 _ _ _ (m_222 hA.1 hA.2.1 hV hM8 (by omega) (fun ξ hW => s_188 10 (by decide) ?_))⟩
    have hMξ : RM 91 A ξ := fun j hj => (hW 91 j rfl).trans (hM8 j hj)
    rw [e10 hMξ, nI_add]
    refine ⟨fun q => absurd q v, fun _ => s_185 8 (by decide) ⟨_, rfl, rfl, ?_⟩⟩
    exact ((hRν.rf 8).sm (rm_sm (kR_of_W hW) 8)).up
