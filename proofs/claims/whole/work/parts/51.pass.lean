/-! ===== ticks pass ===== -/
def tvA (A : Nat → Nat) (h : Nat) : Nat := if A (463 + h) = 1 then A (455 + h) - 2 else A (455 + h) + 1
def tirA (A : Nat → Nat) : Nat → (Nat → Nat)
  | 0 => A
  | h + 1 => uN (tirA A h) (455 + h) (tvA A h)
def trsA (A : Nat → Nat) (t : Nat) : Prop := hd_ (A (449 + A 2049)) < fiA A 6 (hq t) (A 2047)
def trsA_dec (A : Nat → Nat) (t : Nat) : Decidable (trsA A t) := Nat.decLt _ _
def tnSA (B : Nat → Nat) : Nat → Nat := @ite _ (trsA B (B 2050)) (trsA_dec B (B 2050)) (uN B (452 + B 2049) 1) B
def ps1A (A : Nat → Nat) : Nat → Nat := uN (tnSA (tirA A (A 2041))) 2050 (A 2050 + 1)
def psA (A : Nat → Nat) : Nat → (Nat → Nat)
  | 0 => A
  | k + 1 => ps1A (psA A k)
theorem tirA_ne (A : Nat → Nat) {i : Nat} : ∀ n, (∀ h, h < n → i ≠ 455 + h) → tirA A n i = A i
  | 0, _ => rfl
  | n + 1, h => by
    unfold tirA
    rw [uN_ne _ _ (h n (by omega))]
    exact tirA_ne A n (fun j hj => h j (by omega))
theorem tnSA_ne (B : Nat → Nat) {i : Nat} (hi : ¬ (452 ≤ i ∧ i < 455)) (h3 : B 2049 < 3) : tnSA B i = B i := by
  unfold tnSA
  split
  · exact uN_ne _ _ (by omega)
  · rfl
theorem ps1A_ne (A : Nat → Nat) {i : Nat} (h3 : A 2049 < 3) (h8 : A 2041 ≤ 8) (hi : ¬ (452 ≤ i ∧ i < 463)) (ht : i ≠ 2050) : ps1A A i = A i := by
  unfold ps1A
  rw [uN_ne _ _ ht, tnSA_ne _ (by omega) (by rw [tirA_ne A _ (fun h hh => by omega)]; exact h3), tirA_ne A _ (fun h hh => by omega)]
theorem psA_ne (A : Nat → Nat) {i : Nat} (h3 : A 2049 < 3) (h8 : A 2041 ≤ 8) (hi : ¬ (452 ≤ i ∧ i < 463)) (ht : i ≠ 2050) : ∀ k, psA A k i = A i
  | 0 => rfl
  | k + 1 => by
    unfold psA
    rw [ps1A_ne _ (by rw [psA_ne A h3 h8 (by omega) (by omega) k]; exact h3) (by rw [psA_ne A h3 h8 (by omega) (by omega) k]; exact h8) hi ht]
    exact psA_ne A h3 h8 hi ht k
theorem psA_tick (A : Nat → Nat) : ∀ k, psA A k 2050 = A 2050 + k
  | 0 => rfl
  | k + 1 => by
    unfold psA ps1A
    rw [uN_eq, psA_tick A k]; omega
theorem tirA_le (A : Nat → Nat) (b : Nat) (hb : ∀ h, h < 8 → A (455 + h) ≤ b) : ∀ n, n ≤ 8 → ∀ h, h < 8 → tirA A n (455 + h) ≤ b + 1
  | 0, _, h, hh => Nat.le_succ_of_le (hb h hh)
  | n + 1, hn, h, hh => by
    unfold tirA
    by_cases e : h = n
    · subst e
      rw [uN_eq]
      have := hb h hh
      unfold tvA
      split <;> omega
    · rw [uN_ne _ _ (by omega)]; exact tirA_le A b hb n (by omega) h hh
theorem psA_le (A : Nat → Nat) (b : Nat) (h3 : A 2049 < 3) (h8 : A 2041 ≤ 8) (hb : ∀ h, h < 8 → A (455 + h) ≤ b) : ∀ k h, h < 8 → psA A k (455 + h) ≤ b + k
  | 0, h, hh => hb h hh
  | k + 1, h, hh => by
    unfold psA ps1A
    have q := psA_ne A (i := 2041) h3 h8 (by omega) (by omega) k
    have q9 := psA_ne A (i := 2049) h3 h8 (by omega) (by omega) k
    rw [uN_ne _ _ (by omega), tnSA_ne _ (by omega) (by rw [tirA_ne _ _ (fun h hh => by omega), q9]; exact h3)]
    exact tirA_le _ (b + k) (fun h hh => psA_le A b h3 h8 hb k h hh) _ (by omega) h hh
theorem tv_c {t : Nat} (ht : t < 2 ^ 30) : (if (0 : Int32) < (nI t - (2 : Int32)) then (nI t - (2 : Int32)) else (0 : Int32)) = nI (t - 2) := by
  by_cases h : 2 ≤ t
  · rw [show nI t - (2 : Int32) = nI (t - 2) from pk_sub h]
    by_cases h2 : 0 < t - 2
    · exact if_pos ((nI_ltI (a := 0) (by decide) (by omega)).mpr h2)
    · refine (if_neg (fun q => h2 ((nI_ltI (a := 0) (by decide) (by omega)).mp q))).trans ?_
      rw [show t - 2 = 0 by omega]; rfl
  · have : ¬ (0 : Int32) < nI t - (2 : Int32) := by
      have : t = 0 ∨ t = 1 := by omega
      rcases this with rfl | rfl
      · decide +kernel
      · decide +kernel
    rw [if_neg this, show t - 2 = 0 by omega]; rfl
theorem CL.tick {m : Nat} {A : Nat → Nat} {μ : wm_M} (h : CL m A μ) (hp : A 2046 = 1) {x : Nat} (hx : x ≤ 120) : CL m (uN A 2050 x) (wm_si μ 13 4 (nI x)) := by
  obtain ⟨h1, h2, h3, h4, h5⟩ := h
  have b8 := h1.hands
  have b12 := h1.rules
  refine ⟨h1.w (show x < 121 by omega), ?_, h3.w_tick x, (h4.up (by omega) x (by omega)).fr1 _ (by decide), (h5.up (by omega) x (by omega)).fr1 _ (by decide)⟩
  obtain ⟨x1, x2, x3⟩ := h2
  refine ⟨fun i hi => ?_, ?_, ?_⟩
  · simp (disch := omega) only [uN_ne]; exact x1 i hi
  · simp (disch := omega) only [uN_ne, uN_eq]; intro q; omega
  · simp (disch := omega) only [uN_ne]; exact x3
theorem c_12 {m : Nat} {A : Nat → Nat} {μ : wm_M} {Q : wm_M → Prop} (hC : CL m A μ) (hb : ∀ h, h < 8 → A (455 + h) < 130 * m) (hm : m < 10000) (hq : ∀ ν, CL m (tirA A (A 2041)) ν → Sm KM μ ν → Q ν) : wm_OkV 0 12 [.ref 13] μ Q := by
  have b8 := hC.1.hands
  have l : ∀ k h ν, h + k = A 2041 → CL m (tirA A h) ν → Sm KM μ ν → wm_Wp 0 12 2 [.ref 13, .int (nI h), .null] ν (fun v ν => v = none ∧ Q ν) := by
    intro k
    induction k with
    | zero =>
      intro h ν hh hC hS
      have e : ν.1 13 13 = nI (A 2041) := by rw [hC.2.2.1.hands, tirA_ne A h (fun j hj => by omega)]
      refine w_12_2 _ _ _ ?_
      rw [e, show h = A 2041 by omega] at *
      exact ⟨fun _ => w_12_51 _ _ ⟨rfl, hq _ hC hS⟩, fun z => absurd (nI_le (Nat.le_refl _) (by omega)) z⟩
    | succ k ih =>
      intro h ν hh hC hS
      have h8 : h < 8 := by omega
      have e : ν.1 13 13 = nI (A 2041) := by rw [hC.2.2.1.hands, tirA_ne A h (fun j hj => by omega)]
      have e17 : ν.1 17 h = nI (A (463 + h)) := by rw [hC.2.2.1.sleeps h8, tirA_ne A h (fun j hj => by omega)]
      have e16 : ν.1 16 h = nI (A (455 + h)) := by rw [hC.2.2.1.tired h8, tirA_ne A h (fun j hj => by omega)]
      have b2 := hC.1.sleeps h8
      rw [tirA_ne A h (fun j hj => by omega)] at b2
      have bt := hb h h8
      refine w_12_2 _ _ _ ?_
      rw [e, nI_clamp (by omega), e17, e16]
      have v8 : vp_in (nI h) 8 := vp_in_nI h8 (by decide)
      have step : ∀ x, x = tvA A h → wm_Wp 0 12 2 [.ref 13, .int (nI h + 1), .null] (wm_si ν 16 h (nI x)) (fun v ν => v = none ∧ Q ν) := fun x hx => by
        have hv : x < 130 * m + 1 := by
          rw [hx]; unfold tvA; split <;> omega
        have c2 := hC.wr 16 0 455 8 (by decide) (by decide) h h8 x (by rw [bd_tired _ h8]; omega) (by omega)
        rw [Nat.zero_add] at c2
        rw [nI_1]
        refine ih (h + 1) _ (by omega) ?_ (hS.si rfl)
        unfold tirA
        rw [← hx]; exact c2
      refine ⟨fun z => absurd z (nI_ge (by omega) (by omega)), fun _ => ⟨v8, v8, fun z => ⟨v8, ?_⟩, fun z => ⟨v8, ?_⟩⟩⟩
      · have z : A (463 + h) = 0 := (nI_eq (b := 0) (by omega) (by decide)).mp z
        rw [nI_1 (A (455 + h))]
        exact step (A (455 + h) + 1) (by unfold tvA; rw [if_neg (by omega)])
      · have z : ¬ A (463 + h) = 0 := fun q => z (by rw [q]; rfl)
        rw [tv_c (by omega)]
        exact step _ (by unfold tvA; rw [if_pos (by omega)])
  exact v_12 _ _ (l (A 2041) 0 μ (by omega) hC (Sm.rf _ _))
theorem hq_lt (t : Nat) : hq t < 12 := by unfold hq; split <;> omega
theorem c_50 {m : Nat} {A : Nat → Nat} (t : Nat) (ht : t < 2 ^ 31) {μ : wm_M} {Q : Int32 → wm_M → Prop} (hC : CL m A μ) (h1 : trsA A t → Q 1 μ) (h0 : ¬ trsA A t → Q 0 μ) : wm_OkI 0 50 [.ref 1, .int (nI t)] μ Q := by
  have b1 := hC.1.cell
  have b2 := hC.1.sail
  have b3 := hC.1.kind b2
  have b4 := fiA_lt hC.1 (w := 6) (h := hq t) (A 2047) (by decide) (hq_lt t)
  have b5 : hd_ (A (449 + A 2049)) < 40 := by
    have : ∀ k, k < 5 → hd_ k < 40 := by decide
    exact this _ b3
  refine v_50 _ _ _ (s_180 t ht ?_)
  rw [hC.2.2.1.cell]
  refine c_73 6 (hq t) (A 2047) (by decide) (hq_lt t) b1 hC ?_
  rw [hC.2.2.1.sail]
  refine s_6 (A 2049) _ b2 b3 (hC.2.2.1.kind b2) ⟨fun z => w_50_41 _ _ ⟨z01, _, rfl, h0 ?_⟩, fun z => ⟨o01, _, rfl, h1 ?_⟩⟩
  · have z := (nI_leI (by omega) (by omega)).mp z
    unfold trsA; omega
  · have z : ¬ fiA A 6 (hq t) (A 2047) ≤ hd_ (A (449 + A 2049)) := fun q => z ((nI_leI (by omega) (by omega)).mpr q)
    unfold trsA; omega
theorem m_292 {m : Nat} {A : Nat → Nat} (t : Nat) {μ : wm_M} {Q : Int32 → wm_M → Prop} (hB : BA m A) (hM : RM 91 A μ) (h1 : trsA A t → Q 1 μ) (h0 : ¬ trsA A t → Q 0 μ) : wm_OkI 0 292 [.ref 89, .int (nI (A 2049)), .int (nI (A 2047)), .int (nI (hq t))] μ Q := by
  have b1 := hB.cell
  have b2 := hB.sail
  have b3 := hB.kind b2
  have b4 := fiA_lt hB (w := 6) (h := hq t) (A 2047) (by decide) (hq_lt t)
  have b5 : hd_ (A (449 + A 2049)) < 40 := by
    have : ∀ k, k < 5 → hd_ k < 40 := by decide
    exact this _ b3
  refine v_292 _ _ _ _ _ (m_200 6 (hq t) (A 2047) (by decide) (hq_lt t) b1 hB hM (s_212 (A 2049) _ b2 b3 (hM _ (by omega)) ⟨fun z => w_292_20 _ _ ⟨z01, _, rfl, h0 ?_⟩, fun z => ⟨o01, _, rfl, h1 ?_⟩⟩))
  · have z := (nI_leI (by omega) (by omega)).mp z
    unfold trsA; omega
  · have z : ¬ fiA A 6 (hq t) (A 2047) ≤ hd_ (A (449 + A 2049)) := fun q => z ((nI_leI (by omega) (by omega)).mpr q)
    unfold trsA; omega
theorem c_52 {m n0 : Nat} {A : Nat → Nat} (n : Nat) {μ : wm_M} {Q : wm_M → Prop} (hC : CL m A μ) (hm : m = n0 + 1) (hn0 : n0 < 9000) (hp : A 2046 = 1) (ht : A 2050 + n ≤ 120) (hb : ∀ h, h < 8 → A (455 + h) ≤ 130 * n0) (hq : ∀ ν, CL m (psA A n) ν → Sm KM μ ν → Q ν) : wm_OkV 0 52 [.ref 1, .int (nI n)] μ Q := by
  have a3 := hC.1.sail
  have a8 := hC.1.hands
  have l : ∀ k i ν, i + k = n → CL m (psA A i) ν → Sm KM μ ν → wm_Wp 0 52 2 [.ref 1, .int (nI n), .int (nI i)] ν (fun v ν => v = none ∧ Q ν) := by
    intro k
    induction k with
    | zero =>
      intro i ν hi hC hS
      rw [show i = n by omega] at *
      exact w_52_2 _ _ _ _ ⟨fun _ => w_52_63 _ _ ⟨rfl, hq _ hC hS⟩, fun z => absurd (nI_le (Nat.le_refl _) (by omega)) z⟩
    | succ k ih =>
      intro i ν hi hC hS
      have ne : ∀ j, ¬ (452 ≤ j ∧ j < 463) → j ≠ 2050 → psA A i j = A j := fun j a b => psA_ne A a3 (by omega) a b i
      have tk0 := psA_tick A i
      have le := psA_le A (130 * n0) a3 (by omega) hb i
      refine w_52_2 _ _ _ _ ⟨fun z => absurd z (nI_ge (by omega) (by omega)), fun _ => c_12 hC (fun h hh => by have := le h hh; omega) (by omega) (fun κ hK hS2 => ?_)⟩
      have nt : ∀ j, ¬ (455 ≤ j ∧ j < 463) → tirA (psA A i) (psA A i 2041) j = psA A i j := fun j a => tirA_ne _ _ (fun h hh => by rw [ne 2041 (by omega) (by omega)] at hh; omega)
      have e4 : κ.1 13 4 = nI (A 2050 + i) := by rw [hK.2.2.1.tick, nt _ (by omega), tk0]
      have e2050 : tirA (psA A i) (psA A i 2041) 2050 = A 2050 + i := by rw [nt _ (by omega), tk0]
      have fin : ∀ ξ, CL m (tnSA (tirA (psA A i) (psA A i 2041))) ξ → Sm KM μ ξ → wm_Wp 0 52 44 [.ref 1, .int (nI n), .int (nI i)] ξ (fun v ν => v = none ∧ Q ν) := fun ξ hX hS3 => by
        have s3 : tirA (psA A i) (psA A i 2041) 2049 < 3 := by rw [nt _ (by omega), ne _ (by omega) (by omega)]; exact a3
        have e5 : ξ.1 13 4 = nI (A 2050 + i) := by rw [hX.2.2.1.tick, tnSA_ne _ (by omega) s3, e2050]
        refine w_52_44 _ _ _ _ ?_
        rw [e5, nI_1, nI_1]
        refine ih (i + 1) _ (by omega) ?_ (hS3.si rfl)
        have c := hX.tick (by rw [tnSA_ne _ (by omega) s3, nt _ (by omega), ne _ (by omega) (by omega)]; exact hp) (x := A 2050 + i + 1) (by omega)
        unfold psA ps1A
        rw [tk0]; exact c
      rw [e4]
      refine c_50 _ (by omega) hK (fun y => ⟨fun q => absurd q (by decide), fun _ => ?_⟩) (fun y => ⟨fun _ => fin κ ?_ (hS.tr hS2), fun q => absurd rfl q⟩)
      · have b2 := hK.1.sail
        rw [hK.2.2.1.sail, nI_clamp (by omega), vn1]
        refine ⟨vp_in_nI b2 (by decide), fin _ ?_ ((hS.tr hS2).si rfl)⟩
        have c := hK.wr 15 0 452 3 (by decide) (by decide) _ b2 1 (by rw [bd_torn _ b2]; omega) (by omega)
        rw [Nat.zero_add] at c
        have e : tnSA (tirA (psA A i) (psA A i 2041)) = uN (tirA (psA A i) (psA A i 2041)) (452 + tirA (psA A i) (psA A i 2041) 2049) 1 := by
          unfold tnSA
          rw [e2050]
          exact if_pos y
        rw [e]; exact c
      · have e : tnSA (tirA (psA A i) (psA A i 2041)) = tirA (psA A i) (psA A i 2041) := by
          unfold tnSA
          rw [e2050]
          exact if_neg y
        rw [e]; exact hK
  exact v_52 _ _ _ (l n 0 μ (by omega) hC (Sm.rf _ _))
theorem tv_m {t : Nat} (ht : t < 2 ^ 30) : (((0 : Int32) ≤ nI t + (-2 : Int32)) ↔ 2 ≤ t) := by
  rw [show nI t + (-2 : Int32) = nI t - nI 2 from by rw [Int32.sub_eq_add_neg]; rfl, Int32.le_iff_toInt_le, nI_sT (by omega) (by decide), show (0 : Int32).toInt = 0 from by decide]
  omega
theorem m_293t {m : Nat} {A : Nat → Nat} {Q : Option Value → wm_M → Prop} (x1 x2 : Int32) (hB : BA m A) (hm : m < 10000) {μ : wm_M} (hM : RM 91 A μ) (hq : ∀ ν, RM 91 (tirA A (A 2041)) ν → Sm KC μ ν → wm_Wp 0 293 78 [.ref 89, .int x1, .int x2, .null, .null] ν Q) : wm_Wp 0 293 9 [.ref 89, .int x1, .int x2, .int 0, .null] μ Q := by
  have b8 := hB.hands
  have l : ∀ k h ν, h + k = A 2041 → RM 91 (tirA A h) ν → Sm KC μ ν → wm_Wp 0 293 9 [.ref 89, .int x1, .int x2, .int (nI h), .null] ν Q := by
    intro k
    induction k with
    | zero =>
      intro h ν hh hM hS
      refine w_293_9 _ _ _ _ _ (s_188 1 (by decide) ?_)
      have e : ν.1 91 (2040 + 1) = nI (A 2041) := by rw [hM _ (by decide), tirA_ne A h (fun j hj => by omega)]
      rw [e]
      have e2 : h = A 2041 := by omega
      subst e2
      exact ⟨fun _ => hq _ hM hS, fun z => absurd (nI_le (Nat.le_refl _) (by omega)) z⟩
    | succ k ih =>
      intro h ν hh hM hS
      have h8 : h < 8 := by omega
      refine w_293_9 _ _ _ _ _ (s_188 1 (by decide) ?_)
      have e : ν.1 91 (2040 + 1) = nI (A 2041) := by rw [hM _ (by decide), tirA_ne A h (fun j hj => by omega)]
      have a1 : (455 : Int32) + nI h = nI (455 + h) := nI_add 455 h
      have a2 : (463 : Int32) + nI h = nI (463 + h) := nI_add 463 h
      have e1 : ν.1 91 (455 + h) = nI (A (455 + h)) := by rw [hM _ (by omega), tirA_ne A h (fun j hj => by omega)]
      have e2 : ν.1 91 (463 + h) = nI (A (463 + h)) := by rw [hM _ (by omega), tirA_ne A h (fun j hj => by omega)]
      have b2 := hB.sleeps h8
      have bt := hB.tired h8
      rw [e, a1, a2, nI_clamp (by omega), nI_clamp (by omega), e1, e2]
      have v1 : vp_in (nI (455 + h)) 2060 := vp_in_nI (by omega) (by decide)
      have v2 : vp_in (nI (463 + h)) 2060 := vp_in_nI (by omega) (by decide)
      have step : ∀ x, x = tvA A h → wm_Wp 0 293 9 [.ref 89, .int x1, .int x2, .int (nI h + 1), .null] (wm_si ν 91 (455 + h) (nI x)) Q := fun x hx => by
        rw [nI_1]
        refine ih (h + 1) _ (by omega) ?_ (hS.si rfl)
        have := hM.w (455 + h) x
        unfold tirA
        rw [← hx]; exact this
      have tm := tv_m (t := A (455 + h)) (by omega)
      refine ⟨fun z => absurd z (nI_ge (by omega) (by omega)), fun _ => ⟨v1, v2, fun z => ⟨fun y => ⟨v1, ?_⟩, fun y => ⟨v1, ?_⟩⟩, fun z => ⟨fun y => ⟨v1, ?_⟩, fun y => absurd ?_ y⟩⟩⟩
      · have z : A (463 + h) = 1 := (nI_eq (b := 1) (by omega) (by decide)).mp z
        have y := tm.mp y
        rw [show nI (A (455 + h)) + (-2 : Int32) = nI (A (455 + h) - 2) from nI_sb (b := 2) y]
        exact step _ (by unfold tvA; rw [if_pos z])
      · have z : A (463 + h) = 1 := (nI_eq (b := 1) (by omega) (by decide)).mp z
        have y : ¬ 2 ≤ A (455 + h) := fun q => y (tm.mpr q)
        exact step 0 (by unfold tvA; rw [if_pos z]; omega)
      · have z : ¬ A (463 + h) = 1 := fun q => z (by rw [q]; rfl)
        rw [nI_1 (A (455 + h))]
        exact step _ (by unfold tvA; rw [if_neg z])
      · rw [nI_1]; exact nI_pos' (by omega)
  exact l (A 2041) 0 μ (by omega) hM (Sm.rf _ _)
theorem m_293 {m n0 : Nat} {A : Nat → Nat} (n : Nat) {μ : wm_M} {Q : wm_M → Prop} (hB : BA m A) (hM : RM 91 A μ) (hm : m = n0 + 1) (hn0 : n0 < 9000) (ht : A 2050 + n ≤ 120) (hBs : ∀ i, i ≤ n → BA m (psA A i)) (hq : ∀ ν, RM 91 (psA A n) ν → Sm KC μ ν → Q ν) : wm_OkV 0 293 [.ref 89, .int (nI n)] μ Q := by
  have a3 := hB.sail
  have a8 := hB.hands
  have l : ∀ k i ν, i + k = n → RM 91 (psA A i) ν → Sm KC μ ν → wm_Wp 0 293 2 [.ref 89, .int (nI n), .int (nI i), .null, .null] ν (fun v ν => v = none ∧ Q ν) := by
    intro k
    induction k with
    | zero =>
      intro i ν hi hM hS
      rw [show i = n by omega] at *
      exact w_293_2 _ _ _ _ ⟨fun _ => w_293_140 _ _ ⟨rfl, hq _ hM hS⟩, fun z => absurd (nI_le (Nat.le_refl _) (by omega)) z⟩
    | succ k ih =>
      intro i ν hi hM hS
      have ne : ∀ j, ¬ (452 ≤ j ∧ j < 463) → j ≠ 2050 → psA A i j = A j := fun j a b => psA_ne A a3 (by omega) a b i
      have tk0 := psA_tick A i
      have hBi := hBs i (by omega)
      refine w_293_2 _ _ _ _ ⟨fun z => absurd z (nI_ge (by omega) (by omega)), fun _ => m_293t _ _ hBi (by omega) hM (fun κ hK hS2 => ?_)⟩
      have nt : ∀ j, ¬ (455 ≤ j ∧ j < 463) → tirA (psA A i) (psA A i 2041) j = psA A i j := fun j a => tirA_ne _ _ (fun h hh => by rw [ne 2041 (by omega) (by omega)] at hh; omega)
      have e2050 : tirA (psA A i) (psA A i 2041) 2050 = A 2050 + i := by rw [nt _ (by omega), tk0]
      have e9 : tirA (psA A i) (psA A i 2041) 2049 = A 2049 := by rw [nt _ (by omega), ne _ (by omega) (by omega)]
      have e7 : tirA (psA A i) (psA A i 2041) 2047 = A 2047 := by rw [nt _ (by omega), ne _ (by omega) (by omega)]
      have s3 : tirA (psA A i) (psA A i 2041) 2049 < 3 := by rw [e9]; exact a3
      have cl50 : ((2050 : Int32)).toNatClampNeg = 2050 := by decide +kernel
      have fin : ∀ ξ, RM 91 (tnSA (tirA (psA A i) (psA A i 2041))) ξ → Sm KC μ ξ → wm_Wp 0 293 122 [.ref 89, .int (nI n), .int (nI i), .null, .null] ξ (fun v ν => v = none ∧ Q ν) := fun ξ hX hS3 => by
        have e5 : ξ.1 91 2050 = nI (A 2050 + i) := by rw [hX _ (by decide), tnSA_ne _ (by omega) s3, e2050]
        refine w_293_122 _ _ _ _ ⟨vp_in_nI (n := 2050) (by decide) (by decide), vp_in_nI (n := 2050) (by decide) (by decide), ?_⟩
        rw [cl50, e5, nI_1, nI_1]
        refine ih (i + 1) _ (by omega) ?_ (hS3.si rfl)
        have c := hX.w 2050 (A 2050 + i + 1)
        unfold psA ps1A
        rw [tk0]; exact c
      have ht' : ∀ j, tirA (psA A i) (psA A i 2041) j < bdA m j ∨ (455 ≤ j ∧ j < 463) ∨ 2060 ≤ j := fun j => by
        by_cases q : 455 ≤ j ∧ j < 463
        · exact Or.inr (Or.inl q)
        · by_cases q2 : j < 2060
          · rw [nt j q]; exact Or.inl (hBi j q2)
          · exact Or.inr (Or.inr (by omega))
      have hBt : BA (m + 1) (tirA (psA A i) (psA A i 2041)) := fun j hj => by
        rcases ht' j with q | q | q
        · exact Nat.lt_of_lt_of_le q (bdA_mono (Nat.le_succ m))
        · have le := tirA_le (psA A i) (130 * m) (fun h hh => by have := hBi.tired hh; omega) (psA A i 2041) (by rw [ne 2041 (by omega) (by omega)]; omega) (j - 455) (by omega)
          rw [show 455 + (j - 455) = j by omega] at le
          have := bd_tired (m + 1) (show j - 455 < 8 by omega)
          rw [show 455 + (j - 455) = j by omega] at this
          rw [this]; omega
        · omega
      refine w_293_78 _ _ _ _ (s_188 9 (by decide) (s_188 7 (by decide) (s_188 10 (by decide) ?_)))
      rw [show κ.1 91 (2040 + 10) = nI (A 2050 + i) from by rw [hK _ (by decide), show 2040 + 10 = 2050 from rfl, e2050], show κ.1 91 (2040 + 9) = nI (A 2049) from by rw [hK _ (by decide), show 2040 + 9 = 2049 from rfl, e9], show κ.1 91 (2040 + 7) = nI (A 2047) from by rw [hK _ (by decide), show 2040 + 7 = 2047 from rfl, e7]]
      refine s_192 _ (by omega) ?_
      have g := m_292 (A := tirA (psA A i) (psA A i 2041)) (A 2050 + i) (μ := κ) (Q := fun r10 μ9 => ((r10 = (0 : Int32) → wm_Wp 0 293 122 [.ref 89, .int (nI n), .int (nI i), .null, .null] μ9 (fun v ν => v = none ∧ Q ν)) ∧ (¬ r10 = (0 : Int32) → wm_OkI 0 188 [.ref 89, .int (9 : Int32)] μ9 (fun r12 μ11 => (vp_in ((452 : Int32) + r12) 2060 ∧ wm_Wp 0 293 122 [.ref 89, .int (nI n), .int (nI i), .null, .null] (wm_si μ11 91 (((452 : Int32) + r12)).toNatClampNeg (1 : Int32)) (fun v ν => v = none ∧ Q ν)))))) hBt hK (fun y => ⟨fun q => absurd q (by decide), fun _ => s_188 9 (by decide) ?_⟩) (fun y => ⟨fun _ => fin κ ?_ (hS.tr hS2), fun q => absurd rfl q⟩)
      · rw [e9, e7] at g
        exact g
      · rw [show κ.1 91 (2040 + 9) = nI (A 2049) from by rw [hK _ (by decide), show 2040 + 9 = 2049 from rfl, e9], show (452 : Int32) + nI (A 2049) = nI (452 + A 2049) from nI_add 452 _, nI_clamp (by omega)]
        refine ⟨vp_in_nI (by omega) (by decide), fin _ ?_ ((hS.tr hS2).si rfl)⟩
        have c := hK.w (452 + A 2049) 1
        have e : tnSA (tirA (psA A i) (psA A i 2041)) = uN (tirA (psA A i) (psA A i 2041)) (452 + tirA (psA A i) (psA A i 2041) 2049) 1 := by
          unfold tnSA
          rw [e2050]
          exact if_pos y
        rw [e, e9]; exact c
      · have e : tnSA (tirA (psA A i) (psA A i 2041)) = tirA (psA A i) (psA A i 2041) := by
          unfold tnSA
          rw [e2050]
          exact if_neg y
        rw [e]; exact hK
  exact v_293 _ _ _ (l n 0 μ (by omega) hM (Sm.rf _ _))
