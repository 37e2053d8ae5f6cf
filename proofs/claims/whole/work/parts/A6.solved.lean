/-! game of the reference: isSolved, down. -/
theorem fl_uniq {P q z : Int} (h : 0 < q) (h1 : z * q ≤ P) (h2 : P < (z + 1) * q) : P / q = z :=
  Int.le_antisymm (Int.lt_add_one_iff.1 (Int.ediv_lt_of_lt_mul h h2)) (Int.le_ediv_of_mul_le h h1)
theorem fl_lo {P q : Int} (h : 0 < q) : P / q * q ≤ P := Int.ediv_mul_le P (Int.ne_of_gt h)
theorem fl_hi {P q : Int} (h : 0 < q) : P < (P / q + 1) * q := Int.lt_ediv_add_one_mul_self P h
theorem fl_neg {P q : Int} (h : 0 < q) : -((-P + q - 1) / q) = P / q := by
  have h1 := fl_lo (P := P) h
  have h2 := fl_hi (P := P) h
  generalize P / q = z at *
  have e1 : (z + 1) * q = z * q + q := by grind
  have e2 : (-z) * q = -(z * q) := by grind
  have e3 : (-z + 1) * q = -(z * q) + q := by grind
  rw [fl_uniq (z := -z) h (by omega) (by omega)]
  omega
theorem jI_div {P q : Int} (hP : gB P) (hq : gB q) (h0 : 0 < q) : jI P / jI q = jI (P.tdiv q) := by
  have h1 : (jI P / jI q).toInt = P.tdiv q := by
    rw [Int64.toInt_div_of_ne_right _ _ (fun e => by have := congrArg Int64.toInt e; rw [jI_T hq, show (-1 : Int64).toInt = -1 from by decide] at this; omega), jI_T hP, jI_T hq]
  have h2 := Int64.ofInt_toInt (jI P / jI q)
  rw [h1] at h2
  exact h2.symm
theorem m_282 {P q : Int} (hP : P.natAbs ≤ 1000000000000000000) (hq : q.natAbs ≤ 1000000000000000000) (h0 : 0 < q) {μ : wm_M} {Q : Int64 → wm_M → Prop} (h : Q (jI (P / q)) μ) : wm_OkJ 0 282 [.long (jI P), .long (jI q)] μ Q := by
  have bP : gB P := by unfold gB; omega
  have bq : gB q := by unfold gB; omega
  have n0 : ¬ jI q = 0 := by rw [show (0 : Int64) = jI 0 from rfl, jI_eq bq gB_0]; omega
  refine v_282 _ _ _ _ ?_
  rw [lg_cmp_lt, show (0 : Int64) = jI 0 from rfl, jI_lt bP gB_0]
  refine ⟨fun z => w_282_12 _ _ _ _ ⟨n0, _, rfl, ?_⟩, fun z => ⟨n0, _, rfl, ?_⟩⟩
  · have b : gB (-P + q - 1) := by unfold gB; omega
    rw [jI_neg, jI_add, show (1 : Int64) = jI 1 from rfl, jI_sub, jI_div b bq h0, Int.tdiv_eq_ediv_of_nonneg (by omega), jI_neg, fl_neg h0]
    exact h
  · rw [jI_div bP bq h0, Int.tdiv_eq_ediv_of_nonneg (by omega)]
    exact h
def gI1 (N : Nat) (a : Nat → Nat → Int) (i j : Nat) : Prop := ∀ i' j', i' < N → j' < N → (i' < i ∨ (i' = i ∧ j' < j)) → ¬ gOk1 N a i' j'
def gI2 (N : Nat) (a : Nat → Nat → Int) (i k j l : Nat) : Prop := ∀ i' k' j' l', i' < k' → k' < N → j' < l' → l' < N → (i' < i ∨ (i' = i ∧ (k' < k ∨ (k' = k ∧ (j' < j ∨ (j' = j ∧ l' < l)))))) → ¬ gOk2 N a i' k' j' l'
theorem m_289 {N a} (hA : gA a) {μ : wm_M} {Q : Int32 → wm_M → Prop} (r : RG N a μ) (h1 : ∀ ν x y p q, gWin N a x y p q → ν.1 = μ.1 → ν.2 89 40 = jI p → ν.2 89 41 = jI q → Q 1 ν) : wm_OkI 0 289 [.ref 89] μ Q := by
  have n3 : N ≤ 3 := by rcases r.1 with e | e <;> omega
  have n2 : 2 ≤ N := by rcases r.1 with e | e <;> omega
  have le : ∀ κ : wm_M, κ.1 = μ.1 → ∀ m, N ≤ m → m < 10 → κ.1 89 39 ≤ nI m := fun κ e m h g => by rw [e, r.2.1]; exact nI_le h (by omega)
  have gt : ∀ κ : wm_M, κ.1 = μ.1 → ∀ m, m < N → ¬ κ.1 89 39 ≤ nI m := fun κ e m h => by rw [e, r.2.1]; exact nI_ge h (by omega)
  have yes : ∀ κ : wm_M, κ.1 = μ.1 → ∀ ν x y p q, gWin N a x y p q → ν.1 = κ.1 → ν.2 89 40 = jI p → ν.2 89 41 = jI q → ((1 : Int32) = 0 ∨ (1 : Int32) = 1) ∧ ∃ z, some (Value.int 1) = some (.int z) ∧ Q z ν := fun κ e ν x y p q w e' w1 w2 => ⟨Or.inr rfl, _, rfl, h1 ν x y p q w (e'.trans e) w1 w2⟩
  -- the end
  have fin : ∀ κ : wm_M, κ.1 = μ.1 → gI1 N a N 0 → gI2 N a N 0 0 0 → wm_Wp 0 289 127 [.ref 89, .null, .null, .null, .null] κ (fun v ν => ∃ z, v = some (.int z) ∧ Q z ν) := by
    intro κ e g1 g2
    rcases r.1 with en | en
    · subst en
      exfalso
      rcases g_ker2 a with ⟨i, j, hi, hj, g⟩ | g
      · exact g1 i j hi hj (Or.inl hi) g
      · exact g2 0 1 0 1 (by decide) (by decide) (by decide) (by decide) (Or.inl (by decide)) g
    · subst en
      refine w_289_127 _ _ ⟨fun _ => m_288 hA (r.f e) (fun ν x y p q w e' w1 w2 => ⟨fun z => absurd z (by decide), fun _ => yes κ e ν x y p q w e' w1 w2⟩) (fun ν e' g => ?_), fun q => absurd ((congrFun (congrFun e 89) 39).trans r.2.1) q⟩
      exfalso
      rcases g_ker3 a with ⟨i, j, hi, hj, g'⟩ | ⟨i, k, j, l, hi, hk, hj, hl, g'⟩ | g'
      · exact g1 i j hi hj (Or.inl hi) g'
      · exact g2 i k j l hi hk hj hl (Or.inl (by omega)) g'
      · exact g g'
  -- pairs of rows and columns
  have l80 : ∀ i k j, i < k → k < N → (∀ κ : wm_M, κ.1 = μ.1 → gI2 N a i k j N → wm_Wp 0 289 109 [.ref 89, .int (nI i), .int (nI k), .int (nI j), .null] κ (fun v ν => ∃ z, v = some (.int z) ∧ Q z ν)) →
      ∀ d l (κ : wm_M), l + d = N → j < l → κ.1 = μ.1 → gI2 N a i k j l → wm_Wp 0 289 80 [.ref 89, .int (nI i), .int (nI k), .int (nI j), .int (nI l)] κ (fun v ν => ∃ z, v = some (.int z) ∧ Q z ν) := by
    intro i k j hi hk hc d
    induction d with
    | zero =>
      intro l κ hd hj e g
      have : l = N := by omega
      subst this
      exact w_289_80 _ _ _ _ _ _ ⟨fun _ => hc κ e g, fun q => absurd (le κ e l (Nat.le_refl _) (by omega)) q⟩
    | succ d ih =>
      intro l κ hd hj e g
      refine w_289_80 _ _ _ _ _ _ ⟨fun q => absurd q (gt κ e l (by omega)), fun _ => m_286 hA i k j l hi hk hj (by omega) (r.f e) (fun ν x y p q w e' w1 w2 => ⟨fun z => absurd z (by decide), fun _ => yes κ e ν x y p q w e' w1 w2⟩) (fun ν e' g' => ⟨fun _ => w_289_103 _ _ _ _ _ _ ?_, fun z => absurd rfl z⟩)⟩
      rw [nI_1]
      refine ih (l + 1) ν (by omega) (by omega) (e'.trans e) fun i' k' j' l' x1 x2 x3 x4 x5 => ?_
      by_cases c : i' = i ∧ k' = k ∧ j' = j ∧ l' = l
      · obtain ⟨c1, c2, c3, c4⟩ := c; subst c1 c2 c3 c4; exact g'
      · exact g i' k' j' l' x1 x2 x3 x4 (by omega)
  have l67 : ∀ i k, i < k → k < N → (∀ κ : wm_M, κ.1 = μ.1 → gI2 N a i k N 0 → wm_Wp 0 289 115 [.ref 89, .int (nI i), .int (nI k), .null, .null] κ (fun v ν => ∃ z, v = some (.int z) ∧ Q z ν)) →
      ∀ d j (κ : wm_M), j + d = N → κ.1 = μ.1 → gI2 N a i k j 0 → wm_Wp 0 289 67 [.ref 89, .int (nI i), .int (nI k), .int (nI j), .null] κ (fun v ν => ∃ z, v = some (.int z) ∧ Q z ν) := by
    intro i k hi hk hc d
    induction d with
    | zero =>
      intro j κ hd e g
      have : j = N := by omega
      subst this
      exact w_289_67 _ _ _ _ _ ⟨fun _ => hc κ e g, fun q => absurd (le κ e j (Nat.le_refl _) (by omega)) q⟩
    | succ d ih =>
      intro j κ hd e g
      refine w_289_67 _ _ _ _ _ ⟨fun q => absurd q (gt κ e j (by omega)), fun _ => ?_⟩
      rw [nI_1]
      refine l80 i k j hi hk (fun ν e' g' => w_289_109 _ _ _ _ _ ?_) d (j + 1) κ (by omega) (by omega) e fun i' k' j' l' x1 x2 x3 x4 x5 => g i' k' j' l' x1 x2 x3 x4 (by omega)
      rw [nI_1]
      exact ih (j + 1) ν (by omega) e' fun i' k' j' l' x1 x2 x3 x4 x5 => g' i' k' j' l' x1 x2 x3 x4 (by omega)
  have l57 : ∀ i, i < N → (∀ κ : wm_M, κ.1 = μ.1 → gI2 N a i N 0 0 → wm_Wp 0 289 121 [.ref 89, .int (nI i), .null, .null, .null] κ (fun v ν => ∃ z, v = some (.int z) ∧ Q z ν)) →
      ∀ d k (κ : wm_M), k + d = N → i < k → κ.1 = μ.1 → gI2 N a i k 0 0 → wm_Wp 0 289 57 [.ref 89, .int (nI i), .int (nI k), .null, .null] κ (fun v ν => ∃ z, v = some (.int z) ∧ Q z ν) := by
    intro i hi hc d
    induction d with
    | zero =>
      intro k κ hd hk e g
      have : k = N := by omega
      subst this
      exact w_289_57 _ _ _ _ ⟨fun _ => hc κ e g, fun q => absurd (le κ e k (Nat.le_refl _) (by omega)) q⟩
    | succ d ih =>
      intro k κ hd hk e g
      refine w_289_57 _ _ _ _ ⟨fun q => absurd q (gt κ e k (by omega)), fun _ => ?_⟩
      refine l67 i k hk (by omega) (fun ν e' g' => w_289_115 _ _ _ _ ?_) N 0 κ (by omega) e fun i' k' j' l' x1 x2 x3 x4 x5 => g i' k' j' l' x1 x2 x3 x4 (by omega)
      rw [nI_1]
      exact ih (k + 1) ν (by omega) (by omega) e' fun i' k' j' l' x1 x2 x3 x4 x5 => g' i' k' j' l' x1 x2 x3 x4 (by omega)
  have l45 : gI1 N a N 0 → ∀ d i (κ : wm_M), i + d = N → κ.1 = μ.1 → gI2 N a i 0 0 0 → wm_Wp 0 289 45 [.ref 89, .int (nI i), .null, .null, .null] κ (fun v ν => ∃ z, v = some (.int z) ∧ Q z ν) := by
    intro g1 d
    induction d with
    | zero =>
      intro i κ hd e g
      have : i = N := by omega
      subst this
      exact w_289_45 _ _ _ ⟨fun _ => fin κ e g1 g, fun q => absurd (le κ e i (Nat.le_refl _) (by omega)) q⟩
    | succ d ih =>
      intro i κ hd e g
      refine w_289_45 _ _ _ ⟨fun q => absurd q (gt κ e i (by omega)), fun _ => ?_⟩
      rw [nI_1]
      refine l57 i (by omega) (fun ν e' g' => w_289_121 _ _ _ ?_) d (i + 1) κ (by omega) (by omega) e fun i' k' j' l' x1 x2 x3 x4 x5 => g i' k' j' l' x1 x2 x3 x4 (by omega)
      rw [nI_1]
      exact ih (i + 1) ν (by omega) e' fun i' k' j' l' x1 x2 x3 x4 x5 => g' i' k' j' l' x1 x2 x3 x4 (by omega)
  -- single rows and columns
  have l12 : ∀ i, i < N → (∀ κ : wm_M, κ.1 = μ.1 → gI1 N a i N → wm_Wp 0 289 37 [.ref 89, .int (nI i), .null, .null, .null] κ (fun v ν => ∃ z, v = some (.int z) ∧ Q z ν)) →
      ∀ d j (κ : wm_M), j + d = N → κ.1 = μ.1 → gI1 N a i j → wm_Wp 0 289 12 [.ref 89, .int (nI i), .int (nI j), .null, .null] κ (fun v ν => ∃ z, v = some (.int z) ∧ Q z ν) := by
    intro i hi hc d
    induction d with
    | zero =>
      intro j κ hd e g
      have : j = N := by omega
      subst this
      exact w_289_12 _ _ _ _ ⟨fun _ => hc κ e g, fun q => absurd (le κ e j (Nat.le_refl _) (by omega)) q⟩
    | succ d ih =>
      intro j κ hd e g
      refine w_289_12 _ _ _ _ ⟨fun q => absurd q (gt κ e j (by omega)), fun _ => m_285 hA i j hi (by omega) (r.f e) (fun ν x y p q w e' w1 w2 => ⟨fun z => absurd z (by decide), fun _ => yes κ e ν x y p q w e' w1 w2⟩) (fun ν e' g' => ⟨fun _ => w_289_31 _ _ _ _ ?_, fun z => absurd rfl z⟩)⟩
      rw [nI_1]
      refine ih (j + 1) ν (by omega) (e'.trans e) fun i' j' x1 x2 x3 => ?_
      by_cases c : i' = i ∧ j' = j
      · obtain ⟨c1, c2⟩ := c; subst c1 c2; exact g'
      · exact g i' j' x1 x2 (by omega)
  have l2 : ∀ d i (κ : wm_M), i + d = N → κ.1 = μ.1 → gI1 N a i 0 → wm_Wp 0 289 2 [.ref 89, .int (nI i), .null, .null, .null] κ (fun v ν => ∃ z, v = some (.int z) ∧ Q z ν) := by
    intro d
    induction d with
    | zero =>
      intro i κ hd e g
      have : i = N := by omega
      subst this
      refine w_289_2 _ _ _ ⟨fun _ => w_289_43 _ _ (l45 g i 0 κ (by omega) e fun i' k' j' l' x1 x2 x3 x4 x5 => by omega), fun q => absurd (le κ e i (Nat.le_refl _) (by omega)) q⟩
    | succ d ih =>
      intro i κ hd e g
      refine w_289_2 _ _ _ ⟨fun q => absurd q (gt κ e i (by omega)), fun _ => ?_⟩
      refine l12 i (by omega) (fun ν e' g' => w_289_37 _ _ _ ?_) N 0 κ (by omega) e g
      rw [nI_1]
      exact ih (i + 1) ν (by omega) e' fun i' j' x1 x2 x3 => g' i' j' x1 x2 (by omega)
  exact v_289 _ _ (l2 N 0 μ (by omega) rfl fun i' j' x1 x2 x3 => by omega)
