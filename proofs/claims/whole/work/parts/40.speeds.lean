/-! ===== frames of the two halves of a call ===== -/
def KM (c i : Nat) : Bool := Nat.ble 89 c || kO c i || kV c i
def KC (c i : Nat) : Bool := Nat.blt c 89 || kO c i
theorem KM_O {c i : Nat} (h : kO c i = true) : KM c i = true := by unfold KM; rw [h, Bool.or_true]; rfl
theorem KM_M {c i : Nat} (h : 89 ≤ c) : KM c i = true := by unfold KM; rw [Nat.ble_eq_true_of_le h]; rfl
theorem KC_O {c i : Nat} (h : kO c i = true) : KC c i = true := by unfold KC; rw [h, Bool.or_true]
theorem KC_C {c : Nat} (i : Nat) (h : c < 89) : KC c i = true := by unfold KC; rw [show Nat.blt c 89 = true from Nat.ble_eq_true_of_le h]; rfl
theorem kA_lt {c i : Nat} (h : kA 0 c i = true) : c < 89 := by
  unfold kA at h
  simp only [Bool.or_eq_true, Bool.and_eq_true, List.any_eq_true] at h
  have k : ∀ q ∈ kcl, q < 60 := by decide
  rcases h with ((⟨q, hq, e⟩ | e) | e) | e
  · have := k q hq; have := Nat.eq_of_beq_eq_true e; omega
  · have := Nat.eq_of_beq_eq_true e.1; omega
  · have := Nat.eq_of_beq_eq_true e.1; omega
  · have := Nat.eq_of_beq_eq_true e.1; omega
theorem CL.kc {m : Nat} {A : Nat → Nat} {μ ν : wm_M} (h : CL m A μ) (e : Sm KC μ ν) : CL m A ν := h.sm (e.le (fun c i q => KC_C i (kA_lt q)))
/-- the class's half, then the reference's -/
theorem Rel.fin3 {n m : Nat} {A : Nat → Nat} {μ ν κ : wm_M} (hO : RO n μ) (e1 : Sm KM (ch_ μ) ν) (hm : n ≤ m) (hC : CL m A ν) (e2 : Sm KC ν κ) (hM : RM 91 A κ) : Rel m κ := by
  have f1 : ν.1 62 7 = 0 := e1 62 7 rfl
  have f2 : ν.1 62 8 = -1 := e1 62 8 rfl
  have f3 : ν.1 75 6 = 0 := e1 75 6 rfl
  refine Rel.fin hO ((Sm_ch kO μ rfl rfl rfl).tr ((e1.le (fun c i q => KM_O q)).tr (e2.le (fun c i q => KC_O q)))) hm (hC.kc e2) hM ?_ ?_ ?_
  · rw [e2 62 7 rfl]; exact f1
  · rw [e2 62 8 rfl]; exact f2
  · rw [e2 75 6 rfl]; exact f3
theorem RM.km {A : Nat → Nat} {μ ν : wm_M} (h : RM 91 A μ) (e : Sm KM (ch_ μ) ν) : RM 91 A ν := fun i hi => by
  rw [e 91 i rfl]; exact h i hi
theorem uN_comm (A : Nat → Nat) {a b : Nat} (x y : Nat) (h : a ≠ b) : uN (uN A a x) b y = uN (uN A b y) a x := by
  funext j
  unfold uN
  by_cases h1 : j = b
  · rw [if_pos h1]
    by_cases h2 : j = a
    · exact absurd (h2.symm.trans h1) h
    · rw [if_neg h2, if_pos h1]
  · rw [if_neg h1]
    by_cases h2 : j = a
    · rw [if_pos h2, if_pos h2]
    · rw [if_neg h2, if_neg h2, if_neg h1]
/-! ===== learn ===== -/
def lsA (A : Nat → Nat) (p v : Nat) : Nat := if A (349 + p) = 0 ∨ v < A (399 + p) then v else A (399 + p)
def gtA (A : Nat → Nat) (p v : Nat) : Nat := if A (349 + p) = 0 ∨ A (424 + p) < v then v else A (424 + p)
def lrA (A : Nat → Nat) (p v : Nat) : Nat → Nat := uN (uN (uN (uN A (399 + p) (lsA A p v)) (424 + p) (gtA A p v)) (374 + p) (A (374 + p) + v)) (349 + p) (A (349 + p) + 1)
theorem CL.learn {m : Nat} {A : Nat → Nat} {μ : wm_M} (h : CL m A μ) {p v : Nat} (hp : p < 25) (hv : v ≤ 99) (hs : A (349 + p) < 99) : CL m (lrA A p v) (wm_si (wm_si (wm_si (wm_si μ 11 p (nI (lsA A p v))) 12 p (nI (gtA A p v))) 10 p (nI (A (374 + p) + v))) 9 p (nI (A (349 + p) + 1))) := by
  obtain ⟨h1, h2, h3, h4, h5⟩ := h
  have b1 := h1.least hp
  have b2 := h1.great hp
  have b3 := h2.1 p hp
  have b4 := h1.hands
  have b5 := h1.rules
  have l1 : lsA A p v < 100 := by unfold lsA; split <;> omega
  have l2 : gtA A p v < 100 := by unfold gtA; split <;> omega
  have w1 : BA m (uN A (399 + p) (lsA A p v)) := h1.w (by rw [bd_least _ hp]; exact l1)
  have w2 : BA m (uN (uN A (399 + p) (lsA A p v)) (424 + p) (gtA A p v)) := w1.w (by rw [bd_great _ hp]; exact l2)
  have w3 : BA m (uN (uN (uN A (399 + p) (lsA A p v)) (424 + p) (gtA A p v)) (374 + p) (A (374 + p) + v)) := w2.w (by rw [bd_sum _ hp]; omega)
  refine ⟨w3.w (by rw [bd_seen _ hp]; omega), ?_, ?_, ?_, ?_⟩
  · obtain ⟨x1, x2, x3⟩ := h2
    refine ⟨fun i hi => ?_, ?_, ?_⟩
    · unfold lrA
      by_cases e : i = p
      · subst e
        rw [uN_eq, uN_ne _ _ (by omega), uN_eq]; omega
      · simp (disch := omega) only [uN_ne]
        exact x1 i hi
    · unfold lrA; simp (disch := omega) only [uN_ne]; exact x2
    · unfold lrA; simp (disch := omega) only [uN_ne]; exact x3
  · have r := (h3.up (399 + p) (lsA A p v) (fun q hq => by have := rcT_399 q hq; omega)).up (424 + p) (gtA A p v) (fun q hq => by have := rcT_399 q hq; omega)
    have n1 : ∀ q ∈ rcT, q.1 + 0 ≠ 11 := by decide +kernel
    have n2 : ∀ q ∈ rcT, q.1 + 0 ≠ 12 := by decide +kernel
    have r := RT.fr (ν := wm_si (wm_si μ 11 p (nI (lsA A p v))) 12 p (nI (gtA A p v))) r (fun q hq => (si_ne _ _ _ (n2 q hq)).trans (si_ne _ _ _ (n1 q hq)))
    exact (r.w_sum hp _).w_seen hp _
  · obtain ⟨g1, g2, g3, g4, g5⟩ := h4
    unfold lrA
    refine ⟨fun i hi => ?_, fun i hi => ?_, fun i hi => ?_, fun r w hr hw => ?_, ?_⟩
    · simp (disch := omega) only [uN_ne]; exact g1 i hi
    · show (wm_si μ 11 p (nI (lsA A p v))).1 11 i = _
      by_cases e : i = p
      · subst e
        rw [si_same, uN_eq, if_neg (by omega), uN_ne _ _ (by omega), uN_ne _ _ (by omega), uN_ne _ _ (by omega), uN_eq]
      · rw [si_other _ _ e]
        simp (disch := omega) only [uN_ne]
        exact g2 i hi
    · show (wm_si (wm_si μ 11 p (nI (lsA A p v))) 12 p (nI (gtA A p v))).1 12 i = _
      by_cases e : i = p
      · subst e
        rw [si_same, uN_eq, if_neg (by omega), uN_ne _ _ (by omega), uN_ne _ _ (by omega), uN_eq]
      · rw [si_other _ _ e]
        simp (disch := omega) only [uN_ne]
        exact g3 i hi
    · rw [uN_ne _ _ (by omega), uN_ne _ _ (by omega), uN_ne _ _ (by omega), uN_ne _ _ (by omega)]; exact g4 r w hr hw
    · have e41 : ∀ (k x : Nat) (B : Nat → Nat), B 2041 ≤ 8 → (349 ≤ k ∧ k < 449) → awk (uN B k x) (uN B k x 2041) = awk B (B 2041) := fun k x B hB hk => by rw [uN_ne _ _ (by omega), awk_up (by omega) _ hB]
      have u1 := w1.hands
      have u2 := w2.hands
      have u3 := w3.hands
      rw [e41 _ _ _ (by omega) (by omega), e41 _ _ _ (by omega) (by omega), e41 _ _ _ (by omega) (by omega), e41 _ _ _ (by omega) (by omega)]
      exact g5
  · have v1 := w1.rules
    have v2 := w2.rules
    have v3 := w3.rules
    exact ((((((((h5.up (by omega) (lsA A p v) (by omega)).up (by omega) (gtA A p v) (by omega)).up (by omega) (A (374 + p) + v) (by omega)).up (by omega) (A (349 + p) + 1) (by omega)).fr1 _ (by decide)).fr1 _ (by decide)).fr1 _ (by decide)).fr1 _ (by decide))
theorem c_84 {m : Nat} {A : Nat → Nat} (p v : Nat) (hp : p < 25) (hv : v ≤ 99) {μ : wm_M} {Q : Int32 → wm_M → Prop} (hC : CL m A μ) (hs : A (349 + p) < 99) (hq : ∀ ν, CL m (lrA A p v) ν → Sm KM μ ν → Q (nI (A (349 + p) + 1)) ν) : wm_OkI 0 84 [.ref 7, .int (nI p), .int (nI v)] μ Q := by
  have hc := nI_clamp (n := p) (by omega)
  have hi : vp_in (nI p) 25 := vp_in_nI hp (by decide)
  have b1 := hC.1.least hp
  have b2 := hC.1.great hp
  have e9 : μ.1 9 p = nI (A (349 + p)) := hC.2.2.1.seen hp
  have e10 : μ.1 10 p = nI (A (374 + p)) := hC.2.2.1.sum hp
  have e11 : μ.1 11 p = _ := hC.2.2.2.1.2.1 p hp
  have e12 : μ.1 12 p = _ := hC.2.2.2.1.2.2.1 p hp
  have fin : hq = hq → wm_Wp 0 84 63 [.ref 7, .int (nI p), .int (nI v), .null] (wm_si (wm_si μ 11 p (nI (lsA A p v))) 12 p (nI (gtA A p v))) (fun w ν => ∃ x, w = some (.int x) ∧ Q x ν) := fun _ => by
    refine f_84_63 _ _ _ _ ⟨hi, hi, f_84_73 _ _ _ ⟨hi, hi, f_84_83 _ _ _ ⟨hi, _, rfl, ?_⟩⟩⟩
    rw [hc]
    have q1 : (wm_si (wm_si μ 11 p (nI (lsA A p v))) 12 p (nI (gtA A p v))).1 10 p = nI (A (374 + p)) := e10
    rw [q1, nI_add]
    have q2 : (wm_si (wm_si (wm_si μ 11 p (nI (lsA A p v))) 12 p (nI (gtA A p v))) 10 p (nI (A (374 + p) + v))).1 9 p = nI (A (349 + p)) := e9
    rw [q2, nI_1, si_same]
    exact hq _ (hC.learn hp hv hs) (((((Sm.rf _ _).si rfl).si rfl).si rfl).si rfl)
  have fin := fin rfl
  refine f_84 _ _ _ _ ⟨hi, ?_⟩
  rw [hc, e9]
  have b3 : A (349 + p) < 2 ^ 31 := by omega
  refine ⟨fun z => ⟨fun q => absurd q (by decide), fun _ => ⟨hi, f_84_39 _ _ _ _ _ ⟨fun q => absurd q (by decide), fun _ => ⟨hi, ?_⟩⟩⟩⟩, fun z => f_84_13 _ _ _ _ ⟨fun _ => ⟨hi, hi, f_84_39 _ _ _ _ _ ⟨fun _ => ⟨hi, hi, ?_⟩, fun q => absurd rfl q⟩⟩, fun q => absurd rfl q⟩⟩
  · have z : A (349 + p) = 0 := (nI_eq (b := 0) b3 (by decide)).mp z
    rw [hc]
    have l1 : lsA A p v = v := if_pos (Or.inl z)
    have l2 : gtA A p v = v := if_pos (Or.inl z)
    rw [l1, l2] at fin; exact fin
  · have z : ¬ A (349 + p) = 0 := fun q => z (by rw [q]; rfl)
    rw [if_neg z] at e11 e12
    rw [hc, e11]
    have q1 : ∀ x, (wm_si μ 11 p x).1 12 p = nI (A (424 + p)) := fun x => e12
    rw [q1]
    have l1 : (if nI v < nI (A (399 + p)) then nI v else nI (A (399 + p))) = nI (lsA A p v) := by
      unfold lsA
      by_cases y : v < A (399 + p)
      · rw [if_pos ((nI_ltI (by omega) (by omega)).mpr y), if_pos (Or.inr y)]
      · rw [if_neg (fun q => y ((nI_ltI (by omega) (by omega)).mp q)), if_neg (fun q => Or.elim q z y)]
    have l2 : (if nI (A (424 + p)) < nI v then nI v else nI (A (424 + p))) = nI (gtA A p v) := by
      unfold gtA
      by_cases y : A (424 + p) < v
      · rw [if_pos ((nI_ltI (by omega) (by omega)).mpr y), if_pos (Or.inr y)]
      · rw [if_neg (fun q => y ((nI_ltI (by omega) (by omega)).mp q)), if_neg (fun q => Or.elim q z y)]
    rw [l1, l2]
    exact fin
