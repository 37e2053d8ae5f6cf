/-! ===== image, back: a log takes another ===== -/
def Inv (n : Nat) (L : List (Nat × Nat × Nat)) (s d : Nat) (μ ν : wm_M) : Prop :=
  (∀ c, ¬ (1 + d ≤ c ∧ c ≤ 29 + d) → ν.1 c = μ.1 c) ∧ (∀ q ∈ L, ∀ i, i < q.2.2 → ν.1 (q.1 + d) (q.2.1 + i) = μ.1 (q.1 + s) (q.2.1 + i)) ∧ ∀ i, i < n → ν.1 (24 + d) i = μ.1 (24 + s) i
theorem Inv.start (s d : Nat) (μ : wm_M) : Inv 0 [] s d μ μ := ⟨fun _ _ => rfl, fun q hq => (List.not_mem_nil hq).elim, fun i hi => by omega⟩
theorem Inv.row {n : Nat} {L : List (Nat × Nat × Nat)} {s d : Nat} (hsd : (s = 0 ∧ d = 29) ∨ (s = 29 ∧ d = 0)) {μ ν κ : wm_M} (h : Inv n L s d μ ν) (c N : Nat) (hc : 1 ≤ c ∧ c ≤ 29 ∧ c ≠ 24) (hL : ∀ r ∈ L, r.1 ≠ c) (e : κ = wm_sr ν (c + d) (va_cpy (ν.1 (c + s)) (ν.1 (c + d)) 0 0 N)) : Inv n ((c, 0, N) :: L) s d μ κ := by
  subst e
  obtain ⟨h1, h2, h3⟩ := h
  refine ⟨fun k hk => ?_, fun q hq i hi => ?_, fun i hi => ?_⟩
  · rw [sr_ne _ _ (by omega)]; exact h1 k hk
  · rcases List.mem_cons.mp hq with rfl | hq
    · show (wm_sr ν (c + d) (va_cpy (ν.1 (c + s)) (ν.1 (c + d)) 0 0 N)).1 (c + d) (0 + i) = μ.1 (c + s) (0 + i)
      have hi : i < N := hi
      rw [sr_eq, pk_cpy_in (by omega) (by omega), h1 (c + s) (by omega), Nat.sub_zero, Nat.zero_add, Nat.zero_add]
    · have := hL q hq
      rw [sr_ne _ _ (by omega)]; exact h2 q hq i hi
  · rw [sr_ne _ _ (by omega)]; exact h3 i hi
theorem Inv.codes {L : List (Nat × Nat × Nat)} {s d : Nat} (hsd : (s = 0 ∧ d = 29) ∨ (s = 29 ∧ d = 0)) {μ ν κ : wm_M} (h : Inv 0 L s d μ ν) (N : Nat) (hL : ∀ r ∈ L, r.1 ≠ 24) (e : κ = wm_sr ν (24 + d) (va_cpy (ν.1 (24 + s)) (ν.1 (24 + d)) 0 0 N)) : Inv N L s d μ κ := by
  subst e
  obtain ⟨h1, h2, h3⟩ := h
  refine ⟨fun k hk => ?_, fun q hq i hi => ?_, fun i hi => ?_⟩
  · rw [sr_ne _ _ (by omega)]; exact h1 k hk
  · have := hL q hq
    rw [sr_ne _ _ (by omega)]; exact h2 q hq i hi
  · rw [sr_eq, pk_cpy_in (by omega) (by omega), h1 (24 + s) (by omega), Nat.sub_zero, Nat.zero_add]
theorem Inv.fld {n : Nat} {L : List (Nat × Nat × Nat)} {s d : Nat} (hsd : (s = 0 ∧ d = 29) ∨ (s = 29 ∧ d = 0)) {μ ν : wm_M} (h : Inv n L s d μ ν) (c p : Nat) (hc : 1 ≤ c ∧ c ≤ 29 ∧ c ≠ 24) (hL : ∀ r ∈ L, r.1 ≠ c ∨ p < r.2.1 ∨ r.2.1 + r.2.2 ≤ p) : Inv n ((c, p, 1) :: L) s d μ (wm_si ν (c + d) p (ν.1 (c + s) p)) := by
  obtain ⟨h1, h2, h3⟩ := h
  refine ⟨fun k hk => ?_, fun q hq i hi => ?_, fun i hi => ?_⟩
  · rw [si_ne _ _ _ (by omega)]; exact h1 k hk
  · rcases List.mem_cons.mp hq with rfl | hq
    · show (wm_si ν (c + d) p (ν.1 (c + s) p)).1 (c + d) (p + i) = μ.1 (c + s) (p + i)
      have hi : i < 1 := hi
      rw [show p + i = p by omega, si_same, h1 (c + s) (by omega)]
    · have := hL q hq
      by_cases e : q.1 + d = c + d
      · rw [e, si_other _ _ (by omega), ← e]; exact h2 q hq i hi
      · rw [si_ne _ _ _ e]; exact h2 q hq i hi
  · rw [si_ne _ _ _ (by omega)]; exact h3 i hi
theorem cpy_s (f g : Nat → Int32) (i : Nat) : upd (va_cpy f g 0 0 i) i (f i) = va_cpy f g 0 0 (i + 1) := by
  funext k
  unfold upd va_cpy
  by_cases e : k = i
  · rw [if_pos e, if_pos (by omega), e, Nat.sub_zero, Nat.zero_add]
  · rw [if_neg e]
    by_cases e2 : 0 ≤ k ∧ k < 0 + i
    · rw [if_pos e2, if_pos (by omega)]
    · rw [if_neg e2, if_neg (by omega)]
theorem b2_ {a : Nat} (h : a < 2) : nI a = 0 ∨ nI a = 1 := by
  have : a = 0 ∨ a = 1 := by omega
  rcases this with rfl | rfl
  · exact Or.inl rfl
  · exact Or.inr rfl

theorem cl_0 : (((0) : Int32)).toNatClampNeg = 0 := by decide +kernel
theorem cl_3 : (((3) : Int32)).toNatClampNeg = 3 := by decide +kernel
theorem cl_6 : (((6) : Int32)).toNatClampNeg = 6 := by decide +kernel
theorem cl_8 : (((8) : Int32)).toNatClampNeg = 8 := by decide +kernel
theorem cl_12 : (((12) : Int32)).toNatClampNeg = 12 := by decide +kernel
theorem cl_25 : (((25) : Int32)).toNatClampNeg = 25 := by decide +kernel
theorem cl_36 : (((36) : Int32)).toNatClampNeg = 36 := by decide +kernel
theorem cl_84 : (((84) : Int32)).toNatClampNeg = 84 := by decide +kernel
theorem tk68i {m : Nat} {A : Nat → Nat} {μ0 μ : wm_M} {Q : wm_M → Prop} (hB : BA m A) (hR : RC 0 A μ0) (I : Inv 0 [] 0 29 μ0 μ) (hq : ∀ ν, Inv 0 [(2, 4, 1), (6, 0, 84), (5, 0, 84), (4, 0, 36), (3, 0, 36)] 0 29 μ0 ν → Q ν) : wm_OkV 0 68 [.ref 31, .ref 2] μ Q := by
  have hb0 : ∀ i, i < (((36) : Int32)).toNatClampNeg → μ.1 3 (((0 : Int32)).toNatClampNeg + i) = 0 ∨ μ.1 3 (((0 : Int32)).toNatClampNeg + i) = 1 := fun i hi => by
    rw [cl_36] at hi
    rw [cl_0, I.1 3 (by decide)]
    have q := hR.1 (3, 0, 0, 36) (by decide) i hi
    have q : μ0.1 3 (0 + i) = nI (A (0 + i)) := q
    rw [q]; exact b2_ (by rw [Nat.zero_add]; exact hB.land hi)
  refine f_68i _ _ ⟨by decide, by decide, by decide, by rw [cl_0, cl_36]; decide, by rw [cl_0, cl_36]; decide, hb0, fun ν0 e0 => ?_⟩
  rw [cl_0, cl_36] at e0
  have I0 := I.row (Or.inl ⟨rfl, rfl⟩) 3 36 (by decide) (by decide) e0
  refine f_68_15i _ _ ⟨by decide, by decide, by decide, by rw [cl_0, cl_36]; decide, by rw [cl_0, cl_36]; decide, fun ν1 e1 => ?_⟩
  rw [cl_0, cl_36] at e1
  have I1 := I0.row (Or.inl ⟨rfl, rfl⟩) 4 36 (by decide) (by decide) e1
  refine f_68_30i _ _ ⟨by decide, by decide, by decide, by rw [cl_0, cl_84]; decide, by rw [cl_0, cl_84]; decide, fun ν2 e2 => ?_⟩
  rw [cl_0, cl_84] at e2
  have I2 := I1.row (Or.inl ⟨rfl, rfl⟩) 5 84 (by decide) (by decide) e2
  refine f_68_45i _ _ ⟨by decide, by decide, by decide, by rw [cl_0, cl_84]; decide, by rw [cl_0, cl_84]; decide, fun ν3 e3 => ?_⟩
  rw [cl_0, cl_84] at e3
  have I3 := I2.row (Or.inl ⟨rfl, rfl⟩) 6 84 (by decide) (by decide) e3
  refine f_68_60i _ _ ?_
  have I4 := I3.fld (Or.inl ⟨rfl, rfl⟩) 2 4 (by decide) (by decide)
  exact f_68_68i _ _ ⟨rfl, hq _ I4⟩
theorem tk83i {m : Nat} {A : Nat → Nat} {μ0 μ : wm_M} {Q : wm_M → Prop} (hB : BA m A) (hR : RC 0 A μ0) (I : Inv 0 [(2, 4, 1), (6, 0, 84), (5, 0, 84), (4, 0, 36), (3, 0, 36)] 0 29 μ0 μ) (hq : ∀ ν, Inv 0 [(12, 0, 25), (11, 0, 25), (10, 0, 25), (9, 0, 25), (8, 0, 25), (2, 4, 1), (6, 0, 84), (5, 0, 84), (4, 0, 36), (3, 0, 36)] 0 29 μ0 ν → Q ν) : wm_OkV 0 83 [.ref 36, .ref 7] μ Q := by
  refine f_83i _ _ ⟨by decide, by decide, by decide, by rw [cl_0, cl_25]; decide, by rw [cl_0, cl_25]; decide, fun ν0 e0 => ?_⟩
  rw [cl_0, cl_25] at e0
  have I0 := I.row (Or.inl ⟨rfl, rfl⟩) 8 25 (by decide) (by decide) e0
  refine f_83_15i _ _ ⟨by decide, by decide, by decide, by rw [cl_0, cl_25]; decide, by rw [cl_0, cl_25]; decide, fun ν1 e1 => ?_⟩
  rw [cl_0, cl_25] at e1
  have I1 := I0.row (Or.inl ⟨rfl, rfl⟩) 9 25 (by decide) (by decide) e1
  refine f_83_30i _ _ ⟨by decide, by decide, by decide, by rw [cl_0, cl_25]; decide, by rw [cl_0, cl_25]; decide, fun ν2 e2 => ?_⟩
  rw [cl_0, cl_25] at e2
  have I2 := I1.row (Or.inl ⟨rfl, rfl⟩) 10 25 (by decide) (by decide) e2
  refine f_83_45i _ _ ⟨by decide, by decide, by decide, by rw [cl_0, cl_25]; decide, by rw [cl_0, cl_25]; decide, fun ν3 e3 => ?_⟩
  rw [cl_0, cl_25] at e3
  have I3 := I2.row (Or.inl ⟨rfl, rfl⟩) 11 25 (by decide) (by decide) e3
  refine f_83_60i _ _ ⟨by decide, by decide, by decide, by rw [cl_0, cl_25]; decide, by rw [cl_0, cl_25]; decide, fun ν4 e4 => ?_⟩
  rw [cl_0, cl_25] at e4
  have I4 := I3.row (Or.inl ⟨rfl, rfl⟩) 12 25 (by decide) (by decide) e4
  exact f_83_75i _ _ ⟨rfl, hq _ I4⟩
theorem tk1i {m : Nat} {A : Nat → Nat} {μ0 μ : wm_M} {Q : wm_M → Prop} (hB : BA m A) (hR : RC 0 A μ0) (I : Inv 0 [(12, 0, 25), (11, 0, 25), (10, 0, 25), (9, 0, 25), (8, 0, 25), (2, 4, 1), (6, 0, 84), (5, 0, 84), (4, 0, 36), (3, 0, 36)] 0 29 μ0 μ) (hq : ∀ ν, Inv 0 [(13, 14, 1), (13, 13, 1), (17, 0, 8), (16, 0, 8), (13, 10, 1), (15, 0, 3), (14, 0, 3), (13, 7, 1), (13, 6, 1), (13, 5, 1), (13, 4, 1), (13, 3, 1), (13, 2, 1), (13, 1, 1), (13, 0, 1), (12, 0, 25), (11, 0, 25), (10, 0, 25), (9, 0, 25), (8, 0, 25), (2, 4, 1), (6, 0, 84), (5, 0, 84), (4, 0, 36), (3, 0, 36)] 0 29 μ0 ν → Q ν) : wm_OkV 0 1 [.ref 42, .ref 13] μ Q := by
  have hp : μ.1 13 0 = 0 ∨ μ.1 13 0 = 1 := by
    rw [I.1 13 (by decide)]
    have q : μ0.1 13 0 = nI (A 2046) := hR.1 (13, 0, 2046, 1) (by decide) 0 (by decide)
    rw [q]; exact b2_ hB.put
  refine f_1i _ _ ⟨hp, ?_⟩
  have I0 := I.fld (Or.inl ⟨rfl, rfl⟩) 13 0 (by decide) (by decide)
  refine f_1_8i _ _ ?_
  have I1 := I0.fld (Or.inl ⟨rfl, rfl⟩) 13 1 (by decide) (by decide)
  refine f_1_16i _ _ ?_
  have I2 := I1.fld (Or.inl ⟨rfl, rfl⟩) 13 2 (by decide) (by decide)
  refine f_1_24i _ _ ?_
  have I3 := I2.fld (Or.inl ⟨rfl, rfl⟩) 13 3 (by decide) (by decide)
  refine f_1_32i _ _ ?_
  have I4 := I3.fld (Or.inl ⟨rfl, rfl⟩) 13 4 (by decide) (by decide)
  refine f_1_40i _ _ ?_
  have I5 := I4.fld (Or.inl ⟨rfl, rfl⟩) 13 5 (by decide) (by decide)
  refine f_1_48i _ _ ?_
  have I6 := I5.fld (Or.inl ⟨rfl, rfl⟩) 13 6 (by decide) (by decide)
  refine f_1_56i _ _ ?_
  have I7 := I6.fld (Or.inl ⟨rfl, rfl⟩) 13 7 (by decide) (by decide)
  refine f_1_64i _ _ ⟨by decide, by decide, by decide, by rw [cl_0, cl_3]; decide, by rw [cl_0, cl_3]; decide, fun ν8 e8 => ?_⟩
  rw [cl_0, cl_3] at e8
  have I8 := I7.row (Or.inl ⟨rfl, rfl⟩) 14 3 (by decide) (by decide) e8
  have hb9 : ∀ i, i < (((3) : Int32)).toNatClampNeg → ν8.1 15 (((0 : Int32)).toNatClampNeg + i) = 0 ∨ ν8.1 15 (((0 : Int32)).toNatClampNeg + i) = 1 := fun i hi => by
    rw [cl_3] at hi
    rw [cl_0, I8.1 15 (by decide)]
    have q := hR.1 (15, 0, 452, 3) (by decide) i hi
    have q : μ0.1 15 (0 + i) = nI (A (452 + i)) := q
    rw [q]; exact b2_ (by exact hB.torn hi)
  refine f_1_78i _ _ ⟨by decide, by decide, by decide, by rw [cl_0, cl_3]; decide, by rw [cl_0, cl_3]; decide, hb9, fun ν9 e9 => ?_⟩
  rw [cl_0, cl_3] at e9
  have I9 := I8.row (Or.inl ⟨rfl, rfl⟩) 15 3 (by decide) (by decide) e9
  refine f_1_92i _ _ ?_
  have I10 := I9.fld (Or.inl ⟨rfl, rfl⟩) 13 10 (by decide) (by decide)
  refine f_1_100i _ _ ⟨by decide, by decide, by decide, by rw [cl_0, cl_8]; decide, by rw [cl_0, cl_8]; decide, fun ν11 e11 => ?_⟩
  rw [cl_0, cl_8] at e11
  have I11 := I10.row (Or.inl ⟨rfl, rfl⟩) 16 8 (by decide) (by decide) e11
  have hb12 : ∀ i, i < (((8) : Int32)).toNatClampNeg → ν11.1 17 (((0 : Int32)).toNatClampNeg + i) = 0 ∨ ν11.1 17 (((0 : Int32)).toNatClampNeg + i) = 1 := fun i hi => by
    rw [cl_8] at hi
    rw [cl_0, I11.1 17 (by decide)]
    have q := hR.1 (17, 0, 463, 8) (by decide) i hi
    have q : μ0.1 17 (0 + i) = nI (A (463 + i)) := q
    rw [q]; exact b2_ (by exact hB.sleeps hi)
  refine f_1_115i _ _ ⟨by decide, by decide, by decide, by rw [cl_0, cl_8]; decide, by rw [cl_0, cl_8]; decide, hb12, fun ν12 e12 => ?_⟩
  rw [cl_0, cl_8] at e12
  have I12 := I11.row (Or.inl ⟨rfl, rfl⟩) 17 8 (by decide) (by decide) e12
  refine f_1_130i _ _ ?_
  have I13 := I12.fld (Or.inl ⟨rfl, rfl⟩) 13 13 (by decide) (by decide)
  refine f_1_138i _ _ ?_
  have I14 := I13.fld (Or.inl ⟨rfl, rfl⟩) 13 14 (by decide) (by decide)
  exact f_1_146i _ _ ⟨rfl, hq _ I14⟩
theorem tk60i {m : Nat} {A : Nat → Nat} {μ0 μ : wm_M} {Q : wm_M → Prop} (hB : BA m A) (hR : RC 0 A μ0) (I : Inv 0 [(13, 14, 1), (13, 13, 1), (17, 0, 8), (16, 0, 8), (13, 10, 1), (15, 0, 3), (14, 0, 3), (13, 7, 1), (13, 6, 1), (13, 5, 1), (13, 4, 1), (13, 3, 1), (13, 2, 1), (13, 1, 1), (13, 0, 1), (12, 0, 25), (11, 0, 25), (10, 0, 25), (9, 0, 25), (8, 0, 25), (2, 4, 1), (6, 0, 84), (5, 0, 84), (4, 0, 36), (3, 0, 36)] 0 29 μ0 μ) (hq : ∀ ν, Inv (A 2042 * 120) [(18, 6, 1), (23, 0, 12), (22, 0, 12), (21, 0, 12), (20, 0, 12), (19, 0, 12), (13, 14, 1), (13, 13, 1), (17, 0, 8), (16, 0, 8), (13, 10, 1), (15, 0, 3), (14, 0, 3), (13, 7, 1), (13, 6, 1), (13, 5, 1), (13, 4, 1), (13, 3, 1), (13, 2, 1), (13, 1, 1), (13, 0, 1), (12, 0, 25), (11, 0, 25), (10, 0, 25), (9, 0, 25), (8, 0, 25), (2, 4, 1), (6, 0, 84), (5, 0, 84), (4, 0, 36), (3, 0, 36)] 0 29 μ0 ν → Q ν) : wm_OkV 0 60 [.ref 47, .ref 18] μ Q := by
  refine f_60i _ _ ⟨by decide, by decide, by decide, by rw [cl_0, cl_12]; decide, by rw [cl_0, cl_12]; decide, fun ν0 e0 => ?_⟩
  rw [cl_0, cl_12] at e0
  have I0 := I.row (Or.inl ⟨rfl, rfl⟩) 19 12 (by decide) (by decide) e0
  refine f_60_15i _ _ ⟨by decide, by decide, by decide, by rw [cl_0, cl_12]; decide, by rw [cl_0, cl_12]; decide, fun ν1 e1 => ?_⟩
  rw [cl_0, cl_12] at e1
  have I1 := I0.row (Or.inl ⟨rfl, rfl⟩) 20 12 (by decide) (by decide) e1
  refine f_60_30i _ _ ⟨by decide, by decide, by decide, by rw [cl_0, cl_12]; decide, by rw [cl_0, cl_12]; decide, fun ν2 e2 => ?_⟩
  rw [cl_0, cl_12] at e2
  have I2 := I1.row (Or.inl ⟨rfl, rfl⟩) 21 12 (by decide) (by decide) e2
  refine f_60_45i _ _ ⟨by decide, by decide, by decide, by rw [cl_0, cl_12]; decide, by rw [cl_0, cl_12]; decide, fun ν3 e3 => ?_⟩
  rw [cl_0, cl_12] at e3
  have I3 := I2.row (Or.inl ⟨rfl, rfl⟩) 22 12 (by decide) (by decide) e3
  refine f_60_60i _ _ ⟨by decide, by decide, by decide, by rw [cl_0, cl_12]; decide, by rw [cl_0, cl_12]; decide, fun ν4 e4 => ?_⟩
  rw [cl_0, cl_12] at e4
  have I4 := I3.row (Or.inl ⟨rfl, rfl⟩) 23 12 (by decide) (by decide) e4
  have er : ν4.1 18 6 = nI (A 2042) := by
    rw [I4.1 18 (by decide)]; exact hR.1 (18, 6, 2042, 1) (by decide) 0 (by decide)
  have h12 := hB.rules
  refine f_60_75i _ _ ?_
  rw [er, show nI (A 2042) * (120 : Int32) = nI (A 2042 * 120) from pk_mul _ 120, nI_clamp (show A 2042 * 120 < 2 ^ 31 by omega), cl_0]
  refine ⟨by decide, by decide, nI_pos (by omega), by omega, by omega, fun ν5 e5 => ?_⟩
  have I5 := I4.codes (Or.inl ⟨rfl, rfl⟩) _ (by decide) e5
  refine f_60_95i _ _ ?_
  have I6 := I5.fld (Or.inl ⟨rfl, rfl⟩) 18 6 (by decide) (by decide)
  exact f_60_103i _ _ ⟨rfl, hq _ I6⟩
def tkLi : List (Nat × Nat × Nat) := [(29, 0, 36), (28, 0, 6), (27, 0, 3), (1, 5, 1), (1, 4, 1), (18, 6, 1), (23, 0, 12), (22, 0, 12), (21, 0, 12), (20, 0, 12), (19, 0, 12), (13, 14, 1), (13, 13, 1), (17, 0, 8), (16, 0, 8), (13, 10, 1), (15, 0, 3), (14, 0, 3), (13, 7, 1), (13, 6, 1), (13, 5, 1), (13, 4, 1), (13, 3, 1), (13, 2, 1), (13, 1, 1), (13, 0, 1), (12, 0, 25), (11, 0, 25), (10, 0, 25), (9, 0, 25), (8, 0, 25), (2, 4, 1), (6, 0, 84), (5, 0, 84), (4, 0, 36), (3, 0, 36)]
theorem tk46i {m : Nat} {A : Nat → Nat} {μ : wm_M} {Q : wm_M → Prop} (hB : BA m A) (hR : RC 0 A μ) (hq : ∀ ν, Inv (A 2042 * 120) tkLi 0 29 μ ν → Q ν) : wm_OkV 0 46 [.ref 30, .ref 1] μ Q := by
  refine f_46i _ _ (tk68i hB hR (Inv.start 0 29 μ) (fun ν0 I0 => f_46_11i _ _ (tk83i hB hR I0 (fun ν1 I1 => f_46_22i _ _ (tk1i hB hR I1 (fun ν2 I2 => f_46_33i _ _ (tk60i hB hR I2 (fun ν3 I3 => f_46_44i _ _ (f_46_52i _ _ ?_)))))))))
  have I4 := (I3.fld (Or.inl ⟨rfl, rfl⟩) 1 4 (by decide) (by decide)).fld (Or.inl ⟨rfl, rfl⟩) 1 5 (by decide) (by decide)
  refine f_46_60i _ _ ⟨by decide, by decide, by decide, by rw [cl_0, cl_3]; decide, by rw [cl_0, cl_3]; decide, fun κ27 e27 => ?_⟩
  rw [cl_0, cl_3] at e27
  have J27 := I4.row (Or.inl ⟨rfl, rfl⟩) 27 3 (by decide) (by decide) e27
  refine f_46_74i _ _ ⟨by decide, by decide, by decide, by rw [cl_0, cl_6]; decide, by rw [cl_0, cl_6]; decide, fun κ28 e28 => ?_⟩
  rw [cl_0, cl_6] at e28
  have J28 := J27.row (Or.inl ⟨rfl, rfl⟩) 28 6 (by decide) (by decide) e28
  refine f_46_89i _ _ ⟨by decide, by decide, by decide, by rw [cl_0, cl_36]; decide, by rw [cl_0, cl_36]; decide, fun κ29 e29 => ?_⟩
  rw [cl_0, cl_36] at e29
  have J29 := J28.row (Or.inl ⟨rfl, rfl⟩) 29 36 (by decide) (by decide) e29
  exact f_46_104i _ _ ⟨rfl, hq _ J29⟩
theorem tk68b {m : Nat} {A : Nat → Nat} {μ0 μ : wm_M} {Q : wm_M → Prop} (hB : BA m A) (hR : RC 29 A μ0) (I : Inv 0 [] 29 0 μ0 μ) (hq : ∀ ν, Inv 0 [(2, 4, 1), (6, 0, 84), (5, 0, 84), (4, 0, 36), (3, 0, 36)] 29 0 μ0 ν → Q ν) : wm_OkV 0 68 [.ref 2, .ref 31] μ Q := by
  have hb0 : ∀ i, i < (((36) : Int32)).toNatClampNeg → μ.1 32 (((0 : Int32)).toNatClampNeg + i) = 0 ∨ μ.1 32 (((0 : Int32)).toNatClampNeg + i) = 1 := fun i hi => by
    rw [cl_36] at hi
    rw [cl_0, I.1 32 (by decide)]
    have q := hR.1 (3, 0, 0, 36) (by decide) i hi
    have q : μ0.1 32 (0 + i) = nI (A (0 + i)) := q
    rw [q]; exact b2_ (by rw [Nat.zero_add]; exact hB.land hi)
  refine f_68b _ _ ⟨by decide, by decide, by decide, by rw [cl_0, cl_36]; decide, by rw [cl_0, cl_36]; decide, hb0, fun ν0 e0 => ?_⟩
  rw [cl_0, cl_36] at e0
  have I0 := I.row (Or.inr ⟨rfl, rfl⟩) 3 36 (by decide) (by decide) e0
  refine f_68_15b _ _ ⟨by decide, by decide, by decide, by rw [cl_0, cl_36]; decide, by rw [cl_0, cl_36]; decide, fun ν1 e1 => ?_⟩
  rw [cl_0, cl_36] at e1
  have I1 := I0.row (Or.inr ⟨rfl, rfl⟩) 4 36 (by decide) (by decide) e1
  refine f_68_30b _ _ ⟨by decide, by decide, by decide, by rw [cl_0, cl_84]; decide, by rw [cl_0, cl_84]; decide, fun ν2 e2 => ?_⟩
  rw [cl_0, cl_84] at e2
  have I2 := I1.row (Or.inr ⟨rfl, rfl⟩) 5 84 (by decide) (by decide) e2
  refine f_68_45b _ _ ⟨by decide, by decide, by decide, by rw [cl_0, cl_84]; decide, by rw [cl_0, cl_84]; decide, fun ν3 e3 => ?_⟩
  rw [cl_0, cl_84] at e3
  have I3 := I2.row (Or.inr ⟨rfl, rfl⟩) 6 84 (by decide) (by decide) e3
  refine f_68_60b _ _ ?_
  have I4 := I3.fld (Or.inr ⟨rfl, rfl⟩) 2 4 (by decide) (by decide)
  exact f_68_68b _ _ ⟨rfl, hq _ I4⟩
theorem tk83b {m : Nat} {A : Nat → Nat} {μ0 μ : wm_M} {Q : wm_M → Prop} (hB : BA m A) (hR : RC 29 A μ0) (I : Inv 0 [(2, 4, 1), (6, 0, 84), (5, 0, 84), (4, 0, 36), (3, 0, 36)] 29 0 μ0 μ) (hq : ∀ ν, Inv 0 [(12, 0, 25), (11, 0, 25), (10, 0, 25), (9, 0, 25), (8, 0, 25), (2, 4, 1), (6, 0, 84), (5, 0, 84), (4, 0, 36), (3, 0, 36)] 29 0 μ0 ν → Q ν) : wm_OkV 0 83 [.ref 7, .ref 36] μ Q := by
  refine f_83b _ _ ⟨by decide, by decide, by decide, by rw [cl_0, cl_25]; decide, by rw [cl_0, cl_25]; decide, fun ν0 e0 => ?_⟩
  rw [cl_0, cl_25] at e0
  have I0 := I.row (Or.inr ⟨rfl, rfl⟩) 8 25 (by decide) (by decide) e0
  refine f_83_15b _ _ ⟨by decide, by decide, by decide, by rw [cl_0, cl_25]; decide, by rw [cl_0, cl_25]; decide, fun ν1 e1 => ?_⟩
  rw [cl_0, cl_25] at e1
  have I1 := I0.row (Or.inr ⟨rfl, rfl⟩) 9 25 (by decide) (by decide) e1
  refine f_83_30b _ _ ⟨by decide, by decide, by decide, by rw [cl_0, cl_25]; decide, by rw [cl_0, cl_25]; decide, fun ν2 e2 => ?_⟩
  rw [cl_0, cl_25] at e2
  have I2 := I1.row (Or.inr ⟨rfl, rfl⟩) 10 25 (by decide) (by decide) e2
  refine f_83_45b _ _ ⟨by decide, by decide, by decide, by rw [cl_0, cl_25]; decide, by rw [cl_0, cl_25]; decide, fun ν3 e3 => ?_⟩
  rw [cl_0, cl_25] at e3
  have I3 := I2.row (Or.inr ⟨rfl, rfl⟩) 11 25 (by decide) (by decide) e3
  refine f_83_60b _ _ ⟨by decide, by decide, by decide, by rw [cl_0, cl_25]; decide, by rw [cl_0, cl_25]; decide, fun ν4 e4 => ?_⟩
  rw [cl_0, cl_25] at e4
  have I4 := I3.row (Or.inr ⟨rfl, rfl⟩) 12 25 (by decide) (by decide) e4
  exact f_83_75b _ _ ⟨rfl, hq _ I4⟩
theorem tk1b {m : Nat} {A : Nat → Nat} {μ0 μ : wm_M} {Q : wm_M → Prop} (hB : BA m A) (hR : RC 29 A μ0) (I : Inv 0 [(12, 0, 25), (11, 0, 25), (10, 0, 25), (9, 0, 25), (8, 0, 25), (2, 4, 1), (6, 0, 84), (5, 0, 84), (4, 0, 36), (3, 0, 36)] 29 0 μ0 μ) (hq : ∀ ν, Inv 0 [(13, 14, 1), (13, 13, 1), (17, 0, 8), (16, 0, 8), (13, 10, 1), (15, 0, 3), (14, 0, 3), (13, 7, 1), (13, 6, 1), (13, 5, 1), (13, 4, 1), (13, 3, 1), (13, 2, 1), (13, 1, 1), (13, 0, 1), (12, 0, 25), (11, 0, 25), (10, 0, 25), (9, 0, 25), (8, 0, 25), (2, 4, 1), (6, 0, 84), (5, 0, 84), (4, 0, 36), (3, 0, 36)] 29 0 μ0 ν → Q ν) : wm_OkV 0 1 [.ref 13, .ref 42] μ Q := by
  have hp : μ.1 42 0 = 0 ∨ μ.1 42 0 = 1 := by
    rw [I.1 42 (by decide)]
    have q : μ0.1 42 0 = nI (A 2046) := hR.1 (13, 0, 2046, 1) (by decide) 0 (by decide)
    rw [q]; exact b2_ hB.put
  refine f_1b _ _ ⟨hp, ?_⟩
  have I0 := I.fld (Or.inr ⟨rfl, rfl⟩) 13 0 (by decide) (by decide)
  refine f_1_8b _ _ ?_
  have I1 := I0.fld (Or.inr ⟨rfl, rfl⟩) 13 1 (by decide) (by decide)
  refine f_1_16b _ _ ?_
  have I2 := I1.fld (Or.inr ⟨rfl, rfl⟩) 13 2 (by decide) (by decide)
  refine f_1_24b _ _ ?_
  have I3 := I2.fld (Or.inr ⟨rfl, rfl⟩) 13 3 (by decide) (by decide)
  refine f_1_32b _ _ ?_
  have I4 := I3.fld (Or.inr ⟨rfl, rfl⟩) 13 4 (by decide) (by decide)
  refine f_1_40b _ _ ?_
  have I5 := I4.fld (Or.inr ⟨rfl, rfl⟩) 13 5 (by decide) (by decide)
  refine f_1_48b _ _ ?_
  have I6 := I5.fld (Or.inr ⟨rfl, rfl⟩) 13 6 (by decide) (by decide)
  refine f_1_56b _ _ ?_
  have I7 := I6.fld (Or.inr ⟨rfl, rfl⟩) 13 7 (by decide) (by decide)
  refine f_1_64b _ _ ⟨by decide, by decide, by decide, by rw [cl_0, cl_3]; decide, by rw [cl_0, cl_3]; decide, fun ν8 e8 => ?_⟩
  rw [cl_0, cl_3] at e8
  have I8 := I7.row (Or.inr ⟨rfl, rfl⟩) 14 3 (by decide) (by decide) e8
  have hb9 : ∀ i, i < (((3) : Int32)).toNatClampNeg → ν8.1 44 (((0 : Int32)).toNatClampNeg + i) = 0 ∨ ν8.1 44 (((0 : Int32)).toNatClampNeg + i) = 1 := fun i hi => by
    rw [cl_3] at hi
    rw [cl_0, I8.1 44 (by decide)]
    have q := hR.1 (15, 0, 452, 3) (by decide) i hi
    have q : μ0.1 44 (0 + i) = nI (A (452 + i)) := q
    rw [q]; exact b2_ (by exact hB.torn hi)
  refine f_1_78b _ _ ⟨by decide, by decide, by decide, by rw [cl_0, cl_3]; decide, by rw [cl_0, cl_3]; decide, hb9, fun ν9 e9 => ?_⟩
  rw [cl_0, cl_3] at e9
  have I9 := I8.row (Or.inr ⟨rfl, rfl⟩) 15 3 (by decide) (by decide) e9
  refine f_1_92b _ _ ?_
  have I10 := I9.fld (Or.inr ⟨rfl, rfl⟩) 13 10 (by decide) (by decide)
  refine f_1_100b _ _ ⟨by decide, by decide, by decide, by rw [cl_0, cl_8]; decide, by rw [cl_0, cl_8]; decide, fun ν11 e11 => ?_⟩
  rw [cl_0, cl_8] at e11
  have I11 := I10.row (Or.inr ⟨rfl, rfl⟩) 16 8 (by decide) (by decide) e11
  have hb12 : ∀ i, i < (((8) : Int32)).toNatClampNeg → ν11.1 46 (((0 : Int32)).toNatClampNeg + i) = 0 ∨ ν11.1 46 (((0 : Int32)).toNatClampNeg + i) = 1 := fun i hi => by
    rw [cl_8] at hi
    rw [cl_0, I11.1 46 (by decide)]
    have q := hR.1 (17, 0, 463, 8) (by decide) i hi
    have q : μ0.1 46 (0 + i) = nI (A (463 + i)) := q
    rw [q]; exact b2_ (by exact hB.sleeps hi)
  refine f_1_115b _ _ ⟨by decide, by decide, by decide, by rw [cl_0, cl_8]; decide, by rw [cl_0, cl_8]; decide, hb12, fun ν12 e12 => ?_⟩
  rw [cl_0, cl_8] at e12
  have I12 := I11.row (Or.inr ⟨rfl, rfl⟩) 17 8 (by decide) (by decide) e12
  refine f_1_130b _ _ ?_
  have I13 := I12.fld (Or.inr ⟨rfl, rfl⟩) 13 13 (by decide) (by decide)
  refine f_1_138b _ _ ?_
  have I14 := I13.fld (Or.inr ⟨rfl, rfl⟩) 13 14 (by decide) (by decide)
  exact f_1_146b _ _ ⟨rfl, hq _ I14⟩
theorem tk60b {m : Nat} {A : Nat → Nat} {μ0 μ : wm_M} {Q : wm_M → Prop} (hB : BA m A) (hR : RC 29 A μ0) (I : Inv 0 [(13, 14, 1), (13, 13, 1), (17, 0, 8), (16, 0, 8), (13, 10, 1), (15, 0, 3), (14, 0, 3), (13, 7, 1), (13, 6, 1), (13, 5, 1), (13, 4, 1), (13, 3, 1), (13, 2, 1), (13, 1, 1), (13, 0, 1), (12, 0, 25), (11, 0, 25), (10, 0, 25), (9, 0, 25), (8, 0, 25), (2, 4, 1), (6, 0, 84), (5, 0, 84), (4, 0, 36), (3, 0, 36)] 29 0 μ0 μ) (hq : ∀ ν, Inv (A 2042 * 120) [(18, 6, 1), (23, 0, 12), (22, 0, 12), (21, 0, 12), (20, 0, 12), (19, 0, 12), (13, 14, 1), (13, 13, 1), (17, 0, 8), (16, 0, 8), (13, 10, 1), (15, 0, 3), (14, 0, 3), (13, 7, 1), (13, 6, 1), (13, 5, 1), (13, 4, 1), (13, 3, 1), (13, 2, 1), (13, 1, 1), (13, 0, 1), (12, 0, 25), (11, 0, 25), (10, 0, 25), (9, 0, 25), (8, 0, 25), (2, 4, 1), (6, 0, 84), (5, 0, 84), (4, 0, 36), (3, 0, 36)] 29 0 μ0 ν → Q ν) : wm_OkV 0 60 [.ref 18, .ref 47] μ Q := by
  refine f_60b _ _ ⟨by decide, by decide, by decide, by rw [cl_0, cl_12]; decide, by rw [cl_0, cl_12]; decide, fun ν0 e0 => ?_⟩
  rw [cl_0, cl_12] at e0
  have I0 := I.row (Or.inr ⟨rfl, rfl⟩) 19 12 (by decide) (by decide) e0
  refine f_60_15b _ _ ⟨by decide, by decide, by decide, by rw [cl_0, cl_12]; decide, by rw [cl_0, cl_12]; decide, fun ν1 e1 => ?_⟩
  rw [cl_0, cl_12] at e1
  have I1 := I0.row (Or.inr ⟨rfl, rfl⟩) 20 12 (by decide) (by decide) e1
  refine f_60_30b _ _ ⟨by decide, by decide, by decide, by rw [cl_0, cl_12]; decide, by rw [cl_0, cl_12]; decide, fun ν2 e2 => ?_⟩
  rw [cl_0, cl_12] at e2
  have I2 := I1.row (Or.inr ⟨rfl, rfl⟩) 21 12 (by decide) (by decide) e2
  refine f_60_45b _ _ ⟨by decide, by decide, by decide, by rw [cl_0, cl_12]; decide, by rw [cl_0, cl_12]; decide, fun ν3 e3 => ?_⟩
  rw [cl_0, cl_12] at e3
  have I3 := I2.row (Or.inr ⟨rfl, rfl⟩) 22 12 (by decide) (by decide) e3
  refine f_60_60b _ _ ⟨by decide, by decide, by decide, by rw [cl_0, cl_12]; decide, by rw [cl_0, cl_12]; decide, fun ν4 e4 => ?_⟩
  rw [cl_0, cl_12] at e4
  have I4 := I3.row (Or.inr ⟨rfl, rfl⟩) 23 12 (by decide) (by decide) e4
  have er : ν4.1 47 6 = nI (A 2042) := by
    rw [I4.1 47 (by decide)]; exact hR.1 (18, 6, 2042, 1) (by decide) 0 (by decide)
  have h12 := hB.rules
  refine f_60_75b _ _ ?_
  rw [er, show nI (A 2042) * (120 : Int32) = nI (A 2042 * 120) from pk_mul _ 120, nI_clamp (show A 2042 * 120 < 2 ^ 31 by omega), cl_0]
  refine ⟨by decide, by decide, nI_pos (by omega), by omega, by omega, fun ν5 e5 => ?_⟩
  have I5 := I4.codes (Or.inr ⟨rfl, rfl⟩) _ (by decide) e5
  refine f_60_95b _ _ ?_
  have I6 := I5.fld (Or.inr ⟨rfl, rfl⟩) 18 6 (by decide) (by decide)
  exact f_60_103b _ _ ⟨rfl, hq _ I6⟩
def tkLb : List (Nat × Nat × Nat) := [(29, 0, 36), (28, 0, 6), (27, 0, 3), (1, 5, 1), (1, 4, 1), (18, 6, 1), (23, 0, 12), (22, 0, 12), (21, 0, 12), (20, 0, 12), (19, 0, 12), (13, 14, 1), (13, 13, 1), (17, 0, 8), (16, 0, 8), (13, 10, 1), (15, 0, 3), (14, 0, 3), (13, 7, 1), (13, 6, 1), (13, 5, 1), (13, 4, 1), (13, 3, 1), (13, 2, 1), (13, 1, 1), (13, 0, 1), (12, 0, 25), (11, 0, 25), (10, 0, 25), (9, 0, 25), (8, 0, 25), (2, 4, 1), (6, 0, 84), (5, 0, 84), (4, 0, 36), (3, 0, 36)]
theorem tk46b {m : Nat} {A : Nat → Nat} {μ : wm_M} {Q : wm_M → Prop} (hB : BA m A) (hR : RC 29 A μ) (hq : ∀ ν, Inv (A 2042 * 120) tkLb 29 0 μ ν → Q ν) : wm_OkV 0 46 [.ref 1, .ref 30] μ Q := by
  refine f_46b _ _ (tk68b hB hR (Inv.start 29 0 μ) (fun ν0 I0 => f_46_11b _ _ (tk83b hB hR I0 (fun ν1 I1 => f_46_22b _ _ (tk1b hB hR I1 (fun ν2 I2 => f_46_33b _ _ (tk60b hB hR I2 (fun ν3 I3 => f_46_44b _ _ (f_46_52b _ _ ?_)))))))))
  have I4 := (I3.fld (Or.inr ⟨rfl, rfl⟩) 1 4 (by decide) (by decide)).fld (Or.inr ⟨rfl, rfl⟩) 1 5 (by decide) (by decide)
  refine f_46_60b _ _ ⟨by decide, by decide, by decide, by rw [cl_0, cl_3]; decide, by rw [cl_0, cl_3]; decide, fun κ27 e27 => ?_⟩
  rw [cl_0, cl_3] at e27
  have J27 := I4.row (Or.inr ⟨rfl, rfl⟩) 27 3 (by decide) (by decide) e27
  refine f_46_74b _ _ ⟨by decide, by decide, by decide, by rw [cl_0, cl_6]; decide, by rw [cl_0, cl_6]; decide, fun κ28 e28 => ?_⟩
  rw [cl_0, cl_6] at e28
  have J28 := J27.row (Or.inr ⟨rfl, rfl⟩) 28 6 (by decide) (by decide) e28
  refine f_46_89b _ _ ⟨by decide, by decide, by decide, by rw [cl_0, cl_36]; decide, by rw [cl_0, cl_36]; decide, fun κ29 e29 => ?_⟩
  rw [cl_0, cl_36] at e29
  have J29 := J28.row (Or.inr ⟨rfl, rfl⟩) 29 36 (by decide) (by decide) e29
  exact f_46_104b _ _ ⟨rfl, hq _ J29⟩
theorem tkL_same : tkLi = tkLb := rfl
theorem tkL_rcT : ∀ q ∈ rcT, (q.1, q.2.1, q.2.2.2) ∈ tkLi := by decide +kernel
theorem Inv.rc {n s d : Nat} {A : Nat → Nat} {μ ν : wm_M} (h : Inv (A 2042 * 120) tkLi s d μ ν) (hB : BA n A) (hR : RC s A μ) : RC d A ν := by
  obtain ⟨_, h2, h3⟩ := h
  obtain ⟨r1, ⟨g1, g2, g3, g4, g5⟩, r3⟩ := hR
  have cp : ∀ c N, (c, 0, N) ∈ tkLi → ∀ i, i < N → ν.1 (c + d) i = μ.1 (c + s) i := fun c N hc i hi => by
    have q := h2 (c, 0, N) hc i hi
    have q : ν.1 (c + d) (0 + i) = μ.1 (c + s) (0 + i) := q
    rw [Nat.zero_add] at q; exact q
  have h12 := hB.rules
  refine ⟨fun q hq i hi => ?_, ⟨fun i hi => ?_, fun i hi => ?_, fun i hi => ?_, fun r w hr hw => ?_, ?_⟩, fun k hk => ?_⟩
  · have e := h2 _ (tkL_rcT q hq) i hi
    exact e.trans (r1 q hq i hi)
  · rw [cp 6 84 (by decide) i hi]; exact g1 i hi
  · rw [cp 11 25 (by decide) i hi]; exact g2 i hi
  · rw [cp 12 25 (by decide) i hi]; exact g3 i hi
  · rw [cp 29 36 (by decide) _ (by omega)]; exact g4 r w hr hw
  · have e := h2 (13, 14, 1) (by decide) 0 (by decide)
    exact e.trans g5
  · obtain ⟨a0, a1, a2, a3, a4, a5, a6, a7⟩ := r3 k hk
    refine ⟨a0, a1, ?_, ?_, ?_, ?_, ?_, fun i hi => ?_⟩
    · rw [cp 19 12 (by decide) k (by omega)]; exact a2
    · rw [cp 20 12 (by decide) k (by omega)]; exact a3
    · rw [cp 21 12 (by decide) k (by omega)]; exact a4
    · rw [cp 22 12 (by decide) k (by omega)]; exact a5
    · rw [cp 23 12 (by decide) k (by omega)]; exact a6
    · rw [h3 _ (by have := cdl A k a0 a1; omega)]; exact a7 i hi

/-! where the frames look -/
theorem kcl_lt : ∀ q ∈ kcl, 3 ≤ q ∧ q < 30 := by decide
theorem kA_in2 {o c i : Nat} (h : kA o c i = true) : 1 + o ≤ c ∧ c ≤ 29 + o := by
  unfold kA at h
  simp only [Bool.or_eq_true, Bool.and_eq_true, List.any_eq_true] at h
  rcases h with ((⟨q, hq, e⟩ | e) | e) | e
  · have := kcl_lt q hq; have := Nat.eq_of_beq_eq_true e; omega
  · have := Nat.eq_of_beq_eq_true e.1; omega
  · have := Nat.eq_of_beq_eq_true e.1; omega
  · have := Nat.eq_of_beq_eq_true e.1; omega
theorem kV_in {c i : Nat} (h : kV c i = true) : 62 ≤ c ∧ c ≤ 78 := by
  unfold kV at h
  simp only [Bool.or_eq_true, Bool.and_eq_true, List.any_eq_true] at h
  have k : ∀ q ∈ [63, 64, 65, 66, 67, 76, 77, 78], 62 ≤ q ∧ q ≤ 78 := by decide
  rcases h with (⟨q, hq, e⟩ | e) | e
  · have := k q hq; have := Nat.eq_of_beq_eq_true e; omega
  · have := Nat.eq_of_beq_eq_true e.1; omega
  · have := Nat.eq_of_beq_eq_true e.1; omega
theorem kT_in {c i : Nat} (h : kT c i = true) : 59 ≤ c := by
  unfold kT at h
  simp only [Bool.or_eq_true, Bool.and_eq_true, Nat.beq_eq] at h
  omega
theorem kN_in {c i : Nat} (h : kN c i = true) : c = 0 ∨ 59 ≤ c := by
  unfold kN at h
  simp only [Bool.or_eq_true, Bool.and_eq_true, Nat.beq_eq] at h
  omega
theorem kF_in {c i : Nat} (h : kF c i = true) : 59 ≤ c := by
  unfold kF at h
  simp only [Bool.or_eq_true, Nat.beq_eq] at h
  omega
theorem kB_in {c i : Nat} (h : kB c i = true) : 59 ≤ c := by
  have := Nat.eq_of_beq_eq_true h
  omega
theorem kI_in {c i : Nat} (h : kI c i = true) : c = 0 ∨ 30 ≤ c := by
  unfold kI at h
  simp only [Bool.or_eq_true, Bool.and_eq_true, Nat.beq_eq] at h
  rcases h with ((h | h) | h) | h
  · omega
  · omega
  · omega
  · have := kA_in2 h; omega
theorem kO_in {c i : Nat} (h : kO c i = true) : c = 0 ∨ 30 ≤ c := by
  unfold kO at h
  simp only [Bool.or_eq_true] at h
  rcases h with (((h | h) | h) | h) | h
  · have := kT_in h; omega
  · have := kN_in h; omega
  · have := kF_in h; omega
  · exact kI_in h
  · have := kB_in h; omega
theorem KM_in {c i : Nat} (h : KM c i = true) : c = 0 ∨ 30 ≤ c := by
  unfold KM at h
  simp only [Bool.or_eq_true] at h
  rcases h with (h | h) | h
  · have := Nat.le_of_ble_eq_true h; omega
  · exact kO_in h
  · have := kV_in h; omega
theorem l_303 {Q : Option Value → wm_M → Prop} {μ : wm_M} (hq : wm_Wp 0 303 27 [.ref 89, .null] (wm_sr μ 110 (va_cpy (μ.1 91) (μ.1 110) 0 0 2060)) Q) : wm_Wp 0 303 2 [.ref 89, .int 0] μ Q := by
  have l : ∀ k i : Nat, i + k = 2060 → wm_Wp 0 303 2 [.ref 89, .int (nI i)] (wm_sr μ 110 (va_cpy (μ.1 91) (μ.1 110) 0 0 i)) Q := by
    intro k
    induction k with
    | zero => intro i hi; rw [show i = 2060 by omega]; exact w_303_2 _ _ _ ⟨fun _ => hq, fun z => absurd (nI_le (Nat.le_refl 2060) (by decide)) z⟩
    | succ k ih =>
      intro i hi
      refine w_303_2 _ _ _ ⟨fun z => absurd z (nI_ge (a := i) (b := 2060) (by omega) (by decide)), fun _ => ?_⟩
      rw [nI_clamp (show i < 2 ^ 31 by omega), sr_ne _ _ (by decide), si_sr, nI_1]
      refine ⟨vp_in_nI (by omega) (by decide), vp_in_nI (by omega) (by decide), ?_⟩
      rw [cpy_s]
      exact ih (i + 1) (by omega)
  have l0 := l 2060 0 (by omega)
  have e : va_cpy (μ.1 91) (μ.1 110) 0 0 0 = μ.1 110 := by funext k; exact if_neg (by omega)
  rw [e, sr_self] at l0
  exact l0
theorem l_304 {Q : Option Value → wm_M → Prop} {μ : wm_M} (hq : wm_Wp 0 304 41 [.ref 89, .null] (wm_sr μ 91 (va_cpy (μ.1 110) (μ.1 91) 0 0 2060)) Q) : wm_Wp 0 304 16 [.ref 89, .int 0] μ Q := by
  have l : ∀ k i : Nat, i + k = 2060 → wm_Wp 0 304 16 [.ref 89, .int (nI i)] (wm_sr μ 91 (va_cpy (μ.1 110) (μ.1 91) 0 0 i)) Q := by
    intro k
    induction k with
    | zero => intro i hi; rw [show i = 2060 by omega]; exact w_304_16 _ _ _ ⟨fun _ => hq, fun z => absurd (nI_le (Nat.le_refl 2060) (by decide)) z⟩
    | succ k ih =>
      intro i hi
      refine w_304_16 _ _ _ ⟨fun z => absurd z (nI_ge (a := i) (b := 2060) (by omega) (by decide)), fun _ => ?_⟩
      rw [nI_clamp (show i < 2 ^ 31 by omega), sr_ne _ _ (by decide), si_sr, nI_1]
      refine ⟨vp_in_nI (by omega) (by decide), vp_in_nI (by omega) (by decide), ?_⟩
      rw [cpy_s]
      exact ih (i + 1) (by omega)
  have l0 := l 2060 0 (by omega)
  have e : va_cpy (μ.1 110) (μ.1 91) 0 0 0 = μ.1 91 := by funext k; exact if_neg (by omega)
  rw [e, sr_self] at l0
  exact l0
theorem p_image {n : Nat} {μ : wm_M} (h : Rel n μ) : wm_OkI 0 153 [.ref 0] μ (Pr n 303 [.ref 89]) := by
  obtain ⟨A, ⟨h1, h2, h3, h4, h5⟩, g1, g2, g3, g4, g5⟩ := h
  refine v_153 _ _ (tk46i h1 h4 (fun ν I => ⟨o01, _, rfl, v_303 _ _ (l_303 (w_303_27 _ _ ⟨o01, s_188 6 (by decide) ?_⟩))⟩))
  have fr := I.1
  have e91 : ν.1 91 = μ.1 91 := fr 91 (by omega)
  have e13 : ν.1 13 4 = nI (A 2050) := by rw [fr 13 (by omega)]; exact h4.1.tick
  have hr := I.rc h1 h4
  have cp : ∀ i, i < 2060 → va_cpy (ν.1 91) (ν.1 110) 0 0 2060 i = nI (A i) := fun i hi => by
    rw [pk_cpy_in (by omega) (by omega), e91, Nat.sub_zero, Nat.zero_add]; exact h3 i hi
  have sm : ∀ K : Nat → Nat → Bool, (∀ c i, K c i = true → ¬ (30 ≤ c ∧ c ≤ 58)) → K 0 2 = false → (∀ i, K 110 i = false) → K 89 46 = false → Sm K μ (wm_si (wm_sr (wm_si ν 0 2 1) 110 (va_cpy (ν.1 91) (ν.1 110) 0 0 2060)) 89 46 1) := fun K a b c d => ((Sm.si (fun x i q => by rw [fr x (a x i q)]) b).sr c).si d
  have fin : Rel (n + 1) (wm_si (wm_sr (wm_si ν 0 2 1) 110 (va_cpy (ν.1 91) (ν.1 110) 0 0 2060)) 89 46 1) := by
    refine Rel.up ⟨A, ⟨h1, h2, fun i hi => ?_, h4.sm (Or.inl rfl) (sm _ (fun c i q => by have := kA_in2 q; omega) rfl (fun _ => rfl) rfl), h5.sm (sm _ (fun c i q => by have := kV_in q; omega) rfl (fun _ => rfl) rfl)⟩, g1.sm (sm _ (fun c i q => by have := kT_in q; omega) rfl (fun _ => rfl) rfl), g2.sm (sm _ (fun c i q => by have := kN_in q; omega) rfl (fun _ => rfl) rfl), g3.sm (sm _ (fun c i q => by have := kF_in q; omega) rfl (fun _ => rfl) rfl), Or.inr ⟨rfl, rfl, A, h1, h2, fun i hi => cp i hi, ?_⟩, g5.sm (sm _ (fun c i q => by have := kB_in q; omega) rfl (fun _ => rfl) rfl)⟩
    · show ν.1 91 i = nI (A i)
      rw [e91]; exact h3 i hi
    · exact hr.sm (Or.inr rfl) ((((Sm.rf _ ν).si rfl).sr (fun _ => rfl)).si rfl)
  have e6 : (wm_si (wm_sr (wm_si ν 0 2 1) 110 (va_cpy (ν.1 91) (ν.1 110) 0 0 2060)) 89 46 1).1 91 (2040 + 6) = nI (A 2046) := by
    show ν.1 91 2046 = _
    rw [e91]; exact h3 2046 (by decide)
  have e10 : (wm_si (wm_sr (wm_si ν 0 2 1) 110 (va_cpy (ν.1 91) (ν.1 110) 0 0 2060)) 89 46 1).1 91 (2040 + 10) = nI (A 2050) := by
    show ν.1 91 2050 = _
    rw [e91]; exact h3 2050 (by decide)
  have bp := h1.put
  refine ⟨fun z => s_188 10 (by decide) ⟨_, rfl, ?_, fin⟩, fun z => w_303_51 _ _ ⟨_, rfl, ?_, fin⟩⟩
  · exact e13.trans e10.symm
  · have z : ¬ A 2046 = 1 := fun q => z (e6.trans (by rw [q]; rfl))
    refine e13.trans ?_
    rw [h2.2.1 (by omega)]; rfl
theorem p_back {n : Nat} {μ : wm_M} (h : Rel n μ) : wm_OkI 0 154 [.ref 0] μ (Pr n 304 [.ref 89]) := by
  have h' := h
  obtain ⟨A, hA, hO⟩ := h
  rcases hO.2.2.2.1 with ⟨i1, i2⟩ | ⟨i1, i2, B, b1, b2, b3, b4⟩
  · exact v_154 _ _ ⟨fun _ => s_161 2 (by decide) ⟨_, rfl, v_304 _ _ ⟨fun _ => s_185 2 (by decide) ⟨_, rfl, rfl, (h'.rf 2).up⟩, fun q => absurd i2 q⟩⟩, fun q => absurd i1 q⟩
  · have n1 : ¬ μ.1 0 2 = 0 := by rw [i1]; decide
    have n2' : ¬ μ.1 89 46 = 0 := by rw [i2]; decide
    refine v_154 _ _ ⟨fun q => absurd q n1, fun _ => w_154_14 _ _ (s_163 (tk46b b1 (b4.sm (Or.inr rfl) (Sm_ch _ μ rfl rfl rfl)) (fun ν I => ⟨_, rfl, v_304 _ _ ⟨fun q => absurd ?_ n2', fun _ => w_304_14 _ _ (l_304 (w_304_41 _ _ (s_188 6 (by decide) ?_)))⟩⟩)))⟩
    · exact (show μ.1 89 46 = ν.1 89 46 by rw [I.1 89 (by omega)]; rfl).trans q
    have I' : Inv (B 2042 * 120) tkLi 29 0 (ch_ μ) ν := I
    have hr := I'.rc b1 (b4.sm (Or.inr rfl) (Sm_ch _ μ rfl rfl rfl))
    have fr := I.1
    have e110 : ν.1 110 = μ.1 110 := by rw [fr 110 (by omega)]; rfl
    have hS : Sm KM (ch_ μ) ν := fun c i q => by rw [fr c (by have := KM_in q; omega)]
    have hM : RM 91 B (wm_sr ν 91 (va_cpy (ν.1 110) (ν.1 91) 0 0 2060)) := fun i hi => by
      rw [sr_eq, pk_cpy_in (by omega) (by omega), e110, Nat.sub_zero, Nat.zero_add]; exact b3 i hi
    have fin := Rel.fin3 hO hS (Nat.le_succ n) ⟨b1.mono (Nat.le_succ n), b2, hr⟩ ((Sm.rf _ ν).sr (fun _ => rfl)) hM
    have e13 : ν.1 13 4 = nI (B 2050) := hr.1.tick
    have bp := b1.put
    refine ⟨fun z => s_188 10 (by decide) ⟨_, rfl, ?_, fin⟩, fun z => w_304_60 _ _ ⟨_, rfl, ?_, fin⟩⟩
    · exact e13.trans (hM 2050 (by decide)).symm
    · have z : ¬ B 2046 = 1 := fun q => z ((hM 2046 (by decide)).trans (by rw [q]; rfl))
      refine e13.trans ?_
      rw [b2.2.1 (by omega)]; rfl
