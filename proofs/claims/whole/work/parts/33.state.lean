/-! ===== numbers: ints as natural numbers ===== -/
theorem nl (n : Nat) : (no_index (OfNat.ofNat n) : Int32) = nI (OfNat.ofNat n) := rfl
theorem vi_ {n N : Nat} (hn : n < 2 ^ 31) (hN : N < 2 ^ 31) : vp_in (nI n) N ↔ n < N := by
  rw [vp_in_iff, nI_toInt hn]; omega
theorem rm_n (a d : Nat) : a - a / d * d = a % d := by
  have h := Nat.mod_add_div a d
  rw [Nat.mul_comm d] at h
  omega
theorem nI_sb {a b : Nat} (h : b ≤ a) : nI a + -nI b = nI (a - b) := by
  rw [← Int32.sub_eq_add_neg]; exact pk_sub h
theorem nI_m {b : Nat} (h0 : 0 < b) (h : b < 2 ^ 31) : (-nI b).toInt = -(b : Int) := by
  rw [sb_negT (by omega)]
theorem nI_eqm {a b : Nat} (ha : a < 2 ^ 31) (h0 : 0 < b) (hb : b < 2 ^ 31) : nI a = -nI b ↔ False := by
  refine ⟨fun h => ?_, fun h => h.elim⟩
  have h1 := congrArg Int32.toInt h
  rw [nI_toInt ha, nI_m h0 hb] at h1
  omega
theorem nI_meq {a b : Nat} (ha : a < 2 ^ 31) (h0 : 0 < b) (hb : b < 2 ^ 31) : -nI b = nI a ↔ False := by
  rw [eq_comm]; exact nI_eqm ha h0 hb
/-! ===== memory: one number written ===== -/
theorem si_eq (μ : wm_M) (c k : Nat) (x : Int32) : (wm_si μ c k x).1 c = upd (μ.1 c) k x := by unfold wm_si; exact wm_up_eq
theorem si_ne (μ : wm_M) {c d : Nat} (k : Nat) (x : Int32) (h : d ≠ c) : (wm_si μ c k x).1 d = μ.1 d := by unfold wm_si; exact wm_up_ne h
theorem sr_eq (μ : wm_M) (c : Nat) (f : Nat → Int32) : (wm_sr μ c f).1 c = f := by unfold wm_sr; exact wm_up_eq
theorem sr_ne (μ : wm_M) {c d : Nat} (f : Nat → Int32) (h : d ≠ c) : (wm_sr μ c f).1 d = μ.1 d := by unfold wm_sr; exact wm_up_ne h
theorem si2 (μ : wm_M) (c k : Nat) (x : Int32) : (wm_si μ c k x).2 = μ.2 := rfl
theorem si_same (μ : wm_M) (c k : Nat) (x : Int32) : (wm_si μ c k x).1 c k = x := by rw [si_eq]; exact wm_upd_eq
theorem si_other (μ : wm_M) {c k j : Nat} (x : Int32) (h : j ≠ k) : (wm_si μ c k x).1 c j = μ.1 c j := by rw [si_eq]; exact wm_upd_ne h
/-- the numbers of the reference's row: THE STATE of the document; the class's cells are held against it -/
def uN (A : Nat → Nat) (k x : Nat) : Nat → Nat := fun j => if j = k then x else A j
theorem uN_eq (A : Nat → Nat) (k x : Nat) : uN A k x k = x := if_pos rfl
theorem uN_ne (A : Nat → Nat) {k j : Nat} (x : Nat) (h : j ≠ k) : uN A k x j = A j := if_neg h
def RM (c : Nat) (A : Nat → Nat) (μ : wm_M) : Prop := ∀ i, i < 2060 → μ.1 c i = nI (A i)
theorem RM.w {c : Nat} {A : Nat → Nat} {μ : wm_M} (h : RM c A μ) (k x : Nat) : RM c (uN A k x) (wm_si μ c k (nI x)) := by
  intro i hi
  by_cases e : i = k
  · subst e; rw [si_same, uN_eq]
  · rw [si_other _ _ e, uN_ne _ _ e]; exact h i hi
theorem RM.fr {c : Nat} {A : Nat → Nat} {μ ν : wm_M} (h : RM c A μ) (e : ν.1 c = μ.1 c) : RM c A ν := fun i hi => by rw [e]; exact h i hi

/-- class cell, place in it, place in the state, how many -/
def rcT : List (Nat × Nat × Nat × Nat) := [(3, 0, 0, 36), (4, 0, 36, 36), (5, 0, 72, 84), (8, 0, 324, 25), (9, 0, 349, 25), (10, 0, 374, 25), (14, 0, 449, 3), (15, 0, 452, 3), (16, 0, 455, 8), (17, 0, 463, 8), (27, 0, 2001, 3), (28, 0, 1995, 6), (13, 10, 2040, 1), (13, 13, 2041, 1), (18, 6, 2042, 1), (1, 4, 2043, 1), (1, 5, 2044, 1), (2, 4, 2045, 1), (13, 0, 2046, 1), (13, 1, 2047, 1), (13, 2, 2048, 1), (13, 3, 2049, 1), (13, 4, 2050, 1), (13, 6, 2051, 1), (13, 7, 2052, 1), (13, 5, 2053, 1)]
def RT (o : Nat) (A : Nat → Nat) (μ : wm_M) : Prop := ∀ q ∈ rcT, ∀ i, i < q.2.2.2 → μ.1 (q.1 + o) (q.2.1 + i) = nI (A (q.2.2.1 + i))
theorem rcT_dis : ∀ q ∈ rcT, ∀ r ∈ rcT, q = r ∨ ((q.1 ≠ r.1 ∨ q.2.1 + q.2.2.2 ≤ r.2.1 ∨ r.2.1 + r.2.2.2 ≤ q.2.1) ∧ (q.2.2.1 + q.2.2.2 ≤ r.2.2.1 ∨ r.2.2.1 + r.2.2.2 ≤ q.2.2.1)) := by decide +kernel
theorem RT.wr {o : Nat} {A : Nat → Nat} {μ : wm_M} (h : RT o A μ) (c p b n : Nat) (hq : (c, p, b, n) ∈ rcT) (i : Nat) (hi : i < n) (x : Nat) : RT o (uN A (b + i) x) (wm_si μ (c + o) (p + i) (nI x)) := by
  intro r hr j hj
  have hh := h r hr j hj
  rcases rcT_dis _ hq r hr with e | ⟨e1, e2⟩
  · subst e
    have hj : j < n := hj
    show (wm_si μ (c + o) (p + i) (nI x)).1 (c + o) (p + j) = nI (uN A (b + i) x (b + j))
    by_cases e : j = i
    · subst e; rw [si_same, uN_eq]
    · rw [si_other _ _ (by omega), uN_ne _ _ (by omega)]; exact hh
  · have hi' : b + i ≠ r.2.2.1 + j := by
      have e2 : b + n ≤ r.2.2.1 ∨ r.2.2.1 + r.2.2.2 ≤ b := e2
      omega
    rw [uN_ne _ _ (Ne.symm hi')]
    by_cases ec : r.1 + o = c + o
    · have e1 : c ≠ r.1 ∨ p + n ≤ r.2.1 ∨ r.2.1 + r.2.2.2 ≤ p := e1
      rw [ec] at hh ⊢
      rw [si_other _ _ (by omega)]; exact hh
    · rw [si_ne _ _ _ ec]; exact hh
theorem RT.fr {o : Nat} {A : Nat → Nat} {μ ν : wm_M} (h : RT o A μ) (e : ∀ q ∈ rcT, ν.1 (q.1 + o) = μ.1 (q.1 + o)) : RT o A ν := fun q hq i hi => by rw [e q hq]; exact h q hq i hi
theorem RT.up {o : Nat} {A : Nat → Nat} {μ : wm_M} (h : RT o A μ) (k x : Nat) (hk : ∀ q ∈ rcT, k < q.2.2.1 ∨ q.2.2.1 + q.2.2.2 ≤ k) : RT o (uN A k x) μ := fun q hq i hi => by
  have := hk q hq
  rw [uN_ne _ _ (by omega)]; exact h q hq i hi

theorem RT.land {A : Nat → Nat} {μ : wm_M} (h : RT 0 A μ) {j : Nat} (hj : j < 36) : μ.1 3 j = nI (A j) := by
  have e := h (3, 0, 0, 36) (by decide) j hj
  rw [Nat.zero_add] at e; exact e
theorem RT.w_land {A : Nat → Nat} {μ : wm_M} (h : RT 0 A μ) {j : Nat} (hj : j < 36) (x : Nat) : RT 0 (uN A j x) (wm_si μ 3 j (nI x)) := by
  have e := h.wr 3 0 0 36 (by decide) j hj x
  rw [Nat.zero_add] at e; exact e
theorem RT.shelter {A : Nat → Nat} {μ : wm_M} (h : RT 0 A μ) {j : Nat} (hj : j < 36) : μ.1 4 j = nI (A (36 + j)) := by
  have e := h (4, 0, 36, 36) (by decide) j hj
  rw [Nat.zero_add] at e; exact e
theorem RT.w_shelter {A : Nat → Nat} {μ : wm_M} (h : RT 0 A μ) {j : Nat} (hj : j < 36) (x : Nat) : RT 0 (uN A (36 + j) x) (wm_si μ 4 j (nI x)) := by
  have e := h.wr 4 0 36 36 (by decide) j hj x
  rw [Nat.zero_add] at e; exact e
theorem RT.from {A : Nat → Nat} {μ : wm_M} (h : RT 0 A μ) {j : Nat} (hj : j < 84) : μ.1 5 j = nI (A (72 + j)) := by
  have e := h (5, 0, 72, 84) (by decide) j hj
  rw [Nat.zero_add] at e; exact e
theorem RT.w_from {A : Nat → Nat} {μ : wm_M} (h : RT 0 A μ) {j : Nat} (hj : j < 84) (x : Nat) : RT 0 (uN A (72 + j) x) (wm_si μ 5 j (nI x)) := by
  have e := h.wr 5 0 72 84 (by decide) j hj x
  rw [Nat.zero_add] at e; exact e
theorem RT.maker {A : Nat → Nat} {μ : wm_M} (h : RT 0 A μ) {j : Nat} (hj : j < 25) : μ.1 8 j = nI (A (324 + j)) := by
  have e := h (8, 0, 324, 25) (by decide) j hj
  rw [Nat.zero_add] at e; exact e
theorem RT.w_maker {A : Nat → Nat} {μ : wm_M} (h : RT 0 A μ) {j : Nat} (hj : j < 25) (x : Nat) : RT 0 (uN A (324 + j) x) (wm_si μ 8 j (nI x)) := by
  have e := h.wr 8 0 324 25 (by decide) j hj x
  rw [Nat.zero_add] at e; exact e
theorem RT.seen {A : Nat → Nat} {μ : wm_M} (h : RT 0 A μ) {j : Nat} (hj : j < 25) : μ.1 9 j = nI (A (349 + j)) := by
  have e := h (9, 0, 349, 25) (by decide) j hj
  rw [Nat.zero_add] at e; exact e
theorem RT.w_seen {A : Nat → Nat} {μ : wm_M} (h : RT 0 A μ) {j : Nat} (hj : j < 25) (x : Nat) : RT 0 (uN A (349 + j) x) (wm_si μ 9 j (nI x)) := by
  have e := h.wr 9 0 349 25 (by decide) j hj x
  rw [Nat.zero_add] at e; exact e
theorem RT.sum {A : Nat → Nat} {μ : wm_M} (h : RT 0 A μ) {j : Nat} (hj : j < 25) : μ.1 10 j = nI (A (374 + j)) := by
  have e := h (10, 0, 374, 25) (by decide) j hj
  rw [Nat.zero_add] at e; exact e
theorem RT.w_sum {A : Nat → Nat} {μ : wm_M} (h : RT 0 A μ) {j : Nat} (hj : j < 25) (x : Nat) : RT 0 (uN A (374 + j) x) (wm_si μ 10 j (nI x)) := by
  have e := h.wr 10 0 374 25 (by decide) j hj x
  rw [Nat.zero_add] at e; exact e
theorem RT.kind {A : Nat → Nat} {μ : wm_M} (h : RT 0 A μ) {j : Nat} (hj : j < 3) : μ.1 14 j = nI (A (449 + j)) := by
  have e := h (14, 0, 449, 3) (by decide) j hj
  rw [Nat.zero_add] at e; exact e
theorem RT.w_kind {A : Nat → Nat} {μ : wm_M} (h : RT 0 A μ) {j : Nat} (hj : j < 3) (x : Nat) : RT 0 (uN A (449 + j) x) (wm_si μ 14 j (nI x)) := by
  have e := h.wr 14 0 449 3 (by decide) j hj x
  rw [Nat.zero_add] at e; exact e
theorem RT.torn {A : Nat → Nat} {μ : wm_M} (h : RT 0 A μ) {j : Nat} (hj : j < 3) : μ.1 15 j = nI (A (452 + j)) := by
  have e := h (15, 0, 452, 3) (by decide) j hj
  rw [Nat.zero_add] at e; exact e
theorem RT.w_torn {A : Nat → Nat} {μ : wm_M} (h : RT 0 A μ) {j : Nat} (hj : j < 3) (x : Nat) : RT 0 (uN A (452 + j) x) (wm_si μ 15 j (nI x)) := by
  have e := h.wr 15 0 452 3 (by decide) j hj x
  rw [Nat.zero_add] at e; exact e
theorem RT.tired {A : Nat → Nat} {μ : wm_M} (h : RT 0 A μ) {j : Nat} (hj : j < 8) : μ.1 16 j = nI (A (455 + j)) := by
  have e := h (16, 0, 455, 8) (by decide) j hj
  rw [Nat.zero_add] at e; exact e
theorem RT.w_tired {A : Nat → Nat} {μ : wm_M} (h : RT 0 A μ) {j : Nat} (hj : j < 8) (x : Nat) : RT 0 (uN A (455 + j) x) (wm_si μ 16 j (nI x)) := by
  have e := h.wr 16 0 455 8 (by decide) j hj x
  rw [Nat.zero_add] at e; exact e
theorem RT.sleeps {A : Nat → Nat} {μ : wm_M} (h : RT 0 A μ) {j : Nat} (hj : j < 8) : μ.1 17 j = nI (A (463 + j)) := by
  have e := h (17, 0, 463, 8) (by decide) j hj
  rw [Nat.zero_add] at e; exact e
theorem RT.w_sleeps {A : Nat → Nat} {μ : wm_M} (h : RT 0 A μ) {j : Nat} (hj : j < 8) (x : Nat) : RT 0 (uN A (463 + j) x) (wm_si μ 17 j (nI x)) := by
  have e := h.wr 17 0 463 8 (by decide) j hj x
  rw [Nat.zero_add] at e; exact e
theorem RT.choice {A : Nat → Nat} {μ : wm_M} (h : RT 0 A μ) {j : Nat} (hj : j < 3) : μ.1 27 j = nI (A (2001 + j)) := by
  have e := h (27, 0, 2001, 3) (by decide) j hj
  rw [Nat.zero_add] at e; exact e
theorem RT.w_choice {A : Nat → Nat} {μ : wm_M} (h : RT 0 A μ) {j : Nat} (hj : j < 3) (x : Nat) : RT 0 (uN A (2001 + j) x) (wm_si μ 27 j (nI x)) := by
  have e := h.wr 27 0 2001 3 (by decide) j hj x
  rw [Nat.zero_add] at e; exact e
theorem RT.group {A : Nat → Nat} {μ : wm_M} (h : RT 0 A μ) {j : Nat} (hj : j < 6) : μ.1 28 j = nI (A (1995 + j)) := by
  have e := h (28, 0, 1995, 6) (by decide) j hj
  rw [Nat.zero_add] at e; exact e
theorem RT.w_group {A : Nat → Nat} {μ : wm_M} (h : RT 0 A μ) {j : Nat} (hj : j < 6) (x : Nat) : RT 0 (uN A (1995 + j) x) (wm_si μ 28 j (nI x)) := by
  have e := h.wr 28 0 1995 6 (by decide) j hj x
  rw [Nat.zero_add] at e; exact e
theorem RT.sails {A : Nat → Nat} {μ : wm_M} (h : RT 0 A μ) : μ.1 13 10 = nI (A 2040) := h (13, 10, 2040, 1) (by decide) 0 (by decide)
theorem RT.w_sails {A : Nat → Nat} {μ : wm_M} (h : RT 0 A μ) (x : Nat) : RT 0 (uN A 2040 x) (wm_si μ 13 10 (nI x)) := h.wr 13 10 2040 1 (by decide) 0 (by decide) x
theorem RT.hands {A : Nat → Nat} {μ : wm_M} (h : RT 0 A μ) : μ.1 13 13 = nI (A 2041) := h (13, 13, 2041, 1) (by decide) 0 (by decide)
theorem RT.w_hands {A : Nat → Nat} {μ : wm_M} (h : RT 0 A μ) (x : Nat) : RT 0 (uN A 2041 x) (wm_si μ 13 13 (nI x)) := h.wr 13 13 2041 1 (by decide) 0 (by decide) x
theorem RT.rules {A : Nat → Nat} {μ : wm_M} (h : RT 0 A μ) : μ.1 18 6 = nI (A 2042) := h (18, 6, 2042, 1) (by decide) 0 (by decide)
theorem RT.w_rules {A : Nat → Nat} {μ : wm_M} (h : RT 0 A μ) (x : Nat) : RT 0 (uN A 2042 x) (wm_si μ 18 6 (nI x)) := h.wr 18 6 2042 1 (by decide) 0 (by decide) x
theorem RT.first {A : Nat → Nat} {μ : wm_M} (h : RT 0 A μ) : μ.1 1 4 = nI (A 2043) := h (1, 4, 2043, 1) (by decide) 0 (by decide)
theorem RT.w_first {A : Nat → Nat} {μ : wm_M} (h : RT 0 A μ) (x : Nat) : RT 0 (uN A 2043 x) (wm_si μ 1 4 (nI x)) := h.wr 1 4 2043 1 (by decide) 0 (by decide) x
theorem RT.second {A : Nat → Nat} {μ : wm_M} (h : RT 0 A μ) : μ.1 1 5 = nI (A 2044) := h (1, 5, 2044, 1) (by decide) 0 (by decide)
theorem RT.w_second {A : Nat → Nat} {μ : wm_M} (h : RT 0 A μ) (x : Nat) : RT 0 (uN A 2044 x) (wm_si μ 1 5 (nI x)) := h.wr 1 5 2044 1 (by decide) 0 (by decide) x
theorem RT.mark {A : Nat → Nat} {μ : wm_M} (h : RT 0 A μ) : μ.1 2 4 = nI (A 2045) := h (2, 4, 2045, 1) (by decide) 0 (by decide)
theorem RT.w_mark {A : Nat → Nat} {μ : wm_M} (h : RT 0 A μ) (x : Nat) : RT 0 (uN A 2045 x) (wm_si μ 2 4 (nI x)) := h.wr 2 4 2045 1 (by decide) 0 (by decide) x
theorem RT.put {A : Nat → Nat} {μ : wm_M} (h : RT 0 A μ) : μ.1 13 0 = nI (A 2046) := h (13, 0, 2046, 1) (by decide) 0 (by decide)
theorem RT.w_put {A : Nat → Nat} {μ : wm_M} (h : RT 0 A μ) (x : Nat) : RT 0 (uN A 2046 x) (wm_si μ 13 0 (nI x)) := h.wr 13 0 2046 1 (by decide) 0 (by decide) x
theorem RT.cell {A : Nat → Nat} {μ : wm_M} (h : RT 0 A μ) : μ.1 13 1 = nI (A 2047) := h (13, 1, 2047, 1) (by decide) 0 (by decide)
theorem RT.w_cell {A : Nat → Nat} {μ : wm_M} (h : RT 0 A μ) (x : Nat) : RT 0 (uN A 2047 x) (wm_si μ 13 1 (nI x)) := h.wr 13 1 2047 1 (by decide) 0 (by decide) x
theorem RT.heading {A : Nat → Nat} {μ : wm_M} (h : RT 0 A μ) : μ.1 13 2 = nI (A 2048) := h (13, 2, 2048, 1) (by decide) 0 (by decide)
theorem RT.w_heading {A : Nat → Nat} {μ : wm_M} (h : RT 0 A μ) (x : Nat) : RT 0 (uN A 2048 x) (wm_si μ 13 2 (nI x)) := h.wr 13 2 2048 1 (by decide) 0 (by decide) x
theorem RT.sail {A : Nat → Nat} {μ : wm_M} (h : RT 0 A μ) : μ.1 13 3 = nI (A 2049) := h (13, 3, 2049, 1) (by decide) 0 (by decide)
theorem RT.w_sail {A : Nat → Nat} {μ : wm_M} (h : RT 0 A μ) (x : Nat) : RT 0 (uN A 2049 x) (wm_si μ 13 3 (nI x)) := h.wr 13 3 2049 1 (by decide) 0 (by decide) x
theorem RT.tick {A : Nat → Nat} {μ : wm_M} (h : RT 0 A μ) : μ.1 13 4 = nI (A 2050) := h (13, 4, 2050, 1) (by decide) 0 (by decide)
theorem RT.w_tick {A : Nat → Nat} {μ : wm_M} (h : RT 0 A μ) (x : Nat) : RT 0 (uN A 2050 x) (wm_si μ 13 4 (nI x)) := h.wr 13 4 2050 1 (by decide) 0 (by decide) x
theorem RT.pst {A : Nat → Nat} {μ : wm_M} (h : RT 0 A μ) : μ.1 13 6 = nI (A 2051) := h (13, 6, 2051, 1) (by decide) 0 (by decide)
theorem RT.w_pst {A : Nat → Nat} {μ : wm_M} (h : RT 0 A μ) (x : Nat) : RT 0 (uN A 2051 x) (wm_si μ 13 6 (nI x)) := h.wr 13 6 2051 1 (by decide) 0 (by decide) x
theorem RT.ptick {A : Nat → Nat} {μ : wm_M} (h : RT 0 A μ) : μ.1 13 7 = nI (A 2052) := h (13, 7, 2052, 1) (by decide) 0 (by decide)
theorem RT.w_ptick {A : Nat → Nat} {μ : wm_M} (h : RT 0 A μ) (x : Nat) : RT 0 (uN A 2052 x) (wm_si μ 13 7 (nI x)) := h.wr 13 7 2052 1 (by decide) 0 (by decide) x
theorem RT.went {A : Nat → Nat} {μ : wm_M} (h : RT 0 A μ) : μ.1 13 5 = nI (A 2053) := h (13, 5, 2053, 1) (by decide) 0 (by decide)
theorem RT.w_went {A : Nat → Nat} {μ : wm_M} (h : RT 0 A μ) (x : Nat) : RT 0 (uN A 2053 x) (wm_si μ 13 5 (nI x)) := h.wr 13 5 2053 1 (by decide) 0 (by decide) x
/-! ===== what the numbers of the state are less than; n: calls so far ===== -/
def bdA (n i : Nat) : Nat := if i < 36 then 2 else if i < 72 then 91 else if i < 156 then 8 else if i < 240 then 40 else if i < 324 then 2 else if i < 349 then 100 else if i < 374 then 100 else if i < 399 then 9802 else if i < 424 then 100 else if i < 449 then 100 else if i < 452 then 5 else if i < 455 then 2 else if i < 463 then (130 * n + 1) else if i < 471 then 2 else if i < 1995 then 256 else if i < 2001 then 3 else if i < 2004 then 36 else if i < 2040 then 1000 else if i < 2041 then 4 else if i < 2042 then 9 else if i < 2043 then 13 else if i < 2044 then 121 else if i < 2045 then 121 else if i < 2046 then 36 else if i < 2047 then 2 else if i < 2048 then 36 else if i < 2049 then 8 else if i < 2050 then 3 else if i < 2051 then 121 else if i < 2052 then 864 else if i < 2053 then 121 else if i < 2054 then (n + 1) else 1
def BA (n : Nat) (A : Nat → Nat) : Prop := ∀ i, i < 2060 → A i < bdA n i
theorem BA.w {n : Nat} {A : Nat → Nat} (h : BA n A) {k x : Nat} (hx : x < bdA n k) : BA n (uN A k x) := by
  intro i hi
  by_cases e : i = k
  · subst e; rw [uN_eq]; exact hx
  · rw [uN_ne _ _ e]; exact h i hi
theorem bd_land (n : Nat) {j : Nat} (hj : j < 36) : bdA n j = 2 := by
  unfold bdA
  simp (disch := omega) only [if_neg, if_pos]
theorem BA.land {n : Nat} {A : Nat → Nat} (h : BA n A) {j : Nat} (hj : j < 36) : A j < 2 := by
  have e := h j (by omega)
  rw [bd_land n hj] at e; exact e
theorem bd_shelter (n : Nat) {j : Nat} (hj : j < 36) : bdA n (36 + j) = 91 := by
  unfold bdA
  simp (disch := omega) only [if_neg, if_pos]
theorem BA.shelter {n : Nat} {A : Nat → Nat} (h : BA n A) {j : Nat} (hj : j < 36) : A (36 + j) < 91 := by
  have e := h (36 + j) (by omega)
  rw [bd_shelter n hj] at e; exact e
theorem bd_from (n : Nat) {j : Nat} (hj : j < 84) : bdA n (72 + j) = 8 := by
  unfold bdA
  simp (disch := omega) only [if_neg, if_pos]
theorem BA.from {n : Nat} {A : Nat → Nat} (h : BA n A) {j : Nat} (hj : j < 84) : A (72 + j) < 8 := by
  have e := h (72 + j) (by omega)
  rw [bd_from n hj] at e; exact e
theorem bd_force (n : Nat) {j : Nat} (hj : j < 84) : bdA n (156 + j) = 40 := by
  unfold bdA
  simp (disch := omega) only [if_neg, if_pos]
theorem BA.force {n : Nat} {A : Nat → Nat} (h : BA n A) {j : Nat} (hj : j < 84) : A (156 + j) < 40 := by
  have e := h (156 + j) (by omega)
  rw [bd_force n hj] at e; exact e
theorem bd_told (n : Nat) {j : Nat} (hj : j < 84) : bdA n (240 + j) = 2 := by
  unfold bdA
  simp (disch := omega) only [if_neg, if_pos]
theorem BA.told {n : Nat} {A : Nat → Nat} (h : BA n A) {j : Nat} (hj : j < 84) : A (240 + j) < 2 := by
  have e := h (240 + j) (by omega)
  rw [bd_told n hj] at e; exact e
theorem bd_maker (n : Nat) {j : Nat} (hj : j < 25) : bdA n (324 + j) = 100 := by
  unfold bdA
  simp (disch := omega) only [if_neg, if_pos]
theorem BA.maker {n : Nat} {A : Nat → Nat} (h : BA n A) {j : Nat} (hj : j < 25) : A (324 + j) < 100 := by
  have e := h (324 + j) (by omega)
  rw [bd_maker n hj] at e; exact e
theorem bd_seen (n : Nat) {j : Nat} (hj : j < 25) : bdA n (349 + j) = 100 := by
  unfold bdA
  simp (disch := omega) only [if_neg, if_pos]
theorem BA.seen {n : Nat} {A : Nat → Nat} (h : BA n A) {j : Nat} (hj : j < 25) : A (349 + j) < 100 := by
  have e := h (349 + j) (by omega)
  rw [bd_seen n hj] at e; exact e
theorem bd_sum (n : Nat) {j : Nat} (hj : j < 25) : bdA n (374 + j) = 9802 := by
  unfold bdA
  simp (disch := omega) only [if_neg, if_pos]
theorem BA.sum {n : Nat} {A : Nat → Nat} (h : BA n A) {j : Nat} (hj : j < 25) : A (374 + j) < 9802 := by
  have e := h (374 + j) (by omega)
  rw [bd_sum n hj] at e; exact e
theorem bd_least (n : Nat) {j : Nat} (hj : j < 25) : bdA n (399 + j) = 100 := by
  unfold bdA
  simp (disch := omega) only [if_neg, if_pos]
theorem BA.least {n : Nat} {A : Nat → Nat} (h : BA n A) {j : Nat} (hj : j < 25) : A (399 + j) < 100 := by
  have e := h (399 + j) (by omega)
  rw [bd_least n hj] at e; exact e
theorem bd_great (n : Nat) {j : Nat} (hj : j < 25) : bdA n (424 + j) = 100 := by
  unfold bdA
  simp (disch := omega) only [if_neg, if_pos]
theorem BA.great {n : Nat} {A : Nat → Nat} (h : BA n A) {j : Nat} (hj : j < 25) : A (424 + j) < 100 := by
  have e := h (424 + j) (by omega)
  rw [bd_great n hj] at e; exact e
theorem bd_kind (n : Nat) {j : Nat} (hj : j < 3) : bdA n (449 + j) = 5 := by
  unfold bdA
  simp (disch := omega) only [if_neg, if_pos]
theorem BA.kind {n : Nat} {A : Nat → Nat} (h : BA n A) {j : Nat} (hj : j < 3) : A (449 + j) < 5 := by
  have e := h (449 + j) (by omega)
  rw [bd_kind n hj] at e; exact e
theorem bd_torn (n : Nat) {j : Nat} (hj : j < 3) : bdA n (452 + j) = 2 := by
  unfold bdA
  simp (disch := omega) only [if_neg, if_pos]
theorem BA.torn {n : Nat} {A : Nat → Nat} (h : BA n A) {j : Nat} (hj : j < 3) : A (452 + j) < 2 := by
  have e := h (452 + j) (by omega)
  rw [bd_torn n hj] at e; exact e
theorem bd_tired (n : Nat) {j : Nat} (hj : j < 8) : bdA n (455 + j) = (130 * n + 1) := by
  unfold bdA
  simp (disch := omega) only [if_neg, if_pos]
theorem BA.tired {n : Nat} {A : Nat → Nat} (h : BA n A) {j : Nat} (hj : j < 8) : A (455 + j) < (130 * n + 1) := by
  have e := h (455 + j) (by omega)
  rw [bd_tired n hj] at e; exact e
theorem bd_sleeps (n : Nat) {j : Nat} (hj : j < 8) : bdA n (463 + j) = 2 := by
  unfold bdA
  simp (disch := omega) only [if_neg, if_pos]
theorem BA.sleeps {n : Nat} {A : Nat → Nat} (h : BA n A) {j : Nat} (hj : j < 8) : A (463 + j) < 2 := by
  have e := h (463 + j) (by omega)
  rw [bd_sleeps n hj] at e; exact e
theorem bd_rule (n : Nat) {j : Nat} (hj : j < 1524) : bdA n (471 + j) = 256 := by
  unfold bdA
  simp (disch := omega) only [if_neg, if_pos]
theorem BA.rule {n : Nat} {A : Nat → Nat} (h : BA n A) {j : Nat} (hj : j < 1524) : A (471 + j) < 256 := by
  have e := h (471 + j) (by omega)
  rw [bd_rule n hj] at e; exact e
theorem bd_group (n : Nat) {j : Nat} (hj : j < 6) : bdA n (1995 + j) = 3 := by
  unfold bdA
  simp (disch := omega) only [if_neg, if_pos]
theorem BA.group {n : Nat} {A : Nat → Nat} (h : BA n A) {j : Nat} (hj : j < 6) : A (1995 + j) < 3 := by
  have e := h (1995 + j) (by omega)
  rw [bd_group n hj] at e; exact e
theorem bd_choice (n : Nat) {j : Nat} (hj : j < 3) : bdA n (2001 + j) = 36 := by
  unfold bdA
  simp (disch := omega) only [if_neg, if_pos]
theorem BA.choice {n : Nat} {A : Nat → Nat} (h : BA n A) {j : Nat} (hj : j < 3) : A (2001 + j) < 36 := by
  have e := h (2001 + j) (by omega)
  rw [bd_choice n hj] at e; exact e
theorem bd_rival (n : Nat) {j : Nat} (hj : j < 36) : bdA n (2004 + j) = 1000 := by
  unfold bdA
  simp (disch := omega) only [if_neg, if_pos]
theorem BA.rival {n : Nat} {A : Nat → Nat} (h : BA n A) {j : Nat} (hj : j < 36) : A (2004 + j) < 1000 := by
  have e := h (2004 + j) (by omega)
  rw [bd_rival n hj] at e; exact e
theorem BA.sails {n : Nat} {A : Nat → Nat} (h : BA n A) : A 2040 < 4 := h 2040 (by decide)
theorem BA.hands {n : Nat} {A : Nat → Nat} (h : BA n A) : A 2041 < 9 := h 2041 (by decide)
theorem BA.rules {n : Nat} {A : Nat → Nat} (h : BA n A) : A 2042 < 13 := h 2042 (by decide)
theorem BA.first {n : Nat} {A : Nat → Nat} (h : BA n A) : A 2043 < 121 := h 2043 (by decide)
theorem BA.second {n : Nat} {A : Nat → Nat} (h : BA n A) : A 2044 < 121 := h 2044 (by decide)
theorem BA.mark {n : Nat} {A : Nat → Nat} (h : BA n A) : A 2045 < 36 := h 2045 (by decide)
theorem BA.put {n : Nat} {A : Nat → Nat} (h : BA n A) : A 2046 < 2 := h 2046 (by decide)
theorem BA.cell {n : Nat} {A : Nat → Nat} (h : BA n A) : A 2047 < 36 := h 2047 (by decide)
theorem BA.heading {n : Nat} {A : Nat → Nat} (h : BA n A) : A 2048 < 8 := h 2048 (by decide)
theorem BA.sail {n : Nat} {A : Nat → Nat} (h : BA n A) : A 2049 < 3 := h 2049 (by decide)
theorem BA.tick {n : Nat} {A : Nat → Nat} (h : BA n A) : A 2050 < 121 := h 2050 (by decide)
theorem BA.pst {n : Nat} {A : Nat → Nat} (h : BA n A) : A 2051 < 864 := h 2051 (by decide)
theorem BA.ptick {n : Nat} {A : Nat → Nat} (h : BA n A) : A 2052 < 121 := h 2052 (by decide)
theorem BA.went {n : Nat} {A : Nat → Nat} (h : BA n A) : A 2053 < (n + 1) := h 2053 (by decide)
