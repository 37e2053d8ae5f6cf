/-! the pair rule -/
/-- the state once a rule has come as number k -/
def rlA (A : Nat → Nat) (k a b n : Nat) (T : Nat → Nat) : Nat → Nat := fun j =>
  if j = 2042 then k + 1 else if j = 471 + 127 * k then a else if j = 472 + 127 * k then b else if j = 473 + 127 * k then n else if 474 + 127 * k ≤ j ∧ j < 474 + 127 * k + n then T (j - (474 + 127 * k)) else A j
theorem rlA_out {A : Nat → Nat} {k a b n : Nat} {T : Nat → Nat} (hn : n ≤ 120) {j : Nat} (h : j < 471 + 127 * k ∨ 471 + 127 * k + 124 ≤ j) (h2 : j ≠ 2042) : rlA A k a b n T j = A j := by
  unfold rlA
  rw [if_neg h2, if_neg (by omega), if_neg (by omega), if_neg (by omega), if_neg (by omega)]
theorem rlA_k {A : Nat → Nat} {k a b n : Nat} {T : Nat → Nat} : rlA A k a b n T 2042 = k + 1 := if_pos rfl
theorem rlA_a {A : Nat → Nat} {k a b n : Nat} {T : Nat → Nat} (hk : k < 12) : rlA A k a b n T (471 + 127 * k) = a := by
  unfold rlA; rw [if_neg (by omega), if_pos rfl]
theorem rlA_b {A : Nat → Nat} {k a b n : Nat} {T : Nat → Nat} (hk : k < 12) : rlA A k a b n T (472 + 127 * k) = b := by
  unfold rlA; rw [if_neg (by omega), if_neg (by omega), if_pos rfl]
theorem rlA_n {A : Nat → Nat} {k a b n : Nat} {T : Nat → Nat} (hk : k < 12) : rlA A k a b n T (473 + 127 * k) = n := by
  unfold rlA; rw [if_neg (by omega), if_neg (by omega), if_neg (by omega), if_pos rfl]
theorem rlA_T {A : Nat → Nat} {k a b n : Nat} {T : Nat → Nat} (hk : k < 12) (hn : n ≤ 120) {i : Nat} (hi : i < n) : rlA A k a b n T (474 + 127 * k + i) = T i := by
  unfold rlA; rw [if_neg (by omega), if_neg (by omega), if_neg (by omega), if_neg (by omega), if_pos ⟨by omega, by omega⟩]; congr 1; omega
theorem rlA_rP {A : Nat → Nat} {k a b n : Nat} {T : Nat → Nat} (hk : k < 12) (hn : n ≤ 120) : rP (rlA A k a b n T) k = ruleP T n := by
  unfold rP
  have e : rN (rlA A k a b n T) k = n := by unfold rN; exact rlA_n hk
  rw [e]
  exact ruleP_congr fun i hi => rlA_T hk hn hi
theorem rlA_rP' {A : Nat → Nat} {k a b n : Nat} {T : Nat → Nat} (hk : k < 12) (hn : n ≤ 120) {j : Nat} (hj : j < k) (hN : rN A j ≤ 120) : rP (rlA A k a b n T) j = rP A j := by
  unfold rP
  have e : rN (rlA A k a b n T) j = rN A j := by unfold rN; exact rlA_out hn (by omega) (by omega)
  rw [e]
  exact ruleP_congr fun i hi => by unfold rT; exact rlA_out hn (by omega) (by omega)
theorem bdA_r {m j : Nat} (h1 : 471 ≤ j) (h2 : j < 1995) : bdA m j = 256 := by
  unfold bdA
  rw [if_neg (by omega), if_neg (by omega), if_neg (by omega), if_neg (by omega), if_neg (by omega), if_neg (by omega), if_neg (by omega), if_neg (by omega), if_neg (by omega), if_neg (by omega), if_neg (by omega), if_neg (by omega), if_neg (by omega), if_neg (by omega), if_pos (by omega)]
theorem rlA_BA {m : Nat} {A : Nat → Nat} {k a b n : Nat} {T : Nat → Nat} (hB : BA m A) (hk : k < 12) (ha : a ≤ 12) (hb : b ≤ 12) (hn : n ≤ 120) (hT : ∀ i, i < n → T i < 256) : BA m (rlA A k a b n T) := by
  intro j hj
  by_cases e0 : j = 2042
  · subst e0
    rw [rlA_k, show bdA m 2042 = 13 from rfl]; omega
  by_cases e1 : 471 + 127 * k ≤ j ∧ j < 471 + 127 * k + 124
  · rw [bdA_r (by omega) (by omega)]
    unfold rlA
    rw [if_neg e0]
    split
    · omega
    · split
      · omega
      · split
        · omega
        · split
          · exact hT _ (by omega)
          · have := hB j hj
            rw [bdA_r (by omega) (by omega)] at this; exact this
  · rw [rlA_out hn (by omega) e0]; exact hB j hj
theorem rlA_VX {A : Nat → Nat} {k a b n : Nat} {T : Nat → Nat} (hn : n ≤ 120) (hk : k < 12) (hV : VX A) : VX (rlA A k a b n T) := by
  have e : ∀ j, (j < 471 ∨ 1995 ≤ j) → j ≠ 2042 → rlA A k a b n T j = A j := fun j h h2 => rlA_out hn (by omega) h2
  obtain ⟨h1, h2, h3⟩ := hV
  refine ⟨fun i hi => ?_, ?_, ?_⟩
  · rw [e _ (by omega) (by omega), e _ (by omega) (by omega)]; exact h1 i hi
  · rw [e _ (by omega) (by omega), e _ (by omega) (by omega)]; exact h2
  · rw [e _ (by omega) (by omega), e _ (by omega) (by omega), e _ (by omega) (by omega), e _ (by omega) (by omega)]; exact h3
theorem awk_c {A B : Nat → Nat} (h : ∀ j, 463 ≤ j → j < 471 → B j = A j) : ∀ m, m ≤ 8 → awk B m = awk A m := by
  intro m
  induction m with
  | zero => intro _; rfl
  | succ m ih => intro hm; show awk B m + (1 - B (463 + m)) = awk A m + (1 - A (463 + m)); rw [ih (by omega), h _ (by omega) (by omega)]
/-- what the class has written -/
def rlF (k : Nat) (a b : Nat) (r : Bool × Nat × Nat × Nat × List Int32) (μ ν : wm_M) : Prop :=
  (∀ c i, c ≠ 59 → c ≠ 61 → c ≠ 62 → c ≠ 75 → ¬ (19 ≤ c ∧ c ≤ 24) → ¬ (c = 18 ∧ i = 6) → ν.1 c i = μ.1 c i) ∧ ν.1 18 6 = nI (k + 1) ∧
  (ν.1 19 k = nI r.2.2.1 ∧ ν.1 20 k = nI a ∧ ν.1 21 k = nI b ∧ ν.1 22 k = nI r.2.2.2.1 ∧ ν.1 23 k = nI r.2.2.2.2.length ∧ ∀ i, i < r.2.2.2.2.length → ν.1 24 (120 * k + i) = r.2.2.2.2.getD i 0) ∧
  (∀ j, j ≠ k → ν.1 19 j = μ.1 19 j ∧ ν.1 20 j = μ.1 20 j ∧ ν.1 21 j = μ.1 21 j ∧ ν.1 22 j = μ.1 22 j ∧ ν.1 23 j = μ.1 23 j) ∧ (∀ j, j < 120 * k → ν.1 24 j = μ.1 24 j) ∧
  ν.1 62 7 = 0 ∧ ν.1 62 8 = -1 ∧ ν.1 75 6 = 0 ∧ ν.1 59 1 = 0
theorem rcT_r : ∀ q ∈ rcT, ∀ i, i < q.2.2.2 → ((q.2.2.1 + i = 2042 → q.1 = 18 ∧ q.2.1 + i = 6) ∧ (q.1 = 18 → q.2.1 + i = 6 → q.2.2.1 + i = 2042) ∧ (q.2.2.1 + i < 471 ∨ 1995 ≤ q.2.2.1 + i) ∧ q.1 ≠ 59 ∧ q.1 ≠ 61 ∧ q.1 ≠ 62 ∧ q.1 ≠ 75 ∧ (q.1 < 19 ∨ 24 < q.1)) := by decide +kernel
theorem rlA_RC {A : Nat → Nat} {k a b n : Nat} {T : Nat → Nat} {μ ν : wm_M} (hn : n ≤ 120) (hk : k < 12) (hA42 : A 2042 = k) (h8 : A 2041 ≤ 8) (hr : (ruleP T n).1 = true) (h : RC 0 A μ) (hF : rlF k a b (ruleP T n) μ ν) : RC 0 (rlA A k a b n T) ν := by
  obtain ⟨f1, f2, ⟨w1, w2, w3, w4, w5, w6⟩, f4, f5, -⟩ := hF
  have e : ∀ j, (j < 471 ∨ 1995 ≤ j) → j ≠ 2042 → rlA A k a b n T j = A j := fun j h h2 => rlA_out hn (by omega) h2
  refine ⟨fun q hq i hi => ?_, ?_, fun j hj => ?_⟩
  · obtain ⟨r1, r2, r3, r4, r5, r6, r7, r8⟩ := rcT_r q hq i hi
    have h0 := h.1 q hq i hi
    by_cases g : q.2.2.1 + i = 2042
    · obtain ⟨g1, g2⟩ := r1 g
      rw [g, rlA_k, Nat.add_zero, g1, g2]; exact f2
    · rw [e _ r3 g, Nat.add_zero, f1 _ _ r4 r5 r6 r7 (by omega) (fun z => g (r2 z.1 z.2))]
      exact h0
  · obtain ⟨h1, h2, h3, h4, h5⟩ := h.2.1
    refine ⟨fun i hi => ?_, fun i hi => ?_, fun i hi => ?_, fun r w hr hw => ?_, ?_⟩
    · rw [e _ (by omega) (by omega), e _ (by omega) (by omega), f1 _ _ (by decide) (by decide) (by decide) (by decide) (by decide) (fun z => absurd z.1 (by decide))]; exact h1 i hi
    · rw [e _ (by omega) (by omega), e _ (by omega) (by omega), f1 _ _ (by decide) (by decide) (by decide) (by decide) (by decide) (fun z => absurd z.1 (by decide))]; exact h2 i hi
    · rw [e _ (by omega) (by omega), e _ (by omega) (by omega), f1 _ _ (by decide) (by decide) (by decide) (by decide) (by decide) (fun z => absurd z.1 (by decide))]; exact h3 i hi
    · rw [e _ (by omega) (by omega), f1 _ _ (by decide) (by decide) (by decide) (by decide) (by decide) (fun z => absurd z.1 (by decide))]; exact h4 r w hr hw
    · rw [e 2041 (by omega) (by omega), awk_c (fun j a b => e j (by omega) (by omega)) _ h8, f1 _ _ (by decide) (by decide) (by decide) (by decide) (by decide) (fun z => absurd z.1 (by decide))]; exact h5
  · rw [rlA_k] at hj
    by_cases g : j = k
    · subst g
      rw [rlA_rP hk hn]
      have eN : rN (rlA A j a b n T) j = n := by unfold rN; exact rlA_n hk
      exact ⟨hr, by rw [eN]; exact hn, w1, by rw [rlA_a hk]; exact w2, by rw [rlA_b hk]; exact w3, w4, w5, w6⟩
    · obtain ⟨g0, g1, g2, g3, g4, g5, g6, g7⟩ := h.2.2 j (by omega)
      obtain ⟨v1, v2, v3, v4, v5⟩ := f4 j g
      rw [rlA_rP' hk hn (by omega) g1]
      have eN : rN (rlA A k a b n T) j = rN A j := by unfold rN; exact rlA_out hn (by omega) (by omega)
      have lc := cdl A j g0 g1
      refine ⟨g0, by rw [eN]; exact g1, v1.trans g2, ?_, ?_, v4.trans g5, v5.trans g6, fun i hi => ?_⟩
      · rw [rlA_out hn (by omega) (by omega)]; exact v2.trans g3
      · rw [rlA_out hn (by omega) (by omega)]; exact v3.trans g4
      · exact (f5 _ (by omega)).trans (g7 i hi)
theorem c_61 (k : Nat) (hk : k < 12) (a b key cf : Nat) (cs : List Int32) (hl : cs.length ≤ 120) {μ : wm_M} {Q : Int32 → wm_M → Prop} (h18 : μ.1 18 6 = nI k) (h4 : μ.1 59 4 = nI key) (h5 : μ.1 59 5 = nI cf) (h3 : μ.1 59 3 = nI cs.length) (hc : ∀ i, i < cs.length → μ.1 61 i = cs.getD i 0)
    (h : ∀ ν, (∀ c i, ¬ (19 ≤ c ∧ c ≤ 24) → ¬ (c = 18 ∧ i = 6) → ν.1 c i = μ.1 c i) → ν.1 18 6 = nI (k + 1) → (ν.1 19 k = nI key ∧ ν.1 20 k = nI a ∧ ν.1 21 k = nI b ∧ ν.1 22 k = nI cf ∧ ν.1 23 k = nI cs.length ∧ ∀ i, i < cs.length → ν.1 24 (120 * k + i) = cs.getD i 0) →
      (∀ j, j ≠ k → ν.1 19 j = μ.1 19 j ∧ ν.1 20 j = μ.1 20 j ∧ ν.1 21 j = μ.1 21 j ∧ ν.1 22 j = μ.1 22 j ∧ ν.1 23 j = μ.1 23 j) → (∀ j, j < 120 * k → ν.1 24 j = μ.1 24 j) → Q (nI k) ν) : wm_OkI 0 61 [.ref 18, .ref 59, .int (nI a), .int (nI b)] μ Q := by
  have vk := vp_in_nI (n := k) (N := 12) hk (by decide)
  have ck := nI_clamp (n := k) (by omega)
  refine f_61 _ _ _ _ ?_
  rw [h18, ck, h4]
  refine ⟨vk, f_61_13 _ _ _ _ ?_⟩
  generalize e1 : wm_si μ 19 k (nI key) = μ1
  have a1 : μ1.1 18 6 = nI k := by subst e1; exact h18
  rw [a1, ck]
  refine ⟨vk, f_61_23 _ _ _ ?_⟩
  generalize e2 : wm_si μ1 20 k (nI a) = μ2
  have a2 : μ2.1 18 6 = nI k := by subst e2; exact a1
  rw [a2, ck]
  refine ⟨vk, f_61_33 _ _ ?_⟩
  generalize e3 : wm_si μ2 21 k (nI b) = μ3
  have a3 : μ3.1 18 6 = nI k := by subst e3; exact a2
  have b3 : μ3.1 59 5 = nI cf := by subst e3 e2 e1; exact h5
  rw [a3, ck, b3]
  refine ⟨vk, f_61_46 _ _ ?_⟩
  generalize e4 : wm_si μ3 22 k (nI cf) = μ4
  have a4 : μ4.1 18 6 = nI k := by subst e4; exact a3
  have b4 : μ4.1 59 3 = nI cs.length := by subst e4 e3 e2 e1; exact h3
  rw [a4, ck, b4]
  refine ⟨vk, f_61_59 _ _ ?_⟩
  generalize e5 : wm_si μ4 23 k (nI cs.length) = μ5
  have a5 : μ5.1 18 6 = nI k := by subst e5; exact a4
  have b5 : μ5.1 59 3 = nI cs.length := by subst e5; exact b4
  have np : ∀ x : Nat, x < 2 ^ 31 → ¬ nI x < 0 := fun x hx q => by
    have := (nI_ltI (b := 0) hx (by decide)).mp q
    omega
  have e120 : nI k * (120 : Int32) = nI (k * 120) := by rw [show (120 : Int32) = nI 120 from rfl, pk_mul]
  rw [a5, b5, e120, nI_clamp (by omega), nI_clamp (by omega), show ((0 : Int32)).toNatClampNeg = 0 from by decide]
  refine ⟨by decide, np _ (by omega), np _ (by omega), by omega, by omega, fun μ6 e6 => f_61_82 _ _ (f_61_92 _ _ ⟨_, rfl, ?_⟩)⟩
  have a6 : μ6.1 18 6 = nI k := by subst e6; exact a5
  have er : (wm_si μ6 18 6 (μ6.1 18 6 + 1)).1 18 6 - 1 = nI k := by
    rw [si_same, a6, nI_1, show (1 : Int32) = nI 1 from rfl, pk_sub (by omega)]; rfl
  rw [er]
  have m24 : ∀ j, (wm_si μ6 18 6 (μ6.1 18 6 + 1)).1 24 j = if k * 120 ≤ j ∧ j < k * 120 + cs.length then μ.1 61 (0 + (j - k * 120)) else μ.1 24 j := fun j => by
    subst e6 e5 e4 e3 e2 e1; rfl
  refine h _ (fun c i n1 n2 => ?_) ?_ ⟨?_, ?_, ?_, ?_, ?_, fun i hi => ?_⟩ (fun j hj => ?_) (fun j hj => ?_)
  · by_cases c18 : c = 18
    · subst c18
      rw [si_other _ _ (fun z => n2 ⟨rfl, z⟩)]
      subst e6 e5 e4 e3 e2 e1; rfl
    · rw [si_ne _ _ _ c18]
      subst e6
      rw [sr_ne _ _ (by omega)]
      subst e5; rw [si_ne _ _ _ (by omega)]
      subst e4; rw [si_ne _ _ _ (by omega)]
      subst e3; rw [si_ne _ _ _ (by omega)]
      subst e2; rw [si_ne _ _ _ (by omega)]
      subst e1; rw [si_ne _ _ _ (by omega)]
  · rw [si_same, a6, nI_1]
  · subst e6 e5 e4 e3 e2 e1; exact si_same μ 19 k (nI key)
  · subst e6 e5 e4 e3 e2 e1; exact si_same μ 20 k (nI a)
  · subst e6 e5 e4 e3 e2 e1; exact si_same μ 21 k (nI b)
  · subst e6 e5 e4 e3 e2 e1; exact si_same μ 22 k (nI cf)
  · subst e6 e5 e4 e3 e2 e1; exact si_same μ 23 k (nI cs.length)
  · rw [m24, if_pos ⟨by omega, by omega⟩, show 0 + (120 * k + i - k * 120) = i by omega]; exact hc i hi
  · subst e6 e5 e4 e3 e2 e1
    exact ⟨si_other μ (c := 19) (nI key) hj, si_other μ (c := 20) (nI a) hj, si_other μ (c := 21) (nI b) hj, si_other μ (c := 22) (nI cf) hj, si_other μ (c := 23) (nI cs.length) hj⟩
  · rw [m24, if_neg (by omega)]
/-- the reference's row while the text is copied -/
def rqA (A : Nat → Nat) (k a b n : Nat) (T : Nat → Nat) (i : Nat) : Nat → Nat := fun j =>
  if j = 471 + 127 * k then a else if j = 472 + 127 * k then b else if j = 473 + 127 * k then n else if 474 + 127 * k ≤ j ∧ j < 474 + 127 * k + i then T (j - (474 + 127 * k)) else A j
theorem rqA_0 (A : Nat → Nat) (k a b n : Nat) (T : Nat → Nat) : uN (uN (uN A (471 + 127 * k) a) (472 + 127 * k) b) (473 + 127 * k) n = rqA A k a b n T 0 := by
  funext j
  show (if j = 473 + 127 * k then n else if j = 472 + 127 * k then b else if j = 471 + 127 * k then a else A j) = (if j = 471 + 127 * k then a else if j = 472 + 127 * k then b else if j = 473 + 127 * k then n else if 474 + 127 * k ≤ j ∧ j < 474 + 127 * k + 0 then T (j - (474 + 127 * k)) else A j)
  have e4 : ¬ (474 + 127 * k ≤ j ∧ j < 474 + 127 * k + 0) := by omega
  by_cases e1 : j = 471 + 127 * k
  · have e2 : ¬ j = 472 + 127 * k := by omega
    have e3 : ¬ j = 473 + 127 * k := by omega
    simp only [e1, e2, e3, if_true, if_false, if_pos, if_neg, not_false_eq_true]
    rw [if_neg (by omega), if_neg (by omega)]
  · by_cases e2 : j = 472 + 127 * k
    · have e3 : ¬ j = 473 + 127 * k := by omega
      rw [if_neg e3, if_pos e2, if_neg e1, if_pos e2]
    · by_cases e3 : j = 473 + 127 * k
      · rw [if_pos e3, if_neg e1, if_neg e2, if_pos e3]
      · rw [if_neg e3, if_neg e2, if_neg e1, if_neg e1, if_neg e2, if_neg e3, if_neg e4]
theorem rqA_s (A : Nat → Nat) (k a b n : Nat) (T : Nat → Nat) (i : Nat) : uN (rqA A k a b n T i) (474 + 127 * k + i) (T i) = rqA A k a b n T (i + 1) := by
  funext j
  show (if j = 474 + 127 * k + i then T i else if j = 471 + 127 * k then a else if j = 472 + 127 * k then b else if j = 473 + 127 * k then n else if 474 + 127 * k ≤ j ∧ j < 474 + 127 * k + i then T (j - (474 + 127 * k)) else A j) = (if j = 471 + 127 * k then a else if j = 472 + 127 * k then b else if j = 473 + 127 * k then n else if 474 + 127 * k ≤ j ∧ j < 474 + 127 * k + (i + 1) then T (j - (474 + 127 * k)) else A j)
  by_cases e : j = 474 + 127 * k + i
  · have q : 474 + 127 * k ≤ j ∧ j < 474 + 127 * k + (i + 1) := ⟨by omega, by omega⟩
    have e1 : ¬ j = 471 + 127 * k := by omega
    have e2 : ¬ j = 472 + 127 * k := by omega
    have e3 : ¬ j = 473 + 127 * k := by omega
    have ej : j - (474 + 127 * k) = i := by omega
    rw [if_pos e, if_neg e1, if_neg e2, if_neg e3, if_pos q, ej]
  · rw [if_neg e]
    have q : (474 + 127 * k ≤ j ∧ j < 474 + 127 * k + i) = (474 + 127 * k ≤ j ∧ j < 474 + 127 * k + (i + 1)) := propext ⟨fun z => ⟨z.1, by omega⟩, fun z => ⟨z.1, by omega⟩⟩
    simp only [q]
theorem rqA_n (A : Nat → Nat) (k a b n : Nat) (T : Nat → Nat) : uN (rqA A k a b n T n) 2042 (k + 1) = rlA A k a b n T := by
  funext j
  rfl
theorem m_239w {A : Nat → Nat} (k x y n : Nat) (T : Nat → Nat) (hk : k < 12) (hn : n ≤ 120) (h42 : A 2042 = k) {μ : wm_M} {Q : Int32 → wm_M → Prop} (hM : RM 91 A μ) (h4 : μ.1 89 4 = nI n) (hT : ∀ i, i < n → μ.1 92 i = nI (T i))
    (h : ∀ ν, RM 91 (rlA A k x y n T) ν → ν.1 89 4 = 0 → (∀ c i, c ≠ 91 → ¬ (c = 89 ∧ i = 4) → ν.1 c i = μ.1 c i) → Q (nI k) ν) :
    wm_Wp 0 239 89 [.ref 89, .int (nI x), .int (nI y), .null, .null] μ (fun v ν => ∃ z, v = some (.int z) ∧ Q z ν) := by
  refine w_239_89 _ _ _ _ (s_188 2 (by decide) ?_)
  have e42 : μ.1 91 (2040 + 2) = nI k := by rw [hM 2042 (by decide), h42]
  have e0 : (471 : Int32) + 127 * nI k = nI (471 + 127 * k) := by rw [show (127 : Int32) = nI 127 from rfl, pk_mul, show (471 : Int32) = nI 471 from rfl, nI_add]
  have e1 : nI (471 + 127 * k) + 1 = nI (472 + 127 * k) := by rw [nI_1]; congr 1; omega
  have e2 : nI (471 + 127 * k) + 2 = nI (473 + 127 * k) := by rw [show (2 : Int32) = nI 2 from rfl, nI_add]; congr 1; omega
  have e3 : ∀ i : Nat, nI (471 + 127 * k) + 3 + nI i = nI (474 + 127 * k + i) := fun i => by rw [show (3 : Int32) = nI 3 from rfl, nI_add, nI_add]; congr 1; omega
  rw [e42, e0, e1, e2, nI_clamp (by omega), nI_clamp (by omega), nI_clamp (by omega)]
  refine ⟨vp_in_nI (by omega) (by decide), vp_in_nI (by omega) (by decide), vp_in_nI (by omega) (by decide), ?_⟩
  have h4' : (wm_si (wm_si μ 91 (471 + 127 * k) (nI x)) 91 (472 + 127 * k) (nI y)).1 89 4 = nI n := h4
  rw [h4']
  have lp : ∀ d i (κ : wm_M), i + d = n → RM 91 (rqA A k x y n T i) κ → (∀ c j, c ≠ 91 → κ.1 c j = μ.1 c j) → wm_Wp 0 239 133 [.ref 89, .null, .null, .int (nI (471 + 127 * k)), .int (nI i)] κ (fun v ν => ∃ z, v = some (.int z) ∧ Q z ν) := by
    intro d
    induction d with
    | zero =>
      intro i κ hd hR hf
      have : i = n := by omega
      subst this
      refine w_239_133 _ _ _ _ ⟨fun _ => w_239_166 _ _ ?_, fun q => absurd ?_ q⟩
      · have r42 : (wm_si κ 89 4 0).1 91 2042 = nI k := by
          show κ.1 91 2042 = _
          rw [hR 2042 (by decide)]
          congr 1
          unfold rqA
          rw [if_neg (by omega), if_neg (by omega), if_neg (by omega), if_neg (by omega)]; exact h42
        rw [show ((2042 : Int32)).toNatClampNeg = 2042 from by decide +kernel, r42, nI_1]
        have hR' : RM 91 (rlA A k x y i T) (wm_si (wm_si κ 89 4 0) 91 2042 (nI (k + 1))) := by
          rw [← rqA_n]
          exact (hR.fr (ν := wm_si κ 89 4 0) rfl).w 2042 (k + 1)
        refine ⟨by unfold vp_in; decide +kernel, by unfold vp_in; decide +kernel, s_188 2 (by decide) ⟨_, rfl, ?_⟩⟩
        rw [show (wm_si (wm_si κ 89 4 0) 91 2042 (nI (k + 1))).1 91 (2040 + 2) = nI (k + 1) from si_same _ _ _ _, show (1 : Int32) = nI 1 from rfl, pk_sub (by omega), Nat.add_sub_cancel]
        refine h _ hR' rfl fun c j n1 n2 => ?_
        rw [si_ne _ _ _ n1]
        by_cases c89 : c = 89
        · subst c89; rw [si_other _ _ (fun z => n2 ⟨rfl, z⟩)]; exact hf _ _ n1
        · rw [si_ne _ _ _ c89]; exact hf _ _ n1
      · rw [hf 89 4 (by decide), h4]; exact nI_le (Nat.le_refl _) (by omega)
    | succ d ih =>
      intro i κ hd hR hf
      refine w_239_133 _ _ _ _ ⟨fun q => absurd q ?_, fun _ => ?_⟩
      · rw [hf 89 4 (by decide), h4]; exact nI_ge (by omega) (by omega)
      rw [e3, nI_clamp (by omega), nI_clamp (by omega), hf 92 i (by decide), hT i (by omega), nI_1]
      refine ⟨vp_in_nI (by omega) (by decide), vp_in_nI (by omega) (by decide), ih (i + 1) _ (by omega) ?_ fun c j n1 => ?_⟩
      · rw [← rqA_s]; exact hR.w _ _
      · rw [si_ne _ _ _ n1]; exact hf c j n1
  refine lp n 0 _ (by omega) ?_ fun c j n1 => ?_
  · rw [← rqA_0]
    exact ((hM.w _ _).w _ _).w _ _
  · rw [si_ne _ _ _ n1, si_ne _ _ _ n1, si_ne _ _ _ n1]
