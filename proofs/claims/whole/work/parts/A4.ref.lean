/-! game of the reference. -/
def jI (z : Int) : Int64 := Int64.ofInt z
theorem jI_add (x y : Int) : jI x + jI y = jI (x + y) := (Int64.ofInt_add x y).symm
theorem jI_sub (x y : Int) : jI x - jI y = jI (x - y) := (Int64.ofInt_sub x y).symm
theorem jI_mul (x y : Int) : jI x * jI y = jI (x * y) := (Int64.ofInt_mul x y).symm
theorem jI_neg (x : Int) : -jI x = jI (-x) := (Int64.ofInt_neg x).symm
theorem jI_of (v : Int32) : v.toInt64 = jI v.toInt := (Int64.ofInt_int32ToInt v).symm
def gB (z : Int) : Prop := z.natAbs ≤ 4000000000000000000
theorem jI_T {z : Int} (h : gB z) : (jI z).toInt = z := by
  unfold gB at h
  exact Int64.toInt_ofInt_of_le (by omega) (by omega)
theorem jI_lt {x y : Int} (hx : gB x) (hy : gB y) : jI x < jI y ↔ x < y := by rw [Int64.lt_iff_toInt_lt, jI_T hx, jI_T hy]
theorem jI_le {x y : Int} (hx : gB x) (hy : gB y) : jI x ≤ jI y ↔ x ≤ y := by rw [Int64.le_iff_toInt_le, jI_T hx, jI_T hy]
theorem jI_eq {x y : Int} (hx : gB x) (hy : gB y) : jI x = jI y ↔ x = y :=
  ⟨fun e => by have := congrArg Int64.toInt e; rwa [jI_T hx, jI_T hy] at this, fun e => by rw [e]⟩
theorem gB_0 : gB 0 := by unfold gB; decide
theorem g_mb {x a : Int} {X A : Nat} (hx : x.natAbs ≤ X) (ha : a.natAbs ≤ A) : (x * a).natAbs ≤ X * A := by
  rw [Int.natAbs_mul]; exact Nat.mul_le_mul hx ha
theorem gS_b (f : Nat → Int) (M : Nat) : ∀ N, (∀ i, i < N → (f i).natAbs ≤ M) → (gS N f).natAbs ≤ N * M := by
  intro N
  induction N with
  | zero => intro _; show Int.natAbs 0 ≤ _; exact Nat.zero_le _
  | succ n ih =>
    intro h
    have h1 := ih fun i hi => h i (by omega)
    have h2 := h n (by omega)
    show (gS n f + f n).natAbs ≤ _
    rw [Nat.succ_mul]
    omega
theorem slr (μ : wm_M) (c k c' k' : Nat) (x : Int64) : (wm_sl μ c k x).2 c' k' = if c' = c ∧ k' = k then x else μ.2 c' k' := by
  show va_up μ.2 c (vp_updL (μ.2 c) k x) c' k' = _
  by_cases e : c' = c
  · subst e
    rw [wm_up_eq]
    by_cases f : k' = k
    · subst f; rw [wm_updL_eq, if_pos ⟨rfl, rfl⟩]
    · rw [wm_updL_ne f, if_neg (fun q => f q.2)]
  · rw [wm_up_ne e, if_neg (fun q => e q.1)]
/-- The matrix as the reference sees it. -/
def RG (N : Nat) (a : Nat → Nat → Int) (μ : wm_M) : Prop := gN N ∧ μ.1 89 39 = nI N ∧ ∀ i j, i < N → j < N → (μ.1 111 (N * i + j)).toInt = a i j
def gA (a : Nat → Nat → Int) : Prop := ∀ i j, (a i j).natAbs ≤ 999
theorem RG.f {N a μ ν} (h : RG N a μ) (e : ν.1 = μ.1) : RG N a ν := by unfold RG at *; rw [e]; exact h
theorem m_281 {N a} (i j : Nat) (hi : i < N) (hj : j < N) {μ : wm_M} {Q : Int64 → wm_M → Prop} (r : RG N a μ) (h : Q (jI (a i j)) μ) : wm_OkJ 0 281 [.ref 89, .int (nI i), .int (nI j)] μ Q := by
  obtain ⟨hN, h1, h2⟩ := r
  have e : μ.1 89 39 * nI i + nI j = nI (N * i + j) := by rw [h1, pk_mul, nI_add]
  have l : N * i + j < 12 := by rcases hN with e | e <;> subst e <;> omega
  refine v_281 _ _ _ _ ⟨by rw [e]; exact vp_in_nI l (by decide), _, rfl, ?_⟩
  rw [e, nI_clamp (by omega), jI_of, h2 i j hi hj]
  exact h
theorem m_283s {N a} (j : Nat) (hj : j < N) (x y : Nat → Int) {μ : wm_M} {Q : Option Value → wm_M → Prop} (r : RG N a μ) (hx : ∀ i, i < 3 → μ.2 107 i = jI (x i)) (hy : ∀ i, i < 3 → μ.2 108 i = jI (y i))
    (h : wm_Wp 0 283 172 [.ref 89, .int (nI j), .long (jI (gS N (fun i => x i * a i j))), .null, .long (jI (gS N (fun i => y i * a j i))), .null, .null] μ Q) :
    wm_Wp 0 283 111 [.ref 89, .int (nI j), .null, .null, .null, .null, .null] μ Q := by
  have n3 : N ≤ 3 := by rcases r.1 with e | e <;> omega
  have lp : ∀ d k, k + d = N → wm_Wp 0 283 119 [.ref 89, .int (nI j), .long (jI (gS k (fun i => x i * a i j))), .null, .long (jI (gS k (fun i => y i * a j i))), .null, .int (nI k)] μ Q := by
    intro d
    induction d with
    | zero =>
      intro k hk
      have : k = N := by omega
      subst this
      refine w_283_119 _ _ _ _ _ _ ⟨fun _ => h, fun q => absurd ?_ q⟩
      rw [r.2.1]; exact nI_le (Nat.le_refl _) (by omega)
    | succ d ih =>
      intro k hk
      refine w_283_119 _ _ _ _ _ _ ⟨fun q => absurd q ?_, fun _ => ⟨vp_in_nI (by omega) (by decide), m_281 k j (by omega) hj r ⟨vp_in_nI (by omega) (by decide), m_281 j k hj (by omega) r ?_⟩⟩⟩
      · rw [r.2.1]; exact nI_ge (by omega) (by omega)
      · rw [nI_clamp (by omega), hx k (by omega), hy k (by omega), jI_mul, jI_mul, jI_add, jI_add, nI_1]
        exact ih (k + 1) (by omega)
  exact w_283_111 _ _ _ (lp N 0 (by omega))
theorem m_283b {N a} (hA : gA a) (x y : Nat → Int) (p : Int) {μ : wm_M} {Q : Int32 → wm_M → Prop} (r : RG N a μ) (hx : ∀ i, i < 3 → μ.2 107 i = jI (x i)) (hy : ∀ i, i < 3 → μ.2 108 i = jI (y i)) (hp : μ.2 89 40 = jI p)
    (bx : ∀ i, i < 3 → (x i).natAbs ≤ 100000000 ∧ (y i).natAbs ≤ 100000000) (bp : p.natAbs ≤ 100000000000000)
    (h1 : gG N a x y p → Q 1 μ) (h0 : ¬ gG N a x y p → Q 0 μ) : wm_Wp 0 283 77 [.ref 89, .null, .null, .null, .null, .null, .null] μ (fun v ν => ∃ z, v = some (.int z) ∧ Q z ν) := by
  have n3 : N ≤ 3 := by rcases r.1 with e | e <;> omega
  have z0 : ¬ gG N a x y p → (((0 : Int32) = 0 ∨ (0 : Int32) = 1) ∧ ∃ z, some (Value.int 0) = some (.int z) ∧ Q z μ) := fun q => ⟨Or.inl rfl, _, rfl, h0 q⟩
  have bB : ∀ i, i < 3 → gB (x i) ∧ gB (y i) := fun i hi => by have := bx i hi; unfold gB; omega
  have lp : ∀ d j, j + d = N → (∀ j', j' < j → 0 ≤ x j' ∧ 0 ≤ y j' ∧ p ≤ gS N (fun i => x i * a i j') ∧ gS N (fun i => y i * a j' i) ≤ p) →
      wm_Wp 0 283 79 [.ref 89, .int (nI j), .null, .null, .null, .null, .null] μ (fun v ν => ∃ z, v = some (.int z) ∧ Q z ν) := by
    intro d
    induction d with
    | zero =>
      intro j hj hd
      have : j = N := by omega
      subst this
      refine w_283_79 _ _ _ ⟨fun _ => w_283_199 _ _ ⟨Or.inr rfl, _, rfl, h1 hd⟩, fun q => absurd ?_ q⟩
      rw [r.2.1]; exact nI_le (Nat.le_refl _) (by omega)
    | succ d ih =>
      intro j hj hd
      have hj3 : j < 3 := by omega
      have b1 : gB (gS N (fun i => x i * a i j)) := by
        have := gS_b (fun i => x i * a i j) (100000000 * 999) N (fun i hi => g_mb (bx i (by omega)).1 (hA i j))
        have l : N * (100000000 * 999) ≤ 3 * (100000000 * 999) := Nat.mul_le_mul_right _ n3
        unfold gB; omega
      have b2 : gB (gS N (fun i => y i * a j i)) := by
        have := gS_b (fun i => y i * a j i) (100000000 * 999) N (fun i hi => g_mb (bx i (by omega)).2 (hA j i))
        have l : N * (100000000 * 999) ≤ 3 * (100000000 * 999) := Nat.mul_le_mul_right _ n3
        unfold gB; omega
      have b3 : gB p := by unfold gB; omega
      refine w_283_79 _ _ _ ⟨fun q => absurd q ?_, fun _ => ⟨vp_in_nI hj3 (by decide), ?_⟩⟩
      · rw [r.2.1]; exact nI_ge (by omega) (by omega)
      rw [nI_clamp (by omega), hx j hj3, hy j hj3, lg_cmp_lt, lg_cmp_ge, show (0 : Int64) = jI 0 from rfl, jI_lt (bB j hj3).1 gB_0, jI_le gB_0 (bB j hj3).2]
      refine ⟨fun q => w_283_109 _ _ (z0 fun g => by have := g j (by omega); omega), fun q1 => ⟨vp_in_nI hj3 (by decide), fun q2 => m_283s j (by omega) x y r hx hy ?_, fun q => w_283_109 _ _ (z0 fun g => by have := g j (by omega); omega)⟩⟩
      refine w_283_172 _ _ _ _ _ ?_
      rw [hp, lg_cmp_lt, lg_cmp_le, jI_lt b1 b3, jI_le b2 b3]
      refine ⟨fun q => w_283_191 _ _ (z0 fun g => by have := g j (by omega); omega), fun q3 => ⟨fun q4 => w_283_193 _ _ _ ?_, fun q => w_283_191 _ _ (z0 fun g => by have := g j (by omega); omega)⟩⟩
      rw [nI_1]
      refine ih (j + 1) (by omega) fun j' hj' => ?_
      by_cases e : j' = j
      · subst e; exact ⟨Int.not_lt.mp q1, q2, Int.not_lt.mp q3, q4⟩
      · exact hd j' (by omega)
  exact w_283_77 _ _ (lp N 0 (by omega) fun j' h => absurd h (by omega))
theorem m_283 {N a} (hA : gA a) (x y : Nat → Int) (p q : Int) {μ : wm_M} {Q : Int32 → wm_M → Prop} (r : RG N a μ) (hx : ∀ i, i < 3 → μ.2 107 i = jI (x i)) (hy : ∀ i, i < 3 → μ.2 108 i = jI (y i)) (hp : μ.2 89 40 = jI p) (hq : μ.2 89 41 = jI q)
    (bx : ∀ i, i < 3 → (x i).natAbs ≤ 100000000 ∧ (y i).natAbs ≤ 100000000) (bp : p.natAbs ≤ 100000000000000) (bq : q.natAbs ≤ 1000000000)
    (h1 : ∀ ν s, (s = 1 ∨ s = -1) → ν.1 = μ.1 → ν.2 89 40 = jI (s * p) → ν.2 89 41 = jI (s * q) → 0 < s * q → gG N a (fun i => s * x i) (fun i => s * y i) (s * p) → Q 1 ν)
    (h0 : ∀ ν, ν.1 = μ.1 → ¬ gOk N a x y p q → Q 0 ν) : wm_OkI 0 283 [.ref 89] μ Q := by
  have b3 : gB q := by unfold gB; omega
  refine v_283 _ _ ?_
  rw [hq, lg_cmp_eq, show (0 : Int64) = jI 0 from rfl, jI_eq b3 gB_0]
  refine ⟨fun e => ⟨Or.inl rfl, _, rfl, h0 μ rfl fun g => by rcases g with g | g <;> omega⟩, fun e => w_283_11 _ _ ?_⟩
  rw [hq, lg_cmp_ge, show (0 : Int64) = jI 0 from rfl, jI_le gB_0 b3]
  refine ⟨fun g => m_283b hA x y p r hx hy hp bx bp (fun k => h1 μ 1 (Or.inl rfl) rfl (by rw [Int.one_mul]; exact hp) (by rw [Int.one_mul]; exact hq) (by omega) ?_) (fun k => h0 μ rfl fun g => ?_), fun g => ?_⟩
  · simp only [Int.one_mul]; exact k
  · rcases g with g | g
    · exact k g.2
    · omega
  · generalize hν : wm_sl (wm_sl μ 89 41 (-jI q)) 89 40 (-(wm_sl μ 89 41 (-jI q)).2 89 40) = ν
    have v1 : ν.1 = μ.1 := by subst hν; rfl
    have v2 : ν.2 89 41 = jI (-q) := by
      subst hν; rw [slr, if_neg (by decide), slr, if_pos (by decide), jI_neg]
    have v3 : ν.2 89 40 = jI (-p) := by
      subst hν; rw [slr, if_pos (by decide), slr, if_neg (by decide), hp, jI_neg]
    have v4 : ∀ c, c ≠ 89 → ν.2 c = μ.2 c := by
      intro c hc; subst hν; funext k; rw [slr, if_neg (fun q => hc q.1), slr, if_neg (fun q => hc q.1)]
    clear hν
    have st : ∀ k κ, k < 3 → κ.1 = μ.1 → κ.2 89 41 = jI (-q) → κ.2 89 40 = jI (-p) → (∀ i, i < 3 → κ.2 107 i = jI (if i < k then -x i else x i) ∧ κ.2 108 i = jI (if i < k then -y i else y i)) →
        (∀ κ', κ'.1 = μ.1 → κ'.2 89 41 = jI (-q) → κ'.2 89 40 = jI (-p) → (∀ i, i < 3 → κ'.2 107 i = jI (if i < k + 1 then -x i else x i) ∧ κ'.2 108 i = jI (if i < k + 1 then -y i else y i)) → wm_Wp 0 283 40 [.ref 89, .int (nI (k + 1)), .null, .null, .null, .null, .null] κ' (fun v ν => ∃ z, v = some (.int z) ∧ Q z ν)) →
        wm_Wp 0 283 40 [.ref 89, .int (nI k), .null, .null, .null, .null, .null] κ (fun v ν => ∃ z, v = some (.int z) ∧ Q z ν) := by
      intro k κ hk e1 e2 e3 e4 hh
      have vi := vp_in_nI (n := k) (N := 3) (by omega) (by decide)
      refine w_283_40 _ _ _ ⟨fun q => absurd q (nI_ge (a := k) (b := 3) (by omega) (by decide)), fun _ => ⟨vi, vi, vi, vi, ?_⟩⟩
      rw [nI_clamp (by omega), nI_1]
      refine hh _ e1 ?_ ?_ fun i hi => ⟨?_, ?_⟩
      · rw [slr, if_neg (fun q => absurd q.1 (by decide)), slr, if_neg (fun q => absurd q.1 (by decide))]; exact e2
      · rw [slr, if_neg (fun q => absurd q.1 (by decide)), slr, if_neg (fun q => absurd q.1 (by decide))]; exact e3
      · rw [slr, if_neg (fun q => absurd q.1 (by decide)), slr]
        by_cases f : i = k
        · subst f
          rw [if_pos ⟨rfl, rfl⟩, (e4 i hi).1, if_neg (by omega), if_pos (by omega), jI_neg]
        · rw [if_neg (fun q => f q.2), (e4 i hi).1]
          congr 1
          by_cases g : i < k
          · rw [if_pos g, if_pos (by omega)]
          · rw [if_neg g, if_neg (by omega)]
      · rw [slr, slr, slr]
        by_cases f : i = k
        · subst f
          rw [if_pos ⟨rfl, rfl⟩, if_neg (fun q => absurd q.1 (by decide)), (e4 i hi).2, if_neg (by omega), if_pos (by omega), jI_neg]
        · rw [if_neg (fun q => f q.2), if_neg (fun q => f q.2), (e4 i hi).2]
          congr 1
          by_cases g : i < k
          · rw [if_pos g, if_pos (by omega)]
          · rw [if_neg g, if_neg (by omega)]
    refine st 0 ν (by decide) v1 v2 v3 (fun i hi => ⟨by rw [v4 107 (by decide), hx i hi, if_neg (by omega)], by rw [v4 108 (by decide), hy i hi, if_neg (by omega)]⟩) fun κ a1 a2 a3 a4 => ?_
    refine st 1 κ (by decide) a1 a2 a3 a4 fun κ a1 a2 a3 a4 => ?_
    refine st 2 κ (by decide) a1 a2 a3 a4 fun κ a1 a2 a3 a4 => ?_
    refine w_283_40 _ _ _ ⟨fun _ => ?_, fun q => absurd (nI_le (Nat.le_refl 3) (by decide)) q⟩
    refine m_283b hA (fun i => -(x i)) (fun i => -(y i)) (-p) (r.f a1) (fun i hi => by rw [(a4 i hi).1, if_pos (by omega)]) (fun i hi => by rw [(a4 i hi).2, if_pos (by omega)]) a3 (fun i hi => by have := bx i hi; omega) (by omega) (fun k => h1 κ (-1) (Or.inr rfl) a1 (by rw [Int.neg_one_mul]; exact a3) (by rw [Int.neg_one_mul]; exact a2) (by omega) ?_) (fun k => h0 κ a1 fun g => ?_)
    · simp only [Int.neg_one_mul]; exact k
    · rcases g with g | g
      · omega
      · exact k g.2
