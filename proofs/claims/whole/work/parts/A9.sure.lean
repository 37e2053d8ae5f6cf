/-! game of the class: tryMix, the mixes tried, sureOf. -/
theorem c_44 {N a} (hA : gA a) (x : Nat → Int) (bx : ∀ i, i < 3 → (x i).natAbs ≤ 100000000) (x2 : N = 2 → x 2 = 0) (σ : Int) (hσ : gSo N a σ) {μ : wm_M} {Q : wm_M → Prop} (r : CG N a μ) (hx : ∀ i, i < 3 → μ.2 87 i = jI (x i)) (h9 : μ.2 86 3 = jI σ)
    (h : ∀ τ ν, σ ≤ τ → gSo N a τ → gHit N a x τ → ν.1 = μ.1 → ν.2 86 3 = jI τ → Q ν) : wm_OkV 0 44 [.ref 86] μ Q := by
  have n3 : N ≤ 3 := by rcases r.1 with e | e <;> omega
  have b0 := bx 0 (by decide); have b1 := bx 1 (by decide); have b2 := bx 2 (by decide)
  have hS : x 0 + x 1 + x 2 = gS N x := by
    rcases r.1 with e | e <;> subst e
    · rw [x2 rfl]; simp only [gS]; omega
    · simp only [gS]; omega
  have bS : gB (gS N x) := by rw [← hS]; unfold gB; omega
  have c0 : ((0 : Int32)).toNatClampNeg = 0 := by decide
  have c1 : ((1 : Int32)).toNatClampNeg = 1 := by decide
  have c2 : ((2 : Int32)).toNatClampNeg = 2 := by decide
  have i0 : vp_in (0 : Int32) 3 := by unfold vp_in; decide
  have i1 : vp_in (1 : Int32) 3 := by unfold vp_in; decide
  have i2 : vp_in (2 : Int32) 3 := by unfold vp_in; decide
  have vac : (∀ s, (s = 1 ∨ s = -1) → 0 < s * gS N x → (∀ m, m < N → 0 ≤ s * x m) → False) → wm_Wp 0 44 81 [.null, .null, .null, .null, .null, .null, .null, .null, .null, .null] μ (fun v ν => v = none ∧ Q ν) :=
    fun q => w_44_81 _ _ ⟨rfl, h σ μ (Int.le_refl _) hσ (fun s hs e1 e2 => (q s hs e1 e2).elim) rfl h9⟩
  have neg : ∀ (m : Nat) (s : Int), m < 3 → (s = 1 ∨ s = -1) → 0 < s * gS N x → s * x m < 0 → (∀ s, (s = 1 ∨ s = -1) → 0 < s * gS N x → (∀ m, m < N → 0 ≤ s * x m) → False) := by
    intro m s hm hs h1 h2 s' hs' h1' h2'
    have es : s' = s := by
      rcases hs with e | e <;> rcases hs' with f | f <;> subst e <;> subst f
      · rfl
      · rw [Int.neg_one_mul] at h1'; rw [Int.one_mul] at h1; omega
      · rw [Int.neg_one_mul] at h1; rw [Int.one_mul] at h1'; omega
      · rfl
    subst es
    by_cases l : m < N
    · have := h2' m l; omega
    · have e2 : m = 2 := by rcases r.1 with e | e <;> omega
      have : N = 2 := by rcases r.1 with e | e <;> omega
      rw [e2, x2 this, Int.mul_zero] at h2
      omega
  have bm : ∀ (s : Int) m, (s = 1 ∨ s = -1) → m < 3 → gB (s * x m) := fun s m hs hm => by
    have := bx m hm
    unfold gB; rw [g_abs hs]; omega
  have o1 : ((1 : Int32)).toInt64 = jI 1 := by decide
  have om : ((-1 : Int32)).toInt64 = jI (-1) := by decide
  have end_ : ∀ (s : Int) (x3 : Int32), (s = 1 ∨ s = -1) → x3.toInt = s → 0 < s * gS N x → ¬ s * x 0 < 0 → ¬ s * x 1 < 0 → 0 ≤ s * x 2 → wm_Wp 0 44 82 [.ref 86, .long (jI (gS N x)), .null, .int x3, .null, .null, .null, .null, .null, .null] μ (fun v ν => v = none ∧ Q ν) := by
    intro s x3 hs h3 hp p0 p1 p2
    have hn : ∀ m, m < N → 0 ≤ s * x m := fun m hm => by
      rcases (by omega : m = 0 ∨ m = 1 ∨ m = 2) with e | e | e <;> subst e <;> omega
    exact c_44w hA s hs x bx _ x3 h3 r hx fun w bw hw he => c_44f s hs x bx x3 h3 hp hn w bw hw he σ hσ r h9 h
  refine v_44 _ _ ⟨i0, i1, i2, ?_⟩
  rw [c0, c1, c2, hx 0 (by decide), hx 1 (by decide), hx 2 (by decide), jI_add, jI_add, hS, om, jI_mul, jI_mul, jI_mul, lg_cmp_ge, lg_cmp_eq, lg_cmp_lt, lg_cmp_lt, lg_cmp_ge, show (0 : Int64) = jI 0 from rfl, jI_le gB_0 bS, jI_eq bS gB_0, jI_lt (bm (-1) 0 (Or.inr rfl) (by decide)) gB_0, jI_lt (bm (-1) 1 (Or.inr rfl) (by decide)) gB_0, jI_le gB_0 (bm (-1) 2 (Or.inr rfl) (by decide))]
  refine ⟨fun g => w_44_31 _ _ _ ?_, fun g => ⟨fun e => absurd e (by omega), fun e => ?_⟩⟩
  · rw [c0, c1, c2, hx 0 (by decide), hx 1 (by decide), hx 2 (by decide), o1, jI_mul, jI_mul, jI_mul, lg_cmp_eq, lg_cmp_lt, lg_cmp_lt, lg_cmp_ge, show (0 : Int64) = jI 0 from rfl, jI_eq bS gB_0, jI_lt (bm 1 0 (Or.inl rfl) (by decide)) gB_0, jI_lt (bm 1 1 (Or.inl rfl) (by decide)) gB_0, jI_le gB_0 (bm 1 2 (Or.inl rfl) (by decide))]
    refine ⟨fun e => vac fun s hs h1 _ => by rw [e, Int.mul_zero] at h1; omega, fun e => ?_⟩
    have hp : 0 < 1 * gS N x := by rw [Int.one_mul]; omega
    exact ⟨i0, fun q => vac (neg 0 1 (by decide) (Or.inl rfl) hp q), fun q0 => ⟨i1, fun q => vac (neg 1 1 (by decide) (Or.inl rfl) hp q), fun q1 => ⟨i2, fun q => end_ 1 1 (Or.inl rfl) (by decide) hp q0 q1 q, fun q => vac (neg 2 1 (by decide) (Or.inl rfl) hp (Int.not_le.mp q))⟩⟩⟩
  · have hp : 0 < -1 * gS N x := by rw [Int.neg_one_mul]; omega
    exact ⟨i0, fun q => vac (neg 0 (-1) (by decide) (Or.inr rfl) hp q), fun q0 => ⟨i1, fun q => vac (neg 1 (-1) (by decide) (Or.inr rfl) hp q), fun q1 => ⟨i2, fun q => end_ (-1) (-1) (Or.inr rfl) (by decide) hp q0 q1 q, fun q => vac (neg 2 (-1) (by decide) (Or.inr rfl) hp (Int.not_le.mp q))⟩⟩⟩
theorem s_342 {μ : wm_M} {Q : wm_M → Prop} (h : ∀ ν, ν.1 = μ.1 → (∀ i, i < 3 → ν.2 87 i = jI 0) → (∀ c, c ≠ 87 → ν.2 c = μ.2 c) → Q ν) : wm_OkV 0 342 [.ref 87, .long 0] μ Q := by
  have st : ∀ k κ, k < 3 → κ.1 = μ.1 → (∀ i, i < k → κ.2 87 i = jI 0) → (∀ c, c ≠ 87 → κ.2 c = μ.2 c) →
      (∀ κ', κ'.1 = μ.1 → (∀ i, i < k + 1 → κ'.2 87 i = jI 0) → (∀ c, c ≠ 87 → κ'.2 c = μ.2 c) → wm_Wp 0 342 6 [.ref 87, .long 0, .null, .int (nI (k + 1)), .int (nI 3)] κ' (fun v ν => v = none ∧ Q ν)) →
      wm_Wp 0 342 6 [.ref 87, .long 0, .null, .int (nI k), .int (nI 3)] κ (fun v ν => v = none ∧ Q ν) := by
    intro k κ hk e1 e2 e3 hh
    refine w_342_6_87 _ _ _ _ _ ⟨fun q => absurd q (nI_ge (a := k) (b := 3) (by omega) (by decide)), fun _ => ⟨vp_in_nI (by omega) (by decide), ?_⟩⟩
    rw [nI_clamp (by omega), nI_1]
    refine hh _ e1 (fun i hi => ?_) (fun c hc => ?_)
    · rw [slr]
      by_cases f : i = k
      · subst f; rw [if_pos ⟨rfl, rfl⟩]; rfl
      · rw [if_neg (fun q => f q.2)]; exact e2 i (by omega)
    · rw [← e3 c hc]; funext i; rw [slr, if_neg (fun q => hc q.1)]
  refine v_342_87 _ _ _ (st 0 μ (by decide) rfl (fun i hi => absurd hi (by omega)) (fun _ _ => rfl) fun κ a1 a2 a3 => st 1 κ (by decide) a1 a2 a3 fun κ a1 a2 a3 => st 2 κ (by decide) a1 a2 a3 fun κ a1 a2 a3 => ?_)
  exact w_342_6_87 _ _ _ _ _ ⟨fun _ => w_342_22_87 _ _ ⟨rfl, h κ a1 a2 a3⟩, fun q => absurd (nI_le (Nat.le_refl 3) (by decide)) q⟩
theorem c_41 {N a} (hA : gA a) (k i : Nat) (hk : k < N) (hi : i < N) (u w : Int) (bu : u.natAbs ≤ 100000000) (bw : w.natAbs ≤ 100000000) (σ : Int) (hσ : gSo N a σ) {μ : wm_M} {Q : wm_M → Prop} (r : CG N a μ) (h9 : μ.2 86 3 = jI σ)
    (h : ∀ τ ν, σ ≤ τ → gSo N a τ → gHit N a (gx2 i k w u) τ → ν.1 = μ.1 → ν.2 86 3 = jI τ → Q ν) : wm_OkV 0 41 [.ref 86, .int (nI k), .long (jI u), .int (nI i), .long (jI w)] μ Q := by
  have n3 : N ≤ 3 := by rcases r.1 with e | e <;> omega
  refine v_41 _ _ _ _ _ _ (s_342 fun ν e z f => ⟨vp_in_nI (n := i) (by omega) (by decide), vp_in_nI (n := k) (by omega) (by decide), ?_⟩)
  rw [nI_clamp (by omega), nI_clamp (by omega)]
  refine c_44 hA (gx2 i k w u) (fun m _ => ?_) (fun e2 => ?_) σ hσ (r.f e) (fun m hm => ?_) ?_ (fun τ κ l1 l2 l3 l4 l5 => ⟨rfl, h τ κ l1 l2 l3 (l4.trans e) l5⟩)
  · unfold gx2
    split
    · exact bu
    · split
      · exact bw
      · decide
  · unfold gx2; rw [if_neg (by omega), if_neg (by omega)]
  · rw [slr, slr]
    unfold gx2
    by_cases f : m = k
    · rw [if_pos ⟨rfl, f⟩, if_pos f]
    · rw [if_neg (fun q => f q.2), if_neg f]
      by_cases g : m = i
      · rw [if_pos ⟨rfl, g⟩, if_pos g]
      · rw [if_neg (fun q => g q.2), if_neg g]; exact z m hm
  · rw [slr, if_neg (fun q => absurd q.1 (by decide)), slr, if_neg (fun q => absurd q.1 (by decide)), f 86 (by decide)]; exact h9
/-- the mixes of two rows that are tried ahead of (k, i, l, j) -/
def gH2 (N : Nat) (a : Nat → Nat → Int) (k i l j : Nat) (σ : Int) : Prop := ∀ k' i' l' j', i' < k' → k' < N → j' < l' → l' < N → (k' < k ∨ (k' = k ∧ (i' < i ∨ (i' = i ∧ (l' < l ∨ (l' = l ∧ j' < j)))))) → gHit N a (gx2 i' k' (a k' l' - a k' j') (a i' j' - a i' l')) σ
theorem gH2.le {N a k i l j σ τ} (h : gH2 N a k i l j σ) (e : σ ≤ τ) : gH2 N a k i l j τ := fun k' i' l' j' h1 h2 h3 h4 h5 => (h k' i' l' j' h1 h2 h3 h4 h5).le e
theorem i64_sub {v w : Int32} {p q : Int} (hv : v.toInt = p) (hw : w.toInt = q) (bp : p.natAbs ≤ 999) (bq : q.natAbs ≤ 999) : (v - w).toInt64 = jI (p - q) := by
  rw [jI_of]
  congr 1
  rw [Int32.toInt_sub, hv, hw]
  exact Int.bmod_eq_of_le (by omega) (by omega)
theorem c_40 {N a} (hA : gA a) (k i : Nat) (hk : k < N) (hi : i < k) (σ : Int) (hσ : gSo N a σ) {μ : wm_M} {Q : wm_M → Prop} (r : CG N a μ) (h9 : μ.2 86 3 = jI σ) (h2 : gH2 N a k i 0 0 σ)
    (h : ∀ τ ν, σ ≤ τ → gSo N a τ → gH2 N a k (i + 1) 0 0 τ → ν.1 = μ.1 → ν.2 86 3 = jI τ → Q ν) : wm_OkV 0 40 [.ref 86, .int (nI k), .int (nI i)] μ Q := by
  have n3 : N ≤ 3 := by rcases r.1 with e | e <;> omega
  have le : ∀ κ : wm_M, κ.1 = μ.1 → ∀ m, N ≤ m → m < 10 → κ.1 86 2 ≤ nI m := fun κ e m h g => by rw [e, r.2.1]; exact nI_le h (by omega)
  have gt : ∀ κ : wm_M, κ.1 = μ.1 → ∀ m, m < N → ¬ κ.1 86 2 ≤ nI m := fun κ e m h => by rw [e, r.2.1]; exact nI_ge h (by omega)
  have hi' : i < N := by omega
  have l13 : ∀ l, l < N → (∀ τ (κ : wm_M), σ ≤ τ → gSo N a τ → gH2 N a k i (l + 1) 0 τ → κ.1 = μ.1 → κ.2 86 3 = jI τ → wm_Wp 0 40 61 [.ref 86, .int (nI k), .int (nI i), .int (nI l), .null] κ (fun v ν => v = none ∧ Q ν)) →
      ∀ d j τ (κ : wm_M), j + d = l → σ ≤ τ → gSo N a τ → gH2 N a k i l j τ → κ.1 = μ.1 → κ.2 86 3 = jI τ → wm_Wp 0 40 13 [.ref 86, .int (nI k), .int (nI i), .int (nI l), .int (nI j)] κ (fun v ν => v = none ∧ Q ν) := by
    intro l hl hc d
    induction d with
    | zero =>
      intro j τ κ hd e1 e2 e3 e4 e5
      have : j = l := by omega
      subst this
      exact w_40_13 _ _ _ _ _ _ ⟨fun _ => hc τ κ e1 e2 (fun k' i' l' j' a1 a2 a3 a4 a5 => e3 k' i' l' j' a1 a2 a3 a4 (by omega)) e4 e5, fun q => absurd (nI_le (Nat.le_refl _) (by omega)) q⟩
    | succ d ih =>
      intro j τ κ hd e1 e2 e3 e4 e5
      have hj : j < N := by omega
      have rk := r.f e4
      refine w_40_13 _ _ _ _ _ _ ⟨fun q => absurd q (nI_ge (by omega) (by omega)), fun _ => c_39 i j hi' hj rk fun v1 w1 => c_39 i l hi' hl rk fun v2 w2 => c_39 k l hk hl rk fun v3 w3 => c_39 k j hk hj rk fun v4 w4 => ?_⟩
      rw [i64_sub w1 w2 (hA _ _) (hA _ _), i64_sub w3 w4 (hA _ _) (hA _ _)]
      have b1 := hA i j; have b2 := hA i l; have b3 := hA k l; have b4 := hA k j
      refine c_41 hA k i hk hi' _ _ (by omega) (by omega) τ e2 rk e5 fun τ' κ' f1 f2 f3 f4 f5 => ?_
      rw [nI_1]
      refine ih (j + 1) τ' κ' (by omega) (Int.le_trans e1 f1) f2 (fun k' i' l' j' a1 a2 a3 a4 a5 => ?_) (f4.trans e4) f5
      by_cases c : k' = k ∧ i' = i ∧ l' = l ∧ j' = j
      · obtain ⟨c1, c2, c3, c4⟩ := c; subst c1 c2 c3 c4; exact f3
      · exact (e3 k' i' l' j' a1 a2 a3 a4 (by omega)).le f1
  have l2 : ∀ d l τ (κ : wm_M), l + d = N → σ ≤ τ → gSo N a τ → gH2 N a k i l 0 τ → κ.1 = μ.1 → κ.2 86 3 = jI τ → wm_Wp 0 40 2 [.ref 86, .int (nI k), .int (nI i), .int (nI l), .null] κ (fun v ν => v = none ∧ Q ν) := by
    intro d
    induction d with
    | zero =>
      intro l τ κ hd e1 e2 e3 e4 e5
      have : l = N := by omega
      subst this
      exact w_40_2 _ _ _ _ _ ⟨fun _ => w_40_67 _ _ ⟨rfl, h τ κ e1 e2 (fun k' i' l' j' a1 a2 a3 a4 a5 => e3 k' i' l' j' a1 a2 a3 a4 (by omega)) e4 e5⟩, fun q => absurd (le κ e4 _ (Nat.le_refl _) (by omega)) q⟩
    | succ d ih =>
      intro l τ κ hd e1 e2 e3 e4 e5
      refine w_40_2 _ _ _ _ _ ⟨fun q => absurd q (gt κ e4 l (by omega)), fun _ => ?_⟩
      refine l13 l (by omega) (fun τ' κ' f1 f2 f3 f4 f5 => w_40_61 _ _ _ _ _ ?_) l 0 τ κ (by omega) e1 e2 e3 e4 e5
      rw [nI_1]
      exact ih (l + 1) τ' κ' (by omega) f1 f2 f3 f4 f5
  exact v_40 _ _ _ _ (l2 N 0 σ μ (by omega) (Int.le_refl _) hσ h2 rfl h9)
