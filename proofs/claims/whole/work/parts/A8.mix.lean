/-! game of the class. -/
def CG (N : Nat) (a : Nat → Nat → Int) (μ : wm_M) : Prop := gN N ∧ μ.1 86 2 = nI N ∧ ∀ i j, i < N → j < N → (μ.1 85 (N * i + j)).toInt = a i j
theorem CG.f {N a μ ν} (h : CG N a μ) (e : ν.1 = μ.1) : CG N a ν := by unfold CG at *; rw [e]; exact h
theorem c_39 {N a} (i j : Nat) (hi : i < N) (hj : j < N) {μ : wm_M} {Q : Int32 → wm_M → Prop} (r : CG N a μ) (h : ∀ v : Int32, v.toInt = a i j → Q v μ) : wm_OkI 0 39 [.ref 86, .int (nI i), .int (nI j)] μ Q := by
  obtain ⟨hN, h1, h2⟩ := r
  have e : nI i * μ.1 86 2 + nI j = nI (N * i + j) := by rw [h1, pk_mul, nI_add, Nat.mul_comm]
  have l : N * i + j < 12 := by rcases hN with e | e <;> subst e <;> omega
  refine v_39 _ _ _ _ ⟨by rw [e]; exact vp_in_nI l (by decide), _, rfl, ?_⟩
  rw [e, nI_clamp (by omega)]
  exact h _ (h2 i j hi hj)
/-- z is at least what any mix makes sure of. -/
def gUp (N : Nat) (a : Nat → Nat → Int) (z : Int) : Prop := ∀ (m : Nat → Int) (t w : Int), 0 < t → gS N m = t → (∀ j, j < N → 0 ≤ m j ∧ w ≤ gS N (fun i => m i * a i j)) → (1000 * w) / t ≤ z
def gLow (N : Nat) (a : Nat → Nat → Int) (σ : Int) : Prop := ∀ z, -1000000 ≤ z → gUp N a z → σ ≤ z
/-- σ is at least what the mix x makes sure of, if x is one. -/
def gHit (N : Nat) (a : Nat → Nat → Int) (x : Nat → Int) (σ : Int) : Prop := ∀ s, (s = 1 ∨ s = -1) → 0 < s * gS N x → (∀ m, m < N → 0 ≤ s * x m) → ∀ p, (∀ j, j < N → p ≤ gS N (fun i => s * x i * a i j)) → (1000 * p) / (s * gS N x) ≤ σ
theorem gHit.le {N a x σ τ} (h : gHit N a x σ) (l : σ ≤ τ) : gHit N a x τ := fun s hs h1 h2 p hp => Int.le_trans (h s hs h1 h2 p hp) l
theorem div_b {x t : Int} (ht : 0 < t) {X : Nat} (hx : x.natAbs ≤ X) : (x / t).natAbs ≤ X := by
  have h1 : -(X : Int) ≤ x / t := by
    refine Int.le_ediv_of_mul_le ht ?_
    have : (X : Int) * 1 ≤ X * t := Int.mul_le_mul_of_nonneg_left (by omega) (by omega)
    have e : -(X : Int) * t = -(X * t) := Int.neg_mul ..
    omega
  have h2 : x / t ≤ (X : Int) := by
    have : x / t < (X : Int) + 1 := by
      refine Int.ediv_lt_of_lt_mul ht ?_
      have : ((X : Int) + 1) * 1 ≤ (X + 1) * t := Int.mul_le_mul_of_nonneg_left (by omega) (by omega)
      omega
    omega
  omega
theorem c_44c {N a} (s : Int) (x : Nat → Int) (c : Nat) (hc : c < N) (x1 x4 : Int64) (x3 : Int32) (h3 : x3.toInt = s) {μ : wm_M} {Q : Option Value → wm_M → Prop} (r : CG N a μ) (hx : ∀ i, i < 3 → μ.2 87 i = jI (x i))
    (h : wm_Wp 0 44 143 [.ref 86, .long x1, .null, .int x3, .long x4, .null, .int (nI c), .long (jI (gS N (fun i => s * x i * a i c))), .null, .null] μ Q) :
    wm_Wp 0 44 103 [.ref 86, .long x1, .null, .int x3, .long x4, .null, .int (nI c), .long 0, .null, .int 0] μ Q := by
  have n3 : N ≤ 3 := by rcases r.1 with e | e <;> omega
  have lp : ∀ d k, k + d = N → wm_Wp 0 44 103 [.ref 86, .long x1, .null, .int x3, .long x4, .null, .int (nI c), .long (jI (gS k (fun i => s * x i * a i c))), .null, .int (nI k)] μ Q := by
    intro d
    induction d with
    | zero =>
      intro k hk
      have : k = N := by omega
      subst this
      refine w_44_103 _ _ _ _ _ _ _ _ ⟨fun _ => h, fun q => absurd ?_ q⟩
      rw [r.2.1]; exact nI_le (Nat.le_refl _) (by omega)
    | succ d ih =>
      intro k hk
      refine w_44_103 _ _ _ _ _ _ _ _ ⟨fun q => absurd q ?_, fun _ => ⟨vp_in_nI (by omega) (by decide), c_39 k c (by omega) hc r fun v hv => ?_⟩⟩
      · rw [r.2.1]; exact nI_ge (by omega) (by omega)
      · rw [nI_clamp (by omega), hx k (by omega), jI_of x3, h3, jI_of v, hv, jI_mul, jI_mul, jI_add, nI_1]
        exact ih (k + 1) (by omega)
  exact lp N 0 (by omega)
theorem c_44w {N a} (hA : gA a) (s : Int) (hs : s = 1 ∨ s = -1) (x : Nat → Int) (bx : ∀ i, i < 3 → (x i).natAbs ≤ 100000000) (x1 : Int64) (x3 : Int32) (h3 : x3.toInt = s) {μ : wm_M} {Q : Option Value → wm_M → Prop} (r : CG N a μ) (hx : ∀ i, i < 3 → μ.2 87 i = jI (x i))
    (h : ∀ w : Int, w.natAbs ≤ 1000000000000 → (∀ j, j < N → w ≤ gS N (fun i => s * x i * a i j)) → (∃ j, j < N ∧ w = gS N (fun i => s * x i * a i j)) → wm_Wp 0 44 168 [.ref 86, .long x1, .null, .int x3, .long (jI w), .null, .null, .null, .null, .null] μ Q) :
    wm_Wp 0 44 82 [.ref 86, .long x1, .null, .int x3, .null, .null, .null, .null, .null, .null] μ Q := by
  have n3 : N ≤ 3 := by rcases r.1 with e | e <;> omega
  have n2 : 2 ≤ N := by rcases r.1 with e | e <;> omega
  have bs : ∀ j, (gS N (fun i => s * x i * a i j)).natAbs ≤ 1000000000000 := fun j => by
    have := gS_b (fun i => s * x i * a i j) (100000000 * 999) N (fun i hi => g_mb (by rw [g_abs hs]; exact bx i (by omega)) (hA i j))
    have l : N * (100000000 * 999) ≤ 3 * (100000000 * 999) := Nat.mul_le_mul_right _ n3
    omega
  have lp : ∀ d c w, c + d = N → w.natAbs ≤ 1000000000000 → (∀ j, j < c → w ≤ gS N (fun i => s * x i * a i j)) → (0 < c → ∃ j, j < c ∧ w = gS N (fun i => s * x i * a i j)) →
      wm_Wp 0 44 88 [.ref 86, .long x1, .null, .int x3, .long (jI w), .null, .int (nI c), .null, .null, .null] μ Q := by
    intro d
    induction d with
    | zero =>
      intro c w hd bw h1 h2
      have : c = N := by omega
      subst this
      refine w_44_88 _ _ _ _ _ _ ⟨fun _ => h w bw h1 (h2 (by omega)), fun q => absurd ?_ q⟩
      rw [r.2.1]; exact nI_le (Nat.le_refl _) (by omega)
    | succ d ih =>
      intro c w hd bw h1 h2
      refine w_44_88 _ _ _ _ _ _ ⟨fun q => absurd q ?_, fun _ => c_44c s x c (by omega) x1 _ x3 h3 r hx ?_⟩
      · rw [r.2.1]; exact nI_ge (by omega) (by omega)
      have bc := bs c
      have g1 : gB w := by unfold gB; omega
      have g2 : gB (gS N (fun i => s * x i * a i c)) := by unfold gB; omega
      refine w_44_143 _ _ _ _ _ _ _ ?_
      rw [nI_1, show (0 : Int32) = nI 0 from rfl, nI_eq (by omega) (by decide)]
      refine ⟨fun e => ?_, fun e => w_44_153 _ _ _ _ _ _ _ ?_⟩
      · refine ih (c + 1) _ (by omega) bc (fun j hj => ?_) (fun _ => ⟨c, by omega, rfl⟩)
        have : j = c := by omega
        subst this; exact Int.le_refl _
      · rw [nI_1]
        by_cases l : gS N (fun i => s * x i * a i c) < w
        · rw [if_pos ((jI_lt g2 g1).mpr l)]
          refine ih (c + 1) _ (by omega) bc (fun j hj => ?_) (fun _ => ⟨c, by omega, rfl⟩)
          by_cases f : j = c
          · subst f; exact Int.le_refl _
          · exact Int.le_trans (Int.le_of_lt l) (h1 j (by omega))
        · rw [if_neg (fun q => l ((jI_lt g2 g1).mp q))]
          obtain ⟨j0, hj0, e0⟩ := h2 (by omega)
          refine ih (c + 1) _ (by omega) bw (fun j hj => ?_) (fun _ => ⟨j0, by omega, e0⟩)
          by_cases f : j = c
          · subst f; exact Int.not_lt.mp l
          · exact h1 j (by omega)
  exact w_44_82 _ _ _ _ (lp N 0 0 (by omega) (by decide) (fun j hj => absurd hj (by omega)) (fun q => absurd q (by decide)))
/-- What is sure so far. -/
def gSo (N : Nat) (a : Nat → Nat → Int) (σ : Int) : Prop := σ.natAbs ≤ 1000000000000000 ∧ gLow N a σ
theorem c_44f {N a} (s : Int) (hs : s = 1 ∨ s = -1) (x : Nat → Int) (bx : ∀ i, i < 3 → (x i).natAbs ≤ 100000000) (x3 : Int32) (h3 : x3.toInt = s) (hp : 0 < s * gS N x) (hn : ∀ m, m < N → 0 ≤ s * x m) (w : Int) (bw : w.natAbs ≤ 1000000000000)
    (hw : ∀ j, j < N → w ≤ gS N (fun i => s * x i * a i j)) (he : ∃ j, j < N ∧ w = gS N (fun i => s * x i * a i j)) (σ : Int) (hσ : gSo N a σ) {μ : wm_M} {Q : wm_M → Prop} (r : CG N a μ) (h9 : μ.2 86 3 = jI σ)
    (h : ∀ τ ν, σ ≤ τ → gSo N a τ → gHit N a x τ → ν.1 = μ.1 → ν.2 86 3 = jI τ → Q ν) :
    wm_Wp 0 44 168 [.ref 86, .long (jI (gS N x)), .null, .int x3, .long (jI w), .null, .null, .null, .null, .null] μ (fun v ν => v = none ∧ Q ν) := by
  have n3 : N ≤ 3 := by rcases r.1 with e | e <;> omega
  have bS : (gS N x).natAbs ≤ 300000000 := by
    have := gS_b x 100000000 N (fun i hi => bx i (by omega))
    have l : N * 100000000 ≤ 3 * 100000000 := Nat.mul_le_mul_right _ n3
    omega
  have bT : (s * gS N x).natAbs ≤ 300000000 := by rw [g_abs hs]; exact bS
  have bR : (1000 * w / (s * gS N x)).natAbs ≤ 1000000000000000 := div_b hp (by omega)
  have up : gLow N a (1000 * w / (s * gS N x)) := fun z hz hU => hU (fun i => s * x i) _ w hp (gS_s s x N) fun j hj => ⟨hn j hj, hw j hj⟩
  have hit : gHit N a x (1000 * w / (s * gS N x)) := by
    intro s' hs' h1 h2 p hp'
    have es : s' = s := by
      rcases hs with e | e <;> rcases hs' with f | f <;> subst e <;> subst f
      · rfl
      · rw [Int.neg_one_mul] at h1; rw [Int.one_mul] at hp; omega
      · rw [Int.neg_one_mul] at hp; rw [Int.one_mul] at h1; omega
      · rfl
    subst es
    obtain ⟨j, hj, e⟩ := he
    exact g_floor_ge w p _ hp (by rw [e]; exact hp' j hj)
  refine w_44_168 _ _ _ _ _ ?_
  rw [show (1000 : Int64) = jI 1000 from rfl, jI_mul, jI_of, h3, jI_mul]
  refine s_315 (by omega) (by omega) hp ⟨rfl, ?_⟩
  rw [h9]
  have g1 : gB (1000 * w / (s * gS N x)) := by unfold gB; omega
  have g2 : gB σ := by have := hσ.1; unfold gB; omega
  by_cases l : 1000 * w / (s * gS N x) < σ
  · rw [if_pos ((jI_lt g1 g2).mpr l)]
    exact h σ _ (Int.le_refl _) hσ (hit.le (Int.le_of_lt l)) rfl (sl_same _ _ _ _)
  · rw [if_neg (fun q => l ((jI_lt g1 g2).mp q))]
    exact h _ _ (Int.not_lt.mp l) ⟨bR, up⟩ hit rfl (sl_same _ _ _ _)
