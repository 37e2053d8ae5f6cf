/-! game: three rows, sureOf; the pair. -/
theorem c_43 {a} (i j : Nat) (hi : i < 3) (hj : j < 3) {μ : wm_M} {Q : Int64 → wm_M → Prop} (r : CG 3 a μ) (h : Q (jI (gC a i j)) μ) : wm_OkJ 0 43 [.ref 86, .int (nI i), .int (nI j)] μ Q := by
  have t3 : ¬ (3 : Int32) = 0 := by decide
  have m3 : ∀ k : Nat, k < 10 → (nI k - nI k / 3 * 3 : Int32) = nI (k % 3) := fun k hk => by simp (disch := omega) only [nl, nI_add, pk_mul, pk_sub, pk_div, rm_n, nI_clamp, vi_, nI_leI, nI_ltI, nI_eq, nI_sb, nI_eqm, nI_meq, Nat.zero_add, Nat.add_zero]
  have a1 : ∀ k : Nat, nI k + 1 = nI (k + 1) := fun k => nI_add k 1
  have a2 : ∀ k : Nat, nI k + 2 = nI (k + 2) := fun k => nI_add k 2
  have l := fun k => Nat.mod_lt k (show 3 > 0 by decide)
  refine v_43 _ _ _ _ ⟨t3, t3, t3, t3, ?_⟩
  rw [a1, a1, a2, a2, m3 _ (by omega), m3 _ (by omega), m3 _ (by omega), m3 _ (by omega)]
  refine c_39 _ _ (l _) (l _) r fun v1 w1 => c_39 _ _ (l _) (l _) r fun v2 w2 => c_39 _ _ (l _) (l _) r fun v3 w3 => c_39 _ _ (l _) (l _) r fun v4 w4 => ⟨_, rfl, ?_⟩
  rw [jI_of, jI_of, jI_of, jI_of, w1, w2, w3, w4, jI_mul, jI_mul, jI_sub]
  exact h
theorem c_42 {a} (hA : gA a) (σ : Int) (hσ : gSo 3 a σ) {μ : wm_M} {Q : wm_M → Prop} (r : CG 3 a μ) (h9 : μ.2 86 3 = jI σ)
    (h : ∀ τ ν, σ ≤ τ → gSo 3 a τ → gHit 3 a (gX3 a) τ → ν.1 = μ.1 → ν.2 86 3 = jI τ → Q ν) : wm_OkV 0 42 [.ref 86] μ Q := by
  have s1 : ∀ i j z (κ : wm_M), i < 3 → j < 3 → κ.1 = μ.1 → κ.2 86 3 = jI σ → (∀ m, m < i → κ.2 87 m = jI (gX3 a m)) → κ.2 87 i = jI z →
      (∀ κ' : wm_M, κ'.1 = μ.1 → κ'.2 86 3 = jI σ → (∀ m, m < i → κ'.2 87 m = jI (gX3 a m)) → κ'.2 87 i = jI (z + gC a i j) → wm_Wp 0 42 16 [.ref 86, .int (nI i), .int (nI (j + 1))] κ' (fun v ν => v = none ∧ Q ν)) →
      wm_Wp 0 42 16 [.ref 86, .int (nI i), .int (nI j)] κ (fun v ν => v = none ∧ Q ν) := by
    intro i j z κ hi hj e1 e2 e3 e4 hh
    have vi := vp_in_nI (n := i) (N := 3) (by omega) (by decide)
    refine w_42_16 _ _ _ _ ⟨fun q => absurd q (nI_ge (a := j) (b := 3) (by omega) (by decide)), fun _ => ⟨vi, c_43 i j hi hj (r.f e1) ⟨vi, ?_⟩⟩⟩
    rw [nI_clamp (by omega), e4, jI_add, nI_1]
    refine hh _ e1 ?_ (fun m hm => ?_) (sl_same _ _ _ _)
    · rw [slr, if_neg (fun q => absurd q.1 (by decide))]; exact e2
    · rw [slr, if_neg (fun q => by omega)]; exact e3 m hm
  have s2 : ∀ i (κ : wm_M), i < 3 → κ.1 = μ.1 → κ.2 86 3 = jI σ → (∀ m, m < i → κ.2 87 m = jI (gX3 a m)) →
      (∀ κ' : wm_M, κ'.1 = μ.1 → κ'.2 86 3 = jI σ → (∀ m, m < i + 1 → κ'.2 87 m = jI (gX3 a m)) → wm_Wp 0 42 2 [.ref 86, .int (nI (i + 1)), .null] κ' (fun v ν => v = none ∧ Q ν)) →
      wm_Wp 0 42 2 [.ref 86, .int (nI i), .null] κ (fun v ν => v = none ∧ Q ν) := by
    intro i κ hi e1 e2 e3 hh
    have vi := vp_in_nI (n := i) (N := 3) (by omega) (by decide)
    refine w_42_2 _ _ _ ⟨fun q => absurd q (nI_ge (a := i) (b := 3) (by omega) (by decide)), fun _ => ⟨vi, ?_⟩⟩
    rw [nI_clamp (by omega)]
    refine s1 i 0 0 _ hi (by decide) e1 ?_ (fun m hm => ?_) (sl_same _ _ _ _) fun κ1 f1 f2 f3 f4 => s1 i 1 _ κ1 hi (by decide) f1 f2 f3 f4 fun κ2 f1 f2 f3 f4 => s1 i 2 _ κ2 hi (by decide) f1 f2 f3 f4 fun κ3 f1 f2 f3 f4 => ?_
    · rw [slr, if_neg (fun q => absurd q.1 (by decide))]; exact e2
    · rw [slr, if_neg (fun q => by omega)]; exact e3 m hm
    refine w_42_16 _ _ _ _ ⟨fun _ => w_42_42 _ _ _ ?_, fun q => absurd (nI_le (Nat.le_refl 3) (by decide)) q⟩
    rw [nI_1]
    refine hh κ3 f1 f2 fun m hm => ?_
    by_cases c : m = i
    · subst c; rw [f4]; congr 1; unfold gX3; omega
    · exact f3 m (by omega)
  refine v_42 _ _ (s2 0 μ (by decide) rfl h9 (fun m hm => absurd hm (by omega)) fun κ1 f1 f2 f3 => s2 1 κ1 (by decide) f1 f2 f3 fun κ2 f1 f2 f3 => s2 2 κ2 (by decide) f1 f2 f3 fun κ3 f1 f2 f3 => ?_)
  refine w_42_2 _ _ _ ⟨fun _ => w_42_48 _ _ ?_, fun q => absurd (nI_le (Nat.le_refl 3) (by decide)) q⟩
  exact c_44 hA (gX3 a) (fun m _ => Nat.le_trans (gX3_b hA m) (by decide)) (fun e => absurd e (by decide)) σ hσ (r.f f1) f3 f2 fun τ ν l1 l2 l3 l4 l5 => ⟨rfl, h τ ν l1 l2 l3 (l4.trans f1) l5⟩
/-- all mixes have been tried -/
def gAll (N : Nat) (a : Nat → Nat → Int) (σ : Int) : Prop := (∀ i, i < N → gHit N a (gx1 i) σ) ∧ gH2 N a N 0 0 0 σ ∧ (N = 3 → gHit N a (gX3 a) σ)
theorem gx21 (i : Nat) : gx2 i i 0 1 = gx1 i := by
  funext m; unfold gx2 gx1
  split
  · rfl
  · rfl
theorem c_38 {N a} (hA : gA a) (hN : gN N) {μ : wm_M} {Q : Int32 → wm_M → Prop} (hm : ∀ i j, i < N → j < N → (μ.1 85 (N * i + j)).toInt = a i j)
    (h : ∀ σ ν, gSo N a σ → gAll N a σ → ν.1 = (wm_si μ 86 2 (nI N)).1 → Q (jI σ).toInt32 ν) : wm_OkI 0 38 [.ref 86, .int (nI N)] μ Q := by
  generalize h0 : wm_sl (wm_si μ 86 2 (nI N)) 86 3 (-1000000) = μ0
  have e0 : μ0.1 = (wm_si μ 86 2 (nI N)).1 := by subst h0; rfl
  have r : CG N a μ0 := ⟨hN, by rw [e0]; exact si_same _ _ _ _, fun i j hi hj => by rw [e0]; exact hm i j hi hj⟩
  have n3 : N ≤ 3 := by rcases hN with e | e <;> omega
  have s0 : μ0.2 86 3 = jI (-1000000) := by subst h0; exact sl_same _ _ _ _
  have le : ∀ κ : wm_M, κ.1 = μ0.1 → ∀ m, N ≤ m → m < 10 → κ.1 86 2 ≤ nI m := fun κ e m h g => by rw [e, r.2.1]; exact nI_le h (by omega)
  have gt : ∀ κ : wm_M, κ.1 = μ0.1 → ∀ m, m < N → ¬ κ.1 86 2 ≤ nI m := fun κ e m h => by rw [e, r.2.1]; exact nI_ge h (by omega)
  have fin : ∀ σ (κ : wm_M), gSo N a σ → gAll N a σ → κ.1 = μ0.1 → κ.2 86 3 = jI σ → wm_Wp 0 38 67 [.ref 86, .null, .null, .null] κ (fun v ν => ∃ z, v = some (.int z) ∧ Q z ν) := by
    intro σ κ h1 h2 h3 h4
    refine w_38_67 _ _ ⟨_, rfl, ?_⟩
    rw [h4]
    exact h σ κ h1 h2 (h3.trans e0)
  have l32 : ∀ k, k < N → (∀ σ (κ : wm_M), gSo N a σ → (∀ i, i < k + 1 → gHit N a (gx1 i) σ) → gH2 N a (k + 1) 0 0 0 σ → κ.1 = μ0.1 → κ.2 86 3 = jI σ → wm_Wp 0 38 49 [.ref 86, .null, .int (nI k), .null] κ (fun v ν => ∃ z, v = some (.int z) ∧ Q z ν)) →
      ∀ d i σ (κ : wm_M), i + d = k → gSo N a σ → (∀ i, i < k + 1 → gHit N a (gx1 i) σ) → gH2 N a k i 0 0 σ → κ.1 = μ0.1 → κ.2 86 3 = jI σ → wm_Wp 0 38 32 [.ref 86, .null, .int (nI k), .int (nI i)] κ (fun v ν => ∃ z, v = some (.int z) ∧ Q z ν) := by
    intro k hk hc d
    induction d with
    | zero =>
      intro i σ κ hd h1 h2 h3 h4 h5
      have : i = k := by omega
      subst this
      exact w_38_32 _ _ _ _ ⟨fun _ => hc σ κ h1 h2 (fun k' i' l' j' a1 a2 a3 a4 a5 => h3 k' i' l' j' a1 a2 a3 a4 (by omega)) h4 h5, fun q => absurd (nI_le (Nat.le_refl _) (by omega)) q⟩
    | succ d ih =>
      intro i σ κ hd h1 h2 h3 h4 h5
      refine w_38_32 _ _ _ _ ⟨fun q => absurd q (nI_ge (by omega) (by omega)), fun _ => c_40 hA k i hk (by omega) σ h1 (r.f h4) h5 h3 fun τ ν f1 f2 f3 f4 f5 => ?_⟩
      rw [nI_1]
      exact ih (i + 1) τ ν (by omega) f2 (fun i hi => (h2 i hi).le f1) f3 (f4.trans h4) f5
  have l14 : ∀ d k σ (κ : wm_M), k + d = N → gSo N a σ → (∀ i, i < k → gHit N a (gx1 i) σ) → gH2 N a k 0 0 0 σ → κ.1 = μ0.1 → κ.2 86 3 = jI σ → wm_Wp 0 38 14 [.ref 86, .null, .int (nI k), .null] κ (fun v ν => ∃ z, v = some (.int z) ∧ Q z ν) := by
    intro d
    induction d with
    | zero =>
      intro k σ κ hd h1 h2 h3 h4 h5
      have : k = N := by omega
      subst this
      refine w_38_14 _ _ _ ⟨fun _ => w_38_55 _ _ ?_, fun q => absurd (le κ h4 _ (Nat.le_refl _) (by omega)) q⟩
      rw [h4, r.2.1, show (3 : Int32) = nI 3 from rfl, nI_eq (by omega) (by decide)]
      refine ⟨fun e => ?_, fun e => fin σ κ h1 ⟨h2, h3, fun q => absurd q e⟩ h4 h5⟩
      subst e
      exact c_42 hA σ h1 (r.f h4) h5 fun τ ν f1 f2 f3 f4 f5 => fin τ ν f2 ⟨fun i hi => (h2 i hi).le f1, h3.le f1, fun _ => f3⟩ (f4.trans h4) f5
    | succ d ih =>
      intro k σ κ hd h1 h2 h3 h4 h5
      refine w_38_14 _ _ _ ⟨fun q => absurd q (gt κ h4 k (by omega)), fun _ => c_41 hA k k (by omega) (by omega) 1 0 (by decide) (by decide) σ h1 (r.f h4) h5 fun τ ν f1 f2 f3 f4 f5 => ?_⟩
      rw [gx21] at f3
      refine l32 k (by omega) (fun τ' κ' g1 g2 g3 g4 g5 => w_38_49 _ _ _ ?_) k 0 τ ν (by omega) f2 (fun i hi => ?_) (h3.le f1) (f4.trans h4) f5
      · rw [nI_1]
        exact ih (k + 1) τ' κ' (by omega) g1 g2 g3 g4 g5
      · by_cases c : i = k
        · subst c; exact f3
        · exact (h2 i (by omega)).le f1
  refine v_38 _ _ _ ?_
  rw [h0]
  exact l14 N 0 (-1000000) μ0 (by omega) ⟨by decide, fun z hz _ => hz⟩ (fun i hi => absurd hi (by omega)) (fun k' i' l' j' a1 a2 a3 a4 a5 => by omega) rfl s0
/-- what all mixes make sure of is what the kernel pays -/
theorem g_same {N a} (hA : gA a) (hN : gN N) {σ : Int} (h1 : gSo N a σ) (h2 : gAll N a σ) {x y : Nat → Int} {p q : Int} (hw : gWin N a x y p q) : σ = 1000 * p / q := by
  obtain ⟨w1, w2, w3, w4, ⟨s, hs, hc⟩, w6, w7⟩ := hw
  have n3 : N ≤ 3 := by rcases hN with e | e <;> omega
  have up : gUp N a (1000 * p / q) := fun m t w ht hm hj => g_floor w q p t w1 ht (g_dual hN a y m p q t w (fun j hj' => ⟨(w2 j hj').2.1, (w2 j hj').2.2.2⟩) w4 hj hm)
  have lo : -1000000 ≤ 1000 * p / q := by
    have h0 := up (gx1 0) 1 (-999) (by decide) (gx1_S hN (by rcases hN with e | e <;> omega)) (fun j hj => ⟨by unfold gx1; split <;> decide, ?_⟩)
    · have : (1000 * (-999) : Int) / 1 = -999000 := by decide
      rw [this] at h0; omega
    · have b := hA 0 j
      rcases hN with e | e <;> subst e <;> simp only [gS, gx1] <;> simp <;> omega
  refine Int.le_antisymm (h1.2 _ lo up) ?_
  have gen : ∀ r : Nat → Int, (∀ m, m < 3 → x m = s * r m) → gHit N a r σ → 1000 * p / q ≤ σ := by
    intro r hr hh
    have e1 : ∀ M, M ≤ 3 → gS M x = s * gS M r := by
      intro M hM
      rw [← gS_s]
      induction M with
      | zero => rfl
      | succ M ih => show gS M x + x M = gS M _ + s * r M; rw [ih (by omega), hr M (by omega)]
    have e2 : ∀ j M, M ≤ 3 → gS M (fun i => x i * a i j) = gS M (fun i => s * r i * a i j) := by
      intro j M hM
      induction M with
      | zero => rfl
      | succ M ih => show gS M _ + x M * a M j = gS M _ + s * r M * a M j; rw [ih (by omega), hr M (by omega)]
    have e3 : q = s * gS N r := by rw [← e1 N n3]; exact w3.symm
    rw [e3]
    exact hh s hs (by rw [← e3]; exact w1) (fun m hm => by rw [← hr m (by omega)]; exact (w2 m hm).1) p (fun j hj => by rw [← e2 j N n3]; exact (w2 j hj).2.2.1)
  rcases hc with ⟨i, hi, e⟩ | ⟨i, k, j, l, hi, hk, hj, hl, e⟩ | ⟨e3, e⟩
  · exact gen _ e (h2.1 i hi)
  · exact gen _ e (h2.2.1 k i l j hi hk hj hl (Or.inl hk))
  · exact gen _ e (h2.2.2 e3)
