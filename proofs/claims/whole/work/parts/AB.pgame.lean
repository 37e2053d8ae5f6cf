/-! the pair game -/
def gR (v : Int32) : Prop := (-999 : Int32) ≤ v ∧ v ≤ 999
theorem c_144l {m : Nat} (hm : m ≤ 12) {μ : wm_M} {Q : Option Value → wm_M → Prop} (e : μ.1 0 9 = nI m) (hb : ¬ (∀ i, i < m → gR (μ.1 85 i)) → wm_OkI 0 162 [.ref 0, .int (-7)] μ (fun r4 μ3 => Q (some (.int r4)) μ3))
    (hg : (∀ i, i < m → gR (μ.1 85 i)) → wm_Wp 0 144 80 [.ref 0, .null] μ Q) : wm_Wp 0 144 39 [.ref 0, .null] μ Q := by
  have lp : ∀ d i, i + d = m → (∀ i', i' < i → gR (μ.1 85 i')) → wm_Wp 0 144 41 [.ref 0, .int (nI i)] μ Q := by
    intro d
    induction d with
    | zero =>
      intro i hd hi
      have : i = m := by omega
      subst this
      refine w_144_41 _ _ _ ⟨fun _ => hg hi, fun q => absurd ?_ q⟩
      rw [e]; exact nI_le (Nat.le_refl _) (by omega)
    | succ d ih =>
      intro i hd hi
      refine w_144_41 _ _ _ ⟨fun q => absurd q ?_, fun _ => ⟨vp_in_nI (by omega) (by decide), s_178 ?_⟩⟩
      · rw [e]; exact nI_ge (by omega) (by omega)
      rw [nI_clamp (by omega)]
      refine ⟨fun z => hb fun q => bI_0.mp z (q i (by omega)), fun z => w_144_74 _ _ _ ?_⟩
      rw [nI_1]
      refine ih (i + 1) (by omega) fun i' hi' => ?_
      by_cases f : i' = i
      · subst f; exact have c := nz z; c
      · exact hi i' (by omega)
  exact w_144_39 _ _ (lp m 0 (by omega) fun i h => absurd h (by omega))
theorem m_290l {m : Nat} (hm : m ≤ 12) {μ : wm_M} {Q : Option Value → wm_M → Prop} (e : μ.1 89 48 = nI m) (hb : ¬ (∀ i, i < m → gR (μ.1 111 i)) → wm_OkI 0 186 [.ref 89, .int (-7)] μ (fun r4 μ3 => Q (some (.int r4)) μ3))
    (hg : (∀ i, i < m → gR (μ.1 111 i)) → wm_Wp 0 290 79 [.ref 89, .null] μ Q) : wm_Wp 0 290 38 [.ref 89, .null] μ Q := by
  have lp : ∀ d i, i + d = m → (∀ i', i' < i → gR (μ.1 111 i')) → wm_Wp 0 290 40 [.ref 89, .int (nI i)] μ Q := by
    intro d
    induction d with
    | zero =>
      intro i hd hi
      have : i = m := by omega
      subst this
      refine w_290_40 _ _ _ ⟨fun _ => hg hi, fun q => absurd ?_ q⟩
      rw [e]; exact nI_le (Nat.le_refl _) (by omega)
    | succ d ih =>
      intro i hd hi
      refine w_290_40 _ _ _ ⟨fun q => absurd q ?_, fun _ => ⟨vp_in_nI (by omega) (by decide), s_184 ?_⟩⟩
      · rw [e]; exact nI_ge (by omega) (by omega)
      rw [nI_clamp (by omega)]
      refine ⟨fun z => hb fun q => bI_0.mp z (q i (by omega)), fun z => w_290_73 _ _ _ ?_⟩
      rw [nI_1]
      refine ih (i + 1) (by omega) fun i' hi' => ?_
      by_cases f : i' = i
      · subst f; exact have c := nz z; c
      · exact hi i' (by omega)
  exact w_290_38 _ _ (lp m 0 (by omega) fun i h => absurd h (by omega))
theorem gR_b {v : Int32} (h : gR v) : v.toInt.natAbs ≤ 999 := by
  have h1 := Int32.le_iff_toInt_le.mp h.1
  have h2 := Int32.le_iff_toInt_le.mp h.2
  rw [show ((-999 : Int32)).toInt = -999 from by decide +kernel] at h1
  rw [show ((999 : Int32)).toInt = 999 from by decide +kernel] at h2
  omega
theorem p_game {n : Nat} {μ : wm_M} (h : Rel n μ) : wm_OkI 0 144 [.ref 0] μ (Pr n 290 [.ref 89]) := by
  have h' := h
  obtain ⟨A, hA, g1, ⟨m1, m2⟩, g3, g4, g5⟩ := h
  rcases m1 with ⟨e1, e2⟩ | ⟨m, hm, e1, e2, e3⟩
  · exact v_144 _ _ ⟨fun _ => s_162 2 (by decide) ⟨_, rfl, v_290 _ _ ⟨fun _ => s_186 2 (by decide) ⟨_, rfl, rfl, (h'.rf 2).up⟩, fun q => absurd e2 q⟩⟩, fun q => absurd e1 q⟩
  have n1 : ¬ μ.1 0 9 = -1 := fun q => (nI_eqm (a := m) (b := 1) (by omega) (by omega) (by omega)).mp (e1.symm.trans q)
  have n0 : ¬ μ.1 89 49 = 0 := by rw [e3]; decide
  have q4 : nI m = (4 : Int32) ↔ m = 4 := nI_eq (b := 4) (by omega) (by decide)
  have q9 : nI m = (9 : Int32) ↔ m = 9 := nI_eq (b := 9) (by omega) (by decide)
  by_cases hk : m = 4 ∨ m = 9
  · -- a game
    have key : wm_Wp 0 144 39 [.ref 0, .null] μ (fun v ν => ∃ z, v = some (.int z) ∧ Pr n 290 [.ref 89] z ν) := by
      have ref : ∀ (ν : wm_M) (P : Option Value → wm_M → Prop), ν.1 89 48 = μ.1 89 48 → ν.1 89 49 = μ.1 89 49 → wm_Wp 0 290 38 [.ref 89, .null] ν P → wm_Ok 0 290 [.ref 89] ν P := by
        intro ν P f1 f2 hW
        refine v_290 _ _ ⟨fun q => absurd (f2.symm.trans q) n0, fun _ => w_290_14 _ _ ?_⟩
        rw [f1, e2, q4, q9]
        exact ⟨fun _ => hW, fun a => ⟨fun _ => hW, fun b => absurd hk (by omega)⟩⟩
      refine c_144l hm e1 (fun hb => s_162 7 (by decide) ⟨_, rfl, ref _ _ rfl rfl (m_290l hm e2 (fun _ => s_186 7 (by decide) ⟨_, rfl, rfl, (h'.rf 7).up⟩) fun q => absurd (fun i hi => by rw [m2 i (by omega)]; exact q i hi) hb)⟩) (fun hg => ?_)
      -- both sides work
      have work : ∀ N, gN N → N * N = m → wm_OkI 0 38 [.ref 86, .int (nI N)] μ (fun r2 μ1 => ∃ z, some (Value.int r2) = some (.int z) ∧ Pr n 290 [.ref 89] z μ1) := by
        intro N hN hNN
        have n3 : N ≤ 3 := by rcases hN with e | e <;> omega
        let a : Nat → Nat → Int := fun i j => if i < N ∧ j < N then (μ.1 85 (N * i + j)).toInt else 0
        have li : ∀ i j, i < N → j < N → N * i + j < m := fun i j hi hj => by rcases hN with e | e <;> subst e <;> omega
        have ha : ∀ i j, i < N → j < N → (μ.1 85 (N * i + j)).toInt = a i j := fun i j hi hj => (if_pos ⟨hi, hj⟩).symm
        have hAa : gA a := fun i j => by
          show (if i < N ∧ j < N then (μ.1 85 (N * i + j)).toInt else 0).natAbs ≤ 999
          split
          · rename_i c; exact gR_b (hg _ (li i j c.1 c.2))
          · decide
        refine c_38 hAa hN ha fun σ ν s1 s2 s3 => ⟨_, rfl, ?_⟩
        have sν : Sm kR μ ν := fun c i q => by rw [s3]; exact (Sm.rf kR μ).si (c := 86) (k := 2) (x := nI N) (by decide) c i q
        have f : ∀ c, c ≠ 86 → ν.1 c = μ.1 c := fun c hc => by rw [s3]; exact wm_up_ne hc
        refine ref ν _ (by rw [f 89 (by decide)]) (by rw [f 89 (by decide)]) (m_290l hm (by rw [f 89 (by decide)]; exact e2) (fun hb => absurd (fun i hi => by rw [f 111 (by decide), ← m2 i (by omega)]; exact hg i hi) hb) (fun _ => ?_))
        have fin : ∀ κ, κ.1 = (wm_si ν 89 39 (nI N)).1 → Rel (n + 1) κ := fun κ e => (h'.sm (sν.tr (fun c i q => by rw [e]; exact (Sm.rf kR ν).si (c := 89) (k := 39) (x := nI N) (by decide) c i q))).up
        have rg : RG N a (wm_si ν 89 39 (nI N)) := ⟨hN, si_same _ _ _ _, fun i j hi hj => by
          have := ha i j hi hj
          rw [m2 _ (by have := li i j hi hj; omega)] at this
          rw [← this, show (wm_si ν 89 39 (nI N)).1 111 = ν.1 111 from rfl, f 111 (by decide)]⟩
        have go : ∀ {Q : Int32 → wm_M → Prop}, (∀ κ x y p q, gWin N a x y p q → κ.1 = (wm_si ν 89 39 (nI N)).1 → κ.2 89 40 = jI p → κ.2 89 41 = jI q → Q 1 κ) → wm_OkI 0 289 [.ref 89] (wm_si ν 89 39 (nI N)) Q := fun hq => m_289 hAa rg hq
        have last : ∀ κ x y p q, gWin N a x y p q → κ.1 = (wm_si ν 89 39 (nI N)).1 → κ.2 89 40 = jI p → κ.2 89 41 = jI q → wm_OkJ 0 282 [.long ((1000 : Int64) * (κ.2 89 40)), .long (κ.2 89 41)] κ (fun r4 μ3 => ∃ z, some (Value.int (r4).toInt32) = some (.int z) ∧ (jI σ).toInt32 = z ∧ Rel (n + 1) μ3) := by
          intro κ x y p q hw e w1 w2
          have hw' := hw
          obtain ⟨b1, -, -, -, -, b6, b7⟩ := hw'
          rw [w1, w2, show (1000 : Int64) = jI 1000 from rfl, jI_mul]
          exact m_282 (by omega) (by omega) b1 ⟨_, rfl, by rw [g_same hAa hN s1 s2 hw], fin κ e⟩
        refine w_290_79 _ _ ?_
        rw [f 89 (by decide), e2, q4]
        rcases hN with eN | eN
        · subst eN
          exact ⟨fun _ => go fun κ x y p q hw e w1 w2 => ⟨fun z => absurd z (by decide), fun _ => last κ x y p q hw e w1 w2⟩, fun z => absurd hNN.symm z⟩
        · subst eN
          exact ⟨fun z => absurd (z.symm.trans hNN.symm) (by decide), fun _ => go fun κ x y p q hw e w1 w2 => ⟨fun z => absurd z (by decide), fun _ => last κ x y p q hw e w1 w2⟩⟩
      refine w_144_80 _ _ ?_
      rw [e1, q4]
      exact ⟨fun e => work 2 (Or.inl rfl) (by omega), fun e => work 3 (Or.inr rfl) (by omega)⟩
    refine v_144 _ _ ⟨fun q => absurd q n1, fun _ => w_144_15 _ _ ?_⟩
    rw [e1, q4, q9]
    exact ⟨fun _ => key, fun a => ⟨fun _ => key, fun b => absurd hk (by omega)⟩⟩
  · refine v_144 _ _ ⟨fun q => absurd q n1, fun _ => w_144_15 _ _ ?_⟩
    rw [e1, q4, q9]
    refine ⟨fun q => absurd (Or.inl q) hk, fun _ => ⟨fun q => absurd (Or.inr q) hk, fun _ => s_162 5 (by decide) ⟨_, rfl, v_290 _ _ ⟨fun q => absurd q n0, fun _ => w_290_14 _ _ ?_⟩⟩⟩⟩
    rw [show (wm_si μ 88 5 (μ.1 88 5 + 1)).1 89 48 = μ.1 89 48 from rfl, e2, q4, q9]
    exact ⟨fun q => absurd (Or.inl q) hk, fun _ => ⟨fun q => absurd (Or.inr q) hk, fun _ => s_186 5 (by decide) ⟨_, rfl, rfl, (h'.rf 5).up⟩⟩⟩
