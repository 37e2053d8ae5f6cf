/-! ===== copy ===== -/
theorem cpy_0 (f : Nat → Int32) (i j : Nat) : va_cpy f f i j 0 = f := by
  funext k
  unfold va_cpy
  rw [if_neg (by omega)]
theorem cpy_f (f : Nat → Int32) {i j : Nat} (x : Nat) (h : j ≤ i) : upd (va_cpy f f i j x) (j + x) (va_cpy f f i j x (i + x)) = va_cpy f f i j (x + 1) := by
  funext k
  unfold upd va_cpy
  rw [if_neg (show ¬ (j ≤ i + x ∧ i + x < j + x) by omega)]
  by_cases e : k = j + x
  · rw [if_pos e, if_pos (by omega), e, show i + (j + x - j) = i + x by omega]
  · rw [if_neg e]
    by_cases e2 : j ≤ k ∧ k < j + x
    · rw [if_pos e2, if_pos (by omega)]
    · rw [if_neg e2, if_neg (by omega)]
theorem cpy_b (f : Nat → Int32) {i j n : Nat} (x : Nat) (h : i < j) (hx : x + 1 ≤ n) : upd (va_cpy f f (i + (x + 1)) (j + (x + 1)) (n - (x + 1))) (j + x) (va_cpy f f (i + (x + 1)) (j + (x + 1)) (n - (x + 1)) (i + x)) = va_cpy f f (i + x) (j + x) (n - x) := by
  funext k
  unfold upd va_cpy
  rw [if_neg (show ¬ (j + (x + 1) ≤ i + x ∧ i + x < j + (x + 1) + (n - (x + 1))) by omega)]
  by_cases e : k = j + x
  · rw [if_pos e, if_pos (by omega), e, show i + x + (j + x - (j + x)) = i + x by omega]
  · rw [if_neg e]
    by_cases e2 : j + (x + 1) ≤ k ∧ k < j + (x + 1) + (n - (x + 1))
    · rw [if_pos e2, if_pos (by omega), show i + (x + 1) + (k - (j + (x + 1))) = i + x + (k - (j + x)) by omega]
    · rw [if_neg e2, if_neg (by omega)]
def okK (m : Nat) (a b : Int32) (k : Nat) : Prop := (∃ i : Nat, i + k ≤ m ∧ a = nI i) ∧ (∃ j : Nat, j + k ≤ m ∧ b = nI j)
theorem c_159 {m : Nat} (hm : m ≤ 12) {a b : Int32} {k : Nat} (hk : k < 2 ^ 31) {μ : wm_M} {Q : Option Value → wm_M → Prop} (e9 : μ.1 0 9 = nI m) (h0 : ¬ okK m a b k → wm_Wp 0 159 62 [.ref 0, .null, .null, .null] μ Q) (h1 : ∀ i j, i + k ≤ m → j + k ≤ m → a = nI i → b = nI j → wm_Wp 0 159 69 [.ref 0, .int a, .int b, .int (nI k)] μ Q) : wm_Wp 0 159 26 [.ref 0, .int a, .int b, .int (nI k)] μ Q := by
  refine w_159_26 _ _ _ _ _ ?_
  rw [e9]
  refine ⟨fun z => h0 (fun ⟨⟨i, hi, _⟩, _⟩ => absurd ((nI_ltI (by omega) hk).mp z) (by omega)), fun z => ?_⟩
  have z : ¬ m < k := fun q => z ((nI_ltI (by omega) hk).mpr q)
  rw [pk_sub (by omega)]
  refine s_178 ⟨fun y => h0 (fun ⟨⟨i, hi, e⟩, _⟩ => bI_0.mp y (by rw [e]; exact nI_in2 (by omega) (by omega))), fun y => ?_⟩
  rw [e9, pk_sub (by omega)]
  refine s_178 ⟨fun x => h0 (fun ⟨_, ⟨j, hj, e⟩⟩ => bI_0.mp x (by rw [e]; exact nI_in2 (by omega) (by omega))), fun x => ?_⟩
  obtain ⟨i, hi, ei⟩ := in_nI (m - k) (by omega) (nz y)
  obtain ⟨j, hj, ej⟩ := in_nI (m - k) (by omega) (nz x)
  exact h1 i j (by omega) (by omega) ei ej
theorem m_309 {m : Nat} (hm : m ≤ 12) {a b : Int32} {k : Nat} (hk : k < 2 ^ 31) {μ : wm_M} {Q : Option Value → wm_M → Prop} (e9 : μ.1 89 48 = nI m) (h0 : ¬ okK m a b k → wm_Wp 0 309 53 [.ref 89, .null, .null, .null, .null] μ Q) (h1 : ∀ i j, i + k ≤ m → j + k ≤ m → a = nI i → b = nI j → wm_Wp 0 309 60 [.ref 89, .int a, .int b, .int (nI k), .null] μ Q) : wm_Wp 0 309 25 [.ref 89, .int a, .int b, .int (nI k), .null] μ Q := by
  refine w_309_25 _ _ _ _ _ ?_
  rw [e9]
  have st := nI_sT (show m < 2 ^ 31 by omega) hk
  refine ⟨fun z => h0 (fun ⟨⟨i, hi, e⟩, _⟩ => absurd z (by rw [e]; exact nI_pos (by omega))), fun z => ⟨fun y => h0 (fun ⟨_, ⟨i, hi, e⟩⟩ => absurd y (by rw [e]; exact nI_pos (by omega))), fun y => ?_⟩⟩
  obtain ⟨i, hi, rfl⟩ := nI_of z
  obtain ⟨j, hj, rfl⟩ := nI_of y
  have l1 : (nI m - nI k < nI i) ↔ ((m : Int) - k < i) := by rw [Int32.lt_iff_toInt_lt, st, nI_toInt hi]
  have l2 : (nI j ≤ nI m - nI k) ↔ ((j : Int) ≤ m - k) := by rw [Int32.le_iff_toInt_le, st, nI_toInt hj]
  refine ⟨fun x => h0 (fun ⟨⟨i', hi', e⟩, _⟩ => ?_), fun x => ⟨fun w => ?_, fun w => h0 (fun ⟨_, ⟨j', hj', e⟩⟩ => ?_)⟩⟩
  · have := (nI_eq hi (by omega)).mp e; have := l1.mp x; omega
  · have x : ¬ ((m : Int) - k < i) := fun q => x (l1.mpr q)
    have w := l2.mp w
    exact h1 i j (by omega) (by omega) rfl rfl
  · have := (nI_eq hj (by omega)).mp e
    have w : ¬ ((j : Int) ≤ m - k) := fun q => w (l2.mpr q)
    omega
theorem l_309 {i j k : Nat} (hi : i + k ≤ 12) (hj : j + k ≤ 12) {μ : wm_M} {Q : Int32 → wm_M → Prop} (hq : Q (nI k) (wm_sr μ 111 (va_cpy (μ.1 111) (μ.1 111) i j k))) : wm_Wp 0 309 60 [.ref 89, .int (nI i), .int (nI j), .int (nI k), .null] μ (fun v ν => ∃ x, v = some (.int x) ∧ Q x ν) := by
  have ad : ∀ a b, nI a + nI b = nI (a + b) := nI_add
  refine w_309_60 _ _ _ _ _ ?_
  by_cases h : j ≤ i
  · have fin : wm_Wp 0 309 98 [.ref 89, .int (nI i), .int (nI j), .int (nI k), .null] (wm_sr μ 111 (va_cpy (μ.1 111) (μ.1 111) i j k)) (fun v ν => ∃ x, v = some (.int x) ∧ Q x ν) := w_309_98 _ _ _ _ _ (w_309_103 _ _ _ _ _ _ ⟨fun _ => w_309_137 _ _ _ ⟨_, rfl, hq⟩, fun _ => ⟨fun _ => w_309_137 _ _ _ ⟨_, rfl, hq⟩, fun q => absurd (nI_le h (by omega)) q⟩⟩)
    have l : ∀ r x, x + r = k → wm_Wp 0 309 63 [.ref 89, .int (nI i), .int (nI j), .int (nI k), .int (nI x)] (wm_sr μ 111 (va_cpy (μ.1 111) (μ.1 111) i j x)) (fun v ν => ∃ x, v = some (.int x) ∧ Q x ν) := by
      intro r
      induction r with
      | zero =>
        intro x hx
        rw [show x = k by omega]
        exact w_309_63 _ _ _ _ _ _ ⟨fun _ => fin, fun z => absurd (nI_le (Nat.le_refl _) (by omega)) z⟩
      | succ r ih =>
        intro x hx
        refine w_309_63 _ _ _ _ _ _ ⟨fun z => absurd z (nI_ge (by omega) (by omega)), fun _ => ⟨fun z => absurd ((nI_ltI (by omega) (by omega)).mp z) (by omega), fun _ => ?_⟩⟩
        rw [ad, ad, nI_clamp (show i + x < 2 ^ 31 by omega), nI_clamp (show j + x < 2 ^ 31 by omega), sr_eq, si_sr, cpy_f _ _ h, nI_1]
        exact ⟨vp_in_nI (by omega) (by decide), vp_in_nI (by omega) (by decide), ih (x + 1) (by omega)⟩
    have l0 := l k 0 (by omega)
    rw [cpy_0, sr_self] at l0
    exact l0
  · have l : ∀ r, r ≤ k → wm_Wp 0 309 103 [.ref 89, .int (nI i), .int (nI j), .int (nI k), .int (nI r + (-1))] (wm_sr μ 111 (va_cpy (μ.1 111) (μ.1 111) (i + r) (j + r) (k - r))) (fun v ν => ∃ x, v = some (.int x) ∧ Q x ν) := by
      intro r
      induction r with
      | zero =>
        intro hr
        rw [Nat.add_zero, Nat.add_zero, Nat.sub_zero]
        exact w_309_103 _ _ _ _ _ _ ⟨fun _ => w_309_137 _ _ _ ⟨_, rfl, hq⟩, fun z => absurd (by decide +kernel) z⟩
      | succ r ih =>
        intro hr
        rw [pk_m1]
        refine w_309_103 _ _ _ _ _ _ ⟨fun z => absurd z (nI_pos (by omega)), fun _ => ⟨fun z => absurd ((nI_leI (by omega) (by omega)).mp z) h, fun _ => ?_⟩⟩
        rw [ad, ad, nI_clamp (show i + r < 2 ^ 31 by omega), nI_clamp (show j + r < 2 ^ 31 by omega), sr_eq, si_sr, cpy_b _ _ (by omega) hr]
        exact ⟨vp_in_nI (by omega) (by decide), vp_in_nI (by omega) (by decide), ih (by omega)⟩
    have l0 := l k (Nat.le_refl k)
    rw [Nat.sub_self, cpy_0, sr_self] at l0
    have g : wm_Wp 0 309 98 [.ref 89, .int (nI i), .int (nI j), .int (nI k), .null] μ (fun v ν => ∃ x, v = some (.int x) ∧ Q x ν) := w_309_98 _ _ _ _ _ (by rw [Int32.sub_eq_add_neg]; exact l0)
    exact w_309_63 _ _ _ _ _ _ ⟨fun _ => g, fun _ => ⟨fun _ => g, fun z => absurd ((nI_ltI (by omega) (by omega)).mpr (by omega)) z⟩⟩
theorem p_copy (a b c : Int32) {n : Nat} {μ : wm_M} (h : Rel n μ) : wm_OkI 0 159 [.ref 0, .int a, .int b, .int c] μ (Pr n 309 [.ref 89, .int a, .int b, .int c]) := by
  have h' := h
  obtain ⟨A, hA, g1, ⟨m1, m2⟩, g3, g4, g5⟩ := h
  rcases m1 with ⟨e1, e2⟩ | ⟨m, hm, e1, e2, e3⟩
  · refine v_159 _ _ _ _ _ ⟨fun _ => s_161 2 (by decide) ⟨_, rfl, v_309 _ _ _ _ _ ⟨fun _ => s_185 2 (by decide) ⟨_, rfl, rfl, (h'.rf 2).up⟩, fun q => absurd e2 q⟩⟩, fun q => absurd e1 q⟩
  · have n1 : ¬ μ.1 0 9 = -1 := fun q => (nI_eqm (a := m) (b := 1) (by omega) (by omega) (by omega)).mp (e1.symm.trans q)
    have n0 : ¬ μ.1 89 49 = 0 := by rw [e3]; decide
    refine v_159 _ _ _ _ _ ⟨fun q => absurd q n1, fun _ => w_159_15 _ _ _ _ _ ⟨fun z => ?_, fun z => s_161 4 (by decide) ⟨_, rfl, v_309 _ _ _ _ _ ⟨fun q => absurd q n0, fun _ => w_309_14 _ _ _ _ _ ⟨fun q => absurd q z, fun _ => s_185 4 (by decide) ⟨_, rfl, rfl, (h'.rf 4).up⟩⟩⟩⟩⟩⟩
    obtain ⟨k, hk, rfl⟩ := nI_of (Int32.not_lt.mpr z)
    refine c_159 hm hk e1 (fun y => w_159_62 _ _ (s_161 6 (by decide) ⟨_, rfl, v_309 _ _ _ _ _ ⟨fun q => absurd q n0, fun _ => w_309_14 _ _ _ _ _ ⟨fun _ => m_309 hm hk e2 (fun _ => w_309_53 _ _ (s_185 6 (by decide) ⟨_, rfl, rfl, (h'.rf 6).up⟩)) (fun i j hi hj ei ej => absurd ⟨⟨i, hi, ei⟩, ⟨j, hj, ej⟩⟩ y), fun q => absurd z q⟩⟩⟩)) (fun i j hi hj ei ej => ?_)
    subst ei; subst ej
    refine w_159_69 _ _ _ _ _ ⟨nI_pos (by omega), nI_pos (by omega), nI_pos hk, ?_⟩
    rw [nI_clamp (show i < 2 ^ 31 by omega), nI_clamp (show j < 2 ^ 31 by omega), nI_clamp hk]
    refine ⟨by omega, by omega, fun ν hν => ⟨_, rfl, ?_⟩⟩
    subst hν
    refine v_309 _ _ _ _ _ ⟨fun q => absurd q n0, fun _ => w_309_14 _ _ _ _ _ ⟨fun _ => m_309 hm hk e2 (fun q => absurd ⟨⟨i, hi, rfl⟩, ⟨j, hj, rfl⟩⟩ q) (fun i' j' _ _ ei ej => ?_), fun q => absurd z q⟩⟩
    refine l_309 (by omega) (by omega) ⟨rfl, ?_⟩
    have sm : ∀ K : Nat → Nat → Bool, (∀ i, K 85 i = false) → (∀ i, K 111 i = false) → Sm K μ (wm_sr (wm_sr μ 85 (va_cpy (μ.1 85) (μ.1 85) i j k)) 111 (va_cpy (μ.1 111) (μ.1 111) i j k)) := fun K a b => ((Sm.rf K μ).sr a).sr b
    refine (h'.oth (sm _ (fun _ => rfl) (fun _ => rfl)) ⟨g1.sm (sm _ (fun _ => rfl) (fun _ => rfl)), ⟨Or.inr ⟨m, hm, e1, e2, e3⟩, fun x hx => ?_⟩, g3.sm (sm _ (fun _ => rfl) (fun _ => rfl)), g4.sm (sm _ (fun _ => rfl) (fun _ => rfl)), g5.sm (sm _ (fun _ => rfl) (fun _ => rfl))⟩).up
    show va_cpy (μ.1 85) (μ.1 85) i j k x = va_cpy (μ.1 111) (μ.1 111) i j k x
    unfold va_cpy
    by_cases q : j ≤ x ∧ x < j + k
    · rw [if_pos q, if_pos q]; exact m2 _ (by omega)
    · rw [if_neg q, if_neg q]; exact m2 _ hx
/-! ===== feed ===== -/
theorem bv_b (b : BitVec 32) (k : Nat) (hk : k ≤ 24) : (b >>> k).toNat % 256 = (b.sshiftRight k).toNat % 256 := by
  have h : (b >>> k).setWidth 8 = (b.sshiftRight k).setWidth 8 := by
    apply BitVec.eq_of_getLsbD_eq
    intro i hi
    have h1 : k + i < 32 := by omega
    have h2 : ¬ 32 ≤ i := by omega
    simp [BitVec.getLsbD_setWidth, BitVec.getLsbD_ushiftRight, BitVec.getLsbD_sshiftRight, h1, h2, hi]
  have h2 := congrArg BitVec.toNat h
  simpa [BitVec.toNat_setWidth] using h2
def bt (x : Int32) (k : Nat) : Nat := (x.toBitVec >>> (8 * k)).toNat % 256
theorem bt_lt (x : Int32) (k : Nat) : bt x k < 256 := Nat.mod_lt _ (by decide)
theorem bt_c (x : Int32) (k : Nat) (hk : k < 4) : (x.toUInt32 >>> (((8 : Int32) * nI k).toUInt32 &&& Int32.toUInt32 31)).toInt32 &&& (255 : Int32) = nI (bt x k) := by
  rw [pk_and _ 8 (by decide)]
  unfold bt
  have : k = 0 ∨ k = 1 ∨ k = 2 ∨ k = 3 := by omega
  rcases this with rfl | rfl | rfl | rfl
  · rw [pk_ushr _ _ 0 (by decide +kernel), BitVec.toNat_ushiftRight, Nat.shiftRight_eq_div_pow]
  · rw [pk_ushr _ _ 8 (by decide +kernel), BitVec.toNat_ushiftRight, Nat.shiftRight_eq_div_pow]
  · rw [pk_ushr _ _ 16 (by decide +kernel), BitVec.toNat_ushiftRight, Nat.shiftRight_eq_div_pow]
  · rw [pk_ushr _ _ 24 (by decide +kernel), BitVec.toNat_ushiftRight, Nat.shiftRight_eq_div_pow]
theorem bt_m (x : Int32) (k : Nat) (hk : k < 4) : (x >>> (((8 : Int32) * nI k) &&& 31)) &&& (255 : Int32) = nI (bt x k) := by
  rw [pk_and _ 8 (by decide)]
  unfold bt
  rw [bv_b _ _ (by omega)]
  have key : ∀ (s : Int32) (j : Nat), (s.toBitVec.smod 32).toNat = j → (x >>> s).toBitVec.toNat = (x.toBitVec.sshiftRight j).toNat := fun s j hs => by
    show (x.toBitVec.sshiftRight (s.toBitVec.smod 32).toNat).toNat = _
    rw [hs]
  have : k = 0 ∨ k = 1 ∨ k = 2 ∨ k = 3 := by omega
  rcases this with rfl | rfl | rfl | rfl
  · rw [key _ 0 (by decide +kernel)]
  · rw [key _ 8 (by decide +kernel)]
  · rw [key _ 16 (by decide +kernel)]
  · rw [key _ 24 (by decide +kernel)]
def fd (x : Int32) : Nat → Nat → (Nat → Nat) → (Nat → Nat)
  | 0, _, T => T
  | k + 1, t, T => fd x k (t + 1) (uN T t (bt x k))
theorem fd_lt (x : Int32) : ∀ k t T, (∀ i, i < t → T i < 256) → ∀ i, i < t + k → fd x k t T i < 256
  | 0, t, T, h => fun i hi => h i hi
  | k + 1, t, T, h => fun i hi => by
    refine fd_lt x k (t + 1) _ (fun j hj => ?_) i (by omega)
    by_cases e : j = t
    · subst e; rw [uN_eq]; exact bt_lt _ _
    · rw [uN_ne _ _ e]; exact h j (by omega)
theorem l_129 (x : Int32) {Q : Int32 → wm_M → Prop} : ∀ (k t : Nat) (T : Nat → Nat) (μ : wm_M), k ≤ 4 → t + k ≤ 120 → μ.1 59 1 = nI t → (∀ i, i < t → μ.1 60 i = nI (T i)) → (∀ ν, ν.1 59 1 = nI (t + k) → (∀ i, i < t + k → ν.1 60 i = nI (fd x k t T i)) → (∀ K : Nat → Nat → Bool, (∀ i, K 60 i = false) → K 59 1 = false → Sm K μ ν) → Q (nI (t + k)) ν) → wm_Wp 0 129 48 [.ref 0, .int x, .null, .int (nI k + (-1))] μ (fun v ν => ∃ x, v = some (.int x) ∧ Q x ν)
  | 0, t, T, μ, _, ht, e1, e2, hq => w_129_48 _ _ _ _ ⟨fun _ => w_129_75 _ _ ⟨_, rfl, by rw [e1]; exact hq μ e1 e2 (fun K _ _ => Sm.rf K μ)⟩, fun z => absurd (by decide +kernel) z⟩
  | k + 1, t, T, μ, hk, ht, e1, e2, hq => by
    rw [pk_m1]
    refine w_129_48 _ _ _ _ ⟨fun z => absurd z (nI_pos (by omega)), fun _ => v_88 _ _ _ ?_⟩
    rw [bt_c x k (by omega), e1, nI_clamp (by omega)]
    refine ⟨vp_in_nI (by omega) (by decide), rfl, ?_⟩
    rw [show (wm_si μ 60 t (nI (bt x k))).1 59 1 = nI t from e1, nI_1]
    refine l_129 x k (t + 1) (uN T t (bt x k)) _ (by omega) (by omega) rfl (fun i hi => ?_) (fun ν f1 f2 f3 => ?_)
    · show upd (μ.1 60) t (nI (bt x k)) i = _
      by_cases e : i = t
      · subst e; rw [wm_upd_eq, uN_eq]
      · rw [wm_upd_ne e, uN_ne _ _ e]; exact e2 i (by omega)
    · rw [show t + 1 + k = t + (k + 1) by omega] at f1 f2 ⊢
      exact hq ν f1 f2 (fun K a b => (((Sm.rf K μ).si (a t)).si b).tr (f3 K a b))
theorem l_223 (x : Int32) {Q : Int32 → wm_M → Prop} : ∀ (k t : Nat) (T : Nat → Nat) (μ : wm_M), k ≤ 4 → t + k ≤ 120 → μ.1 89 4 = nI t → (∀ i, i < t → μ.1 92 i = nI (T i)) → (∀ ν, ν.1 89 4 = nI (t + k) → (∀ i, i < t + k → ν.1 92 i = nI (fd x k t T i)) → (∀ K : Nat → Nat → Bool, (∀ i, K 92 i = false) → K 89 4 = false → Sm K μ ν) → Q (nI (t + k)) ν) → wm_Wp 0 223 45 [.ref 89, .int x, .null, .int (nI k + (-1))] μ (fun v ν => ∃ x, v = some (.int x) ∧ Q x ν)
  | 0, t, T, μ, _, ht, e1, e2, hq => w_223_45 _ _ _ _ ⟨fun _ => w_223_84 _ _ ⟨_, rfl, by rw [e1]; exact hq μ e1 e2 (fun K _ _ => Sm.rf K μ)⟩, fun z => absurd (by decide +kernel) z⟩
  | k + 1, t, T, μ, hk, ht, e1, e2, hq => by
    rw [pk_m1]
    refine w_223_45 _ _ _ _ ⟨fun z => absurd z (nI_pos (by omega)), fun _ => ?_⟩
    rw [bt_m x k (by omega), e1, nI_clamp (by omega)]
    refine ⟨vp_in_nI (by omega) (by decide), ?_⟩
    rw [show (wm_si μ 92 t (nI (bt x k))).1 89 4 = nI t from e1, nI_1]
    refine l_223 x k (t + 1) (uN T t (bt x k)) _ (by omega) (by omega) rfl (fun i hi => ?_) (fun ν f1 f2 f3 => ?_)
    · show upd (μ.1 92) t (nI (bt x k)) i = _
      by_cases e : i = t
      · subst e; rw [wm_upd_eq, uN_eq]
      · rw [wm_upd_ne e, uN_ne _ _ e]; exact e2 i (by omega)
    · rw [show t + 1 + k = t + (k + 1) by omega] at f1 f2 ⊢
      exact hq ν f1 f2 (fun K a b => (((Sm.rf K μ).si (a t)).si b).tr (f3 K a b))
theorem p_feed (a b : Int32) {n : Nat} {μ : wm_M} (h : Rel n μ) : wm_OkI 0 129 [.ref 0, .int a, .int b] μ (Pr n 223 [.ref 89, .int a, .int b]) := by
  have h' := h
  obtain ⟨A, hA, ⟨t, T, t1, t2, t3, t4⟩, g2, g3, g4, g5⟩ := h
  refine v_129 _ _ _ _ ⟨fun z => w_129_11 _ _ _ _ ⟨fun y => w_129_23 _ _ _ _ ?_, fun y => s_161 7 (by decide) ⟨_, rfl, v_223 _ _ _ _ ⟨fun _ => w_223_11 _ _ _ _ ⟨fun q => absurd q y, fun _ => s_185 7 (by decide) ⟨_, rfl, rfl, (h'.rf 7).up⟩⟩, fun q => absurd z q⟩⟩⟩, fun z => s_161 4 (by decide) ⟨_, rfl, v_223 _ _ _ _ ⟨fun q => absurd q z, fun _ => s_185 4 (by decide) ⟨_, rfl, rfl, (h'.rf 4).up⟩⟩⟩⟩
  obtain ⟨k, hk, rfl⟩ := in_nI 4 (by decide) ⟨z, y⟩
  have ent : ∀ {ν : wm_M} {Q : Int32 → wm_M → Prop}, wm_Wp 0 223 23 [.ref 89, .int a, .int (nI k), .null] ν (fun w κ => ∃ x, w = some (.int x) ∧ Q x κ) → wm_OkI 0 223 [.ref 89, .int a, .int (nI k)] ν Q := fun {ν Q} w => v_223 _ _ _ _ ⟨fun _ => w_223_11 _ _ _ _ ⟨fun _ => w, fun q => absurd y q⟩, fun q => absurd z q⟩
  rw [t2, nI_add]
  have k120 : (nI (t + k) ≤ (120 : Int32) ↔ t + k ≤ 120) := nI_leI (b := 120) (by omega) (by decide)
  refine ⟨fun x => w_129_44 _ _ _ _ ?_, fun x => s_161 8 (by decide) ⟨_, rfl, ent (w_223_23 _ _ _ _ ?_)⟩⟩
  · have x := k120.mp x
    rw [Int32.sub_eq_add_neg]
    refine l_129 a k t T μ hk x t2 (fun i hi => (t4 i hi).2.1) (fun ν f1 f2 f3 => ent (w_223_23 _ _ _ _ ?_))
    have e89 : ν.1 89 4 = nI t := (f3 (fun c i => Nat.beq c 89) (fun _ => rfl) rfl 89 4 rfl).trans t3
    rw [e89, nI_add]
    refine ⟨fun _ => w_223_41 _ _ _ _ ?_, fun q => absurd (k120.mpr x) q⟩
    rw [Int32.sub_eq_add_neg]
    refine l_223 a k t T ν hk x e89 (fun i hi => (f3 (fun c i => Nat.beq c 92) (fun _ => rfl) rfl 92 i rfl).trans (t4 i hi).2.2) (fun κ k1 k2 k3 => ⟨rfl, ?_⟩)
    have sm : ∀ K : Nat → Nat → Bool, (∀ i, K 60 i = false) → K 59 1 = false → (∀ i, K 92 i = false) → K 89 4 = false → Sm K μ κ := fun K a b c d => (f3 K a b).tr (k3 K c d)
    refine (h'.oth (sm _ (fun _ => rfl) rfl (fun _ => rfl) rfl) ⟨⟨t + k, fd a k t T, x, (k3 (fun c i => Nat.beq c 59) (fun _ => rfl) rfl 59 1 rfl).trans f1, k1, fun i hi => ⟨fd_lt a k t T (fun j hj => (t4 j hj).1) i hi, (k3 (fun c i => Nat.beq c 60) (fun _ => rfl) rfl 60 i rfl).trans (f2 i hi), k2 i hi⟩⟩, g2.sm (sm _ (fun _ => rfl) rfl (fun _ => rfl) rfl), g3.sm (sm _ (fun _ => rfl) rfl (fun _ => rfl) rfl), g4.sm (sm _ (fun _ => rfl) rfl (fun _ => rfl) rfl), g5.sm (sm _ (fun _ => rfl) rfl (fun _ => rfl) rfl)⟩).up
  · rw [show (wm_si μ 88 8 (μ.1 88 8 + 1)).1 89 4 = nI t from t3, nI_add]
    exact ⟨fun q => absurd q x, fun _ => s_185 8 (by decide) ⟨_, rfl, rfl, (h'.rf 8).up⟩⟩
