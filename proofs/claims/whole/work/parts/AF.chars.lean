/-! The constant texts: their letters; String's methods. -/
def wdB (i : Nat) : Nat := ([115, 104, 117, 116, 32, 103, 117, 115, 116, 32, 116, 105, 114, 101, 100, 32, 99, 101, 108, 108, 32, 114, 111, 119, 32, 104, 111, 117, 114, 32, 115, 97, 105, 108, 32, 115, 104, 101, 108, 116, 101, 114, 32, 104, 97, 110, 100, 115, 32, 105, 102, 32, 111, 114, 32, 97, 110, 100, 32, 110, 111, 116, 32] : List Nat).getD i 0
theorem wdB_b : ∀ i, i < 63 → ((((wm_S1.getD i 0) &&& (255 : Int32))).toUInt32 % 65536).toInt32 = nI (wdB i) := by decide +kernel
theorem wdB_n : ∀ i, i < 63 → narrow .char (.int (nI (wdB i))) = .int (nI (wdB i)) := by decide +kernel
theorem wdB_lt (i : Nat) : wdB i < 128 := by
  by_cases h : i < 63
  · have : ∀ i, i < 63 → wdB i < 128 := by decide +kernel
    exact this i h
  · unfold wdB
    rw [List.getD_eq_getElem?_getD, List.getElem?_eq_none (by simp; omega)]
    decide
theorem s_325_0 {μ : wm_M} {Q : Int32 → wm_M → Prop} (h : Q 0 μ) : wm_OkI 0 325 [.ref 2000] μ Q := v_325_0 _ _ ⟨fun q => absurd q (by decide), fun _ => ⟨by decide +kernel, _, rfl, h⟩⟩
theorem s_325_1 {μ : wm_M} {Q : Int32 → wm_M → Prop} (h : Q 0 μ) : wm_OkI 0 325 [.ref 2001] μ Q := v_325_1 _ _ ⟨fun q => absurd q (by decide), fun _ => ⟨by decide +kernel, _, rfl, h⟩⟩
theorem s_326_0 {μ : wm_M} {Q : Int32 → wm_M → Prop} (h : Q 1 μ) : wm_OkI 0 326 [.ref 2000] μ Q := v_326_0 _ _ ⟨fun q => absurd q (by decide), fun _ => ⟨fun _ => ⟨Or.inr rfl, _, rfl, h⟩, fun q => absurd rfl q⟩⟩
theorem s_326_1 {μ : wm_M} {Q : Int32 → wm_M → Prop} (h : Q 1 μ) : wm_OkI 0 326 [.ref 2001] μ Q := v_326_1 _ _ ⟨fun q => absurd q (by decide), fun _ => ⟨fun _ => ⟨Or.inr rfl, _, rfl, h⟩, fun q => absurd rfl q⟩⟩
theorem s_321_0 {μ : wm_M} {Q : Int32 → wm_M → Prop} (h : Q (nI 63) μ) : wm_OkI 0 321 [.ref 2000] μ Q := v_321_0 _ _ (s_325_0 ⟨_, rfl, by
  rw [show ((Int32.ofNat 63) >>> ((0 : Int32) &&& 31)) = nI 63 from by decide +kernel]; exact h⟩)
theorem s_321_1 {μ : wm_M} {Q : Int32 → wm_M → Prop} (h : Q (nI 10) μ) : wm_OkI 0 321 [.ref 2001] μ Q := v_321_1 _ _ (s_325_1 ⟨_, rfl, by
  rw [show ((Int32.ofNat 10) >>> ((0 : Int32) &&& 31)) = nI 10 from by decide +kernel]; exact h⟩)
theorem s_329_0 (i : Nat) (hi : i < 63) {μ : wm_M} {Q : Int32 → wm_M → Prop} (h : Q (nI (wdB i)) μ) : wm_OkI 0 329 [.ref 2010, .int (nI i)] μ Q := by
  have l0 : ¬ nI i < 0 := by
    intro q
    have := (nI_ltI (b := 0) (by omega) (by decide)).mp q
    omega
  have l1 : nI i < Int32.ofNat 63 := (nI_ltI (b := 63) (by omega) (by decide)).mpr hi
  refine v_329_0 _ _ _ (s_327 _ _ l0 l1 ⟨vp_in_nI hi (by decide), ?_⟩)
  rw [nI_clamp (by omega), wdB_b i hi]
  exact ⟨wdB_n i hi, _, rfl, h⟩
theorem s_322_0 (i : Nat) (hi : i < 63) {μ : wm_M} {Q : Int32 → wm_M → Prop} (h : Q (nI (wdB i)) μ) : wm_OkI 0 322 [.ref 2000, .int (nI i)] μ Q :=
  v_322_0 _ _ _ (s_326_0 ⟨fun q => absurd q (by decide), fun _ => s_329_0 i hi ⟨wdB_n i hi, _, rfl, h⟩⟩)
/-! the signs -/
theorem sgB : ∀ i, i < 10 → wm_S2.getD i 0 = nI (sgn.getD i 0) := by decide +kernel
theorem i2b_lo : ∀ b, b < 256 → ∀ i, i < 10 → (wm_S2.getD i 0 = (nI b).toInt8.toInt32 ↔ sgn.getD i 0 = b) := by decide +kernel
theorem i2c_b : ∀ b, b < 256 → ((nI b).toUInt32 % 65536).toInt32 = nI b := by decide +kernel
theorem sg_at : ∀ i, i < 10 → sgn.getD i 0 ∈ sgn := by decide +kernel
theorem sg_mem : ∀ b, b < 256 → b ∈ sgn → ∃ j, j < 10 ∧ sgn.getD j 0 = b := by decide +kernel
theorem s_332_1 (b : Nat) (hb : b < 256) {μ : wm_M} {Q : Int32 → wm_M → Prop} (h1 : b ∈ sgn → ∀ i : Nat, i < 10 → Q (nI i) μ) (h0 : ¬ b ∈ sgn → Q (-1) μ) : wm_OkI 0 332 [.ref 2011, .int (nI b), .int 0, .int (nI 10)] μ Q := by
  have lp : ∀ d i, i + d = 10 → (∀ j, j < i → ¬ sgn.getD j 0 = b) → wm_Wp 0 332 7 [.ref 2011, .null, .null, .int (nI 10), .int (nI b).toInt8.toInt32, .int (nI i)] μ (fun v ν => ∃ z, v = some (.int z) ∧ Q z ν) := by
    intro d
    induction d with
    | zero =>
      intro i hd hn
      have : i = 10 := by omega
      subst this
      refine w_332_7_1 _ _ _ _ _ ⟨fun _ => w_332_31_1 _ _ ⟨_, rfl, h0 fun hm => ?_⟩, fun q => absurd (nI_le (Nat.le_refl 10) (by decide)) q⟩
      obtain ⟨j, hj, e⟩ := sg_mem b hb hm
      exact hn j hj e
    | succ d ih =>
      intro i hd hn
      refine w_332_7_1 _ _ _ _ _ ⟨fun q => absurd q (nI_ge (a := i) (b := 10) (by omega) (by decide)), fun _ => ⟨vp_in_nI (by omega) (by decide), ?_⟩⟩
      rw [nI_clamp (by omega), i2b_lo b hb i (by omega)]
      refine ⟨fun e => ⟨_, rfl, h1 ?_ i (by omega)⟩, fun e => w_332_25_1 _ _ _ _ _ ?_⟩
      · rw [← e]; exact sg_at i (by omega)
      · rw [nI_1]
        refine ih (i + 1) (by omega) fun j hj => ?_
        by_cases f : j = i
        · subst f; exact e
        · exact hn j (by omega)
  exact v_332_1 _ _ _ _ _ (lp 10 0 (by omega) fun j hj => absurd hj (by omega))
theorem s_323_1 (b : Nat) (hb : b < 256) {μ : wm_M} {Q : Int32 → wm_M → Prop} (h1 : b ∈ sgn → ∀ i : Nat, i < 10 → Q (nI i) μ) (h0 : ¬ b ∈ sgn → Q (-1) μ) : wm_OkI 0 323 [.ref 2001, .int (nI b)] μ Q := by
  have l0 : ¬ nI b < 0 := by
    intro q
    have := (nI_ltI (b := 0) (by omega) (by decide)).mp q
    omega
  have l1 : ¬ (255 : Int32) < nI b := by
    intro q
    have := (nI_ltI (a := 255) (by decide) (by omega)).mp q
    omega
  refine v_323_1 _ _ _ (v_324_1 _ _ _ _ (s_326_1 ⟨fun q => absurd q (by decide), fun _ => s_321_1 (v_331_1 _ _ _ _ _ (v_330 _ _ _ ⟨fun q => absurd q l0, fun _ => ⟨fun q => absurd q l1, fun _ => ⟨Or.inr rfl, _, rfl, ?_⟩⟩⟩))⟩))
  refine ⟨fun q => absurd q (by decide), fun _ => w_331_9_1 _ _ _ _ _ ?_⟩
  rw [show (if (0 : Int32) < (0 : Int32) then (0 : Int32) else 0) = 0 from by decide +kernel, show (if (Int32.ofNat 10) < nI 10 then (Int32.ofNat 10) else nI 10) = nI 10 from by decide +kernel]
  refine ⟨fun _ => w_331_29_1 _ _ _ _ _ (s_332_1 b hb (fun hm i hi => ⟨_, rfl, _, rfl, _, rfl, h1 hm i hi⟩) (fun hm => ⟨_, rfl, _, rfl, _, rfl, h0 hm⟩)), fun q => absurd (by decide +kernel) q⟩
