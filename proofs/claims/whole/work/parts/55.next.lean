/-! ===== the reference reads a token ===== -/
/-- what next() may change; what the readers may change -/
def nxK (c i : Nat) : Bool := !(Nat.beq c 89 && (Nat.beq i 7 || Nat.beq i 8 || Nat.beq i 9))
def rdK (c i : Nat) : Bool := !(Nat.beq c 89 && (Nat.beq i 7 || Nat.beq i 8 || Nat.beq i 9 || Nat.beq i 11 || Nat.beq i 12 || Nat.beq i 13))
theorem rd_nx {c i : Nat} (h : rdK c i = true) : nxK c i = true := by
  unfold rdK at h
  unfold nxK
  simp only [Bool.not_eq_true', Bool.and_eq_false_iff, Bool.or_eq_false_iff] at h ⊢
  rcases h with h | h
  · exact Or.inl h
  · exact Or.inr h.1.1.1
def TX (T : Nat → Nat) (n : Nat) (μ : wm_M) : Prop := μ.1 89 6 = nI n ∧ n ≤ 120 ∧ (∀ i, i < n → T i < 256) ∧ ((¬ μ.1 89 17 = 0 ∧ ∀ i, i < n → μ.1 92 i = nI (T i)) ∨ (μ.1 89 17 = 0 ∧ ∃ b : Nat, μ.1 89 5 = nI b ∧ b + n ≤ 2060 ∧ ∀ i, i < n → μ.1 91 (b + i) = nI (T i)))
theorem TX.sm {T : Nat → Nat} {n : Nat} {μ ν : wm_M} (h : TX T n μ) (e : Sm rdK μ ν) : TX T n ν := by
  obtain ⟨h1, h2, h3, h4⟩ := h
  have e6 : ν.1 89 6 = μ.1 89 6 := e 89 6 rfl
  have e17 : ν.1 89 17 = μ.1 89 17 := e 89 17 rfl
  have e5 : ν.1 89 5 = μ.1 89 5 := e 89 5 rfl
  refine ⟨by rw [e6]; exact h1, h2, h3, ?_⟩
  rcases h4 with ⟨a, b⟩ | ⟨a, b, c, d, f⟩
  · exact Or.inl ⟨by rw [e17]; exact a, fun i hi => by rw [e 92 i rfl]; exact b i hi⟩
  · exact Or.inr ⟨by rw [e17]; exact a, b, by rw [e5]; exact c, d, fun i hi => by rw [e 91 _ rfl]; exact f i hi⟩
theorem m_225 {T : Nat → Nat} {n : Nat} (i : Nat) (hi : i < 1000) {μ : wm_M} {Q : Int32 → wm_M → Prop} (hX : TX T n μ) (h1 : i < n → Q (nI (T i)) μ) (h0 : n ≤ i → Q (-1) μ) : wm_OkI 0 225 [.ref 89, .int (nI i)] μ Q := by
  obtain ⟨x1, x2, x3, x4⟩ := hX
  refine v_225 _ _ _ ?_
  rw [x1]
  refine ⟨fun z => w_225_12 _ _ _ ?_, fun z => ⟨_, rfl, h0 ?_⟩⟩
  · have z := (nI_ltI (by omega) (by omega)).mp z
    rcases x4 with ⟨a, b⟩ | ⟨a, b, c, d, f⟩
    · refine ⟨fun q => absurd q a, fun _ => ⟨vp_in_nI (by omega) (by decide), _, rfl, ?_⟩⟩
      rw [nI_clamp (by omega), b i z]; exact h1 z
    · refine ⟨fun _ => w_225_28 _ _ _ ?_, fun q => absurd a q⟩
      rw [c, nI_add, nI_clamp (by omega), f i z]
      exact ⟨vp_in_nI (by omega) (by decide), _, rfl, h1 z⟩
  · have z : ¬ i < n := fun q => z ((nI_ltI (by omega) (by omega)).mpr q)
    omega
/-! runs of bytes of a sort -/
theorem adv_eq (q : Nat → Bool) (T : Nat → Nat) (n : Nat) : ∀ f g p, n - p ≤ f → n - p ≤ g → adv q T n f p = adv q T n g p
  | 0, g, p, hf, hg => by
    cases g with
    | zero => rfl
    | succ g =>
      unfold adv
      rw [if_neg (fun z => by have := z.1; omega)]
  | f + 1, g, p, hf, hg => by
    cases g with
    | zero =>
      unfold adv
      rw [if_neg (fun z => by have := z.1; omega)]
    | succ g =>
      unfold adv
      by_cases h : p < n ∧ q (T p) = true
      · rw [if_pos h, if_pos h]; exact adv_eq q T n f g (p + 1) (by omega) (by omega)
      · rw [if_neg h, if_neg h]
theorem adv_yes {q : Nat → Bool} {T : Nat → Nat} {n p : Nat} (hp : p < n) (hq : q (T p) = true) : adv q T n n p = adv q T n n (p + 1) := by
  have e := adv_eq q T n n (n - p) p (by omega) (Nat.le_refl _)
  rw [e]
  cases hk : n - p with
  | zero => omega
  | succ k =>
    show (if p < n ∧ q (T p) = true then adv q T n k (p + 1) else p) = _
    rw [if_pos ⟨hp, hq⟩]
    exact adv_eq q T n k n (p + 1) (by omega) (by omega)
theorem adv_no {q : Nat → Bool} {T : Nat → Nat} {n p : Nat} (h : ¬ (p < n ∧ q (T p) = true)) : adv q T n n p = p := by
  cases n with
  | zero => rfl
  | succ n => exact if_neg h
/-- words as numbers -/
def hF (T : Nat → Nat) (p : Nat) : Nat → Nat
  | 0 => 0
  | k + 1 => 27 * hF T p k + (T (p + k) - 96)
theorem hF_lt {T : Nat → Nat} {p : Nat} : ∀ k, (∀ i, i < k → isL (T (p + i)) = true) → hF T p k < 27 ^ k
  | 0, _ => by show 0 < 27 ^ 0; decide
  | k + 1, h => by
    have h1 := hF_lt k (fun i hi => h i (by omega))
    have h2 := h k (by omega)
    unfold isL at h2
    simp only [Bool.and_eq_true, Nat.ble_eq] at h2
    unfold hF
    rw [Nat.pow_succ]
    omega
theorem hF_inj {T S : Nat → Nat} {p q : Nat} : ∀ k j, (∀ i, i < k → isL (T (p + i)) = true) → (∀ i, i < j → isL (S (q + i)) = true) → hF T p k = hF S q j → k = j ∧ ∀ i, i < k → T (p + i) = S (q + i)
  | 0, 0, _, _, _ => ⟨rfl, fun i hi => by omega⟩
  | 0, j + 1, _, hs, e => by
    have h2 := hs j (by omega)
    unfold isL at h2
    simp only [Bool.and_eq_true, Nat.ble_eq] at h2
    unfold hF at e
    omega
  | k + 1, 0, ht, _, e => by
    have h2 := ht k (by omega)
    unfold isL at h2
    simp only [Bool.and_eq_true, Nat.ble_eq] at h2
    unfold hF at e
    omega
  | k + 1, j + 1, ht, hs, e => by
    have h2 := ht k (by omega)
    have h3 := hs j (by omega)
    unfold isL at h2 h3
    simp only [Bool.and_eq_true, Nat.ble_eq] at h2 h3
    have e1 : hF T p k = hF S q j ∧ T (p + k) = S (q + j) := by
      unfold hF at e
      omega
    obtain ⟨a, b⟩ := hF_inj k j (fun i hi => ht i (by omega)) (fun i hi => hs i (by omega)) e1.1
    subst a
    refine ⟨rfl, fun i hi => ?_⟩
    by_cases q : i = k
    · subst q; exact e1.2
    · exact b i (by omega)
def wF (T : Nat → Nat) (p k : Nat) : Int64 := if k ≤ 8 then lN (hF T p k) else -1
def KD (T : Nat → Nat) (n p : Nat) (t : Int32) (w : Int64) : Prop :=
  (n ≤ p ∧ t = 0) ∨ (p < n ∧ isL (T p) = true ∧ t = 1 ∧ w = wF T p (en T n p - p)) ∨
  (p < n ∧ ¬ isL (T p) = true ∧ isD (T p) = true ∧ ((en T n p - p ≤ 5 ∧ t = 2 ∧ w = lN (nv T n p)) ∨ (5 < en T n p - p ∧ t = 4))) ∨
  (p < n ∧ ¬ isL (T p) = true ∧ ¬ isD (T p) = true ∧ ((T p ∈ sgn ∧ t = 3 ∧ w = lN (T p)) ∨ (¬ T p ∈ sgn ∧ t = 4)))
/-- the token at a place stands in the reference's fields -/
def TK (T : Nat → Nat) (n p : Nat) (μ : wm_M) : Prop := p ≤ n ∧ μ.1 89 9 = nI p ∧ (tk T n p ≠ 130 → μ.1 89 7 = nI (en T n p)) ∧ KD T n p (μ.1 89 8) (μ.2 89 10)
theorem isL_iff (b : Nat) : isL b = true ↔ (97 ≤ b ∧ b ≤ 122) := by unfold isL; simp only [Bool.and_eq_true, Nat.ble_eq]
theorem isD_iff (b : Nat) : isD b = true ↔ (48 ≤ b ∧ b ≤ 57) := by unfold isD; simp only [Bool.and_eq_true, Nat.ble_eq]
theorem sl_same (μ : wm_M) (c k : Nat) (x : Int64) : (wm_sl μ c k x).2 c k = x := by
  show va_up μ.2 c (vp_updL (μ.2 c) k x) c k = x
  rw [wm_up_eq, wm_updL_eq]
theorem lS (a b c d : Nat) (h : c ≤ b) : lN d * lN a + lN b - lN c = lN (d * a + (b - c)) := by
  rw [lN_mul, lN_add, lN_sub (by omega)]
  congr 1
  omega
theorem l_226w {T : Nat → Nat} {n p : Nat} {μ : wm_M} {Q : Option Value → wm_M → Prop} (hX : TX T n μ) (fin : ∀ ν, Sm nxK μ ν → ν.1 89 9 = nI p → ν.1 89 8 = 1 → ν.1 89 7 = nI (adv isL T n n p) → ν.2 89 10 = wF T p (adv isL T n n p - p) → wm_Wp 0 226 172 [.null, .null, .null] ν Q) : ∀ r k ν, p + k + r = n → adv isL T n n p = adv isL T n n (p + k) → Sm nxK μ ν → ν.1 89 9 = nI p → ν.1 89 8 = 1 → ν.1 89 7 = nI (p + k) → ν.2 89 10 = wF T p k → wm_Wp 0 226 92 [.ref 89, .null, .int (nI k)] ν Q := by
  have hn : n ≤ 120 := hX.2.1
  have hT := hX.2.2.1
  have SmX : ∀ {ν : wm_M}, Sm nxK μ ν → TX T n ν := fun h => hX.sm (h.le (fun c i q => rd_nx q))
  intro r
  induction r with
  | zero =>
    intro k ν hk ha hS f9 f8 f7 f10
    refine w_226_92 _ _ _ ?_
    rw [f7]
    refine m_225 (p + k) (by omega) (SmX hS) (fun h => by omega) (fun h => ⟨fun _ => fin ν hS f9 f8 ?_ ?_, fun z => absurd (by decide +kernel) z⟩)
    · rw [f7, ha, adv_no (fun z => by have := z.1; omega)]
    · rw [f10, ha, adv_no (fun z => by have := z.1; omega), Nat.add_sub_cancel_left]
  | succ r ih =>
    intro k ν hk ha hS f9 f8 f7 f10
    have hpk : p + k < n := by omega
    have hb := hT (p + k) hpk
    have l97 : nI (T (p + k)) < (97 : Int32) ↔ T (p + k) < 97 := nI_ltI (b := 97) (by omega) (by decide)
    have g122 : (122 : Int32) < nI (T (p + k)) ↔ 122 < T (p + k) := nI_ltI (a := 122) (by decide) (by omega)
    have stop : ¬ isL (T (p + k)) = true → wm_Wp 0 226 172 [.null, .null, .null] ν Q := fun nl => fin ν hS f9 f8 (by rw [f7, ha, adv_no (fun z => nl z.2)]) (by rw [f10, ha, adv_no (fun z => nl z.2), Nat.add_sub_cancel_left])
    refine w_226_92 _ _ _ ?_
    rw [f7]
    refine m_225 (p + k) (by omega) (SmX hS) (fun _ => ⟨fun z => stop (fun q => ?_), fun z => ?_⟩) (fun h => by omega)
    · have := l97.mp z; have := (isL_iff _).mp q; omega
    · rw [f7]
      refine m_225 (p + k) (by omega) (SmX hS) (fun _ => ⟨fun y => stop (fun q => ?_), fun y => ?_⟩) (fun h => by omega)
      · have := g122.mp y; have := (isL_iff _).mp q; omega
      · have z : ¬ T (p + k) < 97 := fun q => z (l97.mpr q)
        have y : ¬ 122 < T (p + k) := fun q => y (g122.mpr q)
        have hl : isL (T (p + k)) = true := (isL_iff _).mpr ⟨by omega, by omega⟩
        have ha' : adv isL T n n p = adv isL T n n (p + (k + 1)) := by rw [ha, adv_yes hpk hl]; rfl
        refine ⟨fun x => ?_, fun x => ?_⟩
        · have x := (nI_leI (a := 8) (by decide) (by omega)).mp x
          rw [nI_1]
          refine ih (k + 1) _ (by omega) ha' (Sm.si (Sm.sl hS) rfl) f9 f8 ?_ ?_
          · show ν.1 89 7 + 1 = _
            rw [f7, nI_1]; rfl
          · show (-1 : Int64) = _
            unfold wF
            rw [if_neg (by omega)]
        · have x : ¬ 8 ≤ k := fun q => x ((nI_leI (a := 8) (by decide) (by omega)).mpr q)
          rw [f7]
          refine m_225 (p + k) (by omega) (SmX hS) (fun _ => ?_) (fun h => by omega)
          rw [nI_1]
          refine ih (k + 1) _ (by omega) ha' (Sm.si (Sm.sl hS) rfl) f9 f8 ?_ ?_
          · show ν.1 89 7 + 1 = _
            rw [f7, nI_1]; rfl
          · show ((27 : Int64) * ν.2 89 10 + (nI (T (p + k))).toInt64) - 96 = _
            rw [f10, nI_l (by omega)]
            unfold wF
            rw [if_pos (by omega), if_pos (by omega)]
            exact lS (hF T p k) (T (p + k)) 96 27 (by omega)
theorem l_226d {T : Nat → Nat} {n p : Nat} {μ : wm_M} {Q : Option Value → wm_M → Prop} (hX : TX T n μ) (fin : ∀ ν k, Sm nxK μ ν → ν.1 89 9 = nI p → adv isD T n n p = p + k → k ≤ 120 → ν.1 89 7 = nI (p + k) → ν.2 89 10 = lN (nvF T p (min k 5)) → wm_Wp 0 226 269 [.ref 89, .null, .int (nI k)] ν Q) : ∀ r k ν, p + k + r = n → adv isD T n n p = adv isD T n n (p + k) → Sm nxK μ ν → ν.1 89 9 = nI p → ν.1 89 7 = nI (p + k) → ν.2 89 10 = lN (nvF T p (min k 5)) → wm_Wp 0 226 189 [.ref 89, .null, .int (nI k)] ν Q := by
  have hn : n ≤ 120 := hX.2.1
  have hT := hX.2.2.1
  have SmX : ∀ {ν : wm_M}, Sm nxK μ ν → TX T n ν := fun h => hX.sm (h.le (fun c i q => rd_nx q))
  intro r
  induction r with
  | zero =>
    intro k ν hk ha hS f9 f7 f10
    refine w_226_189 _ _ _ ?_
    rw [f7]
    refine m_225 (p + k) (by omega) (SmX hS) (fun h => by omega) (fun h => ⟨fun _ => fin ν k hS f9 ?_ (by omega) f7 f10, fun z => absurd (by decide +kernel) z⟩)
    rw [ha, adv_no (fun z => by have := z.1; omega)]
  | succ r ih =>
    intro k ν hk ha hS f9 f7 f10
    have hpk : p + k < n := by omega
    have hb := hT (p + k) hpk
    have l48 : nI (T (p + k)) < (48 : Int32) ↔ T (p + k) < 48 := nI_ltI (b := 48) (by omega) (by decide)
    have g57 : (57 : Int32) < nI (T (p + k)) ↔ 57 < T (p + k) := nI_ltI (a := 57) (by decide) (by omega)
    have stop : ¬ isD (T (p + k)) = true → wm_Wp 0 226 269 [.ref 89, .null, .int (nI k)] ν Q := fun nl => fin ν k hS f9 (by rw [ha, adv_no (fun z => nl z.2)]) (by omega) f7 f10
    refine w_226_189 _ _ _ ?_
    rw [f7]
    refine m_225 (p + k) (by omega) (SmX hS) (fun _ => ⟨fun z => stop (fun q => ?_), fun z => ?_⟩) (fun h => by omega)
    · have := l48.mp z; have := (isD_iff _).mp q; omega
    · rw [f7]
      refine m_225 (p + k) (by omega) (SmX hS) (fun _ => ⟨fun y => stop (fun q => ?_), fun y => ?_⟩) (fun h => by omega)
      · have := g57.mp y; have := (isD_iff _).mp q; omega
      · have z : ¬ T (p + k) < 48 := fun q => z (l48.mpr q)
        have y : ¬ 57 < T (p + k) := fun q => y (g57.mpr q)
        have hl : isD (T (p + k)) = true := (isD_iff _).mpr ⟨by omega, by omega⟩
        have ha' : adv isD T n n p = adv isD T n n (p + (k + 1)) := by rw [ha, adv_yes hpk hl]; rfl
        refine ⟨fun x => ?_, fun x => ?_⟩
        · have x := (nI_leI (a := 5) (by decide) (by omega)).mp x
          rw [nI_1]
          refine ih (k + 1) _ (by omega) ha' (Sm.si (Sm.sl hS) rfl) f9 ?_ ?_
          · show ν.1 89 7 + 1 = _
            rw [f7, nI_1]; rfl
          · show ν.2 89 10 = _
            rw [f10, show min k 5 = min (k + 1) 5 by omega]
        · have x : ¬ 5 ≤ k := fun q => x ((nI_leI (a := 5) (by decide) (by omega)).mpr q)
          rw [f7]
          refine m_225 (p + k) (by omega) (SmX hS) (fun _ => ?_) (fun h => by omega)
          rw [nI_1]
          refine ih (k + 1) _ (by omega) ha' (Sm.si (Sm.sl hS) rfl) f9 ?_ ?_
          · show ν.1 89 7 + 1 = _
            rw [f7, nI_1]; rfl
          · show ((10 : Int64) * ν.2 89 10 + (nI (T (p + k))).toInt64) - 48 = _
            rw [f10, nI_l (by omega), show min k 5 = k by omega, show min (k + 1) 5 = k + 1 by omega]
            have e : nvF T p (k + 1) = 10 * nvF T p k + (T (p + k) - 48) := by
              show nvF T p k * 10 + (T (p + k) - 48) = _
              omega
            rw [e]
            exact lS (nvF T p k) (T (p + k)) 48 10 (by omega)
theorem tk_L {T : Nat → Nat} {n p : Nat} (hp : p < n) (hl : isL (T p) = true) : en T n p = adv isL T n n p := by
  unfold en; rw [if_neg (by omega), if_pos hl]
theorem tk_D {T : Nat → Nat} {n p : Nat} (hp : p < n) (hl : ¬ isL (T p) = true) (hd : isD (T p) = true) : en T n p = adv isD T n n p := by
  unfold en; rw [if_neg (by omega), if_neg hl, if_pos hd]
theorem m_226 {T : Nat → Nat} {n : Nat} (h : Nat) (hh : h ≤ n) {μ : wm_M} {Q : wm_M → Prop} (hX : TX T n μ) (h7 : μ.1 89 7 = nI h) (hq : ∀ ν, TK T n (sk T n h) ν → Sm nxK μ ν → Q ν) : wm_OkV 0 226 [.ref 89] μ Q := by
  have hn : n ≤ 120 := hX.2.1
  have hT := hX.2.2.1
  have SmX : ∀ {ν : wm_M}, Sm nxK μ ν → TX T n ν := fun h => hX.sm (h.le (fun c i q => rd_nx q))
  have fin : ∀ (p : Nat) (ν : wm_M), TK T n p ν → Sm nxK μ ν → p = sk T n h → wm_Wp 0 226 367 [.null, .null, .null] ν (fun v ν => v = none ∧ Q ν) := fun p ν hK hS e => w_226_367 _ _ ⟨rfl, hq ν (e ▸ hK) hS⟩
  have tokens : ∀ (p : Nat) (ν : wm_M), p ≤ n → ν.1 89 7 = nI p → Sm nxK μ ν → p = sk T n h → wm_Wp 0 226 26 [.ref 89, .null, .null] ν (fun v ν => v = none ∧ Q ν) := by
    intro p ν hp e7 hS hsk
    have X1 : TX T n (wm_si ν 89 9 (nI p)) := SmX (hS.si rfl)
    refine w_226_26 _ _ ?_
    rw [e7, show (wm_si ν 89 9 (nI p)).1 89 7 = nI p from e7]
    refine m_225 p (by omega) X1 (fun hpn => ⟨fun _ => ?_, fun z => absurd (nI_pos' (by have := hT p hpn; omega)) z⟩) (fun hpn => ⟨fun z => absurd z (by decide), fun _ => ?_⟩)
    · have hb := hT p hpn
      have hS1 : Sm nxK μ (wm_sl (wm_si (wm_si ν 89 9 (nI p)) 89 8 (4 : Int32)) 89 10 (0 : Int64)) := Sm.sl ((hS.si rfl).si rfl)
      have f9 : (wm_sl (wm_si (wm_si ν 89 9 (nI p)) 89 8 (4 : Int32)) 89 10 (0 : Int64)).1 89 9 = nI p := rfl
      have f7 : (wm_sl (wm_si (wm_si ν 89 9 (nI p)) 89 8 (4 : Int32)) 89 10 (0 : Int64)).1 89 7 = nI p := e7
      have f8 : (wm_sl (wm_si (wm_si ν 89 9 (nI p)) 89 8 (4 : Int32)) 89 10 (0 : Int64)).1 89 8 = 4 := rfl
      have f10 : (wm_sl (wm_si (wm_si ν 89 9 (nI p)) 89 8 (4 : Int32)) 89 10 (0 : Int64)).2 89 10 = 0 := sl_same _ _ _ _
      generalize wm_sl (wm_si (wm_si ν 89 9 (nI p)) 89 8 (4 : Int32)) 89 10 (0 : Int64) = ν1 at hS1 f9 f7 f8 f10 ⊢
      have sign : ¬ isL (T p) = true → ¬ isD (T p) = true → wm_Wp 0 226 286 [.ref 89, .int (nI (T p)), .null] ν1 (fun v ν => v = none ∧ Q ν) := fun nl nd => by
        have een : en T n p = p + 1 := by unfold en; rw [if_neg (by omega), if_neg nl, if_neg nd]
        have yes : ∀ k, k ∈ sgn → k < 1000 → nI (T p) = nI k → wm_Wp 0 226 346 [.ref 89, .int (nI (T p)), .null] ν1 (fun v ν => v = none ∧ Q ν) := fun k hm hk e => by
          have e := (nI_eq (by omega) (by omega)).mp e
          rw [← e] at hm
          refine w_226_346 _ _ _ ?_
          refine fin p _ ⟨hp, f9, fun _ => ?_, Or.inr (Or.inr (Or.inr ⟨hpn, nl, nd, Or.inl ⟨hm, rfl, ?_⟩⟩))⟩ (Sm.si (Sm.sl (hS1.si rfl)) rfl) hsk
          · show ν1.1 89 7 + 1 = _
            rw [f7, nI_1, een]
          · show (nI (T p)).toInt64 = lN (T p)
            exact nI_l (by omega)
        refine w_226_286 _ _ _ ⟨yes 40 (by decide) (by decide), fun n1 => ⟨yes 41 (by decide) (by decide), fun n2 => ⟨yes 43 (by decide) (by decide), fun n3 => ⟨yes 45 (by decide) (by decide), fun n4 => ⟨yes 42 (by decide) (by decide), fun n5 => ⟨yes 47 (by decide) (by decide), fun n6 => ⟨yes 37 (by decide) (by decide), fun n7 => ⟨yes 61 (by decide) (by decide), fun n8 => ⟨yes 60 (by decide) (by decide), fun n9 => ⟨yes 62 (by decide) (by decide), fun n10 => ?_⟩⟩⟩⟩⟩⟩⟩⟩⟩⟩
        have hm : ¬ T p ∈ sgn := fun q => by
          have : T p = 40 ∨ T p = 41 ∨ T p = 43 ∨ T p = 45 ∨ T p = 42 ∨ T p = 47 ∨ T p = 37 ∨ T p = 61 ∨ T p = 60 ∨ T p = 62 := by simpa [sgn] using q
          rcases this with e | e | e | e | e | e | e | e | e | e
          · exact n1 (by rw [e]; rfl)
          · exact n2 (by rw [e]; rfl)
          · exact n3 (by rw [e]; rfl)
          · exact n4 (by rw [e]; rfl)
          · exact n5 (by rw [e]; rfl)
          · exact n6 (by rw [e]; rfl)
          · exact n7 (by rw [e]; rfl)
          · exact n8 (by rw [e]; rfl)
          · exact n9 (by rw [e]; rfl)
          · exact n10 (by rw [e]; rfl)
        refine fin p _ ⟨hp, f9, fun q => absurd ?_ q, Or.inr (Or.inr (Or.inr ⟨hpn, nl, nd, Or.inr ⟨hm, f8⟩⟩))⟩ hS1 hsk
        unfold tk
        rw [if_neg (by omega), if_neg nl, if_neg nd, if_neg hm]
      have digit : ¬ isL (T p) = true → wm_Wp 0 226 175 [.ref 89, .int (nI (T p)), .null] ν1 (fun v ν => v = none ∧ Q ν) := fun nl => by
        have l48 : nI (T p) < (48 : Int32) ↔ T p < 48 := nI_ltI (b := 48) (by omega) (by decide)
        have g57 : (57 : Int32) < nI (T p) ↔ 57 < T p := nI_ltI (a := 57) (by decide) (by omega)
        refine w_226_175 _ _ _ ⟨fun z => sign nl (fun q => ?_), fun z => ⟨fun y => sign nl (fun q => ?_), fun y => ?_⟩⟩
        · have := l48.mp z; have := (isD_iff _).mp q; omega
        · have := g57.mp y; have := (isD_iff _).mp q; omega
        · have z : ¬ T p < 48 := fun q => z (l48.mpr q)
          have y : ¬ 57 < T p := fun q => y (g57.mpr q)
          have hd : isD (T p) = true := (isD_iff _).mpr ⟨by omega, by omega⟩
          have een := tk_D hpn nl hd
          have l := l_226d (T := T) (n := n) (p := p) (μ := ν1) (Q := fun v ν => v = none ∧ Q ν) (SmX hS1) (fun ξ k hX1 g9 ga gk g7 g10 => w_226_269 _ _ _ ⟨fun x => ?_, fun x => ?_⟩) (n - p) 0 ν1 (by omega) rfl (Sm.rf _ _) f9 f7 (by rw [f10]; rfl)
          · exact l
          · have x := (nI_leI (b := 5) (by omega) (by decide)).mp x
            refine fin p _ ⟨hp, g9, fun _ => ?_, Or.inr (Or.inr (Or.inl ⟨hpn, nl, hd, Or.inl ⟨by omega, rfl, ?_⟩⟩))⟩ ((hS1.tr hX1).si rfl) hsk
            · show ξ.1 89 7 = _
              rw [g7, een, ga]
            · show ξ.2 89 10 = _
              rw [g10, show min k 5 = k by omega]
              unfold nv
              rw [een, ga, Nat.add_sub_cancel_left]
          · have x : ¬ k ≤ 5 := fun q => x ((nI_leI (b := 5) (by omega) (by decide)).mpr q)
            refine fin p _ ⟨hp, g9, fun _ => ?_, Or.inr (Or.inr (Or.inl ⟨hpn, nl, hd, Or.inr ⟨by omega, rfl⟩⟩))⟩ ((hS1.tr hX1).si rfl) hsk
            show ξ.1 89 7 = _
            rw [g7, een, ga]
      have l97 : nI (T p) < (97 : Int32) ↔ T p < 97 := nI_ltI (b := 97) (by omega) (by decide)
      have g122 : (122 : Int32) < nI (T p) ↔ 122 < T p := nI_ltI (a := 122) (by decide) (by omega)
      refine w_226_73 _ _ _ ⟨fun z => digit (fun q => ?_), fun z => ⟨fun y => digit (fun q => ?_), fun y => ?_⟩⟩
      · have := l97.mp z; have := (isL_iff _).mp q; omega
      · have := g122.mp y; have := (isL_iff _).mp q; omega
      · have z : ¬ T p < 97 := fun q => z (l97.mpr q)
        have y : ¬ 122 < T p := fun q => y (g122.mpr q)
        have hl : isL (T p) = true := (isL_iff _).mpr ⟨by omega, by omega⟩
        have een := tk_L hpn hl
        have hS2 : Sm nxK μ (wm_si ν1 89 8 1) := hS1.si rfl
        exact l_226w (T := T) (n := n) (p := p) (μ := wm_si ν1 89 8 1) (Q := fun v ν => v = none ∧ Q ν) (SmX hS2) (fun ξ hX1 g9 g8 g7 g10 => w_226_172 _ _ (fin p ξ ⟨hp, g9, fun _ => by rw [g7, een], Or.inr (Or.inl ⟨hpn, hl, g8, by rw [g10, een]⟩)⟩ (hS2.tr hX1) hsk)) (n - p) 0 _ (by omega) rfl (Sm.rf _ _) f9 rfl f7 (by show ν1.2 89 10 = _; rw [f10]; rfl)
    · refine fin p _ ⟨hp, ?_, fun _ => ?_, Or.inl ⟨hpn, rfl⟩⟩ (Sm.si (Sm.si (Sm.sl ((hS.si rfl).si rfl)) rfl) rfl) hsk
      · show ν.1 89 6 = nI p
        rw [(SmX hS).1, show p = n by omega]
      · show ν.1 89 7 = _
        rw [e7, show en T n p = p from if_pos hpn]
  have skips : ∀ r p ν, p + r = n → sk T n p = sk T n h → ν.1 89 7 = nI p → Sm nxK μ ν → wm_Wp 0 226 0 [.ref 89, .null, .null] ν (fun v ν => v = none ∧ Q ν) := by
    intro r
    induction r with
    | zero =>
      intro p ν hp hs e7 hS
      refine w_226_0 _ _ ?_
      rw [e7]
      refine m_225 p (by omega) (SmX hS) (fun hpn => by omega) (fun hpn => ⟨fun z => absurd z (by decide), fun _ => tokens p ν (by omega) e7 hS ?_⟩)
      rw [← hs]
      exact (adv_no (fun z => by have := z.1; omega)).symm
    | succ r ih =>
      intro p ν hp hs e7 hS
      have hpn : p < n := by omega
      have hb := hT p hpn
      refine w_226_0 _ _ ?_
      rw [e7]
      refine m_225 p (by omega) (SmX hS) (fun _ => ⟨fun z => ?_, fun z => tokens p ν (by omega) e7 hS ?_⟩) (fun hpn => by omega)
      · have z := (nI_eq (b := 32) (by omega) (by decide)).mp z
        refine ih (p + 1) _ (by omega) ?_ ?_ (hS.si rfl)
        · rw [← hs]
          exact (adv_yes (q := fun b => Nat.beq b 32) hpn (by show Nat.beq (T p) 32 = true; rw [z]; rfl)).symm
        · show ν.1 89 7 + 1 = _
          rw [e7, nI_1]
      · have z : ¬ T p = 32 := fun q => z (by rw [q]; rfl)
        rw [← hs]
        exact (adv_no (q := fun b => Nat.beq b 32) (fun y => z (Nat.eq_of_beq_eq_true y.2))).symm
  exact v_226 _ _ (skips (n - h) h μ (by omega) rfl h7 (Sm.rf _ _))
