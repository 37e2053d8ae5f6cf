/-! ===== labels: pure ===== -/
theorem lab_at {f : Nat → Nat → Nat} {wh : Nat → Bool} {ch s0 t0 : Nat} {ℓ : Nat → Nat} (h : IsLab f wh ch s0 t0 ℓ) : ∀ k, k ≤ 121 → ∀ t s, AtN f wh ch s0 t0 k t s ↔ (s < 864 ∧ ℓ s = t ∧ t < k)
  | 0, _, t, s => ⟨fun q => q.elim, fun q => absurd q.2.2 (Nat.not_lt_zero t)⟩
  | k + 1, hk, t, s => by
    obtain ⟨h1, h2, h3⟩ := h
    have ih := lab_at (f := f) (wh := wh) (ch := ch) ⟨h1, h2, h3⟩ k (by omega)
    unfold AtN
    constructor
    · rintro (q | ⟨q1, q2, q3⟩)
      · have := (ih t s).mp q
        exact ⟨this.1, this.2.1, by omega⟩
      · subst q1
        refine ⟨q2, ?_, Nat.lt_succ_self t⟩
        rcases q3 with ⟨r1, r2⟩ | ⟨r1, p, τ, r2, r3⟩
        · rw [r1, h1, r2]
        · obtain ⟨a, b, c⟩ := (ih τ p).mp r2
          subst b
          have g := h3 p s t a q2 (by omega) r3 (by omega)
          by_cases e : ℓ s = t
          · exact e
          · exact absurd ((ih (ℓ s) s).mpr ⟨q2, rfl, by omega⟩) (r1 _)
    · rintro ⟨q1, q2, q3⟩
      by_cases e : t < k
      · exact Or.inl ((ih t s).mpr ⟨q1, q2, e⟩)
      · have e : t = k := by omega
        refine Or.inr ⟨e, q1, ?_⟩
        by_cases e0 : s = s0
        · exact Or.inl ⟨e0, by rw [← q2, e0, h1]⟩
        · obtain ⟨_, p, a, b, c⟩ := h2 s q1 (by omega) e0
          refine Or.inr ⟨fun τ r => ?_, p, ℓ p, (ih _ _).mpr ⟨a, rfl, by omega⟩, by rw [← q2]; exact c⟩
          have := (ih τ s).mp r
          omega
theorem lab_eq {f : Nat → Nat → Nat} {wh : Nat → Bool} {ch s0 t0 : Nat} {ℓ : Nat → Nat} (h : IsLab f wh ch s0 t0 ℓ) (ht : t0 ≤ 120) {s : Nat} (hs : s < 864) : labF f wh ch s0 t0 s = ℓ s := by
  have key := lab_at h 121 (Nat.le_refl _)
  unfold labF
  split
  · rename_i q
    exact ((key _ s).mp q.choose_spec).2.1.symm
  · rename_i q
    by_cases e : ℓ s = 999
    · exact e.symm
    · refine absurd ⟨ℓ s, (key _ s).mpr ⟨hs, rfl, ?_⟩⟩ q
      by_cases e0 : s = s0
      · rw [e0, h.1]; omega
      · have := (h.2.1 s hs e e0).1; omega
theorem eo_congr {ℓ ℓ' : Nat → Nat} {c : Nat} (h : ∀ i, i < 24 → ℓ' (24 * c + i) = ℓ (24 * c + i)) : ∀ i, i ≤ 24 → eo ℓ' c i = eo ℓ c i
  | 0, _ => rfl
  | i + 1, hi => by
    have ih := eo_congr h i (by omega)
    unfold eo
    rw [h i (by omega), ih]
    cases ho : eo ℓ c i with
    | none => rfl
    | some j =>
      obtain ⟨r1, r2, r3⟩ := eo_in i ho
      have e := h (j - 24 * c) (by omega)
      rw [show 24 * c + (j - 24 * c) = j by omega] at e
      show (if ℓ (24 * c + i) = 999 then some j else if ℓ (24 * c + i) < ℓ' j then some (24 * c + i) else some j) = (if ℓ (24 * c + i) = 999 then some j else if ℓ (24 * c + i) < ℓ j then some (24 * c + i) else some j)
      rw [e]
theorem wy_eq {A : Nat → Nat} {w tab ch s0 t0 : Nat} {ℓ : Nat → Nat} (h : IsLab (stF A w tab) (whA A) ch s0 t0 ℓ) (ht : t0 ≤ 120) {c : Nat} (hc : c < 36) : wyA A w tab ch s0 t0 c = (eo ℓ c 24).map (fun s => (s, ℓ s)) := by
  unfold wyA soA
  rw [eo_congr (ℓ := ℓ) (fun i hi => lab_eq h ht (by omega)) 24 (Nat.le_refl _)]
  cases ho : eo ℓ c 24 with
  | none => rfl
  | some s =>
    obtain ⟨r1, r2, r3⟩ := eo_in 24 ho
    show some (s, labF _ _ _ _ _ s) = some (s, ℓ s)
    rw [lab_eq h ht (by omega)]
/-! ===== the reference: betters, goesOn ===== -/
def btL (ℓ : Nat → Nat) (s t : Nat) : Nat → Nat := if t ≤ 120 ∧ t < ℓ s then uN ℓ s t else ℓ
theorem m_251 {ℓ : Nat → Nat} (s t : Nat) (hs : s < 864) (ht : t < 100000) {μ : wm_M} {Q : wm_M → Prop} (hL : LabM ℓ μ) (hk : ∀ ν, LabM (btL ℓ s t) ν → (∀ d, d ≠ 96 → ν.1 d = μ.1 d) → Q ν) : wm_OkV 0 251 [.ref 89, .int (nI s), .int (nI t)] μ Q := by
  obtain ⟨l1, l2⟩ := hL s hs
  have vs : vp_in (nI s) 864 := vp_in_nI hs (by decide)
  have no : ¬ (t ≤ 120 ∧ t < ℓ s) → wm_Wp 0 251 33 [.null, .null, .null] μ (fun w ν => w = none ∧ Q ν) := fun q => w_251_33 _ _ ⟨rfl, hk μ (by unfold btL; rw [if_neg q]; exact hL) (fun _ _ => rfl)⟩
  have yes : t ≤ 120 ∧ t < ℓ s → wm_Wp 0 251 26 [.ref 89, .int (nI s), .int (nI t)] μ (fun w ν => w = none ∧ Q ν) := fun q => by
    refine w_251_26 _ _ _ _ ⟨vs, ?_⟩
    rw [nI_clamp (show s < 2 ^ 31 by omega)]
    refine w_251_33 _ _ ⟨rfl, hk _ ?_ (fun d e => si_ne _ _ _ e)⟩
    unfold btL
    rw [if_pos q]
    intro s' hs'
    by_cases e : s' = s
    · subst e
      rw [uN_eq, si_same, if_neg (by omega)]
      exact ⟨by omega, rfl⟩
    · rw [uN_ne _ _ e, si_other _ _ e]; exact hL s' hs'
  refine v_251 _ _ _ _ ?_
  rw [nI_clamp (show s < 2 ^ 31 by omega), l2]
  refine ⟨fun q => no (fun r => absurd ((nI_ltI (a := 120) (by decide) (by omega)).mp q) (by omega)), fun q => ⟨vs, ?_⟩⟩
  have q : t ≤ 120 := Nat.le_of_not_lt (fun r => q ((nI_ltI (a := 120) (by decide) (by omega)).mpr r))
  by_cases e : ℓ s = 999
  · rw [if_pos e]
    exact ⟨fun _ => yes ⟨q, by omega⟩, fun r => absurd rfl r⟩
  · rw [if_neg e]
    exact ⟨fun r => absurd r.symm (fun r => (nI_meq (b := 1) (by omega) (by decide) (by decide)).mp r), fun _ => ⟨vs, fun r => no (fun r' => absurd ((nI_leI (by omega) (by omega)).mp r) (by omega)), fun r => yes ⟨q, Nat.lt_of_not_le (fun r' => r ((nI_leI (by omega) (by omega)).mpr r'))⟩⟩⟩
def turnL (ℓ : Nat → Nat) (T c hd x : Nat) : Nat → (Nat → Nat)
  | 0 => ℓ
  | h + 1 => if h = hd then turnL ℓ T c hd x h else btL (turnL ℓ T c hd x h) (st_ c h x) (T + ap h hd)
def sailL (A : Nat → Nat) (ℓ : Nat → Nat) (T ch c hd x : Nat) : Nat → (Nat → Nat)
  | 0 => ℓ
  | y + 1 => if y = x ∨ ¬ A (452 + y) = 0 then sailL A ℓ T ch c hd x y else btL (sailL A ℓ T ch c hd x y) (st_ c hd y) (T + ch)
def stepL (A : Nat → Nat) (w tab : Nat) (ℓ : Nat → Nat) (T p : Nat) : Nat → Nat := if 0 < stG A w tab p (hq T) then btL ℓ (st_ (bsA (p / 24) (p / 3 % 8)) (p / 3 % 8) (p % 3)) (T + stG A w tab p (hq T)) else ℓ
def goL (A : Nat → Nat) (w tab ch : Nat) (ℓ : Nat → Nat) (T p : Nat) : Nat → Nat := stepL A w tab (if ℓ p = T then sailL A (turnL ℓ T (p / 24) (p / 3 % 8) (p % 3) 8) T ch (p / 24) (p / 3 % 8) (p % 3) (A 2040) else ℓ) T p
theorem stG_bs {A : Nat → Nat} {w tab p hr : Nat} (h : 0 < stG A w tab p hr) : ¬ bsA (p / 24) (p / 3 % 8) = 36 := fun e => by
  unfold stG at h
  split at h
  · unfold stF stA at h
    rw [if_pos e] at h
    omega
  · omega
theorem m_253 {m : Nat} {A : Nat → Nat} {ℓ : Nat → Nat} (w tab ch T p h0 : Nat) (hp : p < 864) (hT : T < 900) (hch : ch < 10000) (h0T : h0 ≤ hq T) {μ : wm_M} {Q : wm_M → Prop} (hB : BA m A) (hM : RM 91 A μ) (hS : LSt A w tab h0 10368 μ) (hL : LabM ℓ μ) (hk : ∀ ν, LabM (goL A w tab ch ℓ T p) ν → (∀ d, d ≠ 96 → ν.1 d = μ.1 d) → Q ν) : wm_OkV 0 253 [.ref 89, .int (nI ch), .int (nI p), .int (nI T)] μ Q := by
  have b3 := hB.sails
  have h12 := hq_lt T
  have e3 : nI p - nI p / (3 : Int32) * (3 : Int32) = nI (p % 3) := pk_rem (d := 3) (by omega) (by decide) (by decide)
  have e24 : nI p / (24 : Int32) = nI (p / 24) := pk_div (d := 24) (by omega) (by decide) (by decide)
  have d3 : nI p / (3 : Int32) = nI (p / 3) := pk_div (d := 3) (by omega) (by decide) (by decide)
  have e8 : nI (p / 3) - nI (p / 3) / (8 : Int32) * (8 : Int32) = nI (p / 3 % 8) := pk_rem (d := 8) (by omega) (by decide) (by decide)
  have hc : p / 24 < 36 := by omega
  have hh : p / 3 % 8 < 8 := by omega
  have hx : p % 3 < 3 := by omega
  have Fr : ∀ {ν κ : wm_M}, (∀ d, d ≠ 96 → ν.1 d = μ.1 d) → (∀ d, d ≠ 96 → κ.1 d = ν.1 d) → (∀ d, d ≠ 96 → κ.1 d = μ.1 d) := fun a b d e => (b d e).trans (a d e)
  -- the step
  have tail : ∀ ℓ2 ν, (∀ d, d ≠ 96 → ν.1 d = μ.1 d) → LabM ℓ2 ν → (∀ κ, LabM (stepL A w tab ℓ2 T p) κ → (∀ d, d ≠ 96 → κ.1 d = μ.1 d) → Q κ) → wm_Wp 0 253 133 [.ref 89, .null, .int (nI p), .int (nI T), .int (nI (p % 3)), .int (nI (p / 3 % 8)), .int (nI (p / 24)), .null] ν (fun w ν => w = none ∧ Q ν) := fun ℓ2 ν hF hL2 hk => by
    have sb := stG_le A w tab p (hq T)
    have es : ν.1 95 (864 * hq T + p) = nI (stG A w tab p (hq T)) := by rw [hF 95 (by decide)]; exact hS (hq T) p h0T h12 hp (by omega)
    refine w_253_133 _ _ _ _ _ _ _ (s_192 T (by omega) ?_)
    rw [show ((864 : Int32) * nI (hq T)) + nI p = nI (864 * hq T + p) by simp (disch := omega) only [nl, nI_add, pk_mul, pk_sub, pk_div, rm_n, nI_clamp, vi_, nI_leI, nI_ltI, nI_eq, nI_sb, nI_eqm, nI_meq, Nat.zero_add, Nat.add_zero], nI_clamp (show 864 * hq T + p < 2 ^ 31 by omega), es, nI_add]
    refine ⟨vp_in_nI (by omega) (by decide), fun z => w_253_181 _ _ ⟨rfl, hk ν ?_ hF⟩, fun z => ?_⟩
    · have z := (nI_leI (b := 0) (by omega) (by decide)).mp z
      unfold stepL
      rw [if_neg (by omega)]
      exact hL2
    · have z : 0 < stG A w tab p (hq T) := Nat.lt_of_not_le (fun r => z ((nI_leI (b := 0) (by omega) (by decide)).mpr r))
      have e36 := stG_bs z
      have b36 := bsA_lt (p / 24) (p / 3 % 8)
      refine m_247 _ _ hc hh ?_
      rw [show bsI (p / 24) (p / 3 % 8) = nI (bsA (p / 24) (p / 3 % 8)) by unfold bsI; exact if_neg e36, show ((3 : Int32) * (((8 : Int32) * nI (bsA (p / 24) (p / 3 % 8))) + nI (p / 3 % 8))) + nI (p % 3) = nI (st_ (bsA (p / 24) (p / 3 % 8)) (p / 3 % 8) (p % 3)) by unfold st_; simp (disch := omega) only [nl, nI_add, pk_mul, pk_sub, pk_div, rm_n, nI_clamp, vi_, nI_leI, nI_ltI, nI_eq, nI_sb, nI_eqm, nI_meq, Nat.zero_add, Nat.add_zero]]
      refine m_251 _ _ (by unfold st_; omega) (by omega) hL2 (fun κ k1 k2 => w_253_181 _ _ ⟨rfl, hk κ ?_ (Fr hF k2)⟩)
      unfold stepL
      rw [if_pos z]
      exact k1
  -- the sails
  have sails : ∀ ℓ1, ∀ j y ν, y + j = A 2040 → (∀ d, d ≠ 96 → ν.1 d = μ.1 d) → LabM (sailL A ℓ1 T ch (p / 24) (p / 3 % 8) (p % 3) y) ν → (∀ κ, LabM (stepL A w tab (sailL A ℓ1 T ch (p / 24) (p / 3 % 8) (p % 3) (A 2040)) T p) κ → (∀ d, d ≠ 96 → κ.1 d = μ.1 d) → Q κ) → wm_Wp 0 253 81 [.ref 89, .int (nI ch), .int (nI p), .int (nI T), .int (nI (p % 3)), .int (nI (p / 3 % 8)), .int (nI (p / 24)), .int (nI y)] ν (fun w ν => w = none ∧ Q ν) := by
    intro ℓ1 j
    induction j with
    | zero =>
      intro y ν hj hF hL1 hk
      have hMν : RM 91 A ν := hM.fr (hF 91 (by decide))
      have : y = A 2040 := by omega
      subst this
      refine w_253_81 _ _ _ _ _ _ _ _ _ (s_188 0 (by decide) ?_)
      rw [show ν.1 91 (2040 + 0) = nI (A 2040) from hMν 2040 (by decide)]
      exact ⟨fun _ => tail _ ν hF hL1 hk, fun q => absurd (nI_le (Nat.le_refl _) (by omega)) q⟩
    | succ j ih =>
      intro y ν hj hF hL1 hk
      have hMν : RM 91 A ν := hM.fr (hF 91 (by decide))
      have go : ∀ κ, LabM (sailL A ℓ1 T ch (p / 24) (p / 3 % 8) (p % 3) (y + 1)) κ → (∀ d, d ≠ 96 → κ.1 d = μ.1 d) → wm_Wp 0 253 127 [.ref 89, .int (nI ch), .int (nI p), .int (nI T), .int (nI (p % 3)), .int (nI (p / 3 % 8)), .int (nI (p / 24)), .int (nI y)] κ (fun w ν => w = none ∧ Q ν) := fun κ k1 k2 => by
        refine w_253_127 _ _ _ _ _ _ _ _ _ ?_
        rw [nI_1]
        exact ih (y + 1) κ (by omega) k2 k1 hk
      have skip : (y = p % 3 ∨ ¬ A (452 + y) = 0) → LabM (sailL A ℓ1 T ch (p / 24) (p / 3 % 8) (p % 3) (y + 1)) ν := fun q => by
        unfold sailL
        rw [if_pos q]
        exact hL1
      refine w_253_81 _ _ _ _ _ _ _ _ _ (s_188 0 (by decide) ?_)
      rw [show ν.1 91 (2040 + 0) = nI (A 2040) from hMν 2040 (by decide)]
      refine ⟨fun q => absurd q (nI_ge (by omega) (by omega)), fun _ => ⟨fun q => go ν (skip (Or.inl ((nI_eq (by omega) (by omega)).mp q))) hF, fun q => m_213 hB hMν (fun i hi e z => ⟨fun r => absurd r (by decide), fun _ => ?_⟩) (fun z => ⟨fun _ => go ν (skip (Or.inr (z y (by omega) rfl))) hF, fun r => absurd rfl r⟩)⟩⟩
      have e := (nI_eq (by omega) (by omega)).mp e
      subst e
      rw [show ((3 : Int32) * (((8 : Int32) * nI (p / 24)) + nI (p / 3 % 8))) + nI y = nI (st_ (p / 24) (p / 3 % 8) y) by unfold st_; simp (disch := omega) only [nl, nI_add, pk_mul, pk_sub, pk_div, rm_n, nI_clamp, vi_, nI_leI, nI_ltI, nI_eq, nI_sb, nI_eqm, nI_meq, Nat.zero_add, Nat.add_zero], nI_add]
      refine m_251 _ _ (by unfold st_; omega) (by omega) hL1 (fun κ k1 k2 => go κ ?_ (Fr hF k2))
      unfold sailL
      rw [if_neg (fun r => r.elim (fun r => q (by rw [r])) (fun r => r z))]
      exact k1
  have turns : ∀ j h ν, h + j = 8 → (∀ d, d ≠ 96 → ν.1 d = μ.1 d) → LabM (turnL ℓ T (p / 24) (p / 3 % 8) (p % 3) h) ν → ℓ p = T → wm_Wp 0 253 32 [.ref 89, .int (nI ch), .int (nI p), .int (nI T), .int (nI (p % 3)), .int (nI (p / 3 % 8)), .int (nI (p / 24)), .int (nI h)] ν (fun w ν => w = none ∧ Q ν) := by
    intro j
    induction j with
    | zero =>
      intro h ν hj hF hL1 eT
      have : h = 8 := by omega
      subst this
      refine w_253_32 _ _ _ _ _ _ _ _ _ ⟨fun _ => w_253_78 _ _ _ _ _ _ _ _ (sails _ (A 2040) 0 ν (by omega) hF hL1 (fun κ k1 k2 => hk κ ?_ k2)), fun q => absurd (nI_le (Nat.le_refl 8) (by decide)) q⟩
      unfold goL
      rw [if_pos eT]
      exact k1
    | succ j ih =>
      intro h ν hj hF hL1 eT
      have go : ∀ κ, LabM (turnL ℓ T (p / 24) (p / 3 % 8) (p % 3) (h + 1)) κ → (∀ d, d ≠ 96 → κ.1 d = μ.1 d) → wm_Wp 0 253 72 [.ref 89, .int (nI ch), .int (nI p), .int (nI T), .int (nI (p % 3)), .int (nI (p / 3 % 8)), .int (nI (p / 24)), .int (nI h)] κ (fun w ν => w = none ∧ Q ν) := fun κ k1 k2 => by
        refine w_253_72 _ _ _ _ _ _ _ _ _ ?_
        rw [nI_1]
        exact ih (h + 1) κ (by omega) k2 k1 eT
      refine w_253_32 _ _ _ _ _ _ _ _ _ ⟨fun q => absurd q (nI_ge (a := h) (b := 8) (by omega) (by decide)), fun _ => ⟨fun q => go ν ?_ hF, fun q => s_248 h (p / 3 % 8) (by omega) hh ?_⟩⟩
      · unfold turnL
        rw [if_pos ((nI_eq (by omega) (by omega)).mp q)]
        exact hL1
      · have ha := ap_le h (p / 3 % 8) (by omega) hh
        rw [show ((3 : Int32) * (((8 : Int32) * nI (p / 24)) + nI h)) + nI (p % 3) = nI (st_ (p / 24) h (p % 3)) by unfold st_; simp (disch := omega) only [nl, nI_add, pk_mul, pk_sub, pk_div, rm_n, nI_clamp, vi_, nI_leI, nI_ltI, nI_eq, nI_sb, nI_eqm, nI_meq, Nat.zero_add, Nat.add_zero], nI_add]
        refine m_251 _ _ (by unfold st_; omega) (by omega) hL1 (fun κ k1 k2 => go κ ?_ (Fr hF k2))
        unfold turnL
        rw [if_neg (fun r => q (by rw [r]))]
        exact k1
  refine v_253 _ _ _ _ _ ?_
  obtain ⟨l1, l2⟩ := hL p hp
  rw [e3, e24, d3, e8, nI_clamp (show p < 2 ^ 31 by omega), l2]
  refine ⟨by decide, by decide, by decide, by decide, vp_in_nI hp (by decide), ?_⟩
  by_cases e : ℓ p = T
  · rw [if_neg (by omega)]
    exact ⟨fun _ => turns 8 0 μ rfl (fun _ _ => rfl) hL e, fun q => absurd (by rw [e]) q⟩
  · have ne : ¬ (if ℓ p = 999 then (-1 : Int32) else nI (ℓ p)) = nI T := by
      split
      · exact fun q => (nI_meq (a := T) (b := 1) (by omega) (by decide) (by decide)).mp q
      · exact fun q => e ((nI_eq (by omega) (by omega)).mp q)
    refine ⟨fun q => absurd q ne, fun _ => tail ℓ μ (fun _ _ => rfl) hL (fun κ k1 k2 => hk κ ?_ k2)⟩
    unfold goL
    rw [if_neg e]
    exact k1
