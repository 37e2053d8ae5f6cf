/-! ===== class: spread ===== -/
/-- the ways' own cells may have changed -/
def F7 (μ ν : wm_M) : Prop := ∀ d, d < 69 ∨ 74 < d → ν.1 d = μ.1 d
theorem F7.rf (μ : wm_M) : F7 μ μ := fun _ _ => rfl
theorem F7.tr {μ ν κ : wm_M} (h : F7 μ ν) (g : F7 ν κ) : F7 μ κ := fun d q => (g d q).trans (h d q)
theorem F7.of {μ ν : wm_M} (h : ∀ d, d < 70 ∨ 73 < d → ν.1 d = μ.1 d) : F7 μ ν := fun d q => h d (by omega)
theorem F7.sm {K : Nat → Nat → Bool} {μ ν : wm_M} (h : F7 μ ν) (e : ∀ d, 69 ≤ d → d ≤ 74 → ∀ i, K d i = false) : Sm K μ ν := fun c i q => by
  rw [h c ?_]
  refine Decidable.byContradiction (fun r => ?_)
  rw [e c (by omega) (by omega) i] at q
  cases q
theorem six {P : Nat → Prop} (h : P 69 ∧ P 70 ∧ P 71 ∧ P 72 ∧ P 73 ∧ P 74) : ∀ d, 69 ≤ d → d ≤ 74 → P d := fun d a b => by
  have : d = 69 ∨ d = 70 ∨ d = 71 ∨ d = 72 ∨ d = 73 ∨ d = 74 := by omega
  obtain ⟨h1, h2, h3, h4, h5, h6⟩ := h
  rcases this with rfl | rfl | rfl | rfl | rfl | rfl <;> assumption
theorem kR_7 : ∀ d, 69 ≤ d → d ≤ 74 → ∀ i, kR d i = false := six ⟨fun _ => rfl, fun _ => rfl, fun _ => rfl, fun _ => rfl, fun _ => rfl, fun _ => rfl⟩
theorem kA_7 : ∀ d, 69 ≤ d → d ≤ 74 → ∀ i, kA 0 d i = false := six ⟨fun _ => rfl, fun _ => rfl, fun _ => rfl, fun _ => rfl, fun _ => rfl, fun _ => rfl⟩
theorem kO_7 : ∀ d, 69 ≤ d → d ≤ 74 → ∀ i, kO d i = false := six ⟨fun _ => rfl, fun _ => rfl, fun _ => rfl, fun _ => rfl, fun _ => rfl, fun _ => rfl⟩
theorem RA.f7 {n : Nat} {A : Nat → Nat} {μ ν : wm_M} (h : RA n A μ) (e : F7 μ ν) : RA n A ν := h.sm (e.sm kR_7)
theorem RO.f7 {n : Nat} {μ ν : wm_M} (h : RO n μ) (e : F7 μ ν) : RO n ν := h.sm (e.sm kO_7)
theorem CL.f7 {m : Nat} {A : Nat → Nat} {μ ν : wm_M} (h : CL m A μ) (e : F7 μ ν) : CL m A ν := h.sm (e.sm kA_7)
/-- the chart stands -/
def Chd (m : Nat) (A : Nat → Nat) (w tab : Nat) (μ : wm_M) : Prop := CL m A μ ∧ askd A μ ∧ drwn A w tab μ ∧ BS μ
theorem Chd.f7 {m : Nat} {A : Nat → Nat} {w tab : Nat} {μ ν : wm_M} (h : Chd m A w tab μ) (e : F7 μ ν) : Chd m A w tab ν := by
  obtain ⟨h1, h2, h3, h4⟩ := h
  refine ⟨h1.f7 e, askd_of (e 63 (by decide)) (e 64 (by decide)) h2, drwn_of (e 65 (by decide)) (e 66 (by decide)) (e 67 (by decide)) h3, fun c h' hc hh => ?_⟩
  rw [e 68 (by decide)]; exact h4 c h' hc hh
def Lw (ℓ : Nat → Nat) : Prop := ∀ s, s < 864 → ℓ s ≠ 999 → ℓ s ≤ 120
theorem Lw_bt {ℓ : Nat → Nat} {s t : Nat} (h : Lw ℓ) : Lw (btL ℓ s t) := fun s' hs q => by
  unfold btL at q ⊢
  split at q
  · rename_i r
    rw [if_pos r]
    by_cases e : s' = s
    · rw [e, uN_eq]; exact r.1
    · rw [uN_ne _ _ e] at q ⊢; exact h s' hs q
  · rename_i r
    rw [if_neg r]; exact h s' hs q
/-- labels and lists as they should be; the lists up to T as F has them -/
def LQ (F : Nat → List Nat) (T : Nat) (ℓ : Nat → Nat) (ν : wm_M) : Prop := LabC ℓ ν ∧ Lw ℓ ∧ ∃ G, LX (fun _ => True) ℓ G ν ∧ ∀ u, u ≤ T → G u = F u
theorem c_110q {F : Nat → List Nat} {T : Nat} {ℓ : Nat → Nat} (s t : Nat) (hs : s < 864) (ht : t < 100000) (hT : T < t) {μ : wm_M} {Q : wm_M → Prop} (hQ : LQ F T ℓ μ) (hk : ∀ ν, LQ F T (btL ℓ s t) ν → (∀ d, d < 70 ∨ 73 < d → ν.1 d = μ.1 d) → Q ν) : wm_OkV 0 110 [.ref 69, .int (nI s), .int (nI t)] μ Q := by
  obtain ⟨h1, h2, G, h3, h4⟩ := hQ
  exact c_110 s t hs ht h1 h2 h3 (fun ν G' k1 k2 k3 k4 => hk ν ⟨k1, Lw_bt h2, G', k2, fun u hu => (k3 u (by omega)).trans (h4 u hu)⟩ k4)
theorem c_109 {m : Nat} {A : Nat → Nat} {F : Nat → List Nat} {ℓ : Nat → Nat} (w tab ch T p : Nat) (hw : w < 7) (hp : p < 864) (hT : T ≤ 120) (hc0 : 0 < ch) (hch : ch < 10000) (hx : p % 3 < A 2040) {μ : wm_M} {Q : wm_M → Prop} (hC : Chd m A w tab μ) (h7 : μ.1 69 7 = nI ch) (hQ : LQ F T ℓ μ) (hk : ∀ ν e, IsEnd (fun hr => stF A w tab p hr) T e → LQ F T (spL A ch ℓ T p e) ν → (∀ d, d < 70 ∨ 73 < d → ν.1 d = μ.1 d) → Q ν) : wm_OkV 0 109 [.ref 69, .int (nI p), .int (nI T)] μ Q := by
  have b3 := hC.1.1.sails
  have e3 : nI p - nI p / (3 : Int32) * (3 : Int32) = nI (p % 3) := pk_rem (d := 3) (by omega) (by decide) (by decide)
  have e24 : nI p / (24 : Int32) = nI (p / 24) := pk_div (d := 24) (by omega) (by decide) (by decide)
  have d3 : nI p / (3 : Int32) = nI (p / 3) := pk_div (d := 3) (by omega) (by decide) (by decide)
  have e8 : nI (p / 3) - nI (p / 3) / (8 : Int32) * (8 : Int32) = nI (p / 3 % 8) := pk_rem (d := 8) (by omega) (by decide) (by decide)
  have hc : p / 24 < 36 := by omega
  have hh : p / 3 % 8 < 8 := by omega
  have Fr : ∀ {ν κ : wm_M}, (∀ d, d < 70 ∨ 73 < d → ν.1 d = μ.1 d) → (∀ d, d < 70 ∨ 73 < d → κ.1 d = ν.1 d) → (∀ d, d < 70 ∨ 73 < d → κ.1 d = μ.1 d) := fun a b d e => (b d e).trans (a d e)
  have tail : ∀ ν, (∀ d, d < 70 ∨ 73 < d → ν.1 d = μ.1 d) → LQ F T (sailL A (turnL ℓ T (p / 24) (p / 3 % 8) (p % 3) 8) T ch (p / 24) (p / 3 % 8) (p % 3) (A 2040)) ν → wm_Wp 0 109 124 [.ref 69, .null, .int (nI T), .int (nI (p % 3)), .int (nI (p / 3 % 8)), .int (nI (p / 24)), .null] ν (fun w ν => w = none ∧ Q ν) := fun ν hF hL => by
    obtain ⟨g1, g2, g3, g4⟩ := hC.f7 (F7.of hF)
    have b36 := bsA_lt (p / 24) (p / 3 % 8)
    refine w_109_124 _ _ _ _ _ _ ?_
    rw [show nI (p / 24) * (8 : Int32) + nI (p / 3 % 8) = nI (p / 24 * 8 + p / 3 % 8) by simp (disch := omega) only [nl, nI_add, pk_mul, pk_sub, pk_div, rm_n, nI_clamp, vi_, nI_leI, nI_ltI, nI_eq, nI_sb, nI_eqm, nI_meq, Nat.zero_add, Nat.add_zero], nI_clamp (show p / 24 * 8 + p / 3 % 8 < 2 ^ 31 by omega), g4 _ _ hc hh]
    refine ⟨vp_in_nI (by omega) (by decide), ?_⟩
    have ends : ∀ Q', (∀ e, IsEnd (fun hr => stF A w tab p hr) T e → Q' (nI e) ν) → wm_OkI 0 24 [.ref 62, .int (nI (p / 24)), .int (nI (p / 3 % 8)), .int (nI (p % 3)), .int (nI T)] ν Q' := fun Q' k => c_24 w tab (p / 24) (p / 3 % 8) (p % 3) T hw hc hh hx hT g1 g2 g3 g4 k
    by_cases e : bsA (p / 24) (p / 3 % 8) = 36
    · rw [if_pos e]
      refine ⟨fun _ => w_109_173 _ _ ⟨rfl, hk ν 999 ⟨Nat.le_refl _, fun b a1 a2 a3 a4 a5 => ?_, fun q => by omega⟩ ?_ hF⟩, fun q => absurd rfl q⟩
      · have a3 : 0 < stF A w tab p (hq b) := a3
        unfold stF stA at a3
        rw [if_pos e] at a3
        omega
      · unfold spL
        rw [if_pos e]; exact hL
    · rw [if_neg e]
      refine ⟨fun q => absurd q (nI_n1 (by omega)), fun _ => s_183 _ _ _ (ends _ (fun e' he => ?_))⟩
      have le : T < e' := by
        by_cases q : e' ≤ 120
        · obtain ⟨b, b1, b2, b3', b4⟩ := he.2.2 q
          have b3' : 0 < stF A w tab p (hq b) := b3'
          have b4 : e' = b + stF A w tab p (hq b) := b4
          omega
        · omega
      have le9 := he.1
      refine c_110q _ _ (by unfold st_; omega) (by omega) le hL (fun κ k1 k2 => w_109_173 _ _ ⟨rfl, hk κ e' he ?_ (Fr hF k2)⟩)
      unfold spL
      rw [if_neg e]; exact k1
  have sails : ∀ j y ν, y + j = A 2040 → (∀ d, d < 70 ∨ 73 < d → ν.1 d = μ.1 d) → LQ F T (sailL A (turnL ℓ T (p / 24) (p / 3 % 8) (p % 3) 8) T ch (p / 24) (p / 3 % 8) (p % 3) y) ν → wm_Wp 0 109 65 [.ref 69, .int (nI p), .int (nI T), .int (nI (p % 3)), .int (nI (p / 3 % 8)), .int (nI (p / 24)), .int (nI y)] ν (fun w ν => w = none ∧ Q ν) := by
    intro j
    induction j with
    | zero =>
      intro y ν hj hF hL
      have : y = A 2040 := by omega
      subst this
      obtain ⟨g1, g2, g3, g4⟩ := hC.f7 (F7.of hF)
      refine w_109_65 _ _ _ _ _ _ _ _ ?_
      rw [g1.2.2.1.sails]
      exact ⟨fun _ => tail ν hF hL, fun q => absurd (nI_le (Nat.le_refl _) (by omega)) q⟩
    | succ j ih =>
      intro y ν hj hF hL
      obtain ⟨g1, g2, g3, g4⟩ := hC.f7 (F7.of hF)
      have bto := g1.1.torn (show y < 3 by omega)
      have go : ∀ κ, LQ F T (sailL A (turnL ℓ T (p / 24) (p / 3 % 8) (p % 3) 8) T ch (p / 24) (p / 3 % 8) (p % 3) (y + 1)) κ → (∀ d, d < 70 ∨ 73 < d → κ.1 d = μ.1 d) → wm_Wp 0 109 118 [.ref 69, .int (nI p), .int (nI T), .int (nI (p % 3)), .int (nI (p / 3 % 8)), .int (nI (p / 24)), .int (nI y)] κ (fun w ν => w = none ∧ Q ν) := fun κ k1 k2 => by
        refine w_109_118 _ _ _ _ _ _ _ _ ?_
        rw [nI_1]
        exact ih (y + 1) κ (by omega) k2 k1
      have skip : (y = p % 3 ∨ ¬ A (452 + y) = 0) → LQ F T (sailL A (turnL ℓ T (p / 24) (p / 3 % 8) (p % 3) 8) T ch (p / 24) (p / 3 % 8) (p % 3) (y + 1)) ν := fun q => by
        unfold sailL
        rw [if_pos q]
        exact hL
      refine w_109_65 _ _ _ _ _ _ _ _ ?_
      rw [g1.2.2.1.sails, nI_clamp (show y < 2 ^ 31 by omega), g1.2.2.1.torn (show y < 3 by omega), hF 69 (by decide), h7]
      refine ⟨fun q => absurd q (nI_ge (by omega) (by omega)), fun _ => ⟨fun q => go ν (skip (Or.inl ((nI_eq (by omega) (by omega)).mp q))) hF, fun q => ⟨vp_in_nI (by omega) (by decide), fun z => ?_, fun z => go ν (skip (Or.inr (fun r => z (by rw [r]; rfl)))) hF⟩⟩⟩
      have z := (nI_eq (b := 0) (by omega) (by decide)).mp z
      have es : (nI p - nI (p % 3)) + nI y = nI (st_ (p / 24) (p / 3 % 8) y) := by
        rw [pk_sub (by omega), nI_add]
        congr 1
        unfold st_
        omega
      rw [es, nI_add]
      refine c_110q _ _ (by unfold st_; omega) (by omega) (by omega) hL (fun κ k1 k2 => go κ ?_ (Fr hF k2))
      unfold sailL
      rw [if_neg (fun r => r.elim (fun r => q (by rw [r])) (fun r => r z))]
      exact k1
  have turns : ∀ j h ν, h + j = 8 → (∀ d, d < 70 ∨ 73 < d → ν.1 d = μ.1 d) → LQ F T (turnL ℓ T (p / 24) (p / 3 % 8) (p % 3) h) ν → wm_Wp 0 109 21 [.ref 69, .int (nI p), .int (nI T), .int (nI (p % 3)), .int (nI (p / 3 % 8)), .int (nI (p / 24)), .int (nI h)] ν (fun w ν => w = none ∧ Q ν) := by
    intro j
    induction j with
    | zero =>
      intro h ν hj hF hL
      have : h = 8 := by omega
      subst this
      exact w_109_21 _ _ _ _ _ _ _ _ ⟨fun _ => w_109_62 _ _ _ _ _ _ _ (sails (A 2040) 0 ν (by omega) hF hL), fun q => absurd (nI_le (Nat.le_refl 8) (by decide)) q⟩
    | succ j ih =>
      intro h ν hj hF hL
      have go : ∀ κ, LQ F T (turnL ℓ T (p / 24) (p / 3 % 8) (p % 3) (h + 1)) κ → (∀ d, d < 70 ∨ 73 < d → κ.1 d = μ.1 d) → wm_Wp 0 109 56 [.ref 69, .int (nI p), .int (nI T), .int (nI (p % 3)), .int (nI (p / 3 % 8)), .int (nI (p / 24)), .int (nI h)] κ (fun w ν => w = none ∧ Q ν) := fun κ k1 k2 => by
        refine w_109_56 _ _ _ _ _ _ _ _ ?_
        rw [nI_1]
        exact ih (h + 1) κ (by omega) k2 k1
      refine w_109_21 _ _ _ _ _ _ _ _ ⟨fun q => absurd q (nI_ge (a := h) (b := 8) (by omega) (by decide)), fun _ => ⟨fun q => go ν ?_ hF, fun q => s_183 _ _ _ (s_181 h (p / 3 % 8) (by omega) hh ?_)⟩⟩
      · unfold turnL
        rw [if_pos ((nI_eq (by omega) (by omega)).mp q)]
        exact hL
      · have ha := ap_le h (p / 3 % 8) (by omega) hh
        have ha0 := ap_pos h (by omega) (p / 3 % 8) hh (fun r => q (by rw [r]))
        rw [nI_add]
        refine c_110q _ _ (by unfold st_; omega) (by omega) (by omega) hL (fun κ k1 k2 => go κ ?_ (Fr hF k2))
        unfold turnL
        rw [if_neg (fun r => q (by rw [r]))]
        exact k1
  refine v_109 _ _ _ _ ?_
  rw [e3, e24, d3, e8]
  exact ⟨by decide, by decide, by decide, by decide, turns 8 0 μ rfl (fun _ _ => rfl) hQ⟩
