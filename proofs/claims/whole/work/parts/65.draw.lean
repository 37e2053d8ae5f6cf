/-! ===== the chart: draw ===== -/
def Fil (d : Nat) (ix : Nat → Nat) (g : Nat → Int32) (J : Nat) (μ ν : wm_M) : Prop := (∀ j, j < J → ν.1 d (ix j) = g j) ∧ (∀ i, (∀ j, j < J → i ≠ ix j) → ν.1 d i = μ.1 d i) ∧ ∀ c, c ≠ d → ν.1 c = μ.1 c
theorem Fil_0 (d : Nat) (ix : Nat → Nat) (g : Nat → Int32) (μ : wm_M) : Fil d ix g 0 μ μ := ⟨fun j hj => by omega, fun _ _ => rfl, fun _ _ => rfl⟩
theorem Fil_s {d : Nat} {ix : Nat → Nat} {g : Nat → Int32} {J : Nat} {μ ν : wm_M} (h : Fil d ix g J μ ν) (hi : ∀ j, j < J → ix j ≠ ix J) : Fil d ix g (J + 1) μ (wm_si ν d (ix J) (g J)) := by
  obtain ⟨h1, h2, h3⟩ := h
  refine ⟨fun j hj => ?_, fun i hi' => ?_, fun c hc => ?_⟩
  · by_cases e : j = J
    · subst e; rw [si_same]
    · rw [si_other _ _ (hi j (by omega))]; exact h1 j (by omega)
  · rw [si_other _ _ (hi' J (by omega))]; exact h2 i (fun j hj => hi' j (by omega))
  · rw [si_ne _ _ _ hc]; exact h3 c hc
theorem Fil.kq {d : Nat} {ix : Nat → Nat} {g : Nat → Int32} {J : Nat} {μ ν : wm_M} (h : Fil d ix g J μ ν) (hd : ∀ i, kQ d i = false) : Sm kQ μ ν := fun c i q => by
  have : c ≠ d := fun r => by rw [r, hd i] at q; cases q
  rw [h.2.2 c this]
theorem c_20 {m : Nat} {A : Nat → Nat} (w hr : Nat) (hw : w < 7) (hh : hr < 12) {μ : wm_M} {Q : wm_M → Prop} (hC : CL m A μ) (hq : ∀ ν κ, Fil 66 (fun h => hr * 8 + h) (fun h => nI (ap h (frA A w hr))) 8 μ ν → Fil 65 (fun c => c * 12 + hr) (fun c => nI (fiA A w hr c)) 36 ν κ → Q κ) : wm_OkV 0 20 [.ref 62, .int (nI w), .int (nI hr)] μ Q := by
  have hf := frA_lt hC.1 hw hh
  have ho := foA_lt hC.1 hw hh
  refine v_20 _ _ _ _ (c_71 w hr hw hh hC ?_)
  have l2 : ∀ (ν0 : wm_M), CL m A ν0 → (∀ κ, Fil 65 (fun c => c * 12 + hr) (fun c => nI (fiA A w hr c)) 36 ν0 κ → Q κ) → ∀ k c ν, c + k = 36 → Fil 65 (fun c => c * 12 + hr) (fun c => nI (fiA A w hr c)) c ν0 ν → wm_Wp 0 20 64 [.ref 62, .null, .int (nI hr), .null, .int (nI (foA A w hr)), .int (nI c)] ν (fun w ν => w = none ∧ Q ν) := by
    intro ν0 hC0 hq k
    induction k with
    | zero =>
      intro c ν hc hF
      rw [show c = 36 by omega] at *
      exact w_20_64 _ _ _ _ _ ⟨fun _ => w_20_103 _ _ ⟨rfl, hq ν hF⟩, fun q => absurd (nI_le (Nat.le_refl 36) (by decide)) q⟩
    | succ k ih =>
      intro c ν hc hF
      have hCν := hC0.kq (hF.kq (fun _ => rfl))
      refine w_20_64 _ _ _ _ _ ⟨fun q => absurd q (nI_ge (a := c) (b := 36) (by omega) (by decide)), fun _ => c_74 _ c ho (by omega) hCν ?_⟩
      rw [show nI c * (12 : Int32) + nI hr = nI (c * 12 + hr) from ix2 c hr, nI_clamp (by omega), nI_1]
      exact ⟨vp_in_nI (by omega) (by decide), ih (c + 1) _ (by omega) (Fil_s hF (fun j hj => by omega))⟩
  have l1 : ∀ k h ν, h + k = 8 → Fil 66 (fun h => hr * 8 + h) (fun h => nI (ap h (frA A w hr))) h μ ν → wm_Wp 0 20 16 [.ref 62, .int (nI w), .int (nI hr), .int (nI (frA A w hr)), .int (nI h), .null] ν (fun w ν => w = none ∧ Q ν) := by
    intro k
    induction k with
    | zero =>
      intro h ν hk hF
      rw [show h = 8 by omega] at *
      have hCν := hC.kq (hF.kq (fun _ => rfl))
      exact w_20_16 _ _ _ _ _ _ ⟨fun _ => w_20_47 _ _ _ _ (c_72 w hr hw hh hCν (l2 ν hCν (fun κ hK => hq ν κ hF hK) 36 0 ν (by omega) (Fil_0 _ _ _ _))), fun q => absurd (nI_le (Nat.le_refl 8) (by decide)) q⟩
    | succ k ih =>
      intro h ν hk hF
      refine w_20_16 _ _ _ _ _ _ ⟨fun q => absurd q (nI_ge (a := h) (b := 8) (by omega) (by decide)), fun _ => s_181 _ _ (by omega) hf ?_⟩
      rw [show nI hr * (8 : Int32) + nI h = nI (hr * 8 + h) from ix2' 8 hr h, nI_clamp (by omega), nI_1]
      exact ⟨vp_in_nI (by omega) (by decide), ih (h + 1) _ (by omega) (Fil_s hF (fun j hj => by omega))⟩
  exact l1 8 0 μ (by omega) (Fil_0 _ _ _ _)
theorem c_21 {m : Nat} {A : Nat → Nat} (x tab : Nat) (hx : x < 3) (ht : tab < 2) {μ : wm_M} {Q : wm_M → Prop} (hC : CL m A μ) (hq : ∀ ν, Fil 67 (fun j => x * 25 + j) (fun j => nI (pcA (A (449 + x)) (j / 5) (spA A tab j))) 25 μ ν → Q ν) : wm_OkV 0 21 [.ref 62, .int (nI x), .int (nI tab)] μ Q := by
  have bk := hC.1.kind hx
  have inner : ∀ a, a < 5 → ∀ k b ν, b + k = 5 → Fil 67 (fun j => x * 25 + j) (fun j => nI (pcA (A (449 + x)) (j / 5) (spA A tab j))) (a * 5 + b) μ ν → (∀ κ, Fil 67 (fun j => x * 25 + j) (fun j => nI (pcA (A (449 + x)) (j / 5) (spA A tab j))) (a * 5 + 5) μ κ → wm_Wp 0 21 74 [.ref 62, .int (nI x), .int (nI tab), .int (nI a), .null, .null] κ (fun w ν => w = none ∧ Q ν)) → wm_Wp 0 21 10 [.ref 62, .int (nI x), .int (nI tab), .int (nI a), .int (nI b), .null] ν (fun w ν => w = none ∧ Q ν) := by
    intro a ha k
    induction k with
    | zero =>
      intro b ν hb hF hk
      rw [show b = 5 by omega] at *
      exact w_21_10 _ _ _ _ _ _ ⟨fun _ => hk ν hF, fun q => absurd (nI_le (Nat.le_refl 5) (by decide)) q⟩
    | succ k ih =>
      intro b ν hb hF hk
      have hCν := hC.kq (hF.kq (fun _ => rfl))
      have sp := spA_lt hCν.1 hCν.2.1 tab (show a * 5 + b < 25 by omega)
      refine w_21_10 _ _ _ _ _ _ ⟨fun q => absurd q (nI_ge (a := b) (b := 5) (by omega) (by decide)), fun _ => ?_⟩
      rw [show nI a * (5 : Int32) + nI b = nI (a * 5 + b) from ix2' 5 a b]
      refine c_85 tab _ ht (by omega) hCν ⟨vp_in_nI hx (by decide), ?_⟩
      rw [nI_clamp (show x < 2 ^ 31 by omega), hCν.2.2.1.kind hx]
      refine c_9 _ _ _ bk ha sp ?_
      rw [show ((nI x * (5 : Int32)) + nI a) * (5 : Int32) + nI b = nI (x * 25 + (a * 5 + b)) from by
        rw [show nI x * (5 : Int32) + nI a = nI (x * 5 + a) from ix2' 5 x a, show nI (x * 5 + a) * (5 : Int32) + nI b = nI ((x * 5 + a) * 5 + b) from ix2' 5 _ b]
        congr 1
        omega, nI_clamp (by omega), nI_1]
      have st := Fil_s hF (fun j hj => by show x * 25 + j ≠ x * 25 + (a * 5 + b); omega)
      have e5 : (a * 5 + b) / 5 = a := by omega
      refine ⟨vp_in_nI (by omega) (by decide), ih (b + 1) _ (by omega) ?_ hk⟩
      have st : Fil 67 (fun j => x * 25 + j) (fun j => nI (pcA (A (449 + x)) (j / 5) (spA A tab j))) (a * 5 + b + 1) μ (wm_si ν 67 (x * 25 + (a * 5 + b)) (nI (pcA (A (449 + x)) ((a * 5 + b) / 5) (spA A tab (a * 5 + b))))) := st
      rw [e5] at st
      exact st
  have outer : ∀ k a ν, a + k = 5 → Fil 67 (fun j => x * 25 + j) (fun j => nI (pcA (A (449 + x)) (j / 5) (spA A tab j))) (a * 5) μ ν → wm_Wp 0 21 2 [.ref 62, .int (nI x), .int (nI tab), .int (nI a), .null, .null] ν (fun w ν => w = none ∧ Q ν) := by
    intro k
    induction k with
    | zero =>
      intro a ν ha hF
      rw [show a = 5 by omega] at *
      exact w_21_2 _ _ _ _ _ ⟨fun _ => w_21_80 _ _ ⟨rfl, hq ν hF⟩, fun q => absurd (nI_le (Nat.le_refl 5) (by decide)) q⟩
    | succ k ih =>
      intro a ν ha hF
      refine w_21_2 _ _ _ _ _ ⟨fun q => absurd q (nI_ge (a := a) (b := 5) (by omega) (by decide)), fun _ => inner a (by omega) 5 0 ν (by omega) hF (fun κ hK => w_21_74 _ _ _ _ _ ?_)⟩
      rw [nI_1]
      refine ih (a + 1) κ (by omega) ?_
      rw [show (a + 1) * 5 = a * 5 + 5 by omega]; exact hK
  exact v_21 _ _ _ _ (outer 5 0 μ (by omega) (Fil_0 _ _ _ _))
def Fy (μ ν : wm_M) : Prop := ∀ d, d ≠ 65 → d ≠ 66 → d ≠ 67 → ν.1 d = μ.1 d
theorem Fy.kq {μ ν : wm_M} (h : Fy μ ν) : Sm kQ μ ν := fun e i q => by
  have h1 : e ≠ 65 := fun r => by rw [r, show kQ 65 i = false from rfl] at q; cases q
  have h2 : e ≠ 66 := fun r => by rw [r, show kQ 66 i = false from rfl] at q; cases q
  have h3 : e ≠ 67 := fun r => by rw [r, show kQ 67 i = false from rfl] at q; cases q
  rw [h e h1 h2 h3]
/-- draw: what it leaves -/
theorem c_19 {n : Nat} {A : Nat → Nat} (w tab : Nat) (hw : w < 7) (ht : tab < 2) {μ : wm_M} {Q : wm_M → Prop} (hC : CL n A μ) (hV : ∀ w tab, w < 7 → tab < 2 → μ.1 62 8 = nI (2 * w + tab) → drwn A w tab μ) (hq : ∀ ν, drwn A w tab ν → ν.1 62 8 = nI (2 * w + tab) → (∀ d, d ≠ 65 → d ≠ 66 → d ≠ 67 → d ≠ 62 → ν.1 d = μ.1 d) → ν.1 62 7 = μ.1 62 7 → Q ν) : wm_OkV 0 19 [.ref 62, .int (nI w), .int (nI tab)] μ Q := by
  have bs := hC.1.sails
  have e2 : ((2 : Int32) * nI w) + nI tab = nI (2 * w + tab) := by simp (disch := omega) only [nl, nI_add, pk_mul, pk_sub, pk_div, rm_n, nI_clamp, vi_, nI_leI, nI_ltI, nI_eq, nI_sb, nI_eqm, nI_meq, Nat.zero_add, Nat.add_zero]
  refine v_19 _ _ _ _ ?_
  rw [e2]
  refine ⟨fun z => ⟨rfl, hq μ (hV w tab hw ht z) z (fun _ _ _ _ _ => rfl) rfl⟩, fun z => w_19_13 _ _ _ _ ?_⟩
  have l2 : ∀ k x ν, x + k = A 2040 → Fy μ ν → (∀ hr h, hr < 12 → h < 8 → ν.1 66 (hr * 8 + h) = nI (ap h (frA A w hr))) → (∀ c hr, c < 36 → hr < 12 → ν.1 65 (c * 12 + hr) = nI (fiA A w hr c)) → (∀ x' a b, x' < x → a < 5 → b < 5 → ν.1 67 ((x' * 5 + a) * 5 + b) = nI (pcA (A (449 + x')) a (spA A tab (5 * a + b)))) → wm_Wp 0 19 35 [.ref 62, .int (nI w), .int (nI tab), .int (nI x)] ν (fun w ν => w = none ∧ Q ν) := by
    intro k
    induction k with
    | zero =>
      intro x ν hx hF d1 d2 d3
      refine w_19_35 _ _ _ _ _ ?_
      rw [(hC.kq hF.kq).2.2.1.sails]
      have ex : x = A 2040 := by omega
      subst ex
      refine ⟨fun _ => w_19_61 _ _ _ _ ?_, fun q => absurd (nI_le (Nat.le_refl _) (by omega)) q⟩
      rw [e2]
      refine ⟨rfl, hq _ ⟨d1, d2, d3⟩ rfl (fun d a1 a2 a3 a4 => by rw [si_ne _ _ _ a4]; exact hF d a1 a2 a3) ?_⟩
      show ν.1 62 7 = _
      rw [hF 62 (by decide) (by decide) (by decide)]
    | succ k ih =>
      intro x ν hx hF d1 d2 d3
      have hCν := hC.kq hF.kq
      refine w_19_35 _ _ _ _ _ ?_
      rw [hCν.2.2.1.sails]
      refine ⟨fun q => absurd q (nI_ge (by omega) (by omega)), fun _ => c_21 x tab (by omega) ht hCν (fun κ hK => ?_)⟩
      rw [nI_1]
      refine ih (x + 1) κ (by omega) (fun d a1 a2 a3 => (hK.2.2 d a3).trans (hF d a1 a2 a3)) (fun hr h a b => by rw [hK.2.2 66 (by decide)]; exact d1 hr h a b) (fun c hr a b => by rw [hK.2.2 65 (by decide)]; exact d2 c hr a b) (fun x' a b hx' ha hb => ?_)
      by_cases e : x' = x
      · subst e
        have g := hK.1 (a * 5 + b) (by omega)
        have g : κ.1 67 (x' * 25 + (a * 5 + b)) = nI (pcA (A (449 + x')) ((a * 5 + b) / 5) (spA A tab (a * 5 + b))) := g
        rw [show (x' * 5 + a) * 5 + b = x' * 25 + (a * 5 + b) by omega, g, show (a * 5 + b) / 5 = a by omega, show a * 5 + b = 5 * a + b by omega]
      · rw [hK.2.1 _ (fun j hj => by show (x' * 5 + a) * 5 + b ≠ x * 25 + j; omega)]
        exact d3 x' a b (by omega) ha hb
  have l1 : ∀ k hr ν, hr + k = 12 → Fy μ ν → (∀ hr' h, hr' < hr → h < 8 → ν.1 66 (hr' * 8 + h) = nI (ap h (frA A w hr'))) → (∀ c hr', c < 36 → hr' < hr → ν.1 65 (c * 12 + hr') = nI (fiA A w hr' c)) → wm_Wp 0 19 15 [.ref 62, .int (nI w), .int (nI tab), .int (nI hr)] ν (fun w ν => w = none ∧ Q ν) := by
    intro k
    induction k with
    | zero =>
      intro hr ν hh hF d1 d2
      rw [show hr = 12 by omega] at *
      exact w_19_15 _ _ _ _ _ ⟨fun _ => w_19_33 _ _ _ _ (l2 (A 2040) 0 ν (by omega) hF d1 d2 (fun x' a b h => by omega)), fun q => absurd (nI_le (Nat.le_refl 12) (by decide)) q⟩
    | succ k ih =>
      intro hr ν hh hF d1 d2
      have hCν := hC.kq hF.kq
      refine w_19_15 _ _ _ _ _ ⟨fun q => absurd q (nI_ge (a := hr) (b := 12) (by omega) (by decide)), fun _ => c_20 w hr hw (by omega) hCν (fun κ ξ hK hX => ?_)⟩
      rw [nI_1]
      refine ih (hr + 1) ξ (by omega) (fun d a1 a2 a3 => ((hX.2.2 d a1).trans (hK.2.2 d a2)).trans (hF d a1 a2 a3)) (fun hr' h a b => ?_) (fun c hr' a b => ?_)
      · rw [hX.2.2 66 (by decide)]
        by_cases e : hr' = hr
        · subst e; exact hK.1 h b
        · rw [hK.2.1 _ (fun j hj => by show hr' * 8 + h ≠ hr * 8 + j; omega)]
          exact d1 hr' h (by omega) b
      · by_cases e : hr' = hr
        · subst e; exact hX.1 c a
        · rw [hX.2.1 _ (fun j hj => by show c * 12 + hr' ≠ j * 12 + hr; omega), hK.2.2 65 (by decide)]
          exact d2 c hr' a (by omega)
  exact l1 12 0 μ (by omega) (fun _ _ _ _ => rfl) (fun hr' h a => by omega) (fun c hr' _ a => by omega)
/-! ===== the chart: how long a step takes ===== -/
theorem ap_lt5 (a b : Nat) (ha : a < 8) (hb : b < 8) : ap a b < 5 := by have := ap_le a b ha hb; omega
theorem bsA_lt (c h : Nat) : bsA c h ≤ 36 := by
  unfold bsA
  split <;> omega
theorem pcA_lt (k a v : Nat) (hv : v < 100) : pcA k a v < 1000 := by
  unfold pcA jbA rnA
  (repeat' split) <;> omega
theorem mf_lt {A : Nat → Nat} {c hr x f : Nat} (hf : f < 40) (hk : A (449 + x) < 5) (ht : A (452 + x) < 2) : nI f ≤ mfA A c hr x ↔ ¬ (A (452 + x) = 1 ∨ hd_ (A (449 + x)) < f ∨ sayV A 1 (A (449 + x)) c hr < nI f) := by
  have b5 : hd_ (A (449 + x)) < 40 := by
    have : ∀ k, k < 5 → hd_ k < 40 := by decide
    exact this _ hk
  unfold mfA
  by_cases h1 : A (452 + x) = 1
  · rw [if_pos h1]
    refine ⟨fun q => absurd q ?_, fun q => absurd (Or.inl h1) q⟩
    rw [Int32.le_iff_toInt_le, nI_toInt (by omega), show (-1 : Int32).toInt = -1 from by decide +kernel]
    omega
  · rw [if_neg h1]
    have kk : (nI f ≤ nI (hd_ (A (449 + x))) ↔ f ≤ hd_ (A (449 + x))) := nI_leI (by omega) (by omega)
    by_cases h2 : sayV A 1 (A (449 + x)) c hr < nI (hd_ (A (449 + x)))
    · rw [if_pos h2]
      refine ⟨fun q r => ?_, fun q => Int32.not_lt.mp (fun r => q (Or.inr (Or.inr r)))⟩
      rcases r with r | r | r
      · exact h1 r
      · have := kk.mp (Int32.le_trans q (Int32.le_of_lt h2)); omega
      · exact Int32.not_lt.mpr q r
    · rw [if_neg h2]
      refine ⟨fun q r => ?_, fun q => kk.mpr (Nat.le_of_not_lt (fun r => q (Or.inr (Or.inl r))))⟩
      rcases r with r | r | r
      · exact h1 r
      · have := kk.mp q; omega
      · exact Int32.not_lt.mpr (Int32.le_trans q (Int32.not_lt.mp h2)) r
/-- what a step asks of the chart: its two cells alone -/
theorem c_22l {m : Nat} {A : Nat → Nat} (w tab c h x hr : Nat) (hw : w < 7) (hc : c < 36) (hh : h < 8) (hx : x < A 2040) (hhr : hr < 12) {μ : wm_M} {Q : Int32 → wm_M → Prop} (hC : CL m A μ) (hK1 : bsA c h < 36 → μ.1 63 ((bsA c h * 12 + hr) * 3 + x) = bI (clA A (bsA c h) hr x = true)) (k4 : μ.1 64 ((c * 12 + hr) * 3 + x) = if A (452 + x) = 1 then -1 else if sayV A 1 (A (449 + x)) c hr < nI (hd_ (A (449 + x))) then sayV A 1 (A (449 + x)) c hr else nI (hd_ (A (449 + x)))) (hD : drwn A w tab μ) (hBS : BS μ) (hq : Q (nI (stA A w tab c h x hr)) μ) : wm_OkI 0 22 [.ref 62, .int (nI c), .int (nI h), .int (nI x), .int (nI hr)] μ Q := by
  have bs := hC.1.sails
  have hx3 : x < 3 := by omega
  have bk := hC.1.kind hx3
  have bt := hC.1.torn hx3
  have hfi := fiA_lt hC.1 (w := w) (h := hr) c hw hhr
  have hfr := frA_lt hC.1 (w := w) (h := hr) hw hhr
  have hap := ap_lt5 h (frA A w hr) hh hfr
  have hsp := spA_lt hC.1 hC.2.1 tab (show 5 * ap h (frA A w hr) + fiA A w hr c / 8 < 25 by omega)
  have hpc := pcA_lt (A (449 + x)) (ap h (frA A w hr)) _ hsp
  have q0 : ∀ v : Nat, stA A w tab c h x hr = v → Q (nI v) μ := fun v e => e ▸ hq
  have eb := hBS c h hc hh
  have hb36 := bsA_lt c h
  refine v_22 _ _ _ _ _ _ ?_
  rw [show nI c * (8 : Int32) + nI h = nI (c * 8 + h) from ix2' 8 c h, nI_clamp (show c * 8 + h < 2 ^ 31 by omega), eb]
  refine ⟨vp_in_nI (by omega) (by decide), fun z => w_22_39 _ _ ⟨_, rfl, q0 0 ?_⟩, fun z => ?_⟩
  · have : bsA c h = 36 := Classical.byContradiction (fun q => by
      rw [if_neg q] at z
      exact nI_ne (by omega) z)
    unfold stA; rw [if_pos this]
  · have nb : ¬ bsA c h = 36 := fun q => z (by rw [if_pos q])
    rw [if_neg nb]
    have hto : bsA c h < 36 := by omega
    have k1 := hK1 hto
    rw [show ((nI (bsA c h) * (12 : Int32)) + nI hr) * (3 : Int32) + nI x = nI ((bsA c h * 12 + hr) * 3 + x) from by simp (disch := omega) only [nl, nI_add, pk_mul, pk_sub, pk_div, rm_n, nI_clamp, vi_, nI_leI, nI_ltI, nI_eq, nI_sb, nI_eqm, nI_meq, Nat.zero_add, Nat.add_zero], nI_clamp (show (bsA c h * 12 + hr) * 3 + x < 2 ^ 31 by omega), k1]
    refine ⟨vp_in_nI (by omega) (by decide), fun y => w_22_41 _ _ _ _ _ _ ?_, fun y => w_22_39 _ _ ⟨_, rfl, q0 0 ?_⟩⟩
    · have y : ¬ clA A (bsA c h) hr x = true := bI_0.mp y
      have ml := mf_lt (c := c) (hr := hr) hfi bk bt
      rw [show nI c * (12 : Int32) + nI hr = nI (c * 12 + hr) from ix2 c hr, nI_clamp (show c * 12 + hr < 2 ^ 31 by omega), hD.2.1 c hr hc hhr, show nI (c * 12 + hr) * (3 : Int32) + nI x = nI ((c * 12 + hr) * 3 + x) from ix2' 3 _ _, nI_clamp (show (c * 12 + hr) * 3 + x < 2 ^ 31 by omega), k4]
      refine ⟨vp_in_nI (by omega) (by decide), vp_in_nI (by omega) (by decide), fun u => w_22_78 _ _ _ _ _ _ ?_, fun u => ⟨_, rfl, q0 0 ?_⟩⟩
      · have u := ml.mp u
        have st : stA A w tab c h x hr = if pcA (A (449 + x)) (ap h (frA A w hr)) (spA A tab (5 * ap h (frA A w hr) + fiA A w hr c / 8)) = 0 then 0 else (10 * (if h % 2 = 0 then 10 else 14) + pcA (A (449 + x)) (ap h (frA A w hr)) (spA A tab (5 * ap h (frA A w hr) + fiA A w hr c / 8)) - 1) / pcA (A (449 + x)) (ap h (frA A w hr)) (spA A tab (5 * ap h (frA A w hr) + fiA A w hr c / 8)) := by
          unfold stA
          rw [if_neg nb, if_neg (fun q => q.elim (fun q => u (Or.inl q)) y), if_neg (fun q => u (Or.inr q))]
        have g67 := hD.2.2 x (ap h (frA A w hr)) (fiA A w hr c / 8) hx hap (by omega)
        rw [show nI hr * (8 : Int32) + nI h = nI (hr * 8 + h) from ix2' 8 hr h, nI_clamp (show hr * 8 + h < 2 ^ 31 by omega), hD.1 hr h hhr hh, show nI (fiA A w hr c) / (8 : Int32) = nI (fiA A w hr c / 8) from pk_div (d := 8) (by omega) (by decide) (by decide), show ((nI x * (5 : Int32)) + nI (ap h (frA A w hr))) * (5 : Int32) + nI (fiA A w hr c / 8) = nI ((x * 5 + ap h (frA A w hr)) * 5 + fiA A w hr c / 8) from by simp (disch := omega) only [nl, nI_add, pk_mul, pk_sub, pk_div, rm_n, nI_clamp, vi_, nI_leI, nI_ltI, nI_eq, nI_sb, nI_eqm, nI_meq, Nat.zero_add, Nat.add_zero], nI_clamp (show (x * 5 + ap h (frA A w hr)) * 5 + fiA A w hr c / 8 < 2 ^ 31 by omega), g67]
        generalize pcA (A (449 + x)) (ap h (frA A w hr)) (spA A tab (5 * ap h (frA A w hr) + fiA A w hr c / 8)) = pace at st hpc
        refine ⟨vp_in_nI (by omega) (by decide), by decide, vp_in_nI (by omega) (by decide), fun v => w_22_120 _ _ _ _ ⟨n2, ?_⟩, fun v => ⟨_, rfl, q0 0 ?_⟩⟩
        · have v := (nI_ltI (a := 0) (by decide) (by omega)).mp v
          rw [if_neg (by omega)] at st
          rw [show nI h - nI h / (2 : Int32) * (2 : Int32) = nI (h % 2) from pk_rem (d := 2) (by omega) (by decide) (by decide)]
          refine ⟨fun p => ⟨nI_ne0 v (by omega), _, rfl, ?_⟩, fun p => w_22_131 _ _ _ ⟨nI_ne0 v (by omega), _, rfl, ?_⟩⟩
          · have p := (nI_eq (b := 0) (by omega) (by decide)).mp p
            rw [if_pos p] at st
            have e : (((10 : Int32) * (10 : Int32)) + nI pace - (1 : Int32)) / nI pace = nI ((10 * 10 + pace - 1) / pace) := by
              rw [show ((10 : Int32) * (10 : Int32)) + nI pace = nI (100 + pace) from nI_add 100 pace, show nI (100 + pace) - (1 : Int32) = nI (100 + pace - 1) from pk_sub (b := 1) (by omega), pk_div (by omega) v (by omega)]
            rw [e]; exact q0 _ st
          · have p : ¬ h % 2 = 0 := fun r => p (by rw [r]; rfl)
            rw [if_neg p] at st
            have e : (((10 : Int32) * (14 : Int32)) + nI pace - (1 : Int32)) / nI pace = nI ((10 * 14 + pace - 1) / pace) := by
              rw [show ((10 : Int32) * (14 : Int32)) + nI pace = nI (140 + pace) from nI_add 140 pace, show nI (140 + pace) - (1 : Int32) = nI (140 + pace - 1) from pk_sub (b := 1) (by omega), pk_div (by omega) v (by omega)]
            rw [e]; exact q0 _ st
        · have v : ¬ 0 < pace := fun r => v ((nI_ltI (a := 0) (by decide) (by omega)).mpr r)
          rw [if_pos (by omega)] at st; exact st
      · have u : ¬ ¬ (A (452 + x) = 1 ∨ hd_ (A (449 + x)) < fiA A w hr c ∨ sayV A 1 (A (449 + x)) c hr < nI (fiA A w hr c)) := fun q => u (ml.mpr q)
        have u := Classical.not_not.mp u
        unfold stA
        rw [if_neg nb]
        by_cases p : A (452 + x) = 1 ∨ clA A (bsA c h) hr x = true
        · rw [if_pos p]
        · rw [if_neg p, if_pos (u.resolve_left (fun r => p (Or.inl r)))]
    · have y := nz y
      unfold stA
      rw [if_neg nb, if_pos (Or.inr y)]
theorem c_22 {m : Nat} {A : Nat → Nat} (w tab c h x hr : Nat) (hw : w < 7) (hc : c < 36) (hh : h < 8) (hx : x < A 2040) (hhr : hr < 12) {μ : wm_M} {Q : Int32 → wm_M → Prop} (hC : CL m A μ) (hK : askd A μ) (hD : drwn A w tab μ) (hBS : BS μ) (hq : Q (nI (stA A w tab c h x hr)) μ) : wm_OkI 0 22 [.ref 62, .int (nI c), .int (nI h), .int (nI x), .int (nI hr)] μ Q :=
  c_22l w tab c h x hr hw hc hh hx hhr hC (fun b => (hK (bsA c h) hr x b hhr hx).1) (hK c hr x hc hhr hx).2 hD hBS hq
