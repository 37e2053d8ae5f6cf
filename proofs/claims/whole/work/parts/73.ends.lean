/-! ===== class: the soonest end of a step ===== -/
def IsEnd (f : Nat → Nat) (t e : Nat) : Prop := e ≤ 999 ∧ (∀ b, t ≤ b → b < 120 → 0 < f (hq b) → e ≤ 999 → b + f (hq b) ≤ 999 → e ≤ b + f (hq b)) ∧ (e ≤ 120 → ∃ b, t ≤ b ∧ b < 120 ∧ 0 < f (hq b) ∧ e = b + f (hq b))
theorem hq_beg {t hr : Nat} (ht : t ≤ 120) (h0 : hq t ≤ hr) (hh : hr < 12) : hq (max t (10 * hr)) = hr := by
  unfold hq at h0 ⊢
  split at h0 <;> split <;> omega
theorem hq_ge {t b hr : Nat} (hb : b < 120) (tb : t ≤ b) (h : hr ≤ hq b) : max t (10 * hr) ≤ b := by
  unfold hq at h
  rw [if_pos hb] at h
  omega
theorem hq_mono {t b : Nat} (h : t ≤ b) : hq t ≤ hq b := by
  unfold hq
  split <;> split <;> omega
theorem c_24 {m : Nat} {A : Nat → Nat} (w tab c h x t : Nat) (hw : w < 7) (hc : c < 36) (hh : h < 8) (hx : x < A 2040) (ht : t ≤ 120) {μ : wm_M} {Q : Int32 → wm_M → Prop} (hC : CL m A μ) (hK : askd A μ) (hD : drwn A w tab μ) (hBS : BS μ) (hk : ∀ e, IsEnd (fun hr => stA A w tab c h x hr) t e → Q (nI e) μ) : wm_OkI 0 24 [.ref 62, .int (nI c), .int (nI h), .int (nI x), .int (nI t)] μ Q := by
  have lp : ∀ j hr e, hr + j = 12 → hq t ≤ hr → e ≤ 999 → (∀ b, t ≤ b → b < 120 → hq b < hr → 0 < stA A w tab c h x (hq b) → e ≤ b + stA A w tab c h x (hq b)) → (e ≤ 120 → ∃ b, t ≤ b ∧ b < 120 ∧ 0 < stA A w tab c h x (hq b) ∧ e = b + stA A w tab c h x (hq b)) → wm_Wp 0 24 12 [.ref 62, .int (nI c), .int (nI h), .int (nI x), .int (nI t), .int (nI e), .int (nI hr), .null, .null] μ (fun w κ => ∃ x, w = some (.int x) ∧ Q x κ) := by
    intro j
    induction j with
    | zero =>
      intro hr e hj h0 he i1 i2
      have : hr = 12 := by omega
      subst this
      exact w_24_12 _ _ _ _ _ _ _ _ ⟨fun _ => w_24_75 _ _ _ ⟨_, rfl, hk e ⟨he, fun b a1 a2 a3 _ _ => i1 b a1 a2 (hq_lt b) a3, i2⟩⟩, fun q => absurd (nI_le (Nat.le_refl 12) (by decide)) q⟩
    | succ j ih =>
      intro hr e hj h0 he i1 i2
      have hr12 : hr < 12 := by omega
      have bg : (if nI t < nI hr * (10 : Int32) then nI hr * (10 : Int32) else nI t) = nI (max t (10 * hr)) := by
        rw [show nI hr * (10 : Int32) = nI (hr * 10) from pk_mul hr 10]
        by_cases q : t < hr * 10
        · rw [if_pos ((nI_ltI (by omega) (by omega)).mpr q), show max t (10 * hr) = hr * 10 by omega]
        · rw [if_neg (fun r => q ((nI_ltI (by omega) (by omega)).mp r)), show max t (10 * hr) = t by omega]
      have hb := hq_beg ht h0 hr12
      have bl : max t (10 * hr) ≤ 120 := by omega
      have tl : t ≤ max t (10 * hr) := by omega
      have ge : ∀ b, t ≤ b → b < 120 → hr ≤ hq b → max t (10 * hr) ≤ b := fun b a1 a2 a3 => hq_ge a2 a1 a3
      refine w_24_12 _ _ _ _ _ _ _ _ ⟨fun q => absurd q (nI_ge (a := hr) (b := 12) (by omega) (by decide)), fun _ => ?_⟩
      rw [bg]
      generalize max t (10 * hr) = B at hb bl tl ge ⊢
      have sl := stA_le A w tab c h x hr
      refine ⟨fun q => w_24_41 _ _ _ _ _ _ _ _ _ (c_22 w tab c h x hr hw hc hh hx hr12 hC hK hD hBS ?_), fun q => w_24_75 _ _ _ ⟨_, rfl, hk e ⟨he, fun b a1 a2 a3 _ _ => ?_, i2⟩⟩⟩
      · have q := (nI_ltI (by omega) (by omega)).mp q
        refine ⟨fun z => w_24_69 _ _ _ _ _ _ _ _ ?_, fun z => w_24_69 _ _ _ _ _ _ _ _ ?_⟩
        · have z := (nI_leI (b := 0) (by omega) (by decide)).mp z
          rw [nI_1]
          refine ih (hr + 1) e (by omega) (by omega) he (fun b a1 a2 a3 a4 => ?_) i2
          by_cases y : hq b = hr
          · rw [y] at a4; omega
          · exact i1 b a1 a2 (by omega) a4
        · have z : 0 < stA A w tab c h x hr := Nat.lt_of_not_le (fun r => z ((nI_leI (b := 0) (by omega) (by decide)).mpr r))
          rw [nI_1, nI_add]
          have key : ∀ e', e' ≤ e → e' ≤ B + stA A w tab c h x hr → (e' = e ∨ e' = B + stA A w tab c h x hr) → wm_Wp 0 24 12 [.ref 62, .int (nI c), .int (nI h), .int (nI x), .int (nI t), .int (nI e'), .int (nI (hr + 1)), .null, .null] μ (fun w κ => ∃ x, w = some (.int x) ∧ Q x κ) := fun e' k1 k2 k3 => by
            refine ih (hr + 1) e' (by omega) (by omega) (by omega) (fun b a1 a2 a3 a4 => ?_) (fun l => ?_)
            · by_cases y : hq b = hr
              · have := ge b a1 a2 (by omega)
                rw [y]; omega
              · exact Nat.le_trans k1 (i1 b a1 a2 (by omega) a4)
            · rcases k3 with k | k
              · rw [k] at l ⊢; exact i2 l
              · exact ⟨B, tl, by omega, by rw [hb]; exact z, by rw [hb]; exact k⟩
          by_cases y : B + stA A w tab c h x hr < e
          · rw [if_pos ((nI_ltI (by omega) (by omega)).mpr y)]
            exact key _ (by omega) (Nat.le_refl _) (Or.inr rfl)
          · rw [if_neg (fun r => y ((nI_ltI (by omega) (by omega)).mp r))]
            exact key _ (Nat.le_refl _) (by omega) (Or.inl rfl)
      · have q : e ≤ B := Nat.le_of_not_lt (fun r => q ((nI_ltI (by omega) (by omega)).mpr r))
        by_cases y : hq b < hr
        · exact i1 b a1 a2 y a3
        · have := ge b a1 a2 (by omega)
          omega
  exact v_24 _ _ _ _ _ _ (s_180 t (by omega) (lp (12 - hq t) (hq t) 999 (by have := hq_lt t; omega) (Nat.le_refl _) (Nat.le_refl _) (fun b a1 a2 a3 => absurd (hq_mono a1) (by omega)) (fun q => by omega)))
