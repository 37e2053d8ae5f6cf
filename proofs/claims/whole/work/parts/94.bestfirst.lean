/-! ===== the reference: trees ===== -/
def Ft (μ ν : wm_M) : Prop := (∀ d, d ≠ 89 → d ≠ 104 → d ≠ 105 → d ≠ 106 → ν.1 d = μ.1 d) ∧ ∀ i, i ≠ 38 → ν.1 89 i = μ.1 89 i
theorem Ft.rf (μ : wm_M) : Ft μ μ := ⟨fun _ _ _ _ _ => rfl, fun _ _ => rfl⟩
theorem Ft.tr {μ ν κ : wm_M} (h : Ft μ ν) (g : Ft ν κ) : Ft μ κ := ⟨fun d a b c e => (g.1 d a b c e).trans (h.1 d a b c e), fun i a => (g.2 i a).trans (h.2 i a)⟩
theorem Ft.si {μ ν : wm_M} (h : Ft μ ν) {c k : Nat} {x : Int32} (hc : 104 ≤ c ∧ c ≤ 106) : Ft μ (wm_si ν c k x) := ⟨fun d a b e f => by rw [si_ne _ _ _ (by omega)]; exact h.1 d a b e f, fun i a => by rw [si_ne _ _ _ (by omega)]; exact h.2 i a⟩
theorem Ft.s38 {μ ν : wm_M} (h : Ft μ ν) {x : Int32} : Ft μ (wm_si ν 89 38 x) := ⟨fun d a b e f => by rw [si_ne _ _ _ a]; exact h.1 d a b e f, fun i a => by rw [si_other _ _ a]; exact h.2 i a⟩
theorem Ft.sm {μ ν : wm_M} (h : Ft μ ν) : Sm kS μ ν := fun c i q => by
  by_cases e : c = 89
  · subst e
    refine h.2 i (fun r => ?_)
    subst r
    exact absurd q (by decide)
  · unfold kS at q
    simp only [Bool.and_eq_true, Bool.not_eq_true', Bool.and_eq_false_iff, Nat.ble_eq, Bool.eq_false_iff, ne_eq, Nat.beq_eq] at q
    exact congrFun (h.1 c e (by omega) (by omega) (by omega)) i
def Tre (A : Nat → Nat) (aim one : Nat) (ν : wm_M) : Prop := ν.1 89 38 = nI (bcA A aim one) ∧ (∀ g, g < 3 → ν.1 106 g = sqI A aim one (bcA A aim one) g) ∧ ∀ w, w < 6 → ν.1 104 w = nI (wtA A w)
theorem m_276 {m : Nat} {A : Nat → Nat} (aim one : Nat) (ha : aim < 3) (ho : one < 2) {μ : wm_M} {Q : Int64 → wm_M → Prop} (hB : BA m A) (hX : VX A) (hp : A 2046 = 1) (hM : RM 91 A μ) (hW : wrkM A μ) (h37 : μ.1 89 37 = nI one) (hk : ∀ ν, Tre A aim one ν → Ft μ ν → Q (lN (alA A aim one (bcA A aim one))) ν) : wm_OkJ 0 276 [.ref 89, .int (nI aim)] μ Q := by
  have fM : ∀ {ν : wm_M}, Ft μ ν → RM 91 A ν ∧ wrkM A ν ∧ ν.1 89 37 = nI one := fun h => ⟨hM.fr (h.1 91 (by decide) (by decide) (by decide) (by decide)), fun w hw t => by
    rw [h.1 98 (by decide) (by decide) (by decide) (by decide), h.1 99 (by decide) (by decide) (by decide) (by decide)]; exact hW w hw t, by rw [h.2 37 (by decide)]; exact h37⟩
  have all : ∀ c, c < 3 → alA A aim one c ≤ 449550 := fun c hc => al_le hB hX hp hc
  have cl : ∀ j c ν y, c + j = 3 → (∀ w, w < 6 → ν.1 104 w = nI (wtA A w)) → (ν.1 89 38 = if c = 0 then -1 else nI (bq (fun c => alA A aim one c) c)) → (c ≠ 0 → y = lN (alA A aim one (bq (fun c => alA A aim one c) c)) ∧ ∀ g, g < 3 → ν.1 106 g = sqI A aim one (bq (fun c => alA A aim one c) c) g) → Ft μ ν → wm_Wp 0 276 35 [.ref 89, .int (nI aim), .long y, .null, .int (nI c), .null, .null, .null, .null, .null, .null] ν (fun v ν => ∃ x, v = some (.long x) ∧ Q x ν) := by
    intro j
    induction j with
    | zero =>
      intro c ν y hj h104 h38 h106 hF
      have : c = 3 := by omega
      subst this
      obtain ⟨y1, y2⟩ := h106 (by decide)
      subst y1
      exact w_276_35 _ _ _ _ _ ⟨fun _ => w_276_212 _ _ _ ⟨_, rfl, hk ν ⟨h38, y2, h104⟩ hF⟩, fun q => absurd (nI_le (Nat.le_refl 3) (by decide)) q⟩
    | succ j ih =>
      intro c ν y hj h104 h38 h106 hF
      have hc3 : c < 3 := by omega
      -- behind the groups
      have after : ∀ κ, (∀ g, g < 3 → κ.1 105 g = sqI A aim one c g) → (∀ d, d ≠ 105 → κ.1 d = ν.1 d) → wm_Wp 0 276 139 [.ref 89, .int (nI aim), .long y, .null, .int (nI c), .null, .null, .null, .null, .null, .null] κ (fun v ν => ∃ x, v = some (.long x) ∧ Q x ν) := fun κ k1 k2 => by
        have hFκ : Ft μ κ := hF.tr ⟨fun d _ _ a _ => k2 d a, fun i _ => by rw [k2 89 (by decide)]⟩
        obtain ⟨m1, m2, m3⟩ := fM hFκ
        have vl : ∀ w, vlA A aim c (sq A aim one c (gpA A one w)) w ≤ 24975 := fun w => vl_le hB hX hp hc3 (sq_lt _ _ _ _ _)
        have take : bq (fun c => alA A aim one c) (c + 1) = c → wm_Wp 0 276 168 [.ref 89, .int (nI aim), .null, .null, .int (nI c), .long (lN (alA A aim one c)), .null, .null, .null, .null, .null] κ (fun v ν => ∃ x, v = some (.long x) ∧ Q x ν) := fun eb => by
          refine w_276_168 _ _ _ _ _ ?_
          have cp : ∀ j g ξ, g + j = 3 → (∀ g', g' < g → ξ.1 106 g' = sqI A aim one c g') → (∀ d, d ≠ 106 → ξ.1 d = (wm_si κ 89 38 (nI c)).1 d) → wm_Wp 0 276 180 [.ref 89, .int (nI aim), .long (lN (alA A aim one c)), .null, .int (nI c), .null, .null, .int (nI g), .null, .null, .null] ξ (fun v ν => ∃ x, v = some (.long x) ∧ Q x ν) := by
            intro j
            induction j with
            | zero =>
              intro g ξ hj x1 x2
              have : g = 3 := by omega
              subst this
              refine w_276_180 _ _ _ _ _ _ ⟨fun _ => w_276_206 _ _ _ _ _ ?_, fun q => absurd (nI_le (Nat.le_refl 3) (by decide)) q⟩
              rw [nI_1]
              refine ih (c + 1) ξ _ (by omega) (fun w hw => ?_) ?_ (fun _ => ⟨by rw [eb], by rw [eb]; exact x1⟩) ((hFκ.s38 (x := nI c)).tr ⟨fun d _ _ _ a => x2 d a, fun i _ => by rw [x2 89 (by decide)]⟩)
              · rw [x2 104 (by decide), si_ne _ _ _ (by decide), k2 104 (by decide)]; exact h104 w hw
              · rw [x2 89 (by decide), si_same, if_neg (by omega), eb]
            | succ j ihg =>
              intro g ξ hj x1 x2
              have hg3 : g < 3 := by omega
              have vg : vp_in (nI g) 3 := vp_in_nI hg3 (by decide)
              refine w_276_180 _ _ _ _ _ _ ⟨fun q => absurd q (nI_ge (a := g) (b := 3) (by omega) (by decide)), fun _ => ⟨vg, vg, ?_⟩⟩
              rw [nI_clamp (show g < 2 ^ 31 by omega), nI_1]
              refine ihg (g + 1) _ (by omega) (fun g' hg' => ?_) (fun d hd => by rw [si_ne _ _ _ hd]; exact x2 d hd)
              by_cases e : g' = g
              · subst e
                rw [si_same, x2 105 (by decide), si_ne _ _ _ (by decide)]
                exact k1 g' hg3
              · rw [si_other _ _ e]; exact x1 g' (by omega)
          exact cp 3 0 _ rfl (fun g' h => by omega) (fun _ _ => rfl)
        refine w_276_139 _ _ _ _ _ (m_274 aim c one (-1) 0 (fun _ => True) (fun w => sq A aim one c (gpA A one w)) ha hc3 ho (fun w _ _ => sq_lt _ _ _ _ _) hB hX hp m1 m2 m3 (fun w hw => by rw [k2 104 (by decide)]; exact h104 w hw) (Or.inl ⟨rfl, fun _ => trivial, fun w hw t => ?_⟩) (amT A aim (fun w => vlA A aim c (sq A aim one c (gpA A one w)) w)) rfl (fun w _ t _ => ?_) (fun w _ q => ?_) (fun w _ => amT_le vl w) (fun w hw q => ?_) ?_)
        · rw [k1 _ (gp_lt hB hw)]
          unfold sqI
          rw [if_pos (anG_in hw t rfl)]
        · conv => lhs; unfold amT
          rw [if_pos t]
        · conv => lhs; unfold amT
          rw [if_neg (fun r => q ⟨r, trivial⟩)]
        · have : ∀ n, n ≤ w → amT A aim (fun w => vlA A aim c (sq A aim one c (gpA A one w)) w) n = 0 := by
            intro n
            induction n with
            | zero => intro _; rfl
            | succ n ihn =>
              intro hn
              conv => lhs; unfold amT
              rw [if_neg (fun r => q n (by omega) ⟨r, trivial⟩)]
              exact ihn (by omega)
          exact this w (Nat.le_refl _)
        · have eA : amT A aim (fun w => vlA A aim c (sq A aim one c (gpA A one w)) w) 6 = alA A aim one c := amT_eq (v := fun g w => vlA A aim c (sq A aim one c g) w) hB 6 (Nat.le_refl _)
          rw [eA, k2 89 (by decide), h38]
          by_cases c0 : c = 0
          · rw [if_pos c0]
            refine ⟨fun _ => take ?_, fun z => absurd rfl z⟩
            unfold bq
            rw [if_pos (Or.inl c0)]
          · have bl := bq_lt (fun c => alA A aim one c) c (by omega)
            obtain ⟨y1, y2⟩ := h106 c0
            have a1 := all c hc3
            have a2 := all (bq (fun c => alA A aim one c) c) (by omega)
            rw [if_neg c0]
            refine ⟨fun z => absurd z (nI_n1 (by omega)), fun _ => ?_⟩
            rw [lg_cmp_lt, y1, lN_lt (by omega) (by omega)]
            refine ⟨fun z => take ?_, fun z => w_276_206 _ _ _ _ _ ?_⟩
            · conv => lhs; unfold bq
              rw [if_pos (Or.inr z)]
            · have eb : bq (fun c => alA A aim one c) (c + 1) = bq (fun c => alA A aim one c) c := by
                conv => lhs; unfold bq
                rw [if_neg (fun r => r.elim c0 z)]
              rw [nI_1]
              refine ih (c + 1) κ _ (by omega) (fun w hw => by rw [k2 104 (by decide)]; exact h104 w hw) ?_ (fun _ => ⟨by rw [eb], fun g hg => by rw [k2 106 (by decide), y2 g hg, eb]⟩) hFκ
              rw [k2 89 (by decide), h38, if_neg c0, if_neg (by omega), eb]
      -- the groups
      have gl : ∀ j g κ, g + j = 3 → (∀ g', g' < g → κ.1 105 g' = sqI A aim one c g') → (∀ d, d ≠ 105 → κ.1 d = ν.1 d) → wm_Wp 0 276 44 [.ref 89, .int (nI aim), .long y, .null, .int (nI c), .int (nI g), .null, .null, .null, .null, .null] κ (fun v ν => ∃ x, v = some (.long x) ∧ Q x ν) := by
        intro j
        induction j with
        | zero =>
          intro g κ hj k1 k2
          have : g = 3 := by omega
          subst this
          exact w_276_44 _ _ _ _ _ _ ⟨fun _ => after κ k1 k2, fun q => absurd (nI_le (Nat.le_refl 3) (by decide)) q⟩
        | succ j ihg =>
          intro g κ hj k1 k2
          have hg3 : g < 3 := by omega
          have vg : vp_in (nI g) 3 := vp_in_nI hg3 (by decide)
          have cg : (nI g).toNatClampNeg = g := nI_clamp (by omega)
          have svl : ∀ q, q < 3 → sv A aim one c g q ≤ 149850 := fun q hq => sv_le hB hX hp hc3 hq
          have next : ∀ ξ, ξ.1 105 g = sqI A aim one c g → (∀ i, i ≠ g → ξ.1 105 i = κ.1 105 i) → (∀ d, d ≠ 105 → ξ.1 d = ν.1 d) → wm_Wp 0 276 133 [.ref 89, .int (nI aim), .long y, .null, .int (nI c), .int (nI g), .null, .null, .null, .null, .null] ξ (fun v ν => ∃ x, v = some (.long x) ∧ Q x ν) := fun ξ a b d => by
            refine w_276_133 _ _ _ _ _ _ ?_
            rw [nI_1]
            refine ihg (g + 1) ξ (by omega) (fun g' h => ?_) d
            by_cases e : g' = g
            · subst e; exact a
            · rw [b g' e]; exact k1 g' (by omega)
          have ql : ∀ j q ξ z, q + j = 3 → ξ.1 105 g = (if q = 0 ∨ anG A one g 6 = false then -1 else nI (bq (fun q => sv A aim one c g q) q)) → (q ≠ 0 → anG A one g 6 = true → z = lN (sv A aim one c g (bq (fun q => sv A aim one c g q) q))) → (∀ i, i ≠ g → ξ.1 105 i = κ.1 105 i) → (∀ d, d ≠ 105 → ξ.1 d = ν.1 d) → wm_Wp 0 276 64 [.ref 89, .int (nI aim), .long y, .null, .int (nI c), .int (nI g), .long z, .null, .int (nI q), .null, .null] ξ (fun v ν => ∃ x, v = some (.long x) ∧ Q x ν) := by
            intro j
            induction j with
            | zero =>
              intro q ξ z hj x1 x2 x3 x4
              have : q = 3 := by omega
              subst this
              refine w_276_64 _ _ _ _ _ _ _ _ ⟨fun _ => next ξ ?_ x3 x4, fun q => absurd (nI_le (Nat.le_refl 3) (by decide)) q⟩
              rw [x1]
              unfold sqI
              cases hb : anG A one g 6 with
              | false => rw [if_pos (Or.inr rfl), if_neg (by decide)]
              | true =>
                rw [if_neg (by decide), if_pos rfl]
                rfl
            | succ j ihq =>
              intro q ξ z hj x1 x2 x3 x4
              have hq3 : q < 3 := by omega
              have hFξ : Ft μ ξ := hF.tr ⟨fun d _ _ a _ => x4 d a, fun i _ => by rw [x4 89 (by decide)]⟩
              obtain ⟨m1, m2, m3⟩ := fM hFξ
              refine w_276_64 _ _ _ _ _ _ _ _ ⟨fun w => absurd w (nI_ge (a := q) (b := 3) (by omega) (by decide)), fun _ => m_275 one g ho hg3 hB m1 m3 ⟨fun w => next ξ ?_ x3 x4, fun w => ?_⟩⟩
              · have hb : anG A one g 6 = false := Bool.eq_false_iff.mpr (fun r => bI_0.mp w r)
                rw [x1, if_pos (Or.inr hb)]
                unfold sqI
                rw [hb, if_neg (by decide)]
              · have hb : anG A one g 6 = true := nz w
                have vl : ∀ w, vlA A aim c q w ≤ 24975 := fun w => vl_le hB hX hp hc3 hq3
                refine m_274 aim c one (nI g) (nI q) (fun w => gpA A one w = g) (fun _ => q) ha hc3 ho (fun _ _ _ => hq3) hB hX hp m1 m2 m3 (fun w hw => by rw [x4 104 (by decide)]; exact h104 w hw) (Or.inr ⟨g, q, hg3, hq3, rfl, rfl, fun _ => Iff.rfl, fun _ => rfl⟩) (amG A aim one g (fun w => vlA A aim c q w)) rfl (fun w _ t e => ?_) (fun w _ r => ?_) (fun w _ => amG_le vl w) (fun w hw r => ?_) ?_
                · conv => lhs; unfold amG
                  rw [if_pos ⟨t, e⟩]
                · conv => lhs; unfold amG
                  rw [if_neg r]
                · have : ∀ n, n ≤ w → amG A aim one g (fun w => vlA A aim c q w) n = 0 := by
                    intro n
                    induction n with
                    | zero => intro _; rfl
                    | succ n ihn =>
                      intro hn
                      conv => lhs; unfold amG
                      rw [if_neg (r n (by omega))]
                      exact ihn (by omega)
                  exact this w (Nat.le_refl _)
                · have eS : amG A aim one g (fun w => vlA A aim c q w) 6 = sv A aim one c g q := rfl
                  rw [eS, cg, x1]
                  have sq' := svl q hq3
                  have no1 : ¬ (q + 1 = 0 ∨ anG A one g 6 = false) := fun r => r.elim (fun r => by omega) (fun r => by rw [hb] at r; cases r)
                  have nx : ∀ ρ z', ρ.1 105 g = nI (bq (fun q => sv A aim one c g q) (q + 1)) → z' = lN (sv A aim one c g (bq (fun q => sv A aim one c g q) (q + 1))) → (∀ i, i ≠ g → ρ.1 105 i = κ.1 105 i) → (∀ d, d ≠ 105 → ρ.1 d = ν.1 d) → wm_Wp 0 276 127 [.ref 89, .int (nI aim), .long y, .null, .int (nI c), .int (nI g), .long z', .null, .int (nI q), .null, .null] ρ (fun v ν => ∃ x, v = some (.long x) ∧ Q x ν) := fun ρ z' a b d e => by
                    refine w_276_127 _ _ _ _ _ _ _ _ ?_
                    rw [nI_1]
                    exact ihq (q + 1) ρ z' (by omega) (by rw [a, if_neg no1]) (fun _ _ => b) d e
                  have take : bq (fun q => sv A aim one c g q) (q + 1) = q → wm_Wp 0 276 114 [.ref 89, .int (nI aim), .long y, .null, .int (nI c), .int (nI g), .null, .null, .int (nI q), .long (lN (sv A aim one c g q)), .null] ξ (fun v ν => ∃ x, v = some (.long x) ∧ Q x ν) := fun eb => by
                    refine w_276_114 _ _ _ _ _ _ _ _ ⟨vg, ?_⟩
                    rw [cg]
                    exact nx _ _ (by rw [si_same, eb]) (by rw [eb]) (fun i hi => by rw [si_other _ _ hi]; exact x3 i hi) (fun d hd => by rw [si_ne _ _ _ hd]; exact x4 d hd)
                  refine ⟨vg, ?_⟩
                  by_cases q0 : q = 0
                  · rw [if_pos (Or.inl q0)]
                    refine ⟨fun _ => take ?_, fun w => absurd rfl w⟩
                    unfold bq
                    rw [if_pos (Or.inl q0)]
                  · have no : ¬ (q = 0 ∨ anG A one g 6 = false) := fun r => r.elim q0 (fun r => by rw [hb] at r; cases r)
                    have bl := bq_lt (fun q => sv A aim one c g q) q (by omega)
                    have bs := svl _ (show bq (fun q => sv A aim one c g q) q < 3 by omega)
                    rw [if_neg no] at x1 ⊢
                    refine ⟨fun w => absurd w (nI_n1 (by omega)), fun _ => ?_⟩
                    have hz := x2 q0 hb
                    rw [lg_cmp_lt, hz, lN_lt (by omega) (by omega)]
                    refine ⟨fun w => take ?_, fun w => ?_⟩
                    · conv => lhs; unfold bq
                      rw [if_pos (Or.inr w)]
                    · have eb : bq (fun q => sv A aim one c g q) (q + 1) = bq (fun q => sv A aim one c g q) q := by
                        conv => lhs; unfold bq
                        rw [if_neg (fun r => r.elim q0 w)]
                      exact nx ξ _ (by rw [x1, eb]) (by rw [eb]) x3 x4
          refine w_276_44 _ _ _ _ _ _ ⟨fun q => absurd q (nI_ge (a := g) (b := 3) (by omega) (by decide)), fun _ => ⟨vg, ?_⟩⟩
          rw [cg]
          exact ql 3 0 _ _ rfl (by rw [si_same, if_pos (Or.inl rfl)]) (fun q => absurd rfl q) (fun i hi => si_other _ _ hi) (fun d hd => by rw [si_ne _ _ _ hd]; exact k2 d hd)
      exact w_276_35 _ _ _ _ _ ⟨fun q => absurd q (nI_ge (a := c) (b := 3) (by omega) (by decide)), fun _ => gl 3 0 ν rfl (fun g' h => by omega) (fun _ _ => rfl)⟩
  have wl : ∀ j w ν, w + j = 6 → (∀ w', w' < w → ν.1 104 w' = nI (wtA A w')) → Ft μ ν → wm_Wp 0 276 2 [.ref 89, .int (nI aim), .int (nI w), .null, .null, .null, .null, .null, .null, .null, .null] ν (fun v ν => ∃ x, v = some (.long x) ∧ Q x ν) := by
    intro j
    induction j with
    | zero =>
      intro w ν hj h104 hF
      have : w = 6 := by omega
      subst this
      exact w_276_2 _ _ _ _ ⟨fun _ => w_276_25 _ _ _ (cl 3 0 _ _ rfl (fun w hw => by rw [si_ne _ _ _ (by decide)]; exact h104 w hw) (by rw [si_same, if_pos rfl]) (fun q => absurd rfl q) hF.s38), fun q => absurd (nI_le (Nat.le_refl 6) (by decide)) q⟩
    | succ j ih =>
      intro w ν hj h104 hF
      have hw6 : w < 6 := by omega
      refine w_276_2 _ _ _ _ ⟨fun q => absurd q (nI_ge (a := w) (b := 6) (by omega) (by decide)), fun _ => m_271 w hw6 hB (fM hF).1 ⟨vp_in_nI hw6 (by decide), ?_⟩⟩
      rw [nI_clamp (show w < 2 ^ 31 by omega), nI_1]
      refine ih (w + 1) _ (by omega) (fun w' hw' => ?_) (hF.si (by decide))
      by_cases e : w' = w
      · subst e; rw [si_same]
      · rw [si_other _ _ e]; exact h104 w' (by omega)
  exact v_276 _ _ _ (wl 6 0 μ rfl (fun w' h => by omega) (Ft.rf μ))
