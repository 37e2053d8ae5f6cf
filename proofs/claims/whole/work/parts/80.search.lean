/-! ===== class: find ===== -/
def CI (A : Nat → Nat) (w tab ch s0 t0 : Nat) (ℓ : Nat → Nat) (T : Nat) (D : List Nat) : Prop :=
  (ℓ s0 = t0 ∧ t0 ≤ T) ∧
  (∀ s, s < 864 → ℓ s ≠ 999 → s ≠ s0 → ∃ p, p < 864 ∧ ℓ p < ℓ s ∧ ℓ p ≤ T ∧ arcP (stF A w tab) (whA A) ch p (ℓ p) s (ℓ s)) ∧
  (∀ p s t, p < 864 → s < 864 → (ℓ p < T ∨ ℓ p = T ∧ p ∈ D) → arcP (stF A w tab) (whA A) ch p (ℓ p) s t → t ≤ 120 → ℓ s ≤ t) ∧
  (∀ s, s < 864 → ℓ s ≠ 999 → s % 3 < A 2040)
theorem CI.sp {A ℓ : Nat → Nat} {w tab ch s0 t0 T p e : Nat} {D : List Nat} (h : CI A w tab ch s0 t0 ℓ T D) (b3 : A 2040 ≤ 3) (hp : p < 864) (hT : T ≤ 120) (hc0 : 0 < ch) (hl : ℓ p = T) (he : IsEnd (fun hr => stF A w tab p hr) T e) : CI A w tab ch s0 t0 (spL A ch ℓ T p e) T (D ++ [p]) ∧ ∀ s, T < ℓ s → T < spL A ch ℓ T p e s := by
  obtain ⟨⟨h1, h1'⟩, h2, h3, h5⟩ := h
  have hx := h5 p hp (by omega)
  obtain ⟨r, g⟩ := sp_rx (ℓ := ℓ) (w := w) (tab := tab) (ch := ch) b3 hp hT hc0 hx he
  generalize spL A ch ℓ T p e = ℓ' at r g ⊢
  have lo : ∀ s, ℓ' s ≤ ℓ s := fun s => (r s).1
  have kp : ∀ s, ℓ' s ≤ T → ℓ' s = ℓ s := fun s q => (r s).2.elim id (fun c => by have := c.2.2.1; omega)
  have kq : ∀ s, ℓ s ≤ T → ℓ' s = ℓ s := fun s q => kp s (Nat.le_trans (lo s) q)
  refine ⟨⟨⟨by rw [kq s0 (by omega)]; exact h1, h1'⟩, fun s hs q e => ?_, fun p' s t hp' hs q a ht => ?_, fun s hs q => ?_⟩, fun s q => Nat.lt_of_not_le (fun z => by have := kp s z; omega)⟩
  · rcases (r s).2 with c | c
    · rw [c] at q ⊢
      obtain ⟨p', k2, k3, k4, k5⟩ := h2 s hs q e
      exact ⟨p', k2, by rw [kq p' k4]; exact k3, by rw [kq p' k4]; exact k4, by rw [kq p' k4]; exact k5⟩
    · obtain ⟨c1, c2, c3, c4, c5⟩ := c
      exact ⟨p, hp, by rw [kq p (by omega)]; omega, by rw [kq p (by omega)]; omega, by rw [kq p (by omega), hl]; exact c5⟩
  · have e := kp p' (by omega)
    rw [e] at q a
    by_cases c : ℓ p' < T ∨ ℓ p' = T ∧ p' ∈ D
    · exact Nat.le_trans (lo s) (h3 p' s t hp' hs c a ht)
    · rcases q with q | ⟨q1, q2⟩
      · exact absurd (Or.inl q) c
      · rcases List.mem_append.mp q2 with q3 | q3
        · exact absurd (Or.inr ⟨q1, q3⟩) c
        · have c1 := List.mem_singleton.mp q3
          subst c1
          rw [hl] at a
          exact g s t hs a ht
  · rcases (r s).2 with c | c
    · rw [c] at q; exact h5 s hs q
    · exact c.2.2.2.1
theorem CI.tick {A ℓ : Nat → Nat} {w tab ch s0 t0 T : Nat} {D : List Nat} (h : CI A w tab ch s0 t0 ℓ T D) (hD : ∀ p, p < 864 → ℓ p = T → p ∈ D) : CI A w tab ch s0 t0 ℓ (T + 1) [] := by
  obtain ⟨⟨h1, h1'⟩, h2, h3, h5⟩ := h
  refine ⟨⟨h1, by omega⟩, fun s hs q e => ?_, fun p s t hp hs q a ht => h3 p s t hp hs ?_ a ht, h5⟩
  · obtain ⟨p, a, b, c, d⟩ := h2 s hs q e
    exact ⟨p, a, b, by omega, d⟩
  · rcases q with q | ⟨_, q⟩
    · by_cases c : ℓ p = T
      · exact Or.inr ⟨c, hD p hp c⟩
      · exact Or.inl (by omega)
    · cases q
theorem CI.low {A ℓ : Nat → Nat} {w tab ch s0 t0 T K : Nat} (h : CI A w tab ch s0 t0 ℓ T []) (h1 : K ≤ T + 1) (h2 : K ≤ 121) : LowLab (stF A w tab) (whA A) ch s0 t0 ℓ K := by
  obtain ⟨⟨g1, g1'⟩, g2, g3, g5⟩ := h
  refine ⟨g1, fun s hs q e => ?_, fun p s t hp hs a b c => g3 p s t hp hs (Or.inl (by omega)) c (by omega)⟩
  obtain ⟨p, a, b, c, d⟩ := g2 s hs (by omega) e
  exact ⟨p, a, b, d⟩
theorem CI.ini {A : Nat → Nat} {w tab ch s0 t0 : Nat} (ht : t0 ≤ 120) (hx : s0 % 3 < A 2040) : CI A w tab ch s0 t0 (uN (fun _ => 999) s0 t0) t0 [] := by
  have ne : ∀ s, s ≠ s0 → uN (fun _ => 999) s0 t0 s = 999 := fun s e => uN_ne _ _ e
  have eq : uN (fun _ => 999) s0 t0 s0 = t0 := uN_eq _ _ _
  generalize uN (fun _ => 999) s0 t0 = ℓ at ne eq ⊢
  refine ⟨⟨eq, Nat.le_refl _⟩, fun s hs q e => absurd (ne s e) q, fun p s t hp hs q a h => ?_, fun s hs q => ?_⟩
  · rcases q with q | ⟨_, q⟩
    · by_cases e : p = s0
      · subst e; omega
      · have := ne p e; omega
    · cases q
  · by_cases e : s = s0
    · subst e; exact hx
    · exact absurd (ne s e) q
/-- two labellings agree up to a tick -/
def AgT (ℓ f : Nat → Nat) (T : Nat) : Prop := ∀ s, s < 864 → ℓ s = f s ∨ (T < ℓ s ∧ T < f s)
theorem labF_999 {f : Nat → Nat → Nat} {wh : Nat → Bool} {ch s0 t0 s : Nat} (h : 121 ≤ labF f wh ch s0 t0 s) : labF f wh ch s0 t0 s = 999 := by
  by_cases q : ∃ t, AtN f wh ch s0 t0 121 t s
  · obtain ⟨t, q⟩ := q
    have := (at_lt 121 t s q).1
    rw [labF_at q] at h
    omega
  · unfold labF
    rw [dif_neg q]
theorem wy_some {A : Nat → Nat} {w tab ch s0 t0 c i T : Nat} (hi : i < 24) (hT : T ≤ 120) (h1 : labF (stF A w tab) (whA A) ch s0 t0 (24 * c + i) = T) (h2 : ∀ j, j < i → T < labF (stF A w tab) (whA A) ch s0 t0 (24 * c + j)) (h3 : ∀ j, j < 24 → T ≤ labF (stF A w tab) (whA A) ch s0 t0 (24 * c + j)) : wyA A w tab ch s0 t0 c = some (24 * c + i, T) := by
  unfold wyA soA
  have e := eo_first (ℓ := labF (stF A w tab) (whA A) ch s0 t0) (c := c) (t := T) (i := i) (by omega) h1 h2 (24 - (i + 1)) (fun j hj => h3 j (by omega))
  rw [show i + 1 + (24 - (i + 1)) = 24 by omega] at e
  rw [e, Option.map_some, h1]
theorem wy_none {A : Nat → Nat} {w tab ch s0 t0 c : Nat} (h3 : ∀ j, j < 24 → labF (stF A w tab) (whA A) ch s0 t0 (24 * c + j) = 999) : wyA A w tab ch s0 t0 c = none := by
  unfold wyA soA
  rw [eo_none 24 h3]
  rfl
theorem c_107 {m : Nat} {A : Nat → Nat} (w tab ch s0 t0 c : Nat) (hw : w < 7) (hs0 : s0 < 864) (ht0 : t0 ≤ 120) (hc0 : 0 < ch) (hch : ch < 10000) (hx : s0 % 3 < A 2040) (hc : c < 36) {μ : wm_M} {Q : Int32 → wm_M → Prop} (hC : Chd m A w tab μ) (h0 : ∀ ν, F7 μ ν → wyA A w tab ch s0 t0 c = none → Q (-1) ν) (h1 : ∀ ν ℓ s T, F7 μ ν → LabC ℓ ν → ν.1 69 7 = nI ch → wyA A w tab ch s0 t0 c = some (s, T) → s < 864 → s / 24 = c → T ≤ 120 → ℓ s = T → AgT ℓ (labF (stF A w tab) (whA A) ch s0 t0) T → Q (nI s) ν) : wm_OkI 0 107 [.ref 69, .int (nI s0), .int (nI t0), .int (nI ch), .int (nI c)] μ Q := by
  have b3 := hC.1.1.sails
  have F7s : ∀ {ν : wm_M}, (∀ d, d < 70 ∨ 73 < d → ν.1 d = (wm_si μ 69 7 (nI ch)).1 d) → F7 μ ν := fun h d q => by rw [h d (by omega), si_ne _ _ _ (by omega)]
  have lp : ∀ j T ν ℓ G, T + j = 121 → t0 ≤ T → LabC ℓ ν → Lw ℓ → LX (fun _ => True) ℓ G ν → CI A w tab ch s0 t0 ℓ T [] → (∀ i, i < 24 → T ≤ ℓ (24 * c + i)) → (∀ d, d < 70 ∨ 73 < d → ν.1 d = (wm_si μ 69 7 (nI ch)).1 d) → wm_Wp 0 107 32 [.ref 69, .null, .null, .null, .int (nI c), .int (nI T), .null, .null, .null] ν (fun w ν => ∃ x, w = some (.int x) ∧ Q x ν) := by
    intro j
    induction j with
    | zero =>
      intro T ν ℓ G hj hT hL hW hX hI hM hF
      have : T = 121 := by omega
      subst this
      refine w_107_32 _ _ _ _ ⟨fun _ => w_107_113 _ _ ⟨_, rfl, h0 ν (F7s hF) (wy_none (fun i hi => labF_999 ?_))⟩, fun q => absurd ((nI_ltI (a := 120) (b := 121) (by decide) (by decide)).mpr (by decide)) q⟩
      exact low_ge (hI.low (K := 121) (by omega) (Nat.le_refl _)) (Nat.le_refl _) (hM i hi)
    | succ j ih =>
      intro T ν ℓ G hj hT hL hW hX hI hM hF
      have hT1 : T ≤ 120 := by omega
      have lowT := hI.low (K := T + 1) (Nat.le_refl _) (by omega)
      refine w_107_32 _ _ _ _ ⟨fun q => absurd ((nI_ltI (a := 120) (b := T) (by decide) (by omega)).mp q) (by omega), fun _ => c_108 c T hc (by omega) hL (fun i hi hb he => ⟨fun q => absurd q (nI_n1 (by omega)), fun _ => ⟨_, rfl, ?_⟩⟩) (fun hno => ⟨fun _ => ?_, fun q => absurd rfl q⟩)⟩
      · have la : ∀ s, s < 864 → ℓ s ≤ T → labF (stF A w tab) (whA A) ch s0 t0 s = ℓ s := fun s hs q => low_eq lowT (by omega) hs (by omega)
        have lb : ∀ s, T < ℓ s → T < labF (stF A w tab) (whA A) ch s0 t0 s := fun s q => low_ge lowT (by omega) q
        refine h1 ν ℓ (24 * c + i) T (F7s hF) hL ?_ (wy_some hi hT1 ?_ (fun k hk => ?_) (fun k hk => ?_)) (by omega) (by omega) hT1 he (fun s hs => ?_)
        · rw [hF 69 (by decide), si_same]
        · rw [la _ (by omega) (by omega), he]
        · have := hM k (by omega)
          have := hb k hk
          exact lb _ (by omega)
        · have := hM k hk
          by_cases z : ℓ (24 * c + k) = T
          · rw [la _ (by omega) (by omega)]; omega
          · exact Nat.le_of_lt (lb _ (by omega))
        · by_cases z : ℓ s ≤ T
          · exact Or.inl (la s hs z).symm
          · exact Or.inr ⟨by omega, lb s (by omega)⟩
      · have hM1 : ∀ i, i < 24 → T < ℓ (24 * c + i) := fun i hi => by
          have := hM i hi
          have := hno i hi
          omega
        have inner : ∀ (R D : List Nat) ν ℓ, G T = D ++ R → LQ G T ℓ ν → CI A w tab ch s0 t0 ℓ T D → (∀ i, i < 24 → T < ℓ (24 * c + i)) → (∀ d, d < 70 ∨ 73 < d → ν.1 d = (wm_si μ 69 7 (nI ch)).1 d) → wm_Wp 0 107 70 [.ref 69, .null, .null, .null, .int (nI c), .int (nI T), .null, .int (hdL R), .int (nI D.length)] ν (fun w ν => ∃ x, w = some (.int x) ∧ Q x ν) := by
          intro R
          induction R with
          | nil =>
            intro D ν ℓ hG hQ hI hM hF
            obtain ⟨q1, q2, G', q3, q4⟩ := hQ
            have nx : wm_Wp 0 107 107 [.ref 69, .null, .null, .null, .int (nI c), .int (nI T), .null, .null, .null] ν (fun w ν => ∃ x, w = some (.int x) ∧ Q x ν) := by
              refine w_107_107 _ _ _ _ ?_
              rw [nI_1]
              refine ih (T + 1) ν ℓ G' (by omega) (by omega) q1 q2 q3 (hI.tick (fun p hp e => ?_)) (fun i hi => hM i hi) hF
              have := ((q3 T hT1).2.2 p).mpr ⟨hp, e, trivial⟩
              rw [q4 T (Nat.le_refl _), hG, List.append_nil] at this
              exact this
            exact w_107_70 _ _ _ _ _ _ ⟨fun _ => nx, fun _ => ⟨fun _ => nx, fun q => absurd rfl q⟩⟩
          | cons p R ihR =>
            intro D ν ℓ hG hQ hI hM hF
            have hQ' := hQ
            obtain ⟨q1, q2, G', q3, q4⟩ := hQ
            obtain ⟨d1, d2, d3⟩ := q3 T hT1
            rw [q4 T (Nat.le_refl _), hG] at d1 d2 d3
            have hp := (d3 p).mp (List.mem_append.mpr (Or.inr List.mem_cons_self))
            have len := nodup_len 864 _ d2 (fun a ha => ((d3 a).mp ha).1)
            rw [List.length_append, List.length_cons] at len
            have hCν := hC.f7 (F7s hF)
            refine w_107_70 _ _ _ _ _ _ ⟨fun q => absurd q (nI_ge (a := D.length) (b := 864) (by omega) (by decide)), fun _ => ⟨fun q => absurd q (nI_n1 hp.1), fun _ => ?_⟩⟩
            refine c_109 w tab ch T p hw hp.1 hT1 hc0 hch (hI.2.2.2 p hp.1 (by omega)) hCν (by rw [hF 69 (by decide), si_same]) hQ' (fun κ e he k1 k2 => ⟨vp_in_nI hp.1 (by decide), ?_⟩)
            obtain ⟨i1, i2⟩ := hI.sp (by omega) hp.1 hT1 hc0 hp.2.1 he
            have k1' := k1
            obtain ⟨r1, r2, G2, r3, r4⟩ := k1
            obtain ⟨f1, f2, f3⟩ := r3 T hT1
            rw [r4 T (Nat.le_refl _), hG] at f1
            rw [show hdL (p :: R) = nI p from rfl, nI_clamp (show p < 2 ^ 31 by omega), Dl_nx D f1, nI_1, show D.length + 1 = (D ++ [p]).length by simp]
            refine ihR (D ++ [p]) κ _ (by rw [hG]; simp) k1' i1 (fun i hi => i2 _ (hM i hi)) (fun d q => (k2 d q).trans (hF d q))
        have hd := Dl_hd (hX T hT1).1
        refine w_107_58 _ _ _ _ ⟨vp_in_nI (by omega) (by decide), ?_⟩
        rw [nI_clamp (show T < 2 ^ 31 by omega), hd]
        exact inner (G T) [] ν ℓ rfl ⟨hL, hW, G, hX, fun _ _ => rfl⟩ hI hM1 hF
  refine v_107 _ _ _ _ _ _ (s_343_70 _ (s_343_73 _ ?_))
  generalize e2 : wm_sr (wm_sr (wm_si μ 69 7 (nI ch)) 70 (fl ((wm_si μ 69 7 (nI ch)).1 70) 864 999)) 73 (fl ((wm_sr (wm_si μ 69 7 (nI ch)) 70 (fl ((wm_si μ 69 7 (nI ch)).1 70) 864 999)).1 73) 121 (-1)) = μ2
  have f70 : ∀ s, s < 864 → μ2.1 70 s = nI 999 := fun s hs => by
    rw [← e2, sr_ne _ _ (by decide), sr_eq]
    unfold fl
    rw [if_pos hs]; rfl
  have f73 : ∀ t, t ≤ 120 → μ2.1 73 t = -1 := fun t ht => by
    rw [← e2, sr_eq]
    unfold fl
    rw [if_pos (by omega)]
  have fd : ∀ d, d < 70 ∨ 73 < d → μ2.1 d = (wm_si μ 69 7 (nI ch)).1 d := fun d q => by
    rw [← e2, sr_ne _ _ (by omega), sr_ne _ _ (by omega)]
  have e9 : btL (fun _ => 999) s0 t0 = uN (fun _ => 999) s0 t0 := by unfold btL; exact if_pos ⟨ht0, show t0 < 999 by omega⟩
  refine c_110 (ℓ := fun _ => 999) (F := fun _ => []) s0 t0 hs0 (by omega) (fun s hs => ⟨Nat.le_refl _, f70 s hs⟩) (fun s hs q => absurd rfl q) (fun t ht => ⟨f73 t ht, List.nodup_nil, fun s => ⟨fun q => absurd q List.not_mem_nil, fun q => absurd q.2.1 (show ¬ 999 = t by omega)⟩⟩) (fun ν G k1 k2 _ k4 => ?_)
  rw [e9] at k1 k2
  refine lp (121 - t0) t0 ν _ G (by omega) (Nat.le_refl _) k1 (by rw [← e9]; exact Lw_bt (fun s hs q => absurd rfl q)) k2 (CI.ini ht0 hx) (fun i hi => ?_) (fun d q => (k4 d q).trans (fd d q))
  by_cases e : 24 * c + i = s0
  · rw [e, uN_eq]; exact Nat.le_refl _
  · rw [uN_ne _ _ e]; omega
