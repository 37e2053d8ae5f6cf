/-! ===== the reference: sailed; lost ===== -/
def Fl (μ ν : wm_M) : Prop := (∀ d, d ≠ 89 → d ≠ 95 → d ≠ 96 → d ≠ 97 → ν.1 d = μ.1 d) ∧ ∀ i, (i < 5 ∨ 45 < i) → ν.1 89 i = μ.1 89 i
theorem Fl.rf (μ : wm_M) : Fl μ μ := ⟨fun _ _ _ _ _ => rfl, fun _ _ => rfl⟩
theorem Fl.tr {μ ν κ : wm_M} (h : Fl μ ν) (g : Fl ν κ) : Fl μ κ := ⟨fun d a b c e => (g.1 d a b c e).trans (h.1 d a b c e), fun i a => (g.2 i a).trans (h.2 i a)⟩
theorem Fl.sm {μ ν : wm_M} (h : Fl μ ν) : Sm kS μ ν := fun c i q => by
  unfold kS at q
  simp only [Bool.and_eq_true, Bool.not_eq_true', Bool.and_eq_false_iff, Nat.ble_eq, Bool.eq_false_iff, ne_eq, Nat.beq_eq] at q
  by_cases e : c = 89
  · subst e
    exact h.2 i (by omega)
  · exact congrFun (h.1 c e (by omega) (by omega) (by omega)) i
theorem rev_take {P : List Nat} {k : Nat} (h : k < P.length) : (P.take (k + 1)).reverse = P.getD k 0 :: (P.take k).reverse := by
  rw [List.take_succ, List.getElem?_eq_getElem h, List.getD_eq_getElem?_getD, List.getElem?_eq_getElem h]
  simp
/-- the way sailed along a plan -/
theorem m_299w {m : Nat} {A : Nat → Nat} (ch : Nat) (P : List Nat) (hch : ch < 300) (hP : P.length ≤ 120) (hx : ∀ k, k ∈ P → k / 10 < 8 ∧ k % 10 < A 2040) {μ : wm_M} {Q : Int32 → wm_M → Prop} (hB : BA m A) (hX : VX A) (hM : RM 91 A μ) (hL : LR A (hq (A 2052)) 1296 μ) (h27 : μ.1 89 27 = nI P.length) (h97 : ∀ j, j < P.length → μ.1 97 j = nI (P.getD j 0)) (hk : Q (nI (sgo A ch P.reverse (A 2051 / 24) (A 2051 / 3 % 8) (A 2051 % 3) (A 2052))) μ) : wm_Wp 0 299 86 [.ref 89, .null, .null, .int (nI ch), .null, .null, .null, .null, .null, .null, .null, .null, .null] μ (fun w κ => ∃ x, w = some (.int x) ∧ Q x κ) := by
  have b1 := hB.pst
  have b2 := hB.ptick
  have b3 := hB.sails
  have n3 : ¬ (3 : Int32) = 0 := by decide
  have n8 : ¬ (8 : Int32) = 0 := by decide
  have n24 : ¬ (24 : Int32) = 0 := by decide
  have lp : ∀ r c h x t, r ≤ P.length → c < 36 → h < 8 → x < 3 → t ≤ 120 → A 2052 ≤ t → sgo A ch (P.take r).reverse c h x t = sgo A ch P.reverse (A 2051 / 24) (A 2051 / 3 % 8) (A 2051 % 3) (A 2052) → wm_Wp 0 299 110 [.ref 89, .null, .null, .int (nI ch), .null, .int (nI t), .int (nI (st_ c h x)), .int (nI r + (-1 : Int32)), .null, .null, .null, .null, .null] μ (fun w κ => ∃ x, w = some (.int x) ∧ Q x κ) := by
    intro r
    induction r with
    | zero =>
      intro c h x t hr hc hh hx3 ht htp e
      refine w_299_110 _ _ _ _ _ _ ⟨fun _ => w_299_294 _ _ _ ⟨_, rfl, ?_⟩, fun q => absurd (by decide) q⟩
      rw [← e] at hk
      exact hk
    | succ k ih =>
      intro c h x t hr hc hh hx3 ht htp e
      have kl : k < P.length := by omega
      have e97 := h97 k kl
      have hmem : P.getD k 0 ∈ P := by
        rw [List.getD_eq_getElem?_getD, List.getElem?_eq_getElem kl]
        exact List.getElem_mem kl
      obtain ⟨k1, k2⟩ := hx _ hmem
      rw [rev_take kl] at e
      generalize P.getD k 0 = y at *
      have yb : y < 100 := by omega
      have sl : st_ c h x < 864 := by unfold st_; omega
      obtain ⟨d1, d2, d3⟩ := sdec c h x hh hx3
      have ed : nI y / (10 : Int32) = nI (y / 10) := dv10 (by omega)
      have er : nI y - nI (y / 10) * (10 : Int32) = nI (y % 10) := by rw [← ed]; exact pk_rem (d := 10) (by omega) (by decide) (by decide)
      have s24 : nI (st_ c h x) / (24 : Int32) = nI c := by rw [show nI (st_ c h x) / (24 : Int32) = nI (st_ c h x / 24) from pk_div (d := 24) (by omega) (by decide) (by decide), d3]
      have s3r : nI (st_ c h x) - nI (st_ c h x) / (3 : Int32) * (3 : Int32) = nI x := by rw [show nI (st_ c h x) - nI (st_ c h x) / (3 : Int32) * (3 : Int32) = nI (st_ c h x % 3) from pk_rem (d := 3) (by omega) (by decide) (by decide), d1]
      have s3 : nI (st_ c h x) / (3 : Int32) = nI (st_ c h x / 3) := pk_div (d := 3) (by omega) (by decide) (by decide)
      have s8 : nI (st_ c h x / 3) - nI (st_ c h x / 3) / (8 : Int32) * (8 : Int32) = nI h := by rw [show nI (st_ c h x / 3) - nI (st_ c h x / 3) / (8 : Int32) * (8 : Int32) = nI (st_ c h x / 3 % 8) from pk_rem (d := 8) (by omega) (by decide) (by decide), d2]
      have al := ap_le (y / 10) h k1 hh
      -- waiting for the step
      have wait : ∀ j t1, t1 + j = 800 → A 2052 ≤ t1 → sgo A ch (y :: (P.take k).reverse) c h x t = (if 120 < nE (fun hr => stA A 6 1 c (y / 10) (y % 10) hr) t1 then 999 else sgo A ch (P.take k).reverse (bsA c (y / 10)) (y / 10) (y % 10) (nE (fun hr => stA A 6 1 c (y / 10) (y % 10) hr) t1)) → wm_Wp 0 299 196 [.ref 89, .null, .null, .int (nI ch), .null, .int (nI t1), .null, .int (nI k), .int (nI (y / 10)), .int (nI (y % 10)), .int (nI c), .int (nI (st_ c (y / 10) (y % 10))), .int 0] μ (fun w κ => ∃ x, w = some (.int x) ∧ Q x κ) := by
        intro j
        induction j with
        | zero =>
          intro t1 hj ht1 e'
          refine w_299_196 _ _ _ _ _ _ _ _ _ _ ⟨fun _ => ⟨fun _ => w_299_242 _ _ _ _ _ _ _ _ _ ⟨fun _ => w_299_257 _ _ ⟨_, rfl, ?_⟩, fun q => absurd rfl q⟩, fun q => absurd (nI_le (a := 120) (b := t1) (by omega) (by omega)) q⟩, fun q => absurd rfl q⟩
          rw [if_pos (nE_ge (by omega) (by omega))] at e'
          rw [← e, e'] at hk
          exact hk
        | succ j ihj =>
          intro t1 hj ht1 e'
          refine w_299_196 _ _ _ _ _ _ _ _ _ _ ⟨fun _ => ⟨fun z => w_299_242 _ _ _ _ _ _ _ _ _ ⟨fun _ => w_299_257 _ _ ⟨_, rfl, ?_⟩, fun q => absurd rfl q⟩, fun z => s_192 t1 (by omega) ?_⟩, fun q => absurd rfl q⟩
          · have z := (nI_leI (a := 120) (by decide) (by omega)).mp z
            rw [if_pos (nE_ge z (by omega))] at e'
            rw [← e, e'] at hk
            exact hk
          · have z : t1 < 120 := Nat.lt_of_not_le (fun r => z ((nI_leI (a := 120) (by decide) (by omega)).mpr r))
            have hl := hq_lt t1
            have hm := hq_mono ht1
            have sb := stA_le A 6 1 c (y / 10) (y % 10) (hq t1)
            refine m_249 6 1 c (y / 10) (y % 10) (hq t1) (by decide) (by decide) hc k1 (by omega) hl hB hX hM (fun q => (hL (hq t1) c (y % 10) hm hl hc q (by omega)).2) (fun q b => (hL (hq t1) _ (y % 10) hm hl b q (by omega)).1) (fun _ => ⟨fun v => ?_, fun v => ?_⟩) (fun q => absurd k2 q)
            · have v' := (nI_eq (b := 0) (by omega) (by decide)).mp v
              rw [nI_1, v]
              exact ihj (t1 + 1) (by omega) (by omega) (by rw [← nE_0 (f := fun hr => stA A 6 1 c (y / 10) (y % 10) hr) z v']; exact e')
            · have v' : 0 < stA A 6 1 c (y / 10) (y % 10) (hq t1) := Nat.pos_of_ne_zero (fun r => v (by rw [r]; rfl))
              have ne := nE_s (f := fun hr => stA A 6 1 c (y / 10) (y % 10) hr) v'
              have ne : nE (fun hr => stA A 6 1 c (y / 10) (y % 10) hr) t1 = t1 + stA A 6 1 c (y / 10) (y % 10) (hq t1) := by
                rw [ne, show max t1 (10 * hq t1) = t1 by
                  have : hq t1 = t1 / 10 := by unfold hq; exact if_pos z
                  omega]
              rw [show nI t1 + (0 : Int32) = nI (t1 + 0) from nI_add t1 0, Nat.add_zero]
              refine w_299_196 _ _ _ _ _ _ _ _ _ _ ⟨fun q => absurd q v, fun _ => w_299_242 _ _ _ _ _ _ _ _ _ ⟨fun q => absurd q v, fun _ => ?_⟩⟩
              rw [nI_add, ← ne]
              have nl' := nE_le (f := fun hr => stA A 6 1 c (y / 10) (y % 10) hr) (t := t1) (fun hr => stA_le _ _ _ _ _ _ _) (by omega)
              by_cases q : 120 < nE (fun hr => stA A 6 1 c (y / 10) (y % 10) hr) t1
              · rw [if_pos q] at e'
                refine ⟨fun w => absurd ((nI_leI (b := 120) (by omega) (by decide)).mp w) (by omega), fun _ => w_299_257 _ _ ⟨_, rfl, ?_⟩⟩
                rw [← e, e'] at hk
                exact hk
              · rw [if_neg q] at e'
                have b36 := nE_bs q
                refine ⟨fun _ => w_299_261 _ _ _ _ _ _ _ _ _ (m_247 c (y / 10) hc k1 ?_), fun w => absurd (nI_le (b := 120) (by omega) (by decide)) w⟩
                rw [show bsI c (y / 10) = nI (bsA c (y / 10)) by unfold bsI; exact if_neg (by omega), nI_add, ← ne, show ((3 : Int32) * (((8 : Int32) * nI (bsA c (y / 10))) + nI (y / 10))) + nI (y % 10) = nI (st_ (bsA c (y / 10)) (y / 10) (y % 10)) by unfold st_; simp (disch := omega) only [nl, nI_add, pk_mul, pk_sub, pk_div, rm_n, nI_clamp, vi_, nI_leI, nI_ltI, nI_eq, nI_sb, nI_eqm, nI_meq, Nat.zero_add, Nat.add_zero]]
                exact ih _ _ _ _ (by omega) b36 k1 (by omega) (by omega) (by omega) (e'.symm.trans e)
      refine w_299_110 _ _ _ _ _ _ ?_
      rw [show nI (k + 1) + (-1 : Int32) = nI k from (nI_sb (a := k + 1) (b := 1) (by omega)).trans (by rw [Nat.add_sub_cancel]), nI_clamp (show k < 2 ^ 31 by omega), e97, ed, er, s24, s3r, s3, s8]
      have vk : vp_in (nI k) 121 := vp_in_nI (by omega) (by decide)
      refine ⟨fun q => absurd q (nI_pos (by omega)), fun _ => ⟨vk, n10, vk, n10, n24, n3, n8, s_248 (y / 10) h k1 hh ⟨n3, ?_⟩⟩⟩
      rw [show ((3 : Int32) * (((8 : Int32) * nI c) + nI (y / 10))) + nI (y % 10) = nI (st_ c (y / 10) (y % 10)) by unfold st_; simp (disch := omega) only [nl, nI_add, pk_mul, pk_sub, pk_div, rm_n, nI_clamp, vi_, nI_leI, nI_ltI, nI_eq, nI_sb, nI_eqm, nI_meq, Nat.zero_add, Nat.add_zero]]
      have ft : ∀ t1, t1 = t + (ap (y / 10) h + (if y % 10 = x then 0 else ch)) → wm_Wp 0 299 196 [.ref 89, .null, .null, .int (nI ch), .null, .int (nI t1), .null, .int (nI k), .int (nI (y / 10)), .int (nI (y % 10)), .int (nI c), .int (nI (st_ c (y / 10) (y % 10))), .int 0] μ (fun w κ => ∃ x, w = some (.int x) ∧ Q x κ) := fun t1 h1 => by
        have tl : t1 < 800 := by rw [h1]; split <;> omega
        refine wait (800 - t1) t1 (by omega) (by omega) ?_
        have : t1 = t + ap (y / 10) h + (if y % 10 = x then 0 else ch) := by omega
        rw [this]; rfl
      refine ⟨fun q => ?_, fun q => ?_⟩
      · have q := (nI_eq (by omega) (by omega)).mp q
        rw [show (0 : Int32) = nI 0 from rfl, nI_add, nI_add]
        exact ft _ (by rw [if_pos q])
      · have q : ¬ y % 10 = x := fun r => q (by rw [r])
        rw [nI_add, nI_add]
        exact ft _ (by rw [if_neg q])
  have e12 : μ.1 91 (2040 + 12) = nI (A 2052) := hM 2052 (by decide)
  have e11 : μ.1 91 (2040 + 11) = nI (A 2051) := hM 2051 (by decide)
  refine w_299_86 _ _ _ (s_188 12 (by decide) (s_188 11 (by decide) ?_))
  rw [e12, e11, h27]
  have := lp P.length (A 2051 / 24) (A 2051 / 3 % 8) (A 2051 % 3) (A 2052) (Nat.le_refl _) (by omega) (by omega) (by omega) (by omega) (Nat.le_refl _) (by rw [List.take_length])
  rw [st_un] at this
  rw [Int32.sub_eq_add_neg]
  exact this
/-- laid, worked, planned, sailed -/
theorem m_299b {m : Nat} {A : Nat → Nat} (W T C : Nat) (hW : W < 7) (hT : T < 2) (hC0 : 0 < C) (hC : C < 300) {μ : wm_M} {Q : Int32 → wm_M → Prop} (hB : BA m A) (hX : VX A) (hp : A 2046 = 1) (hM : RM 91 A μ) (hL : LR A (hq (A 2052)) 1296 μ) (hk : ∀ ν, Fl μ ν → Q (nI (slA A W T C)) ν) : wm_OkI 0 188 [.ref 89, .int (12 : Int32)] μ (fun r2 μ1 => wm_OkV 0 250 [.ref 89, .int (nI W), .int (nI T), .int r2] μ1 (fun μ3 => wm_OkI 0 188 [.ref 89, .int (11 : Int32)] μ3 (fun r5 μ4 => wm_OkI 0 188 [.ref 89, .int (12 : Int32)] μ4 (fun r7 μ6 => wm_OkV 0 252 [.ref 89, .int (nI C), .int r5, .int r7] μ6 (fun μ8 => wm_OkI 0 188 [.ref 89, .int (5 : Int32)] μ8 (fun r10 μ9 => wm_OkI 0 256 [.ref 89, .int (nI C), .int r10] μ9 (fun r12 μ11 => ((r12 = (0 : Int32) → (∃ x, some (Value.int (999 : Int32)) = some (.int x) ∧ Q x μ11)) ∧ (¬ r12 = (0 : Int32) → wm_Wp 0 299 86 [.ref 89, .null, .null, .int (nI C), .null, .null, .null, .null, .null, .null, .null, .null, .null] μ11 (fun v κ => ∃ x, v = some (.int x) ∧ Q x κ)))))))))) := by
  have b1 := hB.pst
  have b2 := hB.ptick
  have bm := hB.mark
  have hx := (hX.2.2 hp).2
  have e12 : ∀ {ν : wm_M}, RM 91 A ν → ν.1 91 (2040 + 12) = nI (A 2052) := fun h => h 2052 (by decide)
  have e11 : ∀ {ν : wm_M}, RM 91 A ν → ν.1 91 (2040 + 11) = nI (A 2051) := fun h => h 2051 (by decide)
  have e5 : ∀ {ν : wm_M}, RM 91 A ν → ν.1 91 (2040 + 5) = nI (A 2045) := fun h => h 2045 (by decide)
  refine s_188 12 (by decide) ?_
  rw [e12 hM]
  refine m_250 W T (A 2052) hW hT (by omega) hB hX hM hL (fun κ hS hG => s_188 11 (by decide) (s_188 12 (by decide) ?_))
  have hMκ : RM 91 A κ := hM.fr (hG 91 (by decide))
  rw [e11 hMκ, e12 hMκ]
  refine m_252 W T C (A 2051) (A 2052) b1 (by omega) hC0 (by omega) hx hB (hq (A 2052)) (Nat.le_refl _) hMκ hS (fun η ℓ k1 k2 k3 k4 k5 => s_188 5 (by decide) ?_)
  have hMη : RM 91 A η := hMκ.fr (k5 91 (by decide) (by decide))
  have hFη : Fl μ η := ⟨fun d a b c e => by rw [k5 d c a, hG d b], fun i hi => by rw [k4 i (by omega), hG 89 (by decide)]⟩
  rw [e5 hMη]
  have sd : slA A W T C = (match plO A W T C with | none => 999 | some L => sgo A C L (A 2051 / 24) (A 2051 / 3 % 8) (A 2051 % 3) (A 2052)) := rfl
  refine m_256 W T C (A 2051) (A 2052) (A 2045) (hq (A 2052)) b1 (by omega) hC0 (by omega) hx bm (Nat.le_refl _) hB hMη (fun hr s a b d e => by rw [k5 95 (by decide) (by decide)]; exact hS hr s a b d e) (LabM_LF k1 k2 (by omega)) k3 (fun ρ f g => ⟨fun _ => ⟨_, rfl, ?_⟩, fun q => absurd rfl q⟩) (fun ρ s' T' f g1 g2 g3 g4 => ⟨fun q => absurd q (by decide), fun _ => ?_⟩)
  · have hFρ : Fl μ ρ := hFη.tr ⟨fun d a b c e => f.1 d e a, fun i hi => f.2 i (by omega)⟩
    have := hk ρ hFρ
    rw [sd, show plO A W T C = none by unfold plO; rw [g]; rfl] at this
    exact this
  · have hFρ : Fl μ ρ := hFη.tr ⟨fun d a b c e => f.1 d e a, fun i hi => f.2 i (by omega)⟩
    have hO : plO A W T C = some (plA A W T C (A 2051) (A 2052) s').reverse := by
      unfold plO
      rw [g1]; rfl
    have hP := plO_x hC0 hB hX hp hO
    have := hk ρ hFρ
    rw [sd, hO] at this
    exact m_299w C _ hC g2 (fun k q => hP k (List.mem_reverse.mpr q)) hB hX (hM.fr (hFρ.1 91 (by decide) (by decide) (by decide) (by decide))) (fun hr c k a b d e f' => by rw [hFρ.1 93 (by decide) (by decide) (by decide) (by decide), hFρ.1 94 (by decide) (by decide) (by decide) (by decide)]; exact hL hr c k a b d e f') g3 g4 this
theorem m_299 {m : Nat} {A : Nat → Nat} (w s : Nat) (hw : w < 6) (hs : s < 8) (hm : m < 10000) {μ : wm_M} {Q : Int32 → wm_M → Prop} (hB : BA m A) (hX : VX A) (hV : RV A) (hp : A 2046 = 1) (hM : RM 91 A μ) (hL : LR A (hq (A 2052)) 1296 μ) (hk : ∀ ν, Fl μ ν → Q (nI (sdA A w s)) ν) : wm_OkI 0 299 [.ref 89, .int (nI w), .int (nI s)] μ Q := by
  have ch := chA_le hB
  have b1 := bit1 s hs
  have b2 := bit2 s hs
  have b4 := bit4 s hs
  have t1 : s / 2 % 2 = 0 → tS_ s = 0 := id
  have t2 : ¬ s / 2 % 2 = 0 → tS_ s = 1 := fun q => by unfold tS_; omega
  have w1 : s % 2 = 0 → wS_ w s = w := fun q => by unfold wS_; exact if_pos q
  have w2 : ¬ s % 2 = 0 → wS_ w s = 6 := fun q => by unfold wS_; exact if_neg q
  have body : ∀ ν, Fl μ ν → ∀ W T C, W = wS_ w s → T = tS_ s → C = cS_ (chA A) s → wm_OkI 0 188 [.ref 89, .int (12 : Int32)] ν (fun r2 μ1 => wm_OkV 0 250 [.ref 89, .int (nI W), .int (nI T), .int r2] μ1 (fun μ3 => wm_OkI 0 188 [.ref 89, .int (11 : Int32)] μ3 (fun r5 μ4 => wm_OkI 0 188 [.ref 89, .int (12 : Int32)] μ4 (fun r7 μ6 => wm_OkV 0 252 [.ref 89, .int (nI C), .int r5, .int r7] μ6 (fun μ8 => wm_OkI 0 188 [.ref 89, .int (5 : Int32)] μ8 (fun r10 μ9 => wm_OkI 0 256 [.ref 89, .int (nI C), .int r10] μ9 (fun r12 μ11 => ((r12 = (0 : Int32) → (∃ x, some (Value.int (999 : Int32)) = some (.int x) ∧ Q x μ11)) ∧ (¬ r12 = (0 : Int32) → wm_Wp 0 299 86 [.ref 89, .null, .null, .int (nI C), .null, .null, .null, .null, .null, .null, .null, .null, .null] μ11 (fun v κ => ∃ x, v = some (.int x) ∧ Q x κ)))))))))) := fun ν f W T C eW eT eC => by
    subst eW; subst eT; subst eC
    refine m_299b _ _ _ (by unfold wS_; split <;> omega) (by unfold tS_; omega) (by unfold cS_; split <;> omega) (by unfold cS_; split <;> omega) hB hX hp (hM.fr (f.1 91 (by decide) (by decide) (by decide) (by decide))) (fun hr c k a b d e f' => by rw [f.1 93 (by decide) (by decide) (by decide) (by decide), f.1 94 (by decide) (by decide) (by decide) (by decide)]; exact hL hr c k a b d e f') (fun κ g => hk κ (f.tr g))
  have at26 : ∀ ν, Fl μ ν → ∀ C, C = cS_ (chA A) s → s % 2 = 0 → wm_Wp 0 299 26 [.ref 89, .int (nI w), .int (nI s), .int (nI C), .null, .null, .null, .null, .null, .null, .null, .null, .null] ν (fun v κ => ∃ x, v = some (.int x) ∧ Q x κ) := fun ν f C eC q => w_299_26 _ _ _ _ _ ⟨fun z => body ν f w 0 C (w1 q).symm (t1 (b2.mp z)).symm eC, fun z => body ν f w 1 C (w1 q).symm (t2 (fun r => z (b2.mpr r))).symm eC⟩
  refine v_299 _ _ _ _ ⟨fun a => w_299_10 _ _ _ _ (m_222 hB hX hV hM hm (fun ν hF => ?_)), fun a => ?_⟩
  · have f : Fl μ ν := ⟨fun d a b c e => funext (fun i => hF d i (by
      unfold kW
      simp only [Bool.and_eq_true, Bool.not_eq_true', Bool.and_eq_false_iff, Nat.ble_eq, Bool.eq_false_iff, ne_eq, Nat.beq_eq]
      omega)), fun i hi => hF 89 i (by
      unfold kW
      simp only [Bool.and_eq_true, Bool.not_eq_true', Bool.and_eq_false_iff, Nat.ble_eq, Bool.eq_false_iff, ne_eq, Nat.beq_eq]
      omega)⟩
    have eC : chA A = cS_ (chA A) s := by unfold cS_; exact (if_pos (b4.mp a)).symm
    exact ⟨fun q => at26 ν f _ eC (b1.mp q), fun q => ⟨fun z => body ν f 6 0 _ (w2 (fun r => q (b1.mpr r))).symm (t1 (b2.mp z)).symm eC, fun z => body ν f 6 1 _ (w2 (fun r => q (b1.mpr r))).symm (t2 (fun r => z (b2.mpr r))).symm eC⟩⟩
  · have eC : 2 = cS_ (chA A) s := by unfold cS_; exact (if_neg (fun r => a (b4.mpr r))).symm
    exact ⟨fun q => at26 μ (Fl.rf μ) _ eC (b1.mp q), fun q => ⟨fun z => body μ (Fl.rf μ) 6 0 _ (w2 (fun r => q (b1.mpr r))).symm (t1 (b2.mp z)).symm eC, fun z => body μ (Fl.rf μ) 6 1 _ (w2 (fun r => q (b1.mpr r))).symm (t2 (fun r => z (b2.mpr r))).symm eC⟩⟩
