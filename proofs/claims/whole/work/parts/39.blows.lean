/-! ===== winds by the state ===== -/
theorem ltd_congr {f g : Nat → Bool} : ∀ h, (∀ k, k ≤ h → f k = g k) → ltd f h = ltd g h
  | 0, e => by unfold ltd; rw [e 0 (Nat.le_refl 0)]
  | h + 1, e => by unfold ltd; rw [e (h + 1) (Nat.le_refl _), ltd_congr h (fun k hk => e k (by omega))]
theorem tc_td {A : Nat → Nat} {μ : wm_M} {m : Nat} (hC : CL m A μ) {w k : Nat} (hw : w < 7) (hk : k < 12) : tc_ μ w k = tdA A w k := by
  have e := hC.2.2.2.1.1 (w * 12 + k) (by omega)
  have hf := hC.1.force (show w * 12 + k < 84 by omega)
  have e : μ.1 6 (w * 12 + k) = _ := e
  unfold tc_ tdA
  rw [e, show 240 + 12 * w + k = 240 + (w * 12 + k) by omega]
  by_cases q : A (240 + (w * 12 + k)) = 0
  · rw [if_pos q, decide_eq_true q]; rfl
  · rw [if_neg q, decide_eq_false q, decide_eq_false (nI_ne (by omega))]
theorem tm_td {A : Nat → Nat} {μ : wm_M} {m : Nat} (hB : BA m A) (hM : RM 91 A μ) {w k : Nat} (hw : w < 7) (hk : k < 12) : tm_ μ w k = tdA A w k := by
  have ht := hB.told (show 12 * w + k < 84 by omega)
  unfold tm_ tdA
  rw [hM _ (by omega), show 240 + 12 * w + k = 240 + (12 * w + k) by omega]
  by_cases q : A (240 + (12 * w + k)) = 0
  · rw [q]; rfl
  · rw [decide_eq_false q, decide_eq_false (nI_ne0 (by omega) (by omega))]
theorem ltd_some {f : Nat → Bool} : ∀ h k, ltd f h = some k → f k = true ∧ k ≤ h
  | 0, k, e => by
    unfold ltd at e
    split at e
    · rename_i q; cases e; exact ⟨q, Nat.le_refl _⟩
    · cases e
  | h + 1, k, e => by
    unfold ltd at e
    split at e
    · rename_i q; cases e; exact ⟨q, Nat.le_refl _⟩
    · have := ltd_some h k e; exact ⟨this.1, by omega⟩
theorem lto_fr {A : Nat → Nat} {μ : wm_M} {m : Nat} (hC : CL m A μ) {w h : Nat} (hw : w < 7) (hh : h < 12) : lto (ltd (tc_ μ w) h) (fun k => μ.1 5 (w * 12 + k)) 0 = nI (frA A w h) := by
  rw [ltd_congr h (fun k hk => tc_td hC hw (show k < 12 by omega))]
  unfold frA
  cases e : ltd (tdA A w) h with
  | none => rfl
  | some k =>
    have := (ltd_some h k e).2
    show μ.1 5 (w * 12 + k) = nI (A (72 + 12 * w + k))
    rw [hC.2.2.1.from (show w * 12 + k < 84 by omega), show 72 + (w * 12 + k) = 72 + 12 * w + k by omega]
theorem lto_fo {A : Nat → Nat} {μ : wm_M} {m : Nat} (hC : CL m A μ) {w h : Nat} (hw : w < 7) (hh : h < 12) : lto (ltd (tc_ μ w) h) (fun k => μ.1 6 (w * 12 + k)) 0 = nI (foA A w h) := by
  rw [ltd_congr h (fun k hk => tc_td hC hw (show k < 12 by omega))]
  unfold foA
  cases e : ltd (tdA A w) h with
  | none => rfl
  | some k =>
    have q := ltd_some h k e
    have e1 := hC.2.2.2.1.1 (w * 12 + k) (by omega)
    have e1 : μ.1 6 (w * 12 + k) = _ := e1
    show μ.1 6 (w * 12 + k) = nI (A (156 + 12 * w + k))
    have q1 : ¬ A (240 + 12 * w + k) = 0 := by
      have q2 := q.1
      unfold tdA at q2
      intro z
      rw [decide_eq_true z] at q2
      cases q2
    rw [e1, if_neg (by rw [show 240 + (w * 12 + k) = 240 + 12 * w + k by omega]; exact q1), show 156 + (w * 12 + k) = 156 + 12 * w + k by omega]
theorem ltm_fr {A : Nat → Nat} {μ : wm_M} {m : Nat} (hB : BA m A) (hM : RM 91 A μ) {w h : Nat} (hw : w < 7) (hh : h < 12) : lto (ltd (tm_ μ w) h) (fun k => μ.1 91 (72 + 12 * w + k)) 0 = nI (frA A w h) := by
  rw [ltd_congr h (fun k hk => tm_td hB hM hw (show k < 12 by omega))]
  unfold frA
  cases e : ltd (tdA A w) h with
  | none => rfl
  | some k =>
    have := (ltd_some h k e).2
    exact hM _ (by omega)
theorem ltm_fo {A : Nat → Nat} {μ : wm_M} {m : Nat} (hB : BA m A) (hM : RM 91 A μ) {w h : Nat} (hw : w < 7) (hh : h < 12) : lto (ltd (tm_ μ w) h) (fun k => μ.1 91 (156 + 12 * w + k)) 0 = nI (foA A w h) := by
  rw [ltd_congr h (fun k hk => tm_td hB hM hw (show k < 12 by omega))]
  unfold foA
  cases e : ltd (tdA A w) h with
  | none => rfl
  | some k =>
    have := (ltd_some h k e).2
    exact hM _ (by omega)
theorem frA_lt {A : Nat → Nat} {m : Nat} (hB : BA m A) {w h : Nat} (hw : w < 7) (hh : h < 12) : frA A w h < 8 := by
  unfold frA
  cases e : ltd (tdA A w) h with
  | none => exact (by decide : 0 < 8)
  | some k =>
    have := (ltd_some h k e).2
    have q := hB.from (show 12 * w + k < 84 by omega)
    rw [show 72 + (12 * w + k) = 72 + 12 * w + k by omega] at q
    exact q
theorem foA_lt {A : Nat → Nat} {m : Nat} (hB : BA m A) {w h : Nat} (hw : w < 7) (hh : h < 12) : foA A w h < 40 := by
  unfold foA
  cases e : ltd (tdA A w) h with
  | none => exact (by decide : 0 < 40)
  | some k =>
    have := (ltd_some h k e).2
    have q := hB.force (show 12 * w + k < 84 by omega)
    rw [show 156 + (12 * w + k) = 156 + 12 * w + k by omega] at q
    exact q
theorem fiA_lt {A : Nat → Nat} {m : Nat} (hB : BA m A) {w h : Nat} (c : Nat) (hw : w < 7) (hh : h < 12) : fiA A w h c < 40 := by
  have := foA_lt hB hw hh
  unfold fiA
  have h1 : foA A w h * (100 - A (36 + c)) ≤ 39 * 100 := Nat.mul_le_mul (by omega) (by omega)
  omega
theorem fi_nI {f s : Nat} (hf : f < 40) (hs : s ≤ 100) : nI f * (100 - nI s) / 100 = nI (f * (100 - s) / 100) := by
  have h1 : f * (100 - s) ≤ 39 * 100 := Nat.mul_le_mul (by omega) (by omega)
  simp (disch := omega) only [nl, nI_add, pk_mul, pk_sub, pk_div, rm_n, nI_clamp, vi_, nI_leI, nI_ltI, nI_eq, nI_sb, nI_eqm, nI_meq, Nat.zero_add, Nat.add_zero]
/-- fromIn, forceIn, sheltered, forceAt; fromOf, forceOf, forceIn -/
theorem c_71 {m : Nat} {A : Nat → Nat} (w h : Nat) (hw : w < 7) (hh : h < 12) {μ : wm_M} {Q : Int32 → wm_M → Prop} (hC : CL m A μ) (hq : Q (nI (frA A w h)) μ) : wm_OkI 0 71 [.ref 2, .int (nI w), .int (nI h)] μ Q := s_71 w h hw hh (by rw [lto_fr hC hw hh]; exact hq)
theorem c_72 {m : Nat} {A : Nat → Nat} (w h : Nat) (hw : w < 7) (hh : h < 12) {μ : wm_M} {Q : Int32 → wm_M → Prop} (hC : CL m A μ) (hq : Q (nI (foA A w h)) μ) : wm_OkI 0 72 [.ref 2, .int (nI w), .int (nI h)] μ Q := s_72 w h hw hh (by rw [lto_fo hC hw hh]; exact hq)
theorem c_74 {m : Nat} {A : Nat → Nat} (f c : Nat) (hf : f < 40) (hc : c < 36) {μ : wm_M} {Q : Int32 → wm_M → Prop} (hC : CL m A μ) (hq : Q (nI (f * (100 - A (36 + c)) / 100)) μ) : wm_OkI 0 74 [.ref 2, .int (nI f), .int (nI c)] μ Q := s_74 _ c hc (by rw [hC.2.2.1.shelter hc, fi_nI hf (by have := hC.1.shelter hc; omega)]; exact hq)
theorem c_73 {m : Nat} {A : Nat → Nat} (w h c : Nat) (hw : w < 7) (hh : h < 12) (hc : c < 36) {μ : wm_M} {Q : Int32 → wm_M → Prop} (hC : CL m A μ) (hq : Q (nI (fiA A w h c)) μ) : wm_OkI 0 73 [.ref 2, .int (nI w), .int (nI h), .int (nI c)] μ Q := s_73 w h c hw hh hc (by rw [lto_fo hC hw hh, hC.2.2.1.shelter hc, fi_nI (foA_lt hC.1 hw hh) (by have := hC.1.shelter hc; omega)]; exact hq)
theorem m_198 {m : Nat} {A : Nat → Nat} (w h : Nat) (hw : w < 7) (hh : h < 12) {μ : wm_M} {Q : Int32 → wm_M → Prop} (hB : BA m A) (hM : RM 91 A μ) (hq : Q (nI (frA A w h)) μ) : wm_OkI 0 198 [.ref 89, .int (nI w), .int (nI h)] μ Q := s_198 w h hw hh (by rw [ltm_fr hB hM hw hh]; exact hq)
theorem m_199 {m : Nat} {A : Nat → Nat} (w h : Nat) (hw : w < 7) (hh : h < 12) {μ : wm_M} {Q : Int32 → wm_M → Prop} (hB : BA m A) (hM : RM 91 A μ) (hq : Q (nI (foA A w h)) μ) : wm_OkI 0 199 [.ref 89, .int (nI w), .int (nI h)] μ Q := s_199 w h hw hh (by rw [ltm_fo hB hM hw hh]; exact hq)
theorem m_200 {m : Nat} {A : Nat → Nat} (w h c : Nat) (hw : w < 7) (hh : h < 12) (hc : c < 36) {μ : wm_M} {Q : Int32 → wm_M → Prop} (hB : BA m A) (hM : RM 91 A μ) (hq : Q (nI (fiA A w h c)) μ) : wm_OkI 0 200 [.ref 89, .int (nI w), .int (nI h), .int (nI c)] μ Q := s_200 w h c hw hh hc (by rw [ltm_fo hB hM hw hh, hM _ (show 36 + c < 2060 by omega), fi_nI (foA_lt hB hw hh) (by have := hB.shelter hc; omega)]; exact hq)
theorem bI_td {A : Nat → Nat} {m : Nat} (hB : BA m A) {w k : Nat} (hw : w < 7) (hk : k < 12) : bI (tdA A w k = true) = nI (A (240 + 12 * w + k)) := by
  have ht := hB.told (show 12 * w + k < 84 by omega)
  rw [show 240 + (12 * w + k) = 240 + 12 * w + k by omega] at ht
  unfold tdA
  by_cases q : A (240 + 12 * w + k) = 0
  · rw [q]; decide
  · rw [show A (240 + 12 * w + k) = 1 by omega]; decide
theorem bI_bI {p : Prop} [Decidable p] : bI (¬ bI p = 0) = bI p := by
  by_cases q : p
  · rw [bI_t q]; decide
  · rw [bI_f q]; decide
theorem p_blows (a b c : Int32) {n : Nat} {μ : wm_M} (h : Rel n μ) : wm_OkI 0 118 [.ref 0, .int a, .int b, .int c] μ (Pr n 201 [.ref 89, .int a, .int b, .int c]) := by
  refine v_118 a b c μ _ (s_171 (fun t ht e g1 g2 => ⟨fun q => absurd q (by decide), fun _ => s_167 ⟨fun z => w_118_14 μ _ (s_161 3 (by decide) ⟨_, rfl, v_201 a b c _ _ (s_194 (fun _ _ _ _ _ => ⟨fun q => absurd q (by decide), fun _ => s_189 ⟨fun _ => w_201_14 _ _ (s_185 3 (by decide) ⟨_, rfl, rfl, (h.rf 3).up⟩), fun q => absurd z q⟩⟩) (fun q => absurd ⟨g1, g2⟩ (q t ht e)))⟩), fun z => ?_⟩⟩) (fun z => ⟨fun _ => w_118_14 μ _ (s_161 3 (by decide) ⟨_, rfl, v_201 a b c _ _ (s_194 (fun t ht e g1 g2 => absurd ⟨g1, g2⟩ (z t ht e)) (fun _ => ⟨fun _ => w_201_14 _ _ (s_185 3 (by decide) ⟨_, rfl, rfl, (h.rf 3).up⟩), fun q => absurd rfl q⟩))⟩), fun q => absurd rfl q⟩))
  have h' := h
  obtain ⟨A, hA, hO⟩ := h
  have hC := hA.cl (Nat.le_refl n)
  obtain ⟨j, hj, rfl⟩ := in_nI 35 (by decide) (nz z)
  subst e
  have ent : ∀ {ν : wm_M} {Q : Int32 → wm_M → Prop}, wm_Wp 0 201 21 [.ref 89, .int (nI t), .int (nI j), .int c, .null, .null] ν (fun v κ => ∃ x, v = some (.int x) ∧ Q x κ) → wm_OkI 0 201 [.ref 89, .int (nI t), .int (nI j), .int c] ν Q := fun {ν Q} w => v_201 _ _ _ ν _ (s_194 (fun _ _ _ _ _ => ⟨fun q => absurd q (by decide), fun _ => s_189 ⟨fun q => absurd q z, fun _ => w⟩⟩) (fun q => absurd ⟨g1, g2⟩ (q t ht rfl)))
  have e1 : nI t - nI t / (10 : Int32) * (10 : Int32) = nI (t % 10) := rm10 ht
  have e2 : nI t / (10 : Int32) = nI (t / 10) := dv10 ht
  refine w_118_21 _ _ _ μ _ ⟨n10, n10, ?_⟩
  rw [e1, e2]
  refine ⟨fun y => w_118_128 μ _ (s_161 7 (by decide) ⟨_, rfl, ent (w_201_21 _ _ _ _ _ ⟨n10, n10, fun _ => w_201_106 _ _ (s_185 7 (by decide) ⟨_, rfl, rfl, (h'.rf 7).up⟩), fun q => by omega, fun q => by omega, fun q => by omega, fun q => by omega, trivial⟩)⟩), fun y => w_118_64 _ _ μ _ (c_71 _ _ g2 g1 hC ⟨_, rfl, ent (w_201_21 _ _ _ _ _ ?_)⟩), fun y => w_118_79 _ _ μ _ (c_72 _ _ g2 g1 hC ⟨_, rfl, ent (w_201_21 _ _ _ _ _ ?_)⟩), fun y => w_118_94 _ _ _ μ _ (c_73 _ _ _ g2 g1 (by omega) hC ⟨_, rfl, ent (w_201_21 _ _ _ _ _ ?_)⟩), fun y => w_118_110 _ _ μ _ (s_69 _ _ g2 g1 (s_177 ⟨_, rfl, ent (w_201_21 _ _ _ _ _ ?_)⟩)), trivial⟩
  · rw [e1, e2]
    exact ⟨n10, n10, fun q => by omega, fun _ => w_201_64 _ _ _ _ (m_198 _ _ g2 g1 hA.1 hA.2.2.1 ⟨_, rfl, rfl, h'.up⟩), fun q => by omega, fun q => by omega, fun q => by omega, trivial⟩
  · rw [e1, e2]
    exact ⟨n10, n10, fun q => by omega, fun q => by omega, fun _ => w_201_73 _ _ _ _ (m_199 _ _ g2 g1 hA.1 hA.2.2.1 ⟨_, rfl, rfl, h'.up⟩), fun q => by omega, fun q => by omega, trivial⟩
  · rw [e1, e2]
    exact ⟨n10, n10, fun q => by omega, fun q => by omega, fun q => by omega, fun _ => w_201_82 _ _ _ _ _ (m_200 _ _ _ g2 g1 (by omega) hA.1 hA.2.2.1 ⟨_, rfl, rfl, h'.up⟩), fun q => by omega, trivial⟩
  · rw [e1, e2]
    refine ⟨n10, n10, fun q => by omega, fun q => by omega, fun q => by omega, fun q => by omega, fun _ => w_201_92 _ _ _ (s_195 t ht ?_), trivial⟩
    rw [show (240 : Int32) + nI (12 * (t % 10) + t / 10) = nI (240 + (12 * (t % 10) + t / 10)) from nI_add 240 _, nI_clamp (by omega)]
    refine ⟨vp_in_nI (by omega) (by decide), _, rfl, ?_, h'.up⟩
    rw [bI_bI, hA.2.2.1 _ (by omega), tc_td hC g2 g1, bI_td hA.1 g2 g1, show 240 + (12 * (t % 10) + t / 10) = 240 + 12 * (t % 10) + t / 10 by omega]
