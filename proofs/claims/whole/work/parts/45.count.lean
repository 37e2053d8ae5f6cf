/-! ===== sums over a row ===== -/
def smN (g : Nat → Nat) : Nat → Nat
  | 0 => 0
  | k + 1 => smN g k + g k
theorem loopS (g : Nat → Nat) (P : Nat → Nat → Prop) (N : Nat) (step : ∀ i a, i < N → P (a + g i) (i + 1) → P a i) (fin : P (smN g N) N) : P 0 0 := by
  have h : ∀ k i, i + k = N → P (smN g i) i := by
    intro k
    induction k with
    | zero => intro i hi; rw [show i = N by omega]; exact fin
    | succ k ih => intro i hi; exact step i _ (by omega) (ih (i + 1) (by omega))
  exact h N 0 (by omega)
theorem smN_congr {f g : Nat → Nat} : ∀ n, (∀ i, i < n → f i = g i) → smN f n = smN g n
  | 0, _ => rfl
  | n + 1, h => by unfold smN; rw [smN_congr n (fun i hi => h i (by omega)), h n (by omega)]
theorem smN_add (f : Nat → Nat) (a : Nat) : ∀ b, smN f (a + b) = smN f a + smN (fun i => f (a + i)) b
  | 0 => rfl
  | b + 1 => by
    show smN f (a + b) + f (a + b) = _
    rw [smN_add f a b]
    show _ = smN f a + (smN (fun i => f (a + i)) b + f (a + b))
    omega
theorem tnA_sm (A : Nat → Nat) (w : Nat) : ∀ n, tnA A w n = smN (fun h => if tdA A w h = true then 1 else 0) n
  | 0 => rfl
  | n + 1 => by unfold tnA smN; rw [tnA_sm A w n]
theorem tnA_told {m : Nat} {A : Nat → Nat} (hB : BA m A) {w : Nat} (hw : w < 7) : ∀ n, n ≤ 12 → tnA A w n = smN (fun h => A (240 + 12 * w + h)) n
  | 0, _ => rfl
  | n + 1, hn => by
    unfold tnA smN
    rw [tnA_told hB hw n (by omega)]
    have ht := hB.told (show 12 * w + n < 84 by omega)
    rw [show 240 + (12 * w + n) = 240 + 12 * w + n by omega] at ht
    unfold tdA
    by_cases q : A (240 + 12 * w + n) = 0
    · rw [q]; rfl
    · rw [show A (240 + 12 * w + n) = 1 by omega]; rfl
theorem told_all {m : Nat} {A : Nat → Nat} (hB : BA m A) : ∀ w, w ≤ 7 → smN (fun w => tnA A w 12) w = smN (fun k => A (240 + k)) (12 * w)
  | 0, _ => rfl
  | w + 1, h => by
    show smN (fun w => tnA A w 12) w + tnA A w 12 = _
    rw [told_all hB w (by omega), tnA_told hB (by omega) 12 (by omega), show 12 * (w + 1) = 12 * w + 12 by omega, smN_add]
    rw [smN_congr (f := fun h => A (240 + 12 * w + h)) (g := fun i => A (240 + (12 * w + i))) 12 (fun i hi => by rw [Nat.add_assoc])]
theorem tnA_le (A : Nat → Nat) (w : Nat) : ∀ n, tnA A w n ≤ n
  | 0 => Nat.le_refl 0
  | n + 1 => by unfold tnA; have := tnA_le A w n; split <;> omega
/-! ===== the class's counts ===== -/
theorem c_79 {m : Nat} {A : Nat → Nat} {μ : wm_M} {Q : Int32 → wm_M → Prop} (hC : CL m A μ) (hq : Q (nI (smN (fun i => A i) 36)) μ) : wm_OkI 0 79 [.ref 2] μ Q := by
  refine v_79 _ _ (loopS (fun i => A i) (fun a i => wm_Wp 0 79 4 [.ref 2, .int (nI a), .int (nI i)] μ _) 36 (fun i a hi ih => w_79_4 _ _ _ _ ⟨fun z => absurd z (nI_ge (a := i) (b := 36) hi (by decide)), fun _ => ⟨vp_in_nI hi (by decide), s_177 ?_⟩⟩) (w_79_4 _ _ _ _ ⟨fun _ => w_79_28 _ _ _ ⟨_, rfl, hq⟩, fun z => absurd (nI_le (Nat.le_refl 36) (by decide)) z⟩))
  rw [nI_clamp (by omega), hC.2.2.1.land hi, bI_nI (hC.1.land hi), nI_add, nI_1]
  exact ih
theorem c_75 {m : Nat} {A : Nat → Nat} (w : Nat) (hw : w < 7) {μ : wm_M} {Q : Int32 → wm_M → Prop} (hC : CL m A μ) (hq : Q (nI (tnA A w 12)) μ) : wm_OkI 0 75 [.ref 2, .int (nI w)] μ Q := by
  rw [tnA_sm] at hq
  refine v_75 _ _ _ (loopS (fun h => if tdA A w h = true then 1 else 0) (fun a i => wm_Wp 0 75 4 [.ref 2, .int (nI w), .int (nI a), .int (nI i)] μ _) 12 (fun i a hi ih => w_75_4 _ _ _ _ _ ⟨fun z => absurd z (nI_ge (a := i) (b := 12) hi (by decide)), fun _ => s_69 w i hw hi (s_177 ?_)⟩) (w_75_4 _ _ _ _ _ ⟨fun _ => w_75_28 _ _ _ ⟨_, rfl, hq⟩, fun z => absurd (nI_le (Nat.le_refl 12) (by decide)) z⟩))
  rw [bI_bI, tc_td hC hw hi, nI_1]
  by_cases q : tdA A w i = true
  · rw [bI_t q, nI_1]
    have e : (if tdA A w i = true then 1 else 0) = 1 := if_pos q
    simp only [e] at ih
    exact ih
  · rw [bI_f q, show (0 : Int32) = nI 0 from rfl, nI_add]
    have e : (if tdA A w i = true then 1 else 0) = 0 := if_neg q
    simp only [e] at ih
    exact ih
theorem c_76 {m : Nat} {A : Nat → Nat} (w : Nat) (hw : w < 7) {μ : wm_M} {Q : Int32 → wm_M → Prop} (hC : CL m A μ) (hq : Q (bI (0 < tnA A w 12)) μ) : wm_OkI 0 76 [.ref 2, .int (nI w)] μ Q := by
  have hl := tnA_le A w 12
  refine v_76 _ _ _ (c_75 w hw hC ⟨fun z => w_76_12 _ _ ⟨z01, _, rfl, ?_⟩, fun z => ⟨o01, _, rfl, ?_⟩⟩)
  · have z := (nI_leI (b := 0) (by omega) (by decide)).mp z
    rw [bI_f (by omega)] at hq; exact hq
  · have z : ¬ tnA A w 12 ≤ 0 := fun q => z ((nI_leI (b := 0) (by omega) (by decide)).mpr q)
    rw [bI_t (by omega)] at hq; exact hq
theorem c_77 {m : Nat} {A : Nat → Nat} {μ : wm_M} {Q : Int32 → wm_M → Prop} (hC : CL m A μ) (hq : Q (nI (smN (fun w => tnA A w 12) 7)) μ) : wm_OkI 0 77 [.ref 2] μ Q := by
  refine v_77 _ _ (loopS (fun w => tnA A w 12) (fun a i => wm_Wp 0 77 4 [.ref 2, .int (nI a), .int (nI i)] μ _) 7 (fun i a hi ih => w_77_4 _ _ _ _ ⟨fun z => absurd z (nI_ge (a := i) (b := 7) hi (by decide)), fun _ => c_75 i hi hC ?_⟩) (w_77_4 _ _ _ _ ⟨fun _ => w_77_24 _ _ _ ⟨_, rfl, hq⟩, fun z => absurd (nI_le (Nat.le_refl 7) (by decide)) z⟩))
  rw [nI_add, nI_1]; exact ih
def b01 (p : Prop) [Decidable p] : Nat := if p then 1 else 0
theorem bI_b01 {p : Prop} [Decidable p] : bI p = nI (b01 p) := by
  unfold b01
  by_cases h : p
  · rw [bI_t h, if_pos h]; rfl
  · rw [bI_f h, if_neg h]; rfl
theorem c_78 {m : Nat} {A : Nat → Nat} {μ : wm_M} {Q : Int32 → wm_M → Prop} (hC : CL m A μ) (hq : Q (nI (smN (fun w => b01 (0 < tnA A w 12)) 6)) μ) : wm_OkI 0 78 [.ref 2] μ Q := by
  refine v_78 _ _ (loopS (fun w => b01 (0 < tnA A w 12)) (fun a i => wm_Wp 0 78 4 [.ref 2, .int (nI a), .int (nI i)] μ _) 6 (fun i a hi ih => w_78_4 _ _ _ _ ⟨fun z => absurd z (nI_ge (a := i) (b := 6) hi (by decide)), fun _ => c_76 i (by omega) hC (s_177 ?_)⟩) (w_78_4 _ _ _ _ ⟨fun _ => w_78_27 _ _ _ ⟨_, rfl, hq⟩, fun z => absurd (nI_le (Nat.le_refl 6) (by decide)) z⟩))
  rw [bI_bI, bI_b01, nI_add, nI_1]; exact ih
theorem c_7 {m : Nat} {A : Nat → Nat} {μ : wm_M} {Q : Int32 → wm_M → Prop} (hC : CL m A μ) (hq : Q (nI (smN (fun i => A (452 + i)) (A 2040))) μ) : wm_OkI 0 7 [.ref 13] μ Q := by
  have hs := hC.1.sails
  have es : μ.1 13 10 = nI (A 2040) := hC.2.2.1.sails
  refine v_7 _ _ (loopS (fun i => A (452 + i)) (fun a i => wm_Wp 0 7 4 [.ref 13, .int (nI a), .int (nI i)] μ _) (A 2040) (fun i a hi ih => w_7_4 _ _ _ _ ?_) (w_7_4 _ _ _ _ ?_))
  · rw [es]
    refine ⟨fun z => absurd z (nI_ge hi (by omega)), fun _ => ⟨vp_in_nI (by omega) (by decide), s_177 ?_⟩⟩
    rw [nI_clamp (by omega), hC.2.2.1.torn (by omega), bI_nI (hC.1.torn (by omega)), nI_add, nI_1]
    exact ih
  · rw [es]
    exact ⟨fun _ => w_7_30 _ _ _ ⟨_, rfl, hq⟩, fun z => absurd (nI_le (Nat.le_refl _) (by omega)) z⟩
theorem c_86 {m : Nat} {A : Nat → Nat} {μ : wm_M} {Q : Int32 → wm_M → Prop} (hC : CL m A μ) (hq : Q (nI (smN (fun i => A (349 + i)) 25)) μ) : wm_OkI 0 86 [.ref 7] μ Q := by
  refine v_86 _ _ (loopS (fun i => A (349 + i)) (fun a i => wm_Wp 0 86 4 [.ref 7, .int (nI a), .int (nI i)] μ _) 25 (fun i a hi ih => w_86_4 _ _ _ _ ⟨fun z => absurd z (nI_ge (a := i) (b := 25) hi (by decide)), fun _ => ⟨vp_in_nI hi (by decide), ?_⟩⟩) (w_86_4 _ _ _ _ ⟨fun _ => w_86_25 _ _ _ ⟨_, rfl, hq⟩, fun z => absurd (nI_le (Nat.le_refl 25) (by decide)) z⟩))
  rw [nI_clamp (by omega), hC.2.2.1.seen hi, nI_add, nI_1]
  exact ih
/-! ===== the reference's ===== -/
theorem m_266 {m : Nat} {A : Nat → Nat} (w : Nat) (hw : w < 7) {μ : wm_M} {Q : Int32 → wm_M → Prop} (hB : BA m A) (hM : RM 91 A μ) (hq : Q (bI (0 < tnA A w 12)) μ) : wm_OkI 0 266 [.ref 89, .int (nI w)] μ Q := by
  refine v_266 _ _ _ ?_
  have h : ∀ k i, i + k = 12 → wm_Wp 0 266 4 [.ref 89, .int (nI w), .int (bI (0 < tnA A w i)), .int (nI i)] μ (fun v ν => ∃ x, v = some (.int x) ∧ Q x ν) := by
    intro k
    induction k with
    | zero =>
      intro i hi
      rw [show i = 12 by omega]
      exact w_266_4 _ _ _ _ _ ⟨fun _ => w_266_45 _ _ _ ⟨bI_01, _, rfl, hq⟩, fun z => absurd (nI_le (Nat.le_refl 12) (by decide)) z⟩
    | succ k ih =>
      intro i hi
      have e3 : ((240 : Int32) + ((12 : Int32) * nI w)) + nI i = nI (240 + 12 * w + i) := ix3 240 w i
      have ht := hB.told (show 12 * w + i < 84 by omega)
      rw [show 240 + (12 * w + i) = 240 + 12 * w + i by omega] at ht
      have ih := ih (i + 1) (by omega)
      have t1 : tnA A w (i + 1) = tnA A w i + (if tdA A w i = true then 1 else 0) := rfl
      refine w_266_4 _ _ _ _ _ ⟨fun z => absurd z (nI_ge (a := i) (b := 12) (by omega) (by decide)), fun _ => ⟨fun z => ?_, fun z => w_266_33 _ _ _ _ ?_⟩⟩
      · rw [e3, nI_clamp (by omega), hM _ (by omega)]
        have z := bI_0.mp z
        refine ⟨vp_in_nI (by omega) (by decide), fun y => w_266_33 _ _ _ _ ?_, fun y => w_266_37 _ _ _ _ ?_⟩
        · have y := (nI_eq (b := 1) (by omega) (by decide)).mp y
          have td : tdA A w i = true := by unfold tdA; rw [y]; rfl
          rw [bI_t (by rw [t1, if_pos td]; omega)] at ih
          rw [nI_1]; exact ih
        · have y : ¬ A (240 + 12 * w + i) = 1 := fun q => y (by rw [q]; rfl)
          have td : ¬ tdA A w i = true := by unfold tdA; rw [show A (240 + 12 * w + i) = 0 by omega]; decide
          rw [bI_f (by rw [t1, if_neg td]; omega)] at ih
          rw [nI_1]; exact ih
      · have z := nz z
        rw [bI_t (by rw [t1]; omega)] at ih
        rw [nI_1]; exact ih
  exact h 12 0 (by omega)
theorem p_count (a : Int32) {n : Nat} {μ : wm_M} (h : Rel n μ) : wm_OkI 0 152 [.ref 0, .int a] μ (Pr n 302 [.ref 89, .int a]) := by
  have h' := h
  obtain ⟨A, hA, ⟨tt, T, t1, t2, t3, t4⟩, _⟩ := h
  have hC := hA.cl (Nat.le_refl n)
  have hM := hA.2.2.1
  have hs := hA.1.sails
  have sm : ∀ (b N : Nat), b + N ≤ 2060 → ∀ i, i < N → vp_in (nI b + nI i) 2060 ∧ μ.1 91 (nI b + nI i).toNatClampNeg = nI (A (b + i)) := fun b N hb i hi => by
    rw [nI_add, nI_clamp (by omega), hM _ (by omega)]; exact ⟨vp_in_nI (by omega) (by decide), rfl⟩
  refine v_152 _ _ _ ⟨fun q => w_152_196 _ _ (s_162 7 (by decide) ⟨_, rfl, v_302 _ _ _ ⟨fun _ => w_302_256 _ _ (s_186 7 (by decide) ⟨_, rfl, rfl, (h'.rf 7).up⟩), fun r => by omega, fun r => by omega, fun r => by omega, fun r => by omega, fun r => by omega, fun r => by omega, fun r => by omega, fun r => by omega, fun r => by omega, fun r => by omega, fun r => by omega, fun r => by omega, trivial⟩⟩), fun q => w_152_64 _ _ (c_79 hC ⟨_, rfl, v_302 _ _ _ ⟨fun r => by omega, fun _ => w_302_64 _ _ _ ?_, fun r => by omega, fun r => by omega, fun r => by omega, fun r => by omega, fun r => by omega, fun r => by omega, fun r => by omega, fun r => by omega, fun r => by omega, fun r => by omega, fun r => by omega, trivial⟩⟩), fun q => w_152_75 _ _ (c_77 hC ⟨_, rfl, v_302 _ _ _ ⟨fun r => by omega, fun r => by omega, fun _ => w_302_91 _ _ _ ?_, fun r => by omega, fun r => by omega, fun r => by omega, fun r => by omega, fun r => by omega, fun r => by omega, fun r => by omega, fun r => by omega, fun r => by omega, fun r => by omega, trivial⟩⟩), fun q => w_152_86 _ _ ⟨_, rfl, v_302 _ _ _ ⟨fun r => by omega, fun r => by omega, fun r => by omega, fun _ => w_302_120 _ _ (s_188 0 (by decide) ⟨_, rfl, (hC.2.2.1.sails).trans (hM 2040 (by decide)).symm, h'.up⟩), fun r => by omega, fun r => by omega, fun r => by omega, fun r => by omega, fun r => by omega, fun r => by omega, fun r => by omega, fun r => by omega, fun r => by omega, trivial⟩⟩, fun q => w_152_97 _ _ (c_7 hC ⟨_, rfl, v_302 _ _ _ ⟨fun r => by omega, fun r => by omega, fun r => by omega, fun r => by omega, fun _ => w_302_126 _ _ _ ?_, fun r => by omega, fun r => by omega, fun r => by omega, fun r => by omega, fun r => by omega, fun r => by omega, fun r => by omega, fun r => by omega, trivial⟩⟩), fun q => w_152_108 _ _ ⟨_, rfl, v_302 _ _ _ ⟨fun r => by omega, fun r => by omega, fun r => by omega, fun r => by omega, fun r => by omega, fun _ => w_302_158 _ _ (s_188 1 (by decide) ⟨_, rfl, (hC.2.2.1.hands).trans (hM 2041 (by decide)).symm, h'.up⟩), fun r => by omega, fun r => by omega, fun r => by omega, fun r => by omega, fun r => by omega, fun r => by omega, fun r => by omega, trivial⟩⟩, fun q => w_152_119 _ _ ⟨_, rfl, v_302 _ _ _ ⟨fun r => by omega, fun r => by omega, fun r => by omega, fun r => by omega, fun r => by omega, fun r => by omega, fun _ => w_302_164 _ _ (s_188 2 (by decide) ⟨_, rfl, (hC.2.2.1.rules).trans (hM 2042 (by decide)).symm, h'.up⟩), fun r => by omega, fun r => by omega, fun r => by omega, fun r => by omega, fun r => by omega, fun r => by omega, trivial⟩⟩, fun q => w_152_130 _ _ ⟨_, rfl, v_302 _ _ _ ⟨fun r => by omega, fun r => by omega, fun r => by omega, fun r => by omega, fun r => by omega, fun r => by omega, fun r => by omega, fun _ => w_302_170 _ _ ⟨_, rfl, t2.trans t3.symm, h'.up⟩, fun r => by omega, fun r => by omega, fun r => by omega, fun r => by omega, fun r => by omega, trivial⟩⟩, fun q => w_152_138 _ _ (c_86 hC ⟨_, rfl, v_302 _ _ _ ⟨fun r => by omega, fun r => by omega, fun r => by omega, fun r => by omega, fun r => by omega, fun r => by omega, fun r => by omega, fun r => by omega, fun _ => w_302_175 _ _ _ ?_, fun r => by omega, fun r => by omega, fun r => by omega, fun r => by omega, trivial⟩⟩), fun q => w_152_149 _ _ (c_78 hC ⟨_, rfl, v_302 _ _ _ ⟨fun r => by omega, fun r => by omega, fun r => by omega, fun r => by omega, fun r => by omega, fun r => by omega, fun r => by omega, fun r => by omega, fun r => by omega, fun _ => w_302_204 _ _ _ ?_, fun r => by omega, fun r => by omega, fun r => by omega, trivial⟩⟩), fun q => w_152_160 _ _ ⟨_, rfl, v_302 _ _ _ ⟨fun r => by omega, fun r => by omega, fun r => by omega, fun r => by omega, fun r => by omega, fun r => by omega, fun r => by omega, fun r => by omega, fun r => by omega, fun r => by omega, fun _ => w_302_236 _ _ (s_188 13 (by decide) ⟨_, rfl, (hC.2.2.1.went).trans (hM 2053 (by decide)).symm, h'.up⟩), fun r => by omega, fun r => by omega, trivial⟩⟩, fun q => w_152_171 _ _ ⟨_, rfl, v_302 _ _ _ ⟨fun r => by omega, fun r => by omega, fun r => by omega, fun r => by omega, fun r => by omega, fun r => by omega, fun r => by omega, fun r => by omega, fun r => by omega, fun r => by omega, fun r => by omega, fun _ => w_302_243 _ _ (s_188 5 (by decide) ⟨_, rfl, (hC.2.2.1.mark).trans (hM 2045 (by decide)).symm, h'.up⟩), fun r => by omega, trivial⟩⟩, fun q => w_152_182 _ _ (s_177 ⟨_, rfl, v_302 _ _ _ ⟨fun r => by omega, fun r => by omega, fun r => by omega, fun r => by omega, fun r => by omega, fun r => by omega, fun r => by omega, fun r => by omega, fun r => by omega, fun r => by omega, fun r => by omega, fun r => by omega, fun _ => w_302_249 _ _ (s_188 6 (by decide) ⟨_, rfl, ?_, h'.up⟩), trivial⟩⟩), trivial⟩
  · refine loopS (fun i => A i) (fun a i => wm_Wp 0 302 66 [.ref 89, .null, .int (nI a), .int (nI i)] μ _) 36 (fun i a hi ih => w_302_66 _ _ _ _ ⟨fun z => absurd z (nI_ge (a := i) (b := 36) hi (by decide)), fun _ => ?_⟩) (w_302_66 _ _ _ _ ⟨fun _ => w_302_89 _ _ _ ⟨_, rfl, rfl, h'.up⟩, fun z => absurd (nI_le (Nat.le_refl 36) (by decide)) z⟩)
    have s := sm 0 36 (by decide) i hi
    refine ⟨s.1, ?_⟩
    rw [show (0 : Int32) = nI 0 from rfl, s.2, nI_add, nI_1, Nat.zero_add]; exact ih
  · refine loopS (fun i => A (240 + i)) (fun a i => wm_Wp 0 302 93 [.ref 89, .null, .int (nI a), .int (nI i)] μ _) 84 (fun i a hi ih => w_302_93 _ _ _ _ ⟨fun z => absurd z (nI_ge (a := i) (b := 84) hi (by decide)), fun _ => ?_⟩) (w_302_93 _ _ _ _ ⟨fun _ => w_302_118 _ _ _ ⟨_, rfl, by rw [told_all hA.1 7 (by decide)], h'.up⟩, fun z => absurd (nI_le (Nat.le_refl 84) (by decide)) z⟩)
    have s := sm 240 84 (by decide) i hi
    refine ⟨s.1, ?_⟩
    rw [show (240 : Int32) = nI 240 from rfl, s.2, nI_add, nI_1]; exact ih
  · refine loopS (fun i => A (452 + i)) (fun a i => wm_Wp 0 302 128 [.ref 89, .null, .int (nI a), .int (nI i)] μ _) (A 2040) (fun i a hi ih => w_302_128 _ _ _ _ (s_188 0 (by decide) ?_)) (w_302_128 _ _ _ _ (s_188 0 (by decide) ?_))
    · rw [show μ.1 91 (2040 + 0) = nI (A 2040) from hM 2040 (by decide)]
      have s := sm 452 3 (by decide) i (by omega)
      refine ⟨fun z => absurd z (nI_ge hi (by omega)), fun _ => ⟨s.1, ?_⟩⟩
      rw [show (452 : Int32) = nI 452 from rfl, s.2, nI_add, nI_1]; exact ih
    · rw [show μ.1 91 (2040 + 0) = nI (A 2040) from hM 2040 (by decide)]
      exact ⟨fun _ => w_302_156 _ _ _ ⟨_, rfl, rfl, h'.up⟩, fun z => absurd (nI_le (Nat.le_refl _) (by omega)) z⟩
  · refine loopS (fun i => A (349 + i)) (fun a i => wm_Wp 0 302 177 [.ref 89, .null, .int (nI a), .int (nI i)] μ _) 25 (fun i a hi ih => w_302_177 _ _ _ _ ⟨fun z => absurd z (nI_ge (a := i) (b := 25) hi (by decide)), fun _ => ?_⟩) (w_302_177 _ _ _ _ ⟨fun _ => w_302_202 _ _ _ ⟨_, rfl, rfl, h'.up⟩, fun z => absurd (nI_le (Nat.le_refl 25) (by decide)) z⟩)
    have s := sm 349 25 (by decide) i hi
    refine ⟨s.1, ?_⟩
    rw [show (349 : Int32) = nI 349 from rfl, s.2, nI_add, nI_1]; exact ih
  · refine loopS (fun w => b01 (0 < tnA A w 12)) (fun a i => wm_Wp 0 302 206 [.ref 89, .null, .int (nI a), .int (nI i)] μ _) 6 (fun i a hi ih => w_302_206 _ _ _ _ ⟨fun z => absurd z (nI_ge (a := i) (b := 6) hi (by decide)), fun _ => m_266 i (by omega) hA.1 hM ⟨fun z => ?_, fun z => ?_⟩⟩) (w_302_206 _ _ _ _ ⟨fun _ => w_302_234 _ _ _ ⟨_, rfl, rfl, h'.up⟩, fun z => absurd (nI_le (Nat.le_refl 6) (by decide)) z⟩)
    · have e : b01 (0 < tnA A i 12) = 0 := if_neg (bI_0.mp z)
      simp only [e] at ih
      rw [show (0 : Int32) = nI 0 from rfl, nI_add, nI_1]; exact ih
    · have e : b01 (0 < tnA A i 12) = 1 := if_pos (nz z)
      simp only [e] at ih
      rw [nI_1, nI_1]; exact ih
  · rw [hC.2.2.1.put, bI_nI hA.1.put]; exact (hM 2046 (by decide)).symm
