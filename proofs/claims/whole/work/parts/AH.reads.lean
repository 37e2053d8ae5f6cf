/-! The class's readers are the readers of part 34. -/
def CC (T : Nat → Nat) (n p k : Nat) (c : List Int32) (μ : wm_M) : Prop := CTx T n μ ∧ CTk T n p μ ∧ c.length + k ≤ p ∧ μ.1 59 3 = nI c.length ∧ ∀ i, i < c.length → μ.1 61 i = c.getD i 0
theorem CC.le {T n p k j c μ} (h : CC T n p k c μ) (l : j ≤ k) : CC T n p j c μ := ⟨h.1, h.2.1, by have := h.2.2.1; omega, h.2.2.2⟩
theorem c_96 {T n p k c} (x : Int32) {μ : wm_M} {Q : wm_M → Prop} (h : CC T n p (k + 1) c μ) (hk : ∀ ν, CC T n p k (c ++ [x]) ν → Sm kTp μ ν → Q ν) : wm_OkV 0 96 [.ref 59, .int x] μ Q := by
  obtain ⟨h1, h2, h3, h4, h5⟩ := h
  have hn := h1.1
  have hp := h2.1
  refine v_96 _ _ _ ⟨fun q => absurd q ?_, fun _ => ?_⟩
  · rw [h4]; exact nI_ge (a := c.length) (b := 120) (by omega) (by decide)
  rw [h4, nI_clamp (by omega)]
  have hS : Sm kTp μ (wm_si (wm_si μ 61 c.length x) 59 3 ((wm_si μ 61 c.length x).1 59 3 + 1)) := ((Sm.rf _ _).si rfl).si rfl
  refine ⟨vp_in_nI (by omega) (by decide), w_96_29 _ _ ⟨rfl, hk _ ⟨h1.sm hS, h2, ?_, ?_, fun i hi => ?_⟩ hS⟩⟩
  · rw [List.length_append]; simp only [List.length_cons, List.length_nil]; omega
  · show μ.1 59 3 + 1 = _
    rw [h4, nI_1, List.length_append]; rfl
  · rw [List.length_append] at hi
    simp only [List.length_cons, List.length_nil] at hi
    have e0 : (wm_si (wm_si μ 61 c.length x) 59 3 ((wm_si μ 61 c.length x).1 59 3 + 1)).1 61 i = (wm_si μ 61 c.length x).1 61 i := rfl
    rw [e0, List.getD_eq_getElem?_getD]
    by_cases e : i = c.length
    · subst e
      rw [si_same, List.getElem?_append_right (Nat.le_refl _), Nat.sub_self]; rfl
    · have e1 : (wm_si μ 61 c.length x).1 61 i = μ.1 61 i := by
        show va_up μ.1 61 (upd (μ.1 61) c.length x) 61 i = _
        rw [wm_up_eq, wm_upd_ne e]
      rw [e1, List.getElem?_append_left (by omega), ← List.getD_eq_getElem?_getD]
      exact h5 i (by omega)
theorem c_adv {T n p k c} {μ : wm_M} {Q : wm_M → Prop} (h : CC T n p k c μ) (hp : tk T n p ≠ 128) (hk : ∀ ν, CC T n (nx T n p) (k + 1) c ν → Sm kTp μ ν → Q ν) : wm_OkV 0 90 [.ref 59] μ Q := by
  obtain ⟨h1, h2, h3, h4, h5⟩ := h
  have hz := (tz_ok T n).1 p h2.1 hp
  have z1 : p < nx T n p := hz.1
  refine c_90 (en T n p) (en_le h2.1) h1 h2.2.2.1 fun ν s cν => ?_
  have s' : Sm kTp μ ν := s.le fun _ _ q => kTp_q q
  exact hk ν ⟨h1.sm s', cν, by omega, (s 59 3 rfl).trans h4, fun i hi => (s 61 i rfl).trans (h5 i hi)⟩ s'
def CR (T : Nat → Nat) (n e y o : Nat) (P : Ps) : Prop := ∀ (p k : Nat) (c : List Int32) (μ : wm_M) (Q : Int32 → wm_M → Prop), CC T n p k c μ →
  (∀ q c' ν, P p c = (true, q, c') → CC T n q k c' ν → Sm kTp μ ν → Q 1 ν) → (∀ q c' ν, P p c = (false, q, c') → ν.1 59 6 = nI q → Sm kTp μ ν → Q 0 ν) → wm_OkI e y [.ref 59, .int (nI o)] μ Q
theorem thn_T {a k : Ps} {p q : Nat} {c c' : List Int32} (h : a p c = (true, q, c')) : thn a k p c = k q c' := by unfold thn; rw [h]; rfl
theorem thn_F {a k : Ps} {p q : Nat} {c c' : List Int32} (h : a p c = (false, q, c')) : thn a k p c = (false, q, c') := by unfold thn; rw [h]; rfl
theorem n01 : ¬ (1 : Int32) = 0 := by decide
theorem tk_eq {T n p μ} (h : CTk T n p μ) (t : Nat) (ht : t < 1000) : μ.1 59 8 = nI t ↔ tk T n p = t := by
  rw [h.2.2.2.1]
  refine nI_eq ?_ (by omega)
  have : tk T n p < 1000 := by
    unfold tk
    have w : ∀ (l : List Nat) (r : List (List Nat)) i, i + r.length ≤ 13 → wix l i r < 1000 := by
      intro l r
      induction r with
      | nil => intro i _; exact (by decide : (130 : Nat) < 1000)
      | cons w r ih =>
        intro i hi
        rw [List.length_cons] at hi
        show (if l = w then i else wix l (i + 1) r) < 1000
        split
        · omega
        · exact ih (i + 1) (by omega)
    have sg : ∀ b, b ∈ sgn → b < 1000 := by decide
    split
    · decide
    · split
      · exact w _ wds 0 (by decide)
      · split
        · split <;> decide
        · split
          · rename_i hm; exact sg _ hm
          · decide
  omega
theorem tk_lt {T n p μ} (h : CTk T n p μ) : tk T n p < 1000 := by
  have h1 : tk T n p = tk T n p := rfl
  by_cases g : tk T n p < 1000
  · exact g
  · exfalso
    have w : ∀ (l : List Nat) (r : List (List Nat)) i, i + r.length ≤ 13 → wix l i r < 1000 := by
      intro l r
      induction r with
      | nil => intro i _; exact (by decide : (130 : Nat) < 1000)
      | cons w r ih =>
        intro i hi
        rw [List.length_cons] at hi
        show (if l = w then i else wix l (i + 1) r) < 1000
        split
        · omega
        · exact ih (i + 1) (by omega)
    have sg : ∀ b, b ∈ sgn → b < 1000 := by decide
    apply g
    unfold tk
    split
    · decide
    · split
      · exact w _ wds 0 (by decide)
      · split
        · split <;> decide
        · split
          · rename_i hm; exact sg _ hm
          · decide
/-- a loop of a reader -/
theorem lp_gen {T n e y o} {ops : Nat → Bool} (ho : ∀ t, ops t = true → t ≠ 128) {sub : Ps} (hs : CR T n e y o sub) (Hd : Nat → wm_M → Prop) {Ex F : wm_M → Prop}
    (h120 : ∀ μ, Ex μ → Hd 120 μ) (hno : ∀ j p μ, j < 120 → CTk T n p μ → ¬ ops (tk T n p) = true → Ex μ → Hd j μ)
    (hyes : ∀ j p μ, j < 120 → CTk T n p μ → ops (tk T n p) = true → wm_OkV 0 90 [.ref 59] μ (fun μ1 => wm_OkI e y [.ref 59, .int (nI o)] μ1 (fun r μ2 => (r = 0 → F μ2) ∧ (¬ r = 0 → wm_OkV 0 96 [.ref 59, .int (wk (tk T n p))] μ2 (fun μ3 => Hd (j + 1) μ3)))) → Hd j μ)
    (μ0 : wm_M) : ∀ f p k c μ, f ≤ 120 → CC T n p k c μ → Sm kTp μ0 μ → (∀ q c' ν, lpP (tz T n) ops sub f p c = (true, q, c') → CC T n q k c' ν → Sm kTp μ0 ν → Ex ν) → (∀ q c' ν, lpP (tz T n) ops sub f p c = (false, q, c') → ν.1 59 6 = nI q → Sm kTp μ0 ν → F ν) → Hd (120 - f) μ := by
  intro f
  induction f with
  | zero => intro p k c μ _ hC s h1 _; exact h120 μ (h1 p c μ rfl hC s)
  | succ f ih =>
    intro p k c μ hf hC s h1 h0
    by_cases g : ops (tk T n p) = true
    · have e : ∀ c, lpP (tz T n) ops sub (f + 1) p c = thn sub (thn (wrt (wk (tk T n p))) (lpP (tz T n) ops sub f)) (nx T n p) c := fun c => by
        show (if ops (tk T n p) = true then _ else _) = _
        rw [if_pos g]; rfl
      refine hyes (120 - (f + 1)) p μ (by omega) hC.2.1 g (c_adv hC (ho _ g) fun ν1 hC1 s1 => hs (nx T n p) (k + 1) c ν1 _ hC1 (fun q c' ν2 hp hC2 s2 => ⟨fun z => absurd z n01, fun _ => c_96 _ hC2 fun ν3 hC3 s3 => ?_⟩) (fun q c' ν2 hp h6 s2 => ⟨fun _ => h0 q c' ν2 (by rw [e, thn_F hp]) h6 (s.tr (s1.tr s2)), fun z => absurd rfl z⟩))
      have e2 : lpP (tz T n) ops sub (f + 1) p c = lpP (tz T n) ops sub f q (c' ++ [wk (tk T n p)]) := by rw [e, thn_T hp]; rfl
      have := ih q k (c' ++ [wk (tk T n p)]) ν3 (by omega) hC3 (s.tr (s1.tr (s2.tr s3))) (fun q2 c2 ν hp2 => h1 q2 c2 ν (by rw [e2]; exact hp2)) (fun q2 c2 ν hp2 => h0 q2 c2 ν (by rw [e2]; exact hp2))
      rw [show 120 - (f + 1) + 1 = 120 - f by omega]
      exact this
    · have e : lpP (tz T n) ops sub (f + 1) p c = (true, p, c) := by
        show (if ops (tk T n p) = true then _ else _) = _
        rw [if_neg g]
      exact hno (120 - (f + 1)) p μ (by omega) hC.2.1 g (h1 p c μ e hC s)
theorem wk_sub {t : Nat} : (-100 : Int32) - nI t = wk t := by
  unfold wk
  rw [show (-100 : Int32) = -(nI 100) from by decide, ← nI_add, Int32.neg_add, Int32.sub_eq_add_neg]
theorem j120 {j : Nat} (h : j < 120) : ¬ (120 : Int32) ≤ nI j := nI_ge (a := j) (b := 120) h (by decide)
theorem CR_97 {T n e o} {sub : Ps} (hs : CR T n e 98 o sub) : CR T n e 97 o (orP (tz T n) sub) := by
  intro p k c μ Q hC h1 h0
  refine v_97 _ _ _ (hs p k c μ _ hC (fun q c' ν hp hC' s => ⟨fun z => absurd z n01, fun _ => w_97_10 _ _ _ ?_⟩) (fun q c' ν hp h6 s => ⟨fun _ => ⟨Or.inl rfl, _, rfl, h0 q c' ν (thn_F hp) h6 s⟩, fun z => absurd rfl z⟩))
  refine lp_gen (ops := fun t => Nat.beq t 10) (fun t ht => by have := Nat.eq_of_beq_eq_true ht; omega) hs (fun j κ => wm_Wp e 97 12 [.ref 59, .int (nI o), .int (nI j)] κ (fun v ν => ∃ z, v = some (.int z) ∧ Q z ν)) (Ex := fun κ => Q 1 κ) (F := fun κ => Q 0 κ) (fun κ hx => w_97_12 _ _ _ _ ⟨fun _ => w_97_53 _ _ ⟨Or.inr rfl, _, rfl, hx⟩, fun z => absurd (nI_le (Nat.le_refl 120) (by decide)) z⟩) (fun j p κ hj hk hn hx => w_97_12 _ _ _ _ ⟨fun z => absurd z (j120 hj), fun _ => ⟨fun z => absurd ?_ hn, fun _ => w_97_53 _ _ ⟨Or.inr rfl, _, rfl, hx⟩⟩⟩) (fun j p κ hj hk hy hh => ?_) μ 120 q k c' ν (Nat.le_refl _) hC' s (fun q2 c2 ν2 hp2 => h1 q2 c2 ν2 ((thn_T hp).trans hp2)) (fun q2 c2 ν2 hp2 => h0 q2 c2 ν2 ((thn_T hp).trans hp2))
  · show Nat.beq (tk T n p) 10 = true
    rw [(tk_eq hk 10 (by decide)).mp z]; rfl
  · have et : tk T n p = 10 := Nat.eq_of_beq_eq_true hy
    refine w_97_12 _ _ _ _ ⟨fun z => absurd z (j120 hj), fun _ => ⟨fun _ => wm_OkV.mono hh fun μ1 a => wm_OkI.mono a fun r μ2 b => ⟨fun z => ⟨Or.inl rfl, _, rfl, b.1 z⟩, fun z => w_97_41 _ _ _ _ ?_⟩, fun z => absurd ((tk_eq hk 10 (by decide)).mpr et) z⟩⟩
    have b2 := b.2 z
    rw [et] at b2
    refine wm_OkV.mono b2 fun μ3 d => ?_
    rw [nI_1]; exact d
theorem CR_98 {T n e o} {sub : Ps} (hs : CR T n e 99 o sub) : CR T n e 98 o (andP (tz T n) sub) := by
  intro p k c μ Q hC h1 h0
  refine v_98 _ _ _ (hs p k c μ _ hC (fun q c' ν hp hC' s => ⟨fun z => absurd z n01, fun _ => w_98_10 _ _ _ ?_⟩) (fun q c' ν hp h6 s => ⟨fun _ => ⟨Or.inl rfl, _, rfl, h0 q c' ν (thn_F hp) h6 s⟩, fun z => absurd rfl z⟩))
  refine lp_gen (ops := fun t => Nat.beq t 11) (fun t ht => by have := Nat.eq_of_beq_eq_true ht; omega) hs (fun j κ => wm_Wp e 98 12 [.ref 59, .int (nI o), .int (nI j)] κ (fun v ν => ∃ z, v = some (.int z) ∧ Q z ν)) (Ex := fun κ => Q 1 κ) (F := fun κ => Q 0 κ) (fun κ hx => w_98_12 _ _ _ _ ⟨fun _ => w_98_53 _ _ ⟨Or.inr rfl, _, rfl, hx⟩, fun z => absurd (nI_le (Nat.le_refl 120) (by decide)) z⟩) (fun j p κ hj hk hn hx => w_98_12 _ _ _ _ ⟨fun z => absurd z (j120 hj), fun _ => ⟨fun z => absurd ?_ hn, fun _ => w_98_53 _ _ ⟨Or.inr rfl, _, rfl, hx⟩⟩⟩) (fun j p κ hj hk hy hh => ?_) μ 120 q k c' ν (Nat.le_refl _) hC' s (fun q2 c2 ν2 hp2 => h1 q2 c2 ν2 ((thn_T hp).trans hp2)) (fun q2 c2 ν2 hp2 => h0 q2 c2 ν2 ((thn_T hp).trans hp2))
  · show Nat.beq (tk T n p) 11 = true
    rw [(tk_eq hk 11 (by decide)).mp z]; rfl
  · have et : tk T n p = 11 := Nat.eq_of_beq_eq_true hy
    refine w_98_12 _ _ _ _ ⟨fun z => absurd z (j120 hj), fun _ => ⟨fun _ => wm_OkV.mono hh fun μ1 a => wm_OkI.mono a fun r μ2 b => ⟨fun z => ⟨Or.inl rfl, _, rfl, b.1 z⟩, fun z => w_98_41 _ _ _ _ ?_⟩, fun z => absurd ((tk_eq hk 11 (by decide)).mpr et) z⟩⟩
    have b2 := b.2 z
    rw [et] at b2
    refine wm_OkV.mono b2 fun μ3 d => ?_
    rw [nI_1]; exact d
theorem CR_101 {T n e o} {sub : Ps} (hs : CR T n e 102 o sub) : CR T n e 101 o (sumP (tz T n) sub) := by
  intro p k c μ Q hC h1 h0
  refine v_101 _ _ _ (hs p k c μ _ hC (fun q c' ν hp hC' s => ⟨fun z => absurd z n01, fun _ => w_101_10 _ _ _ ?_⟩) (fun q c' ν hp h6 s => ⟨fun _ => ⟨Or.inl rfl, _, rfl, h0 q c' ν (thn_F hp) h6 s⟩, fun z => absurd rfl z⟩))
  refine lp_gen (ops := fun t => Nat.beq t 43 || Nat.beq t 45) (fun t ht => ?_) hs (fun j κ => wm_Wp e 101 12 [.ref 59, .int (nI o), .int (nI j), .null] κ (fun v ν => ∃ z, v = some (.int z) ∧ Q z ν)) (Ex := fun κ => Q 1 κ) (F := fun κ => Q 0 κ) (fun κ hx => w_101_12 _ _ _ _ ⟨fun _ => w_101_69 _ _ ⟨Or.inr rfl, _, rfl, hx⟩, fun z => absurd (nI_le (Nat.le_refl 120) (by decide)) z⟩) (fun j p κ hj hk hn hx => w_101_12 _ _ _ _ ⟨fun z => absurd z (j120 hj), fun _ => ⟨fun z => absurd ?_ hn, fun _ => ⟨fun z => absurd ?_ hn, fun _ => w_101_69 _ _ ⟨Or.inr rfl, _, rfl, hx⟩⟩⟩⟩) (fun j p κ hj hk hy hh => ?_) μ 120 q k c' ν (Nat.le_refl _) hC' s (fun q2 c2 ν2 hp2 => h1 q2 c2 ν2 ((thn_T hp).trans hp2)) (fun q2 c2 ν2 hp2 => h0 q2 c2 ν2 ((thn_T hp).trans hp2))
  · rw [Bool.or_eq_true] at ht
    rcases ht with ht | ht <;> (have := Nat.eq_of_beq_eq_true ht; omega)
  · show (Nat.beq (tk T n p) 43 || Nat.beq (tk T n p) 45) = true
    rw [(tk_eq hk 43 (by decide)).mp z]; rfl
  · show (Nat.beq (tk T n p) 43 || Nat.beq (tk T n p) 45) = true
    rw [(tk_eq hk 45 (by decide)).mp z]; rfl
  · have key : wm_Wp e 101 36 [.ref 59, .int (nI o), .int (nI j), .null] κ (fun v ν => ∃ z, v = some (.int z) ∧ Q z ν) := by
      refine w_101_36 _ _ _ _ (wm_OkV.mono hh fun μ1 a => wm_OkI.mono a fun r μ2 b => ⟨fun z => ⟨Or.inl rfl, _, rfl, b.1 z⟩, fun z => w_101_55 _ _ _ _ _ ?_⟩)
      rw [hk.2.2.2.1, wk_sub, nI_1]
      exact b.2 z
    have hy : (Nat.beq (tk T n p) 43 || Nat.beq (tk T n p) 45) = true := hy
    refine w_101_12 _ _ _ _ ⟨fun z => absurd z (j120 hj), fun _ => ⟨fun _ => key, fun z1 => ⟨fun _ => key, fun z2 => ?_⟩⟩⟩
    exfalso
    rw [Bool.or_eq_true] at hy
    rcases hy with y1 | y1
    · exact z1 ((tk_eq hk 43 (by decide)).mpr (Nat.eq_of_beq_eq_true y1))
    · exact z2 ((tk_eq hk 45 (by decide)).mpr (Nat.eq_of_beq_eq_true y1))
theorem CR_102 {T n e o} {sub : Ps} (hs : CR T n e 103 o sub) : CR T n e 102 o (termP (tz T n) sub) := by
  intro p k c μ Q hC h1 h0
  refine v_102 _ _ _ (hs p k c μ _ hC (fun q c' ν hp hC' s => ⟨fun z => absurd z n01, fun _ => w_102_10 _ _ _ ?_⟩) (fun q c' ν hp h6 s => ⟨fun _ => ⟨Or.inl rfl, _, rfl, h0 q c' ν (thn_F hp) h6 s⟩, fun z => absurd rfl z⟩))
  refine lp_gen (ops := fun t => Nat.beq t 42 || Nat.beq t 47 || Nat.beq t 37) (fun t ht => ?_) hs (fun j κ => wm_Wp e 102 12 [.ref 59, .int (nI o), .int (nI j), .null] κ (fun v ν => ∃ z, v = some (.int z) ∧ Q z ν)) (Ex := fun κ => Q 1 κ) (F := fun κ => Q 0 κ) (fun κ hx => w_102_12 _ _ _ _ ⟨fun _ => w_102_78 _ _ ⟨Or.inr rfl, _, rfl, hx⟩, fun z => absurd (nI_le (Nat.le_refl 120) (by decide)) z⟩) (fun j p κ hj hk hn hx => w_102_12 _ _ _ _ ⟨fun z => absurd z (j120 hj), fun _ => ⟨fun z => absurd ?_ hn, fun _ => ⟨fun z => absurd ?_ hn, fun _ => ⟨fun z => absurd ?_ hn, fun _ => w_102_78 _ _ ⟨Or.inr rfl, _, rfl, hx⟩⟩⟩⟩⟩) (fun j p κ hj hk hy hh => ?_) μ 120 q k c' ν (Nat.le_refl _) hC' s (fun q2 c2 ν2 hp2 => h1 q2 c2 ν2 ((thn_T hp).trans hp2)) (fun q2 c2 ν2 hp2 => h0 q2 c2 ν2 ((thn_T hp).trans hp2))
  · rw [Bool.or_eq_true, Bool.or_eq_true] at ht
    rcases ht with (ht | ht) | ht <;> (have := Nat.eq_of_beq_eq_true ht; omega)
  · show (Nat.beq (tk T n p) 42 || Nat.beq (tk T n p) 47 || Nat.beq (tk T n p) 37) = true
    rw [(tk_eq hk 42 (by decide)).mp z]; rfl
  · show (Nat.beq (tk T n p) 42 || Nat.beq (tk T n p) 47 || Nat.beq (tk T n p) 37) = true
    rw [(tk_eq hk 47 (by decide)).mp z]; rfl
  · show (Nat.beq (tk T n p) 42 || Nat.beq (tk T n p) 47 || Nat.beq (tk T n p) 37) = true
    rw [(tk_eq hk 37 (by decide)).mp z]; rfl
  · have key : wm_Wp e 102 45 [.ref 59, .int (nI o), .int (nI j), .null] κ (fun v ν => ∃ z, v = some (.int z) ∧ Q z ν) := by
      refine w_102_45 _ _ _ _ (wm_OkV.mono hh fun μ1 a => wm_OkI.mono a fun r μ2 b => ⟨fun z => ⟨Or.inl rfl, _, rfl, b.1 z⟩, fun z => w_102_64 _ _ _ _ _ ?_⟩)
      rw [hk.2.2.2.1, wk_sub, nI_1]
      exact b.2 z
    have hy : (Nat.beq (tk T n p) 42 || Nat.beq (tk T n p) 47 || Nat.beq (tk T n p) 37) = true := hy
    refine w_102_12 _ _ _ _ ⟨fun z => absurd z (j120 hj), fun _ => ⟨fun _ => key, fun z1 => ⟨fun _ => key, fun z2 => ⟨fun _ => key, fun z3 => ?_⟩⟩⟩⟩
    exfalso
    rw [Bool.or_eq_true, Bool.or_eq_true] at hy
    rcases hy with (y1 | y1) | y1
    · exact z1 ((tk_eq hk 42 (by decide)).mpr (Nat.eq_of_beq_eq_true y1))
    · exact z2 ((tk_eq hk 47 (by decide)).mpr (Nat.eq_of_beq_eq_true y1))
    · exact z3 ((tk_eq hk 37 (by decide)).mpr (Nat.eq_of_beq_eq_true y1))
