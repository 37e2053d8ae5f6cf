/-! The class's tape: its tokens. -/
/-- what the readers may change: fields 3, 6 to 9 of the tape, and the code -/
def kq (c i : Nat) : Bool := !(Nat.beq c 59 && (Nat.ble 6 i && Nat.ble i 9))
def kTp (c i : Nat) : Bool := !(Nat.beq c 61) && !(Nat.beq c 59 && (Nat.beq i 3 || (Nat.ble 6 i && Nat.ble i 9)))
theorem kTp_q {c i : Nat} (h : kTp c i = true) : kq c i = true := by
  unfold kTp at h; unfold kq
  simp only [Bool.and_eq_true, Bool.not_eq_true', Bool.and_eq_false_iff, Bool.or_eq_false_iff] at h ⊢
  rcases h.2 with a | a
  · exact Or.inl a
  · exact Or.inr a.2
def CTx (T : Nat → Nat) (n : Nat) (μ : wm_M) : Prop := n ≤ 120 ∧ μ.1 59 1 = nI n ∧ ∀ i, i < n → T i < 256 ∧ μ.1 60 i = nI (T i)
theorem CTx.sm {T n μ ν} (h : CTx T n μ) (e : Sm kTp μ ν) : CTx T n ν := ⟨h.1, (e 59 1 rfl).trans h.2.1, fun i hi => ⟨(h.2.2 i hi).1, (e 60 i rfl).trans (h.2.2 i hi).2⟩⟩
/-- the token at p stands in the tape's fields -/
def CTk (T : Nat → Nat) (n p : Nat) (μ : wm_M) : Prop := p ≤ n ∧ μ.1 59 6 = nI p ∧ μ.1 59 7 = nI (en T n p) ∧ μ.1 59 8 = nI (tk T n p) ∧ (tk T n p = 129 → μ.1 59 9 = nI (nv T n p))
theorem s_94 (b : Nat) (hb : b < 1000) {μ : wm_M} {Q : Int32 → wm_M → Prop} (h : Q (bI (isL b = true)) μ) : wm_OkI 0 94 [.int (nI b)] μ Q := by
  have l1 : nI b < (97 : Int32) ↔ b < 97 := nI_ltI (b := 97) (by omega) (by decide)
  have l2 : (122 : Int32) < nI b ↔ 122 < b := nI_ltI (a := 122) (by decide) (by omega)
  have hf : ¬ (97 ≤ b ∧ b ≤ 122) → wm_Wp 0 94 16 [.null] μ (fun v ν => ∃ z, v = some (.int z) ∧ Q z ν) := fun q => w_94_16 _ _ ⟨Or.inl rfl, _, rfl, by rw [bI_f (fun z => q ((isL_iff b).mp z))] at h; exact h⟩
  refine v_94 _ _ _ ?_
  rw [l1, l2]
  exact ⟨fun q => hf (by omega), fun q => ⟨fun q2 => hf (by omega), fun q2 => ⟨Or.inr rfl, _, rfl, by rw [bI_t ((isL_iff b).mpr (by omega))] at h; exact h⟩⟩⟩
theorem s_95 (b : Nat) (hb : b < 1000) {μ : wm_M} {Q : Int32 → wm_M → Prop} (h : Q (bI (isD b = true)) μ) : wm_OkI 0 95 [.int (nI b)] μ Q := by
  have l1 : nI b < (48 : Int32) ↔ b < 48 := nI_ltI (b := 48) (by omega) (by decide)
  have l2 : (57 : Int32) < nI b ↔ 57 < b := nI_ltI (a := 57) (by decide) (by omega)
  have hf : ¬ (48 ≤ b ∧ b ≤ 57) → wm_Wp 0 95 16 [.null] μ (fun v ν => ∃ z, v = some (.int z) ∧ Q z ν) := fun q => w_95_16 _ _ ⟨Or.inl rfl, _, rfl, by rw [bI_f (fun z => q ((isD_iff b).mp z))] at h; exact h⟩
  refine v_95 _ _ _ ?_
  rw [l1, l2]
  exact ⟨fun q => hf (by omega), fun q => ⟨fun q2 => hf (by omega), fun q2 => ⟨Or.inr rfl, _, rfl, by rw [bI_t ((isD_iff b).mpr (by omega))] at h; exact h⟩⟩⟩
theorem s_92 {T : Nat → Nat} {n : Nat} (f p E : Nat) (hp : p ≤ E) (hE : E ≤ n) (hf : f + (E - p) ≤ 63) {μ : wm_M} {Q : Int32 → wm_M → Prop} (hX : CTx T n μ) (h6 : μ.1 59 6 = nI p) (h7 : μ.1 59 7 = nI E)
    (h1 : (∀ j, j < E - p → T (p + j) = wdB (f + j)) → Q 1 μ) (h0 : ¬ (∀ j, j < E - p → T (p + j) = wdB (f + j)) → Q 0 μ) : wm_OkI 0 92 [.ref 59, .int (nI f)] μ Q := by
  have hn := hX.1
  have lp : ∀ d i, i + d = E → p ≤ i → (∀ j, j < i - p → T (p + j) = wdB (f + j)) → wm_Wp 0 92 5 [.ref 59, .int (nI f), .int (nI i)] μ (fun v ν => ∃ z, v = some (.int z) ∧ Q z ν) := by
    intro d
    induction d with
    | zero =>
      intro i hd hi hj
      have : i = E := by omega
      subst this
      refine w_92_5 _ _ _ _ ⟨fun _ => w_92_43 _ _ ⟨Or.inr rfl, _, rfl, h1 hj⟩, fun q => absurd ?_ q⟩
      rw [h7]; exact nI_le (Nat.le_refl _) (by omega)
    | succ d ih =>
      intro i hd hi hj
      have hiT := hX.2.2 i (by omega)
      refine w_92_5 _ _ _ _ ⟨fun q => absurd q ?_, fun _ => ⟨vp_in_nI (by omega) (by decide), ?_⟩⟩
      · rw [h7]; exact nI_ge (by omega) (by omega)
      rw [h6, nI_add, pk_sub (by omega), nI_clamp (by omega), hiT.2]
      refine s_322_0 (f + i - p) (by omega) ?_
      rw [nI_eq (by omega) (by have := wdB_lt (f + i - p); omega)]
      refine ⟨fun e => w_92_37 _ _ _ _ ?_, fun e => ⟨Or.inl rfl, _, rfl, h0 fun q => e ?_⟩⟩
      · rw [nI_1]
        refine ih (i + 1) (by omega) (by omega) fun j hj' => ?_
        by_cases g : j = i - p
        · rw [g, show p + (i - p) = i by omega, show f + (i - p) = f + i - p by omega]; exact e
        · exact hj j (by omega)
      · have := q (i - p) (by omega)
        rw [show p + (i - p) = i by omega, show f + (i - p) = f + i - p by omega] at this
        exact this
  refine v_92 _ _ _ ?_
  rw [h6]
  exact lp (E - p) p (by omega) (Nat.le_refl _) fun j hj => absurd hj (by omega)
/-- the words' places in the text -/
def wNF : Nat → Nat × Nat
  | 0 => (0, 0)
  | i + 1 => if wdB i = 32 then ((wNF i).1 + 1, i + 1) else wNF i
theorem wNF_sp : ∀ i, i < 63 → wdB i = 32 → ((wNF i).1 < 13 ∧ (wNF i).2 ≤ i ∧ wds.drop (wNF i).1 = ((List.range (i - (wNF i).2)).map (fun j => wdB ((wNF i).2 + j))) :: wds.drop ((wNF i).1 + 1)) := by decide +kernel
theorem wNF_le : ∀ i, i < 64 → (wNF i).1 ≤ 13 ∧ (wNF i).2 ≤ i := by decide +kernel
theorem wNF_63 : wNF 63 = (13, 63) := by decide +kernel
theorem sl_word {T : Nat → Nat} {p k f m : Nat} : sl_ T p k = (List.range m).map (fun j => wdB (f + j)) ↔ (m = k ∧ ∀ j, j < k → T (p + j) = wdB (f + j)) := by
  constructor
  · intro h
    have hl := congrArg List.length h
    rw [sl_len, List.length_map, List.length_range] at hl
    refine ⟨hl.symm, fun j hj => ?_⟩
    have hg : (sl_ T p k).getD j 0 = ((List.range m).map (fun j => wdB (f + j))).getD j 0 := congrArg (fun l => List.getD l j 0) h
    rw [sl_get T p k j hj] at hg
    rw [hg, List.getD_eq_getElem?_getD, List.getElem?_map, List.getElem?_range (by omega)]
    rfl
  · rintro ⟨h1, h2⟩
    subst h1
    unfold sl_
    exact List.map_congr_left fun j hj => h2 j (List.mem_range.mp hj)
theorem c_91 {T : Nat → Nat} {n : Nat} (p : Nat) (hp : p < n) (hl : isL (T p) = true) {μ : wm_M} {Q : wm_M → Prop} (hX : CTx T n μ) (h6 : μ.1 59 6 = nI p) (h7 : μ.1 59 7 = nI p)
    (h : ∀ ν, Sm kq μ ν → CTk T n p ν → Q ν) : wm_OkV 0 91 [.ref 59] μ Q := by
  have hn := hX.1
  have eE : en T n p = adv isL T n n p := by unfold en; rw [if_neg (by omega), if_pos hl]
  have eT : tk T n p = wix (sl_ T p (en T n p - p)) 0 wds := by unfold tk; rw [if_neg (by omega), if_pos hl]
  have hE := adv_le isL T n n p (by omega)
  have hpE := adv_ge isL T n n p
  have n129 : tk T n p = 129 → False := by
    rw [eT]
    have : ∀ (l : List Nat) (r : List (List Nat)) i, i + r.length ≤ 13 → wix l i r ≠ 129 := by
      intro l r
      induction r with
      | nil => intro i _; exact (by decide : (130 : Nat) ≠ 129)
      | cons w r ih =>
        intro i hi
        rw [List.length_cons] at hi
        show (if l = w then i else wix l (i + 1) r) ≠ 129
        split
        · omega
        · exact ih (i + 1) (by omega)
    exact fun q => this _ wds 0 (by decide) q
  have fin : ∀ ν : wm_M, Sm kq μ ν → ν.1 59 6 = nI p → ν.1 59 7 = nI (en T n p) → ν.1 59 8 = nI (tk T n p) → Q ν := fun ν a b c d => h ν a ⟨by omega, b, c, d, fun q => (n129 q).elim⟩
  have kXq : ∀ ν, Sm kq μ ν → CTx T n ν := fun ν s => hX.sm (s.le (fun _ _ q => kTp_q q))
  have l52 : ∀ (κ : wm_M), Sm kq μ κ → κ.1 59 6 = nI p → κ.1 59 7 = nI (en T n p) → κ.1 59 8 = nI 130 → ∀ d i, i + d = 63 → wix (sl_ T p (en T n p - p)) (wNF i).1 (wds.drop (wNF i).1) = wix (sl_ T p (en T n p - p)) 0 wds →
      wm_Wp 0 91 52 [.ref 59, .int (nI (wNF i).1), .int (nI (wNF i).2), .int (nI i)] κ (fun v ν => v = none ∧ Q ν) := by
    intro κ s6 k6 k7 k8 d
    induction d with
    | zero =>
      intro i hd hw
      have : i = 63 := by omega
      subst this
      refine w_91_52 _ _ _ _ _ (s_321_0 ⟨fun _ => w_91_114 _ _ ⟨rfl, fin κ s6 k6 k7 ?_⟩, fun q => absurd (nI_le (Nat.le_refl 63) (by decide)) q⟩)
      rw [k8, eT, ← hw, wNF_63]; rfl
    | succ d ih =>
      intro i hd hw
      have hi : i < 63 := by omega
      obtain ⟨q1, q2⟩ := wNF_le i (by omega)
      refine w_91_52 _ _ _ _ _ (s_321_0 ⟨fun q => absurd q (nI_ge (a := i) (b := 63) (by omega) (by decide)), fun _ => s_322_0 i hi ?_⟩)
      rw [show (32 : Int32) = nI 32 from rfl, nI_eq (by have := wdB_lt i; omega) (by decide), k6, k7, pk_sub q2, pk_sub (by omega), nI_eq (by omega) (by omega)]
      have next : ¬ (wdB i = 32 ∧ sl_ T p (en T n p - p) = (List.range (i - (wNF i).2)).map (fun j => wdB ((wNF i).2 + j))) → wix (sl_ T p (en T n p - p)) (wNF (i + 1)).1 (wds.drop (wNF (i + 1)).1) = wix (sl_ T p (en T n p - p)) 0 wds := by
        intro hne
        show wix _ (if wdB i = 32 then ((wNF i).1 + 1, i + 1) else wNF i).1 (wds.drop (if wdB i = 32 then ((wNF i).1 + 1, i + 1) else wNF i).1) = _
        by_cases s : wdB i = 32
        · rw [if_pos s]
          obtain ⟨a1, a2, a3⟩ := wNF_sp i hi s
          rw [← hw, a3]
          show _ = (if sl_ T p (en T n p - p) = _ then (wNF i).1 else wix _ ((wNF i).1 + 1) _)
          rw [if_neg (fun z => hne ⟨s, z⟩)]
        · rw [if_neg s]; exact hw
      refine ⟨fun s => ?_, fun s => w_91_108 _ _ _ _ _ ?_⟩
      · obtain ⟨a1, a2, a3⟩ := wNF_sp i hi s
        have go : ¬ (wdB i = 32 ∧ sl_ T p (en T n p - p) = (List.range (i - (wNF i).2)).map (fun j => wdB ((wNF i).2 + j))) → wm_Wp 0 91 101 [.ref 59, .int (nI (wNF i).1), .null, .int (nI i)] κ (fun v ν => v = none ∧ Q ν) := by
          intro hne
          refine w_91_101 _ _ _ _ (w_91_108 _ _ _ _ _ ?_)
          have e1 : wNF (i + 1) = ((wNF i).1 + 1, i + 1) := by show (if wdB i = 32 then ((wNF i).1 + 1, i + 1) else wNF i) = _; rw [if_pos s]
          have := ih (i + 1) (by omega) (next hne)
          rw [e1] at this
          rw [nI_1, nI_1]
          exact this
        refine ⟨fun len => s_92 (wNF i).2 p (en T n p) (by omega) (by omega) (by omega) (kXq κ s6) k6 k7 (fun hs => ⟨fun q => absurd q (by decide), fun _ => ⟨rfl, fin _ (s6.si rfl) k6 k7 ?_⟩⟩) (fun hs => ⟨fun _ => go fun z => hs (sl_word.mp z.2).2, fun q => absurd rfl q⟩), fun len => go fun z => len (sl_word.mp z.2).1⟩
        show nI (wNF i).1 = _
        rw [eT, ← hw, a3]
        show _ = nI (if sl_ T p (en T n p - p) = _ then (wNF i).1 else wix _ ((wNF i).1 + 1) _)
        rw [if_pos (sl_word.mpr ⟨len, hs⟩)]
      · have e1 : wNF (i + 1) = wNF i := by show (if wdB i = 32 then ((wNF i).1 + 1, i + 1) else wNF i) = _; rw [if_neg s]
        have := ih (i + 1) (by omega) (next (fun z => s z.1))
        rw [e1] at this
        rw [nI_1]
        exact this
  have fin39 : ∀ (κ : wm_M), Sm kq μ κ → κ.1 59 6 = nI p → κ.1 59 7 = nI (en T n p) → wm_Wp 0 91 39 [.ref 59, .null, .null, .null] κ (fun v ν => v = none ∧ Q ν) := fun κ s k6 k7 =>
    w_91_39 _ _ (l52 (wm_si κ 59 8 130) (s.si rfl) k6 k7 rfl 63 0 (by omega) rfl)
  have l0 : ∀ d k (κ : wm_M), k + d = n → p ≤ k → Sm kq μ κ → κ.1 59 6 = nI p → κ.1 59 7 = nI k → adv isL T n n p = adv isL T n n k → wm_Wp 0 91 0 [.ref 59, .null, .null, .null] κ (fun v ν => v = none ∧ Q ν) := by
    intro d
    induction d with
    | zero =>
      intro k κ hd hk s k6 k7 ha
      have : k = n := by omega
      subst this
      refine w_91_0 _ _ ⟨fun _ => fin39 κ s k6 ?_, fun q => absurd ?_ q⟩
      · rw [k7, eE, ha, adv_no (fun z => by have := z.1; omega)]
      · rw [(kXq κ s).2.1, k7]; exact nI_le (Nat.le_refl _) (by omega)
    | succ d ih =>
      intro k κ hd hk s k6 k7 ha
      have hkT := (kXq κ s).2.2 k (by omega)
      refine w_91_0 _ _ ⟨fun q => absurd q ?_, fun _ => ?_⟩
      · rw [(kXq κ s).2.1, k7]; exact nI_ge (by omega) (by omega)
      rw [k7, nI_clamp (by omega), hkT.2]
      refine ⟨vp_in_nI (by omega) (by decide), s_94 (T k) (by omega) ⟨fun z => fin39 κ s k6 ?_, fun z => ?_⟩⟩
      · rw [k7, eE, ha, adv_no (fun y => (bI_0.mp z) y.2)]
      · rw [k7, nI_1]
        exact ih (k + 1) _ (by omega) (by omega) (s.si rfl) k6 rfl (by rw [ha, adv_yes (by omega) (nz z)])
  exact v_91 _ _ (l0 (n - p) p μ (by omega) (Nat.le_refl _) (Sm.rf _ _) h6 h7 rfl)
theorem c_93 {T : Nat → Nat} {n : Nat} (p : Nat) (hp : p < n) (hl : ¬ isL (T p) = true) (hdg : isD (T p) = true) {μ : wm_M} {Q : wm_M → Prop} (hX : CTx T n μ) (h6 : μ.1 59 6 = nI p) (h7 : μ.1 59 7 = nI p)
    (h : ∀ ν, Sm kq μ ν → CTk T n p ν → Q ν) : wm_OkV 0 93 [.ref 59] μ Q := by
  have hn := hX.1
  have eE : en T n p = adv isD T n n p := by unfold en; rw [if_neg (by omega), if_neg hl, if_pos hdg]
  have eT : tk T n p = if 5 < en T n p - p then 130 else 129 := by unfold tk; rw [if_neg (by omega), if_neg hl, if_pos hdg]
  have hE := adv_le isD T n n p (by omega)
  have hpE := adv_ge isD T n n p
  have kXq : ∀ ν, Sm kq μ ν → CTx T n ν := fun ν s => hX.sm (s.le (fun _ _ q => kTp_q q))
  have fin : ∀ (κ : wm_M), Sm kq μ κ → κ.1 59 6 = nI p → κ.1 59 7 = nI (en T n p) → κ.1 59 9 = nI (nv T n p) → wm_Wp 0 93 68 [.ref 59] κ (fun v ν => v = none ∧ Q ν) := by
    intro κ s k6 k7 k9
    refine w_93_68 _ _ ?_
    rw [k6, k7, pk_sub (by omega), show (5 : Int32) = nI 5 from rfl, nI_leI (by omega) (by decide)]
    refine ⟨fun q => ⟨rfl, h _ (s.si rfl) ⟨by omega, k6, k7, ?_, fun _ => k9⟩⟩, fun q => ⟨rfl, h _ (s.si rfl) ⟨by omega, k6, k7, ?_, fun z => ?_⟩⟩⟩
    · show (129 : Int32) = _; rw [eT, if_neg (by omega)]; rfl
    · show (130 : Int32) = _; rw [eT, if_pos (by omega)]; rfl
    · rw [eT, if_pos (by omega)] at z; exact absurd z (by decide)
  have l5 : ∀ d k (κ : wm_M), p + k + d = n → Sm kq μ κ → κ.1 59 6 = nI p → κ.1 59 7 = nI (p + k) → κ.1 59 9 = nI (nvF T p k) → adv isD T n n p = adv isD T n n (p + k) → wm_Wp 0 93 5 [.ref 59] κ (fun v ν => v = none ∧ Q ν) := by
    intro d
    induction d with
    | zero =>
      intro k κ hd s k6 k7 k9 ha
      have e1 : en T n p = p + k := by rw [eE, ha, adv_no (fun z => by have := z.1; omega)]
      refine w_93_5 _ _ ⟨fun _ => fin κ s k6 (by rw [k7, e1]) ?_, fun q => absurd ?_ q⟩
      · rw [k9]; unfold nv; rw [e1, Nat.add_sub_cancel_left]
      · rw [(kXq κ s).2.1, k7]; exact nI_le (by omega) (by omega)
    | succ d ih =>
      intro k κ hd s k6 k7 k9 ha
      have hkT := (kXq κ s).2.2 (p + k) (by omega)
      refine w_93_5 _ _ ⟨fun q => absurd q ?_, fun _ => ?_⟩
      · rw [(kXq κ s).2.1, k7]; exact nI_ge (by omega) (by omega)
      rw [k7, nI_clamp (by omega), hkT.2]
      refine ⟨vp_in_nI (by omega) (by decide), s_95 (T (p + k)) (by omega) ⟨fun z => ?_, fun z => ?_⟩⟩
      · have e1 : en T n p = p + k := by rw [eE, ha, adv_no (fun y => (bI_0.mp z) y.2)]
        refine fin κ s k6 (by rw [k7, e1]) ?_
        rw [k9]; unfold nv; rw [e1, Nat.add_sub_cancel_left]
      · have hd' := (isD_iff _).mp (nz z)
        rw [k7, nI_clamp (by omega), hkT.2, k9]
        refine ⟨vp_in_nI (by omega) (by decide), ih (k + 1) _ (by omega) ((s.si rfl).si rfl) k6 ?_ ?_ (by rw [ha, adv_yes (by omega) (nz z)]; rfl)⟩
        · show κ.1 59 7 + 1 = _
          rw [k7, nI_1]; rfl
        · show nI (nvF T p k) * 10 + nI (T (p + k)) - 48 = _
          rw [show (10 : Int32) = nI 10 from rfl, pk_mul, nI_add, show (48 : Int32) = nI 48 from rfl, pk_sub (by omega)]
          congr 1
          show _ = nvF T p k * 10 + (T (p + k) - 48)
          omega
  exact v_93 _ _ (l5 (n - p) 0 _ (by omega) ((Sm.rf _ _).si rfl) h6 h7 rfl rfl)
/-- advance: the next token from where the last ended -/
theorem c_90 {T : Nat → Nat} {n : Nat} (q : Nat) (hq : q ≤ n) {μ : wm_M} {Q : wm_M → Prop} (hX : CTx T n μ) (h7 : μ.1 59 7 = nI q)
    (h : ∀ ν, Sm kq μ ν → CTk T n (sk T n q) ν → Q ν) : wm_OkV 0 90 [.ref 59] μ Q := by
  have hn := hX.1
  have kXq : ∀ ν, Sm kq μ ν → CTx T n ν := fun ν s => hX.sm (s.le (fun _ _ q => kTp_q q))
  have hs := sk_le T n q hq
  have done : ∀ p, p = sk T n q → ∀ κ : wm_M, Sm kq μ κ → κ.1 59 6 = nI p → wm_Wp 0 90 46 [.ref 59] κ (fun v ν => v = none ∧ Q ν) := by
    intro p ep κ s k6
    subst ep
    generalize hp0 : sk T n q = p at *
    have h' : ∀ ν, Sm kq μ ν → CTk T n p ν → Q ν := h
    refine w_90_46 _ _ ?_
    rw [show (wm_si κ 59 7 (κ.1 59 6)).1 59 6 = κ.1 59 6 from rfl, show (wm_si κ 59 7 (κ.1 59 6)).1 59 1 = κ.1 59 1 from rfl, k6, (kXq κ s).2.1, nI_eq (by omega) (by omega)]
    have s7 : Sm kq μ (wm_si κ 59 7 (nI p)) := s.si rfl
    refine ⟨fun e => w_90_166 _ _ ⟨rfl, h' _ (s7.si rfl) ⟨hs, k6, ?_, ?_, fun z => ?_⟩⟩, fun e => ?_⟩
    · show nI p = nI (en T n p)
      unfold en; rw [if_pos (by omega)]
    · show (128 : Int32) = nI (tk T n p)
      unfold tk; rw [if_pos (by omega)]; rfl
    · unfold tk at z; rw [if_pos (by omega)] at z; exact absurd z (by decide)
    · have hp : p < n := by omega
      have hpT := (kXq _ s7).2.2 p hp
      have k6' : (wm_si κ 59 7 (nI p)).1 59 6 = nI p := k6
      refine w_90_75 _ _ ?_
      rw [k6', nI_clamp (by omega), hpT.2]
      refine ⟨vp_in_nI (by omega) (by decide), s_94 (T p) (by omega) ⟨fun z => w_90_97 _ _ ?_, fun z => c_91 p hp (nz z) (kXq _ s7) k6' rfl (fun ν sν cν => w_90_166 _ _ ⟨rfl, h' ν (s7.tr sν) cν⟩)⟩⟩
      rw [k6', nI_clamp (by omega), hpT.2]
      refine ⟨vp_in_nI (by omega) (by decide), s_95 (T p) (by omega) ⟨fun y => w_90_119 _ _ ?_, fun y => c_93 p hp (bI_0.mp z) (nz y) (kXq _ s7) k6' rfl (fun ν sν cν => w_90_166 _ _ ⟨rfl, h' ν (s7.tr sν) cν⟩)⟩⟩
      have s8 : Sm kq μ (wm_si (wm_si κ 59 7 (nI p)) 59 7 (nI p + 1)) := s7.si rfl
      have k68 : (wm_si (wm_si κ 59 7 (nI p)) 59 7 (nI p + 1)).1 59 6 = nI p := k6
      have hpT8 := (kXq _ s8).2.2 p hp
      rw [k6', k68, nI_clamp (by omega), hpT8.2, i2c_b _ hpT.1]
      have eE : en T n p = p + 1 := by unfold en; rw [if_neg (by omega), if_neg (bI_0.mp z), if_neg (bI_0.mp y)]
      have eT : tk T n p = if T p ∈ sgn then T p else 130 := by unfold tk; rw [if_neg (by omega), if_neg (bI_0.mp z), if_neg (bI_0.mp y)]
      have n129 : tk T n p = 129 → False := by
        rw [eT]
        split
        · rename_i hm
          intro q'
          rw [q'] at hm
          exact absurd hm (by decide)
        · decide
      have e7 : ∀ x : Int32, (wm_si (wm_si (wm_si κ 59 7 (nI p)) 59 7 (nI p + 1)) 59 8 x).1 59 7 = nI (en T n p) := fun x => by
        show nI p + 1 = _
        rw [eE, nI_1]
      refine ⟨vp_in_nI (by omega) (by decide), s_323_1 (T p) hpT.1 (fun hm i hi => ⟨fun w => absurd w ?_, fun _ => ?_⟩) (fun hm => ⟨fun _ => w_90_166 _ _ ⟨rfl, h' _ (s8.si rfl) ⟨hs, k6, e7 _, ?_, fun w => (n129 w).elim⟩⟩, fun w => absurd (by decide +kernel) w⟩)⟩
      · intro w
        have := (nI_ltI (b := 0) (by omega) (by decide)).mp w
        omega
      · rw [k68, nI_clamp (by omega), hpT8.2]
        refine ⟨vp_in_nI (by omega) (by decide), w_90_166 _ _ ⟨rfl, h' _ (s8.si rfl) ⟨hs, k6, e7 _, ?_, fun w => (n129 w).elim⟩⟩⟩
        show nI (T p) = _
        rw [eT, if_pos hm]
      · show (130 : Int32) = _
        rw [eT, if_neg hm]; rfl
  have l8 : ∀ d k (κ : wm_M), k + d = n → Sm kq μ κ → κ.1 59 6 = nI k → sk T n q = adv (fun b => Nat.beq b 32) T n n k → wm_Wp 0 90 8 [.ref 59] κ (fun v ν => v = none ∧ Q ν) := by
    intro d
    induction d with
    | zero =>
      intro k κ hd s k6 ha
      have : k = n := by omega
      subst this
      refine w_90_8 _ _ ⟨fun _ => done k ?_ κ s k6, fun q => absurd ?_ q⟩
      · rw [ha, adv_no (fun z => by have := z.1; omega)]
      · rw [(kXq κ s).2.1, k6]; exact nI_le (Nat.le_refl _) (by omega)
    | succ d ih =>
      intro k κ hd s k6 ha
      have hkT := (kXq κ s).2.2 k (by omega)
      refine w_90_8 _ _ ⟨fun q => absurd q ?_, fun _ => ?_⟩
      · rw [(kXq κ s).2.1, k6]; exact nI_ge (by omega) (by omega)
      rw [k6, nI_clamp (by omega), hkT.2, show (32 : Int32) = nI 32 from rfl, nI_eq (by omega) (by decide), nI_1]
      refine ⟨vp_in_nI (by omega) (by decide), fun z => ih (k + 1) _ (by omega) (s.si rfl) rfl ?_, fun z => done k ?_ κ s k6⟩
      · rw [ha]; exact adv_yes (q := fun b => Nat.beq b 32) (show k < n by omega) (by show Nat.beq (T k) 32 = true; rw [z]; rfl)
      · rw [ha, adv_no (fun y => z (Nat.eq_of_beq_eq_true y.2))]
  refine v_90 _ _ ?_
  rw [h7]
  exact l8 (n - q) q _ (by omega) ((Sm.rf _ _).si rfl) rfl rfl
