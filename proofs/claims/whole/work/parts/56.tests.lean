/-! ===== which token it is ===== -/
theorem wix_ge (l : List Nat) : ∀ (ws : List (List Nat)) (s : Nat), s + ws.length ≤ 130 → s ≤ wix l s ws
  | [], s, h => by unfold wix; simp at h; omega
  | w :: r, s, h => by
    unfold wix
    simp only [List.length_cons] at h
    split
    · exact Nat.le_refl s
    · have := wix_ge l r (s + 1) (by omega); omega
theorem wix_to (l : List Nat) : ∀ (ws : List (List Nat)) (s j : Nat), s + ws.length ≤ 130 → j < ws.length → wix l s ws = s + j → l = ws.getD j []
  | [], s, j, h, hj, e => by simp at hj
  | w :: r, s, j, h, hj, e => by
    unfold wix at e
    simp only [List.length_cons] at h hj
    split at e
    · rename_i q
      have : j = 0 := by omega
      subst this
      exact q
    · have g := wix_ge l r (s + 1) (by omega)
      cases j with
      | zero => omega
      | succ j => exact wix_to l r (s + 1) j (by omega) (by omega) (by omega)
theorem wix_of (l : List Nat) : ∀ (ws : List (List Nat)) (s j : Nat), j < ws.length → (∀ i, i < j → ws.getD i [] ≠ ws.getD j []) → l = ws.getD j [] → wix l s ws = s + j
  | [], s, j, hj, _, _ => by simp at hj
  | w :: r, s, j, hj, hd, e => by
    unfold wix
    simp only [List.length_cons] at hj
    cases j with
    | zero => exact if_pos e
    | succ j =>
      have : l ≠ w := fun q => hd 0 (by omega) (q.symm.trans e)
      rw [if_neg this, wix_of l r (s + 1) j (by omega) (fun i hi => hd (i + 1) (by omega)) e]
      omega
theorem wds_dis : ∀ j, j < 13 → ∀ i, i < j → wds.getD i [] ≠ wds.getD j [] := by decide +kernel
theorem wix_iff (l : List Nat) {i : Nat} (hi : i < 13) : wix l 0 wds = i ↔ l = wds.getD i [] :=
  ⟨fun h => wix_to l wds 0 i (by decide) hi (by omega), fun h => by rw [wix_of l wds 0 i hi (wds_dis i hi) h]; omega⟩
theorem wix_130 (l : List Nat) : wix l 0 wds < 13 ∨ wix l 0 wds = 130 := by
  have : ∀ (ws : List (List Nat)) (s : Nat), wix l s ws < s + ws.length ∨ wix l s ws = 130 := by
    intro ws
    induction ws with
    | nil => intro s; exact Or.inr rfl
    | cons w r ih =>
      intro s
      unfold wix
      simp only [List.length_cons]
      split
      · exact Or.inl (by omega)
      · rcases ih (s + 1) with h | h
        · exact Or.inl (by omega)
        · exact Or.inr h
  exact this wds 0
def wS (i : Nat) : Nat → Nat := fun j => (wds.getD i []).getD j 0
theorem wS_L : ∀ i, i < 13 → ∀ j, j < (wds.getD i []).length → isL (wS i (0 + j)) = true := by decide +kernel
theorem wS_len : ∀ i, i < 13 → (wds.getD i []).length ≤ 7 := by decide +kernel
def wh (i : Nat) : Nat := hF (wS i) 0 (wds.getD i []).length
theorem wh_lt : ∀ i, i < 13 → wh i < 27 ^ 8 := by decide +kernel
theorem sl_len (T : Nat → Nat) (p k : Nat) : (sl_ T p k).length = k := by unfold sl_; simp
theorem sl_get (T : Nat → Nat) (p k i : Nat) (hi : i < k) : (sl_ T p k).getD i 0 = T (p + i) := by
  unfold sl_
  rw [List.getD_eq_getElem?_getD, List.getElem?_map, List.getElem?_range hi]; rfl
theorem sl_eq {T : Nat → Nat} {p k : Nat} {l : List Nat} (hk : k = l.length) (h : ∀ i, i < k → T (p + i) = l.getD i 0) : sl_ T p k = l := by
  apply List.ext_getElem?
  intro i
  by_cases hi : i < k
  · unfold sl_
    rw [List.getElem?_map, List.getElem?_range hi]
    have hi2 : i < l.length := by omega
    rw [List.getElem?_eq_getElem hi2]
    have := h i hi
    rw [List.getD_eq_getElem?_getD, List.getElem?_eq_getElem hi2] at this
    show some (T (p + i)) = some l[i]
    rw [this]; rfl
  · rw [List.getElem?_eq_none (by rw [sl_len]; omega), List.getElem?_eq_none (by omega)]
theorem tk_word {T : Nat → Nat} {n p : Nat} (hp : p < n) (hl : isL (T p) = true) : tk T n p = wix (sl_ T p (en T n p - p)) 0 wds := by
  unfold tk; rw [if_neg (by omega), if_pos hl]
theorem word_iff {T : Nat → Nat} {n p i : Nat} (hi : i < 13) (hp : p < n) (hl : isL (T p) = true) : wF T p (en T n p - p) = lN (wh i) ↔ tk T n p = i := by
  have een := tk_L hp hl
  have hL : ∀ j, j < en T n p - p → isL (T (p + j)) = true := fun j hj => adv_q isL T n n p (p + j) (by omega) (by rw [← een]; omega)
  have w7 := wS_len i hi
  rw [tk_word hp hl, wix_iff _ hi]
  unfold wF
  by_cases h8 : en T n p - p ≤ 8
  · rw [if_pos h8]
    have b1 := hF_lt (en T n p - p) hL
    have b2 : 27 ^ (en T n p - p) ≤ 27 ^ 8 := Nat.pow_le_pow_right (by decide) h8
    have b3 := wh_lt i hi
    have c27 : (27 : Nat) ^ 8 < 2 ^ 63 := by decide
    rw [pk_lEQ (by omega) (by omega)]
    refine ⟨fun e => ?_, fun e => ?_⟩
    · obtain ⟨a, b⟩ := hF_inj _ _ hL (wS_L i hi) e
      exact sl_eq a (fun j hj => by rw [b j hj, Nat.zero_add]; rfl)
    · have hk : en T n p - p = (wds.getD i []).length := by rw [← e, sl_len]
      unfold wh
      have : ∀ j, j < en T n p - p → T (p + j) = wS i (0 + j) := fun j hj => by
        rw [Nat.zero_add, ← sl_get T p _ j hj, e]; rfl
      rw [← hk]
      have hc : ∀ k, k ≤ en T n p - p → hF T p k = hF (wS i) 0 k := by
        intro k
        induction k with
        | zero => intro _; rfl
        | succ k ih => intro hk; unfold hF; rw [ih (by omega), this k (by omega)]
      exact hc _ (Nat.le_refl _)
  · rw [if_neg h8]
    have b3 := wh_lt i hi
    have c27 : (27 : Nat) ^ 8 < 2 ^ 63 := by decide
    refine ⟨fun e => ?_, fun e => ?_⟩
    · have := congrArg Int64.toInt e
      rw [pk_lT (by omega), show (-1 : Int64).toInt = -1 from by decide +kernel] at this
      omega
    · have : en T n p - p = (wds.getD i []).length := by rw [← e, sl_len]
      omega
theorem KD_tk {T : Nat → Nat} {n p : Nat} {t : Int32} {w : Int64} (h : KD T n p t w) : (t = 0 ∧ tk T n p = 128) ∨ (t = 1 ∧ p < n ∧ isL (T p) = true ∧ w = wF T p (en T n p - p) ∧ (tk T n p < 13 ∨ tk T n p = 130)) ∨ (t = 2 ∧ tk T n p = 129 ∧ w = lN (nv T n p)) ∨ (t = 3 ∧ tk T n p = T p ∧ T p ∈ sgn ∧ w = lN (T p)) ∨ (t = 4 ∧ tk T n p = 130) := by
  rcases h with ⟨a, b⟩ | ⟨a, b, c, d⟩ | ⟨a, b, c, ⟨d, e, f⟩ | ⟨d, e⟩⟩ | ⟨a, b, c, ⟨d, e, f⟩ | ⟨d, e⟩⟩
  · exact Or.inl ⟨b, if_pos a⟩
  · exact Or.inr (Or.inl ⟨c, a, b, d, by rw [tk_word a b]; exact wix_130 _⟩)
  · exact Or.inr (Or.inr (Or.inl ⟨e, by unfold tk; rw [if_neg (by omega), if_neg b, if_pos c, if_neg (by omega)], f⟩))
  · exact Or.inr (Or.inr (Or.inr (Or.inr ⟨e, by unfold tk; rw [if_neg (by omega), if_neg b, if_pos c, if_pos d]⟩)))
  · exact Or.inr (Or.inr (Or.inr (Or.inl ⟨e, by unfold tk; rw [if_neg (by omega), if_neg b, if_neg c, if_pos d], d, f⟩)))
  · exact Or.inr (Or.inr (Or.inr (Or.inr ⟨e, by unfold tk; rw [if_neg (by omega), if_neg b, if_neg c, if_neg d]⟩)))
theorem sgn_rng : ∀ x ∈ sgn, 37 ≤ x ∧ x ≤ 62 := by decide
theorem m_228 {T : Nat → Nat} {n p : Nat} (i : Nat) (hi : i < 13) (c : Int64) (hc : c = lN (wh i)) {μ : wm_M} {Q : Int32 → wm_M → Prop} (hK : TK T n p μ) (hb : μ.1 89 12 = 0) (h1 : tk T n p = i → Q 1 μ) (h0 : ¬ tk T n p = i → Q 0 μ) : wm_OkI 0 228 [.ref 89, .long c] μ Q := by
  refine v_228 _ _ _ ⟨fun _ => ⟨fun z => ⟨fun y => ⟨o01, _, rfl, h1 ?_⟩, fun y => w_228_28 _ _ ⟨z01, _, rfl, h0 ?_⟩⟩, fun z => w_228_28 _ _ ⟨z01, _, rfl, h0 ?_⟩⟩, fun q => absurd hb q⟩
  · have y := (lg_cmp_eq _ _).mp y
    rcases KD_tk hK.2.2.2 with ⟨a, b⟩ | ⟨a, b1, b2, b3, b⟩ | ⟨a, b, d⟩ | ⟨a, b, d⟩ | ⟨a, b⟩
    · rw [a] at z; exact absurd z (by decide)
    · exact (word_iff hi b1 b2).mp (by rw [← b3, y, hc])
    · rw [a] at z; exact absurd z (by decide)
    · rw [a] at z; exact absurd z (by decide)
    · rw [a] at z; exact absurd z (by decide)
  · intro q
    rcases KD_tk hK.2.2.2 with ⟨a, b⟩ | ⟨a, b1, b2, b3, b⟩ | ⟨a, b, d⟩ | ⟨a, b, d⟩ | ⟨a, b⟩
    · rw [a] at z; exact absurd z (by decide)
    · exact y ((lg_cmp_eq _ _).mpr (by rw [b3, hc]; exact (word_iff hi b1 b2).mpr q))
    · rw [a] at z; exact absurd z (by decide)
    · rw [a] at z; exact absurd z (by decide)
    · rw [a] at z; exact absurd z (by decide)
  · intro q
    rcases KD_tk hK.2.2.2 with ⟨a, b⟩ | ⟨a, b1, b2, b3, b⟩ | ⟨a, b, d⟩ | ⟨a, b, d1, d2⟩ | ⟨a, b⟩
    · omega
    · exact z a
    · omega
    · have := sgn_rng _ d1; omega
    · omega
theorem m_228b (c : Int64) {μ : wm_M} {Q : Int32 → wm_M → Prop} (hb : ¬ μ.1 89 12 = 0) (h0 : Q 0 μ) : wm_OkI 0 228 [.ref 89, .long c] μ Q := v_228 _ _ _ ⟨fun q => absurd q hb, fun _ => w_228_28 _ _ ⟨z01, _, rfl, h0⟩⟩
theorem m_229 {T : Nat → Nat} {n p : Nat} (b : Nat) (hbs : b ∈ sgn) {μ : wm_M} {Q : Int32 → wm_M → Prop} (hX : TX T n μ) (hK : TK T n p μ) (hb : μ.1 89 12 = 0) (h1 : tk T n p = b → Q 1 μ) (h0 : ¬ tk T n p = b → Q 0 μ) : wm_OkI 0 229 [.ref 89, .int (nI b)] μ Q := by
  have br := sgn_rng _ hbs
  refine v_229 _ _ _ ⟨fun _ => ⟨fun z => ⟨fun y => ⟨o01, _, rfl, h1 ?_⟩, fun y => w_229_29 _ _ ⟨z01, _, rfl, h0 ?_⟩⟩, fun z => w_229_29 _ _ ⟨z01, _, rfl, h0 ?_⟩⟩, fun q => absurd hb q⟩
  · have y := (lg_cmp_eq _ _).mp y
    rw [nI_l (by omega)] at y
    rcases KD_tk hK.2.2.2 with ⟨a, _⟩ | ⟨a, _⟩ | ⟨a, _⟩ | ⟨a, e, d1, d2⟩ | ⟨a, _⟩
    · rw [a] at z; exact absurd z (by decide)
    · rw [a] at z; exact absurd z (by decide)
    · rw [a] at z; exact absurd z (by decide)
    · have := sgn_rng _ d1
      rw [d2] at y
      rw [e]; exact (pk_lEQ (by omega) (by omega)).mp y
    · rw [a] at z; exact absurd z (by decide)
  · intro q
    rcases KD_tk hK.2.2.2 with ⟨a, _⟩ | ⟨a, _⟩ | ⟨a, _⟩ | ⟨a, e, d1, d2⟩ | ⟨a, _⟩
    · rw [a] at z; exact absurd z (by decide)
    · rw [a] at z; exact absurd z (by decide)
    · rw [a] at z; exact absurd z (by decide)
    · refine y ((lg_cmp_eq _ _).mpr ?_)
      rw [nI_l (by omega), d2, ← e, q]
    · rw [a] at z; exact absurd z (by decide)
  · intro q
    rcases KD_tk hK.2.2.2 with ⟨a, e⟩ | ⟨a, _, _, _, e⟩ | ⟨a, e, _⟩ | ⟨a, e, d1, d2⟩ | ⟨a, e⟩
    · omega
    · omega
    · omega
    · exact z a
    · omega
theorem m_229b (c : Int32) {μ : wm_M} {Q : Int32 → wm_M → Prop} (hb : ¬ μ.1 89 12 = 0) (h0 : Q 0 μ) : wm_OkI 0 229 [.ref 89, .int c] μ Q := v_229 _ _ _ ⟨fun q => absurd q hb, fun _ => w_229_29 _ _ ⟨z01, _, rfl, h0⟩⟩
/-! a reading goes on; it has failed -/
def St (T : Nat → Nat) (n m : Nat) (A : Nat → Nat) (x cell hour o p : Nat) (μ : wm_M) : Prop := TX T n μ ∧ (BA m A ∧ RM 91 A μ ∧ cell < 36 ∧ x < 3 ∧ μ.1 89 14 = nI cell ∧ μ.1 89 15 = nI x ∧ μ.1 89 16 = nI hour) ∧ TK T n p μ ∧ μ.1 89 12 = 0 ∧ μ.1 89 11 = nI o
def Bd (q : Nat) (μ : wm_M) : Prop := μ.1 89 12 = 1 ∧ μ.1 89 13 = nI q
theorem EN_sm {m : Nat} {A : Nat → Nat} {x cell hour : Nat} {μ ν : wm_M} (h : BA m A ∧ RM 91 A μ ∧ cell < 36 ∧ x < 3 ∧ μ.1 89 14 = nI cell ∧ μ.1 89 15 = nI x ∧ μ.1 89 16 = nI hour) (e : Sm rdK μ ν) : BA m A ∧ RM 91 A ν ∧ cell < 36 ∧ x < 3 ∧ ν.1 89 14 = nI cell ∧ ν.1 89 15 = nI x ∧ ν.1 89 16 = nI hour := by
  obtain ⟨h1, h2, h3, h4, h5, h6, h7⟩ := h
  have e1 : ν.1 89 14 = μ.1 89 14 := e 89 14 rfl
  have e2 : ν.1 89 15 = μ.1 89 15 := e 89 15 rfl
  have e3 : ν.1 89 16 = μ.1 89 16 := e 89 16 rfl
  exact ⟨h1, fun i hi => by rw [e 91 i rfl]; exact h2 i hi, h3, h4, by rw [e1]; exact h5, by rw [e2]; exact h6, by rw [e3]; exact h7⟩
/-- fail -/
theorem m_227 {T : Nat → Nat} {n p : Nat} {μ : wm_M} {Q : wm_M → Prop} (hK : TK T n p μ) (hb : μ.1 89 12 = 0) (hq : ∀ ν, Bd p ν → Sm rdK μ ν → Q ν) : wm_OkV 0 227 [.ref 89] μ Q := by
  refine v_227 _ _ ⟨fun _ => ⟨o01, w_227_20 _ _ ⟨rfl, hq _ ⟨rfl, ?_⟩ (((Sm.rf _ _).si rfl).si rfl)⟩⟩, fun q => absurd hb q⟩
  show μ.1 89 9 = nI p
  exact hK.2.1
theorem m_227b {μ : wm_M} {Q : wm_M → Prop} (hb : ¬ μ.1 89 12 = 0) (hq : Q μ) : wm_OkV 0 227 [.ref 89] μ Q := v_227 _ _ ⟨fun q => absurd q hb, fun _ => w_227_20 _ _ ⟨rfl, hq⟩⟩
/-- the next token -/
theorem St_next {T : Nat → Nat} {n m : Nat} {A : Nat → Nat} {x cell hour o p : Nat} {μ : wm_M} {Q : wm_M → Prop} (h : St T n m A x cell hour o p μ) (ht : tk T n p ≠ 130) (o' : Nat) (ho : μ.1 89 11 = nI o → (∀ ν : wm_M, Sm nxK μ ν → ν.1 89 11 = nI o')) (hq : ∀ ν, St T n m A x cell hour o' (nx T n p) ν → Sm rdK μ ν → Q ν) : wm_OkV 0 226 [.ref 89] μ Q := by
  obtain ⟨h1, h2, h3, h4, h5⟩ := h
  refine m_226 (en T n p) (en_le h3.1) h1 (h3.2.2.1 ht) (fun ν hK hS => ?_)
  have hS2 : Sm rdK μ ν := hS.le (fun c i q => rd_nx q)
  exact hq ν ⟨h1.sm hS2, EN_sm h2 hS2, hK, by rw [hS 89 12 rfl]; exact h4, ho h5 ν hS⟩ hS2
theorem St_nx {T : Nat → Nat} {n m : Nat} {A : Nat → Nat} {x cell hour o p : Nat} {μ : wm_M} {Q : wm_M → Prop} (h : St T n m A x cell hour o p μ) (ht : tk T n p ≠ 130) (hq : ∀ ν, St T n m A x cell hour o (nx T n p) ν → Sm rdK μ ν → Q ν) : wm_OkV 0 226 [.ref 89] μ Q := St_next h ht o (fun e ν hS => by rw [hS 89 11 rfl]; exact e) hq
/-- awake -/
theorem m_220 {m : Nat} {A : Nat → Nat} {μ : wm_M} {Q : Int32 → wm_M → Prop} (hB : BA m A) (hM : RM 91 A μ) (hq : Q (nI (awk A (A 2041))) μ) : wm_OkI 0 220 [.ref 89] μ Q := by
  have b8 := hB.hands
  have aw : ∀ k, awk A k = smN (fun h => 1 - A (463 + h)) k := by
    intro k
    induction k with
    | zero => rfl
    | succ k ih => unfold awk smN; rw [ih]
  rw [aw] at hq
  refine v_220 _ _ (loopS (fun h => 1 - A (463 + h)) (fun a i => wm_Wp 0 220 4 [.ref 89, .int (nI a), .int (nI i)] μ _) (A 2041) (fun i a hi ih => w_220_4 _ _ _ _ (s_188 1 (by decide) ?_)) (w_220_4 _ _ _ _ (s_188 1 (by decide) ?_)))
  · rw [show μ.1 91 (2040 + 1) = nI (A 2041) from hM 2041 (by decide)]
    have b2 := hB.sleeps (show i < 8 by omega)
    refine ⟨fun z => absurd z (nI_ge hi (by omega)), fun _ => ?_⟩
    rw [show (463 : Int32) + nI i = nI (463 + i) from nI_add 463 i, nI_clamp (by omega), hM _ (by omega), show (1 : Int32) = nI 1 from rfl, pk_sub (by omega), nI_add, nI_add]
    exact ⟨vp_in_nI (by omega) (by decide), ih⟩
  · rw [show μ.1 91 (2040 + 1) = nI (A 2041) from hM 2041 (by decide)]
    exact ⟨fun _ => w_220_34 _ _ _ ⟨_, rfl, hq⟩, fun z => absurd (nI_le (Nat.le_refl _) (by omega)) z⟩
