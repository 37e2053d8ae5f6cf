/-! game of the reference: the kernels. -/
theorem m_284 {μ : wm_M} {Q : wm_M → Prop} (h : ∀ ν, ν.1 = μ.1 → (∀ i, i < 3 → ν.2 107 i = jI 0 ∧ ν.2 108 i = jI 0) → Q ν) : wm_OkV 0 284 [.ref 89] μ Q := by
  have st : ∀ k κ, k < 3 → κ.1 = μ.1 → (∀ i, i < k → κ.2 107 i = jI 0 ∧ κ.2 108 i = jI 0) →
      (∀ κ', κ'.1 = μ.1 → (∀ i, i < k + 1 → κ'.2 107 i = jI 0 ∧ κ'.2 108 i = jI 0) → wm_Wp 0 284 2 [.ref 89, .int (nI (k + 1))] κ' (fun v ν => v = none ∧ Q ν)) →
      wm_Wp 0 284 2 [.ref 89, .int (nI k)] κ (fun v ν => v = none ∧ Q ν) := by
    intro k κ hk e1 e4 hh
    have vi := vp_in_nI (n := k) (N := 3) (by omega) (by decide)
    refine w_284_2 _ _ _ ⟨fun q => absurd q (nI_ge (a := k) (b := 3) (by omega) (by decide)), fun _ => ⟨vi, vi, ?_⟩⟩
    rw [nI_clamp (by omega), nI_1]
    refine hh _ e1 fun i hi => ⟨?_, ?_⟩
    · rw [slr, if_neg (fun q => absurd q.1 (by decide)), slr]
      by_cases f : i = k
      · subst f; rw [if_pos ⟨rfl, rfl⟩]; rfl
      · rw [if_neg (fun q => f q.2)]; exact (e4 i (by omega)).1
    · rw [slr, slr]
      by_cases f : i = k
      · subst f; rw [if_pos ⟨rfl, rfl⟩]; rfl
      · rw [if_neg (fun q => f q.2), if_neg (fun q => f q.2)]; exact (e4 i (by omega)).2
  refine v_284 _ _ (st 0 μ (by decide) rfl (fun i hi => absurd hi (by omega)) fun κ a1 a2 => st 1 κ (by decide) a1 a2 fun κ a1 a2 => st 2 κ (by decide) a1 a2 fun κ a1 a2 => ?_)
  exact w_284_2 _ _ _ ⟨fun _ => w_284_27 _ _ ⟨rfl, h κ a1 a2⟩, fun q => absurd (nI_le (Nat.le_refl 3) (by decide)) q⟩
/-- x is one of the mixes that are tried. -/
def gCand (N : Nat) (a : Nat → Nat → Int) (x : Nat → Int) : Prop := ∃ s, (s = 1 ∨ s = -1) ∧ ((∃ i, i < N ∧ ∀ m, m < 3 → x m = s * gx1 i m) ∨
  (∃ i k j l, i < k ∧ k < N ∧ j < l ∧ l < N ∧ ∀ m, m < 3 → x m = s * gx2 i k (a k l - a k j) (a i j - a i l) m) ∨ (N = 3 ∧ ∀ m, m < 3 → x m = s * gX3 a m))
def gWin (N : Nat) (a : Nat → Nat → Int) (x y : Nat → Int) (p q : Int) : Prop :=
  0 < q ∧ gG N a x y p ∧ gS N x = q ∧ gS N y = q ∧ gCand N a x ∧ p.natAbs ≤ 100000000000000 ∧ q.natAbs ≤ 1000000000
theorem gS_s (s : Int) (f : Nat → Int) : ∀ N, gS N (fun i => s * f i) = s * gS N f := by
  intro N
  induction N with
  | zero => show (0 : Int) = s * 0; rw [Int.mul_zero]
  | succ n ih => show gS n (fun i => s * f i) + s * f n = s * (gS n f + f n); rw [ih, Int.mul_add]
theorem g_abs {s p : Int} (h : s = 1 ∨ s = -1) : (s * p).natAbs = p.natAbs := by
  rcases h with e | e <;> subst e
  · rw [Int.one_mul]
  · rw [Int.neg_one_mul, Int.natAbs_neg]
theorem gx1_S {N i : Nat} (hN : gN N) (hi : i < N) : gS N (gx1 i) = 1 := by
  rcases hN with e | e <;> subst e
  · rcases (by omega : i = 0 ∨ i = 1) with e | e <;> subst e <;> rfl
  · rcases (by omega : i = 0 ∨ i = 1 ∨ i = 2) with e | e | e <;> subst e <;> rfl
theorem gx2_S {N i k : Nat} (u w : Int) (hN : gN N) (hi : i < k) (hk : k < N) : gS N (gx2 i k u w) = u + w := by
  rcases hN with e | e <;> subst e
  · have e1 : i = 0 := by omega
    have e2 : k = 1 := by omega
    subst e1 e2
    show 0 + u + w = u + w
    omega
  · rcases (by omega : (i = 0 ∧ k = 1) ∨ (i = 0 ∧ k = 2) ∨ (i = 1 ∧ k = 2)) with ⟨e, f⟩ | ⟨e, f⟩ | ⟨e, f⟩ <;> subst e f
    · show 0 + u + w + 0 = u + w; omega
    · show 0 + u + 0 + w = u + w; omega
    · show 0 + 0 + u + w = u + w; omega
theorem m_285 {N a} (hA : gA a) (i j : Nat) (hi : i < N) (hj : j < N) {μ : wm_M} {Q : Int32 → wm_M → Prop} (r : RG N a μ) (h1 : ∀ ν x y p q, gWin N a x y p q → ν.1 = μ.1 → ν.2 89 40 = jI p → ν.2 89 41 = jI q → Q 1 ν) (h0 : ∀ ν, ν.1 = μ.1 → ¬ gOk1 N a i j → Q 0 ν) :
    wm_OkI 0 285 [.ref 89, .int (nI i), .int (nI j)] μ Q := by
  have n3 : N ≤ 3 := by rcases r.1 with e | e <;> omega
  refine v_285 _ _ _ _ (m_284 fun ν e z => ⟨vp_in_nI (n := i) (by omega) (by decide), vp_in_nI (n := j) (by omega) (by decide), ?_⟩)
  rw [nI_clamp (by omega), nI_clamp (by omega)]
  refine m_281 i j hi hj (r.f e) ?_
  have b : ∀ i m, (gx1 i m).natAbs ≤ 100000000 := fun i m => by unfold gx1; split <;> decide
  have ba := hA i j
  refine m_283 hA (gx1 i) (gx1 j) (a i j) 1 (r.f e) (fun m hm => ?_) (fun m hm => ?_) ?_ ?_ (fun m _ => ⟨b i m, b j m⟩) (by omega) (by decide) (fun κ s hs e' w1 w2 w3 w4 => ⟨Or.inr rfl, _, rfl, h1 κ _ _ _ _ ⟨w3, w4, ?_, ?_, ⟨s, hs, Or.inl ⟨i, hi, fun _ _ => rfl⟩⟩, ?_, ?_⟩ (e'.trans e) w1 w2⟩) (fun κ e' g => ⟨Or.inl rfl, _, rfl, h0 κ (e'.trans e) g⟩)
  · rw [slr, if_neg (fun q => absurd q.1 (by decide)), slr, if_neg (fun q => absurd q.1 (by decide)), slr, if_neg (fun q => absurd q.1 (by decide)), slr]
    unfold gx1
    by_cases f : m = i
    · rw [if_pos ⟨rfl, f⟩, if_pos f]; rfl
    · rw [if_neg (fun q => f q.2), if_neg f]; exact (z m hm).1
  · rw [slr, if_neg (fun q => absurd q.1 (by decide)), slr, if_neg (fun q => absurd q.1 (by decide)), slr, slr]
    unfold gx1
    by_cases f : m = j
    · rw [if_pos ⟨rfl, f⟩, if_pos f]; rfl
    · rw [if_neg (fun q => f q.2), if_neg (fun q => absurd q.1 (by decide)), if_neg f]; exact (z m hm).2
  · rw [slr, if_neg (by decide), slr, if_pos (by decide)]
  · rw [slr, if_pos (by decide)]; rfl
  · rw [gS_s, gx1_S r.1 hi]
  · rw [gS_s, gx1_S r.1 hj]
  · rw [g_abs hs]; omega
  · rw [g_abs hs]; decide
theorem g_b2 {x y : Int} (hx : x.natAbs ≤ 999) (hy : y.natAbs ≤ 999) : (x * y).natAbs ≤ 998001 := g_mb hx hy
theorem m_286 {N a} (hA : gA a) (i k j l : Nat) (hi : i < k) (hk : k < N) (hj : j < l) (hl : l < N) {μ : wm_M} {Q : Int32 → wm_M → Prop} (r : RG N a μ) (h1 : ∀ ν x y p q, gWin N a x y p q → ν.1 = μ.1 → ν.2 89 40 = jI p → ν.2 89 41 = jI q → Q 1 ν) (h0 : ∀ ν, ν.1 = μ.1 → ¬ gOk2 N a i k j l → Q 0 ν) :
    wm_OkI 0 286 [.ref 89, .int (nI i), .int (nI k), .int (nI j), .int (nI l)] μ Q := by
  have n3 : N ≤ 3 := by rcases r.1 with e | e <;> omega
  have vi := fun (m : Nat) (h : m < N) => vp_in_nI (n := m) (N := 3) (by omega) (by decide)
  refine v_286 _ _ _ _ _ _ (m_284 fun ν e z => ?_)
  have r0 := r.f e
  have hi' : i < N := by omega
  have hj' : j < N := by omega
  refine m_281 k l hk hl r0 (m_281 k j hk hj' r0 ⟨vi i hi', ?_⟩)
  rw [nI_clamp (by omega)]
  have r1 : RG N a (wm_sl ν 107 i (jI (a k l) - jI (a k j))) := r0
  refine m_281 i j hi' hj' r1 (m_281 i l hi' hl r1 ⟨vi k hk, ?_⟩)
  rw [nI_clamp (by omega)]
  generalize hν1 : wm_sl (wm_sl ν 107 i (jI (a k l) - jI (a k j))) 107 k (jI (a i j) - jI (a i l)) = ν1
  have r2 : RG N a ν1 := by subst hν1; exact r0
  refine m_281 k l hk hl r2 (m_281 i l hi' hl r2 ⟨vi j hj', ?_⟩)
  rw [nI_clamp (by omega)]
  have r3 : RG N a (wm_sl ν1 108 j (jI (a k l) - jI (a i l))) := r2
  refine m_281 i j hi' hj' r3 (m_281 k j hk hj' r3 ⟨vi l hl, ?_⟩)
  rw [nI_clamp (by omega)]
  generalize hν2 : wm_sl (wm_sl ν1 108 j (jI (a k l) - jI (a i l))) 108 l (jI (a i j) - jI (a k j)) = ν2
  have r4 : RG N a ν2 := by subst hν2; exact r2
  refine m_281 i j hi' hj' r4 (m_281 k l hk hl r4 (m_281 i l hi' hl r4 (m_281 k j hk hj' r4 ⟨vi i hi', vi k hk, ?_⟩)))
  have x107 : ∀ m, m < 3 → ν2.2 107 m = jI (gx2 i k (a k l - a k j) (a i j - a i l) m) := fun m hm => by
    subst hν2 hν1
    rw [slr, if_neg (fun q => absurd q.1 (by decide)), slr, if_neg (fun q => absurd q.1 (by decide)), slr, slr]
    unfold gx2
    by_cases f : m = k
    · rw [if_pos ⟨rfl, f⟩, if_pos f, jI_sub]
    · rw [if_neg (fun q => f q.2), if_neg f]
      by_cases g : m = i
      · rw [if_pos ⟨rfl, g⟩, if_pos g, jI_sub]
      · rw [if_neg (fun q => g q.2), if_neg g]; exact (z m hm).1
  have x108 : ∀ m, m < 3 → ν2.2 108 m = jI (gx2 j l (a k l - a i l) (a i j - a k j) m) := fun m hm => by
    subst hν2 hν1
    rw [slr, slr]
    unfold gx2
    by_cases f : m = l
    · rw [if_pos ⟨rfl, f⟩, if_pos f, jI_sub]
    · rw [if_neg (fun q => f q.2), if_neg f]
      by_cases g : m = j
      · rw [if_pos ⟨rfl, g⟩, if_pos g, jI_sub]
      · rw [if_neg (fun q => g q.2), if_neg g, slr, if_neg (fun q => absurd q.1 (by decide)), slr, if_neg (fun q => absurd q.1 (by decide))]; exact (z m hm).2
  have e2 : ν2.1 = μ.1 := by subst hν2 hν1; exact e
  clear hν2 hν1
  have ge := gx2_S (a k l - a k j) (a i j - a i l) r.1 hi hk
  have gf := gx2_S (a k l - a i l) (a i j - a k j) r.1 hj hl
  have b1 := hA i j; have b2 := hA i l; have b3 := hA k j; have b4 := hA k l
  have b5 := g_b2 b1 b4; have b6 := g_b2 b2 b3
  have bb : ∀ i k u w m, u.natAbs ≤ 2000 → w.natAbs ≤ 2000 → (gx2 i k u w m).natAbs ≤ 100000000 := fun i k u w m hu hw => by
    unfold gx2
    split
    · omega
    · split
      · omega
      · decide
  refine m_283 hA (gx2 i k (a k l - a k j) (a i j - a i l)) (gx2 j l (a k l - a i l) (a i j - a k j)) (a i j * a k l - a i l * a k j) ((a k l - a k j) + (a i j - a i l)) (r4) (fun m hm => ?_) (fun m hm => ?_) ?_ ?_ (fun m _ => ⟨bb _ _ _ _ m (by omega) (by omega), bb _ _ _ _ m (by omega) (by omega)⟩) (by omega) (by omega) (fun κ s hs e' w1 w2 w3 w4 => ⟨Or.inr rfl, _, rfl, h1 κ _ _ _ _ ⟨w3, w4, ?_, ?_, ⟨s, hs, Or.inr (Or.inl ⟨i, k, j, l, hi, hk, hj, hl, fun _ _ => rfl⟩)⟩, ?_, ?_⟩ (e'.trans e2) w1 w2⟩) (fun κ e' g => ⟨Or.inl rfl, _, rfl, h0 κ (e'.trans e2) g⟩)
  · rw [slr, if_neg (fun q => absurd q.1 (by decide)), slr, if_neg (fun q => absurd q.1 (by decide))]; exact x107 m hm
  · rw [slr, if_neg (fun q => absurd q.1 (by decide)), slr, if_neg (fun q => absurd q.1 (by decide))]; exact x108 m hm
  · rw [slr, if_neg (by decide), slr, if_pos (by decide), jI_mul, jI_mul, jI_sub]
  · rw [slr, if_pos (by decide), slr, if_neg (fun q => absurd q.1 (by decide)), slr, if_neg (fun q => absurd q.1 (by decide)), x107 i (by omega), x107 k (by omega), jI_add]
    unfold gx2
    rw [if_neg (by omega), if_pos rfl, if_pos rfl]
  · rw [gS_s, ge]
  · rw [gS_s, gf]; congr 1; omega
  · rw [g_abs hs]; omega
  · rw [g_abs hs]; omega

theorem m_287 {N a} (i j : Nat) (hi : i < 3) (hj : j < 3) (e3 : N = 3) {μ : wm_M} {Q : Int64 → wm_M → Prop} (r : RG N a μ) (h : Q (jI (gC a i j)) μ) : wm_OkJ 0 287 [.ref 89, .int (nI i), .int (nI j)] μ Q := by
  subst e3
  have t3 : ¬ (3 : Int32) = 0 := by decide
  have m3 : ∀ k : Nat, k < 10 → (nI k - nI k / 3 * 3 : Int32) = nI (k % 3) := fun k hk => by simp (disch := omega) only [nl, nI_add, pk_mul, pk_sub, pk_div, rm_n, nI_clamp, vi_, nI_leI, nI_ltI, nI_eq, nI_sb, nI_eqm, nI_meq, Nat.zero_add, Nat.add_zero]
  have a1 : ∀ k : Nat, nI k + 1 = nI (k + 1) := fun k => nI_add k 1
  have a2 : ∀ k : Nat, nI k + 2 = nI (k + 2) := fun k => nI_add k 2
  have l := fun k => Nat.mod_lt k (show 3 > 0 by decide)
  refine v_287 _ _ _ _ ⟨t3, t3, t3, t3, ?_⟩
  rw [a1, a1, a2, a2, m3 _ (by omega), m3 _ (by omega), m3 _ (by omega), m3 _ (by omega)]
  refine m_281 _ _ (l _) (l _) r (m_281 _ _ (l _) (l _) r (m_281 _ _ (l _) (l _) r (m_281 _ _ (l _) (l _) r ⟨_, rfl, ?_⟩)))
  rw [jI_mul, jI_mul, jI_sub]
  exact h
/-- The shares, the value and the whole. -/
def GSt (ν : wm_M) (X Y : Nat → Int) (p q : Int) : Prop := (∀ m, m < 3 → ν.2 107 m = jI (X m) ∧ ν.2 108 m = jI (Y m)) ∧ ν.2 89 40 = jI p ∧ ν.2 89 41 = jI q
def gup (X : Nat → Int) (i : Nat) (c : Int) (m : Nat) : Int := if m = i then X m + c else X m
theorem m_288s {a} (i j : Nat) (hi : i < 3) (hj : j < 3) {X Y : Nat → Int} {p q : Int} {ν : wm_M} {Q : Option Value → wm_M → Prop} (r : RG 3 a ν) (s : GSt ν X Y p q)
    (h : ∀ κ, κ.1 = ν.1 → GSt κ (gup X i (gC a i j)) (gup Y j (gC a i j)) p (q + gC a i j) → wm_Wp 0 288 23 [.ref 89, .int (nI i), .int (nI (j + 1))] κ Q) :
    wm_Wp 0 288 23 [.ref 89, .int (nI i), .int (nI j)] ν Q := by
  have vi := vp_in_nI (n := i) (N := 3) (by omega) (by decide)
  have vj := vp_in_nI (n := j) (N := 3) (by omega) (by decide)
  have r' : ∀ c k x, RG 3 a (wm_sl ν c k x) := fun _ _ _ => r
  have r'' : ∀ c k x c' k' x', RG 3 a (wm_sl (wm_sl ν c k x) c' k' x') := fun _ _ _ _ _ _ => r
  refine w_288_23 _ _ _ _ ⟨fun q => absurd q (nI_ge (a := j) (b := 3) (by omega) (by decide)), fun _ => ⟨vi, m_287 i j hi hj rfl r ⟨vi, vj, m_287 i j hi hj rfl (r' _ _ _) ⟨vj, m_287 i j hi hj rfl (r'' _ _ _ _ _ _) ?_⟩⟩⟩⟩
  rw [nI_clamp (by omega), nI_clamp (by omega), nI_1]
  refine h _ rfl ⟨fun m hm => ⟨?_, ?_⟩, ?_, ?_⟩
  · rw [slr, if_neg (fun q => absurd q.1 (by decide)), slr, if_neg (fun q => absurd q.1 (by decide)), slr]
    unfold gup
    by_cases f : m = i
    · subst f; rw [if_pos ⟨rfl, rfl⟩, if_pos rfl, (s.1 m hm).1, jI_add]
    · rw [if_neg (fun q => f q.2), if_neg f]; exact (s.1 m hm).1
  · rw [slr, if_neg (fun q => absurd q.1 (by decide)), slr]
    unfold gup
    by_cases f : m = j
    · subst f; rw [if_pos ⟨rfl, rfl⟩, if_pos rfl, slr, if_neg (fun q => absurd q.1 (by decide)), (s.1 m hm).2, jI_add]
    · rw [if_neg (fun q => f q.2), if_neg f, slr, if_neg (fun q => absurd q.1 (by decide))]; exact (s.1 m hm).2
  · rw [slr, if_neg (by decide), slr, if_neg (fun q => absurd q.1 (by decide)), slr, if_neg (fun q => absurd q.1 (by decide))]; exact s.2.1
  · rw [slr, if_pos (by decide), slr, if_neg (fun q => absurd q.1 (by decide)), slr, if_neg (fun q => absurd q.1 (by decide)), s.2.2, jI_add]
theorem m_288r {a} (i : Nat) (hi : i < 3) {X Y : Nat → Int} {p q : Int} {ν : wm_M} {Q : Option Value → wm_M → Prop} (r : RG 3 a ν) (s : GSt ν X Y p q)
    (h : ∀ κ, κ.1 = ν.1 → GSt κ (gup (gup (gup X i (gC a i 0)) i (gC a i 1)) i (gC a i 2)) (gup (gup (gup Y 0 (gC a i 0)) 1 (gC a i 1)) 2 (gC a i 2)) (p + a 0 i * gC a 0 i) (q + gC a i 0 + gC a i 1 + gC a i 2) → wm_Wp 0 288 16 [.ref 89, .int (nI (i + 1)), .null] κ Q) :
    wm_Wp 0 288 16 [.ref 89, .int (nI i), .null] ν Q := by
  refine w_288_16 _ _ _ ⟨fun q => absurd q (nI_ge (a := i) (b := 3) (by omega) (by decide)), fun _ => ?_⟩
  refine m_288s i 0 hi (by decide) r s fun κ e1 s1 => m_288s i 1 hi (by decide) (r.f e1) s1 fun κ2 e2 s2 => m_288s i 2 hi (by decide) (r.f (e2.trans e1)) s2 fun κ3 e3 s3 => ?_
  have r3 := r.f (e3.trans (e2.trans e1))
  refine w_288_23 _ _ _ _ ⟨fun _ => w_288_79 _ _ _ (m_281 0 i (by decide) hi r3 (m_287 0 i (by decide) hi rfl r3 ?_)), fun q => absurd (nI_le (Nat.le_refl 3) (by decide)) q⟩
  rw [nI_1, s3.2.1]
  refine h _ (e3.trans (e2.trans e1)) ⟨fun m hm => ⟨?_, ?_⟩, ?_, ?_⟩
  · rw [slr, if_neg (fun q => absurd q.1 (by decide))]; exact (s3.1 m hm).1
  · rw [slr, if_neg (fun q => absurd q.1 (by decide))]; exact (s3.1 m hm).2
  · rw [slr, if_pos (by decide), jI_mul, jI_add]
  · rw [slr, if_neg (by decide)]; exact s3.2.2
theorem gC_b {a} (hA : gA a) (i j : Nat) : (gC a i j).natAbs ≤ 1996002 := by
  have h1 := g_b2 (hA ((i + 1) % 3) ((j + 1) % 3)) (hA ((i + 2) % 3) ((j + 2) % 3))
  have h2 := g_b2 (hA ((i + 1) % 3) ((j + 2) % 3)) (hA ((i + 2) % 3) ((j + 1) % 3))
  unfold gC
  omega
theorem na3 {x y z : Int} {M : Nat} (hx : x.natAbs ≤ M) (hy : y.natAbs ≤ M) (hz : z.natAbs ≤ M) : (x + y + z).natAbs ≤ 3 * M :=
  Nat.le_trans (Int.natAbs_add_le _ _) (by have := Int.natAbs_add_le x y; omega)
theorem gX3_b {a} (hA : gA a) (m : Nat) : (gX3 a m).natAbs ≤ 3 * 1996002 := na3 (gC_b hA _ _) (gC_b hA _ _) (gC_b hA _ _)
theorem gY3_b {a} (hA : gA a) (m : Nat) : (gY3 a m).natAbs ≤ 3 * 1996002 := na3 (gC_b hA _ _) (gC_b hA _ _) (gC_b hA _ _)
theorem gP3_b {a} (hA : gA a) : (gP3 a).natAbs ≤ 3 * (999 * 1996002) := na3 (g_mb (hA _ _) (gC_b hA _ _)) (g_mb (hA _ _) (gC_b hA _ _)) (g_mb (hA _ _) (gC_b hA _ _))
theorem m_288 {a} (hA : gA a) {μ : wm_M} {Q : Int32 → wm_M → Prop} (r : RG 3 a μ) (h1 : ∀ ν x y p q, gWin 3 a x y p q → ν.1 = μ.1 → ν.2 89 40 = jI p → ν.2 89 41 = jI q → Q 1 ν) (h0 : ∀ ν, ν.1 = μ.1 → ¬ gOk3 a → Q 0 ν) :
    wm_OkI 0 288 [.ref 89] μ Q := by
  refine v_288 _ _ (m_284 fun ν e z => ?_)
  have r0 := r.f e
  have s0 : GSt (wm_sl (wm_sl ν 89 41 0) 89 40 0) (fun _ => 0) (fun _ => 0) 0 0 := by
    refine ⟨fun m hm => ⟨?_, ?_⟩, ?_, ?_⟩
    · rw [slr, if_neg (fun q => absurd q.1 (by decide)), slr, if_neg (fun q => absurd q.1 (by decide))]; exact (z m hm).1
    · rw [slr, if_neg (fun q => absurd q.1 (by decide)), slr, if_neg (fun q => absurd q.1 (by decide))]; exact (z m hm).2
    · rw [slr, if_pos (by decide)]; rfl
    · rw [slr, if_neg (by decide), slr, if_pos (by decide)]; rfl
  refine m_288r 0 (by decide) r0 s0 fun κ e1 s1 => m_288r 1 (by decide) (r0.f e1) s1 fun κ2 e2 s2 => m_288r 2 (by decide) (r0.f (e2.trans e1)) s2 fun κ3 e3 s3 => ?_
  have r3 : RG 3 a κ3 := r0.f (e3.trans (e2.trans e1))
  have e4 : κ3.1 = μ.1 := (e3.trans (e2.trans e1)).trans e
  refine w_288_16 _ _ _ ⟨fun _ => w_288_107 _ _ ?_, fun q => absurd (nI_le (Nat.le_refl 3) (by decide)) q⟩
  have bP : (gP3 a).natAbs ≤ 100000000000000 := Nat.le_trans (gP3_b hA) (by decide)
  have bQ : (gX3 a 0 + gX3 a 1 + gX3 a 2).natAbs ≤ 1000000000 := Nat.le_trans (na3 (gX3_b hA 0) (gX3_b hA 1) (gX3_b hA 2)) (by decide)
  refine m_283 hA (gX3 a) (gY3 a) (gP3 a) (gX3 a 0 + gX3 a 1 + gX3 a 2) r3 (fun m hm => ?_) (fun m hm => ?_) ?_ ?_ (fun m hm => ?_) bP bQ (fun κ s hs e' w1 w2 w3 w4 => ⟨Or.inr rfl, _, rfl, h1 κ _ _ _ _ ⟨w3, w4, ?_, ?_, ⟨s, hs, Or.inr (Or.inr ⟨rfl, fun _ _ => rfl⟩)⟩, ?_, ?_⟩ (e'.trans e4) w1 w2⟩) (fun κ e' g => ⟨Or.inl rfl, _, rfl, h0 κ (e'.trans e4) g⟩)
  · rw [(s3.1 m hm).1]
    congr 1
    rcases (by omega : m = 0 ∨ m = 1 ∨ m = 2) with e | e | e <;> subst e <;> simp [gup, gX3]
  · rw [(s3.1 m hm).2]
    congr 1
    rcases (by omega : m = 0 ∨ m = 1 ∨ m = 2) with e | e | e <;> subst e <;> simp [gup, gY3]
  · rw [s3.2.1]; congr 1; unfold gP3; omega
  · rw [s3.2.2]; congr 1; unfold gX3; omega
  · exact ⟨Nat.le_trans (gX3_b hA m) (by decide), Nat.le_trans (gY3_b hA m) (by decide)⟩
  · rw [gS_s]; congr 1; simp only [gS]; omega
  · rw [gS_s]; congr 1; simp only [gS, gX3, gY3]; omega
  · rw [g_abs hs]; exact bP
  · rw [g_abs hs]; exact bQ
