/-! ===== trees: pure ===== -/
theorem lab_tri {f : Nat → Nat → Nat} {wh : Nat → Bool} {ch s0 t0 s t : Nat} {L L' : Nat → Nat} (h : IsLab f wh ch s0 t0 L) (h' : IsLab f wh ch s t L') (hs : s < 864) (hst : L s ≤ t) (ht : t ≤ 120) : ∀ n x, x < 864 → L' x ≤ n → L' x ≠ 999 → L x ≤ L' x
  | n, x, hx, hn, q => by
    by_cases e : x = s
    · rw [e, h'.1]; exact hst
    · obtain ⟨l1, p, a, b, c⟩ := h'.2.1 x hx q e
      cases n with
      | zero => omega
      | succ n =>
        have ih := lab_tri h h' hs hst ht n p a (by omega) (by omega)
        have n9 : L p ≠ 999 := by omega
        rcases c with ⟨a1, a2, a3, a4⟩ | ⟨a1, a2, a3, a4, a5⟩ | ⟨a1, a2, a3, b', b1, b2, b3, b4⟩
        · have := h.2.2 p x (L p + ap (x / 3 % 8) (p / 3 % 8)) a hx n9 (Or.inl ⟨a1, a2, a3, rfl⟩) (by omega)
          omega
        · have := h.2.2 p x (L p + ch) a hx n9 (Or.inr (Or.inl ⟨a1, a2, a3, a4, rfl⟩)) (by omega)
          omega
        · exact h.2.2 p x (L' x) a hx n9 (Or.inr (Or.inr ⟨a1, a2, a3, b', by omega, b2, b3, b4⟩)) l1
theorem eo_some {ℓ : Nat → Nat} {c : Nat} : ∀ i j, j < i → ℓ (24 * c + j) ≠ 999 → (eo ℓ c i).isSome = true
  | 0, _, h, _ => absurd h (Nat.not_lt_zero _)
  | i + 1, j, h, q => by
    unfold eo
    split
    · rename_i e
      by_cases z : j = i
      · subst z; exact absurd e q
      · exact eo_some i j (by omega) q
    · split
      · rfl
      · split <;> rfl
theorem eo_le {ℓ : Nat → Nat} {c s : Nat} : ∀ i, eo ℓ c i = some s → ∀ j, j < i → ℓ (24 * c + j) ≠ 999 → ℓ s ≤ ℓ (24 * c + j)
  | 0, h, _, _, _ => by cases h
  | i + 1, h, j, hj, q => by
    unfold eo at h
    split at h
    · rename_i e
      by_cases z : j = i
      · subst z; exact absurd e q
      · exact eo_le i h j (by omega) q
    · rename_i e
      split at h
      · rename_i ho
        cases h
        by_cases z : j = i
        · subst z; exact Nat.le_refl _
        · have := eo_some (ℓ := ℓ) (c := c) i j (by omega) q
          rw [ho] at this
          cases this
      · rename_i k ho
        have ih := fun z => eo_le i ho j z q
        split at h
        · cases h
          by_cases z : j = i
          · subst z; exact Nat.le_refl _
          · have := ih (by omega); omega
        · cases h
          by_cases z : j = i
          · subst z; omega
          · exact ih (by omega)
/-- soonest in a cell is no later than any of its labels -/
theorem wy_le {A : Nat → Nat} {w tab ch s0 t0 c s : Nat} (hs : s / 24 = c) (q : LF A w tab ch s0 t0 s ≠ 999) : ∃ r, wyA A w tab ch s0 t0 c = some r ∧ r.2 ≤ LF A w tab ch s0 t0 s := by
  have e : s = 24 * c + (s - 24 * c) := by omega
  have q' : LF A w tab ch s0 t0 (24 * c + (s - 24 * c)) ≠ 999 := by rw [← e]; exact q
  have h1 := eo_some (ℓ := LF A w tab ch s0 t0) (c := c) 24 (s - 24 * c) (by omega) q'
  cases ho : eo (LF A w tab ch s0 t0) c 24 with
  | none => rw [ho] at h1; cases h1
  | some p =>
    have := eo_le 24 ho (s - 24 * c) (by omega) q'
    rw [← e] at this
    exact ⟨(p, LF A w tab ch s0 t0 p), by rw [eo_wy, ho]; rfl, this⟩
theorem wy_b {A : Nat → Nat} {w tab ch s0 t0 c : Nat} {r : Nat × Nat} (hc0 : 0 < ch) (hs0 : s0 < 864) (ht0 : t0 ≤ 120) (hx : s0 % 3 < A 2040) (hc : c < 36) (h : wyA A w tab ch s0 t0 c = some r) : r.1 < 864 ∧ r.1 / 24 = c ∧ LF A w tab ch s0 t0 r.1 = r.2 ∧ t0 ≤ r.2 ∧ r.2 ≤ 120 ∧ r.1 % 3 < A 2040 := by
  obtain ⟨s, T⟩ := r
  exact wy_ok hc0 hs0 ht0 hx hc h
/-- comes: either never, or no sooner than the soonest -/
theorem soo_le {m : Nat} {A : Nat → Nat} {w ch c q : Nat} (hB : BA m A) (hX : VX A) (hp : A 2046 = 1) (hc0 : 0 < ch) (hc3 : c < 3) (hq3 : q < 3) : sooA A w ch ≤ 999 ∧ cmA A w ch c q ≤ 999 ∧ sooA A w ch ≤ cmA A w ch c q := by
  have bt := hB.tick
  have bf := hB.first
  have bs := hB.second
  have bm := hB.mark
  have bc := hB.choice hc3
  have bq := hB.choice hq3
  have hx := bst_x hB hX hp
  have hs0 := bst_lt hB
  have t0 : A 2050 ≤ 120 := by omega
  have S9 : sooA A w ch ≤ 999 := by
    unfold sooA
    cases h : wyA A w 1 ch (bstA A) (A 2050) (A 2045) with
    | none => exact Nat.le_refl _
    | some r =>
      have := wy_b hc0 hs0 t0 hx bm h
      show r.2 ≤ 999
      omega
  refine ⟨S9, ?_⟩
  unfold cmA
  cases h1 : wyA A w 1 ch (bstA A) (A 2050) (A (2001 + c)) with
  | none => exact ⟨Nat.le_refl _, S9⟩
  | some r1 =>
    have o1 := wy_b hc0 hs0 t0 hx bc h1
    show cm2A A w ch r1.1 r1.2 q ≤ 999 ∧ sooA A w ch ≤ cm2A A w ch r1.1 r1.2 q
    unfold cm2A
    have m1 : max r1.2 (A 2043) ≤ 120 := by omega
    cases h2 : wyA A w 1 ch r1.1 (max r1.2 (A 2043)) (A (2001 + q)) with
    | none => exact ⟨Nat.le_refl _, S9⟩
    | some r2 =>
      have o2 := wy_b hc0 o1.1 m1 o1.2.2.2.2.2 bq h2
      have m2 : max r2.2 (A 2044) ≤ 120 := by omega
      show (match wyA A w 1 ch r2.1 (max r2.2 (A 2044)) (A 2045) with | none => 999 | some r => r.2) ≤ 999 ∧ sooA A w ch ≤ (match wyA A w 1 ch r2.1 (max r2.2 (A 2044)) (A 2045) with | none => 999 | some r => r.2)
      cases h3 : wyA A w 1 ch r2.1 (max r2.2 (A 2044)) (A 2045) with
      | none => exact ⟨Nat.le_refl _, S9⟩
      | some r3 =>
        have o3 := wy_b hc0 o2.1 m2 o2.2.2.2.2.2 bm h3
        have i0 : IsLab (stF A w 1) (whA A) ch (bstA A) (A 2050) (LF A w 1 ch (bstA A) (A 2050)) := labF_is hc0 hs0 t0
        have i1 : IsLab (stF A w 1) (whA A) ch r1.1 (max r1.2 (A 2043)) (LF A w 1 ch r1.1 (max r1.2 (A 2043))) := labF_is hc0 o1.1 m1
        have i2 : IsLab (stF A w 1) (whA A) ch r2.1 (max r2.2 (A 2044)) (LF A w 1 ch r2.1 (max r2.2 (A 2044))) := labF_is hc0 o2.1 m2
        have a1 := lab_tri i0 i1 o1.1 (by rw [o1.2.2.1]; omega) m1 _ r2.1 o2.1 (Nat.le_refl _) (by rw [o2.2.2.1]; omega)
        rw [o2.2.2.1] at a1
        have a2 := lab_tri i0 i2 o2.1 (by omega) m2 _ r3.1 o3.1 (Nat.le_refl _) (by rw [o3.2.2.1]; omega)
        rw [o3.2.2.1] at a2
        obtain ⟨r, e1, e2⟩ := wy_le (A := A) (w := w) (tab := 1) (ch := ch) (s0 := bstA A) (t0 := A 2050) o3.2.1 (by omega)
        refine ⟨by show r3.2 ≤ 999; omega, ?_⟩
        show sooA A w ch ≤ r3.2
        unfold sooA
        rw [e1]
        show r.2 ≤ r3.2
        omega
theorem ht_le (A : Nat → Nat) (w : Nat) : ∀ n, htA A w n ≤ n
  | 0 => Nat.le_refl 0
  | n + 1 => by
    have := ht_le A w n
    unfold htA
    split <;> omega
theorem wt_le (A : Nat → Nat) (w : Nat) : wtA A w ≤ 25 := by
  have := ht_le A (w / 2 * 2) 12
  have := ht_le A (w / 2 * 2 + 1) 12
  unfold wtA
  omega
/-- one world's part of an aim; how parts come together; over a group; over all -/
noncomputable def vlA (A : Nat → Nat) (aim c q w : Nat) : Nat := if aim = 0 then wtA A w * cmA A w (chA A) c q else if aim = 1 then cmA A w (chA A) c q else cmA A w (chA A) c q - sooA A w (chA A)
def cmb (aim a b : Nat) : Nat := if aim = 0 then a + b else max a b
def gpA (A : Nat → Nat) (one w : Nat) : Nat := if one = 1 then 0 else A (1995 + w)
def amG (A : Nat → Nat) (aim one g : Nat) (v : Nat → Nat) : Nat → Nat
  | 0 => 0
  | w + 1 => if 0 < tnA A w 12 ∧ gpA A one w = g then cmb aim (amG A aim one g v w) (v w) else amG A aim one g v w
def amT (A : Nat → Nat) (aim : Nat) (v : Nat → Nat) : Nat → Nat
  | 0 => 0
  | w + 1 => if 0 < tnA A w 12 then cmb aim (amT A aim v w) (v w) else amT A aim v w
def anG (A : Nat → Nat) (one g : Nat) : Nat → Bool
  | 0 => false
  | w + 1 => anG A one g w || (decide (0 < tnA A w 12) && decide (gpA A one w = g))
theorem amG_0 {A : Nat → Nat} {aim one g : Nat} {v : Nat → Nat} : ∀ n, anG A one g n = false → amG A aim one g v n = 0
  | 0, _ => rfl
  | n + 1, h => by
    unfold anG at h
    rw [Bool.or_eq_false_iff] at h
    unfold amG
    rw [if_neg (fun q => by
      have := h.2
      rw [decide_eq_true q.1, decide_eq_true q.2] at this
      cases this)]
    exact amG_0 n h.1
theorem vl_le {m : Nat} {A : Nat → Nat} {aim c q w : Nat} (hB : BA m A) (hX : VX A) (hp : A 2046 = 1) (hc3 : c < 3) (hq3 : q < 3) : vlA A aim c q w ≤ 24975 := by
  have ch := chA_le hB
  obtain ⟨s1, s2, s3⟩ := soo_le (w := w) (ch := chA A) (c := c) (q := q) hB hX hp (by omega) hc3 hq3
  have wl := wt_le A w
  unfold vlA
  split
  · have : wtA A w * cmA A w (chA A) c q ≤ 25 * 999 := Nat.mul_le_mul wl s2
    omega
  · split <;> omega
theorem amG_le {A : Nat → Nat} {aim one g : Nat} {v : Nat → Nat} (hv : ∀ w, v w ≤ 24975) : ∀ n, amG A aim one g v n ≤ 24975 * n
  | 0 => Nat.le_refl 0
  | n + 1 => by
    have ih := amG_le (A := A) (aim := aim) (one := one) (g := g) hv n
    have := hv n
    unfold amG cmb
    split
    · split <;> omega
    · omega
theorem amT_le {A : Nat → Nat} {aim : Nat} {v : Nat → Nat} (hv : ∀ w, v w ≤ 24975) : ∀ n, amT A aim v n ≤ 24975 * n
  | 0 => Nat.le_refl 0
  | n + 1 => by
    have ih := amT_le (A := A) (aim := aim) hv n
    have := hv n
    unfold amT cmb
    split
    · split <;> omega
    · omega
theorem gp_lt {m : Nat} {A : Nat → Nat} {one w : Nat} (hB : BA m A) (hw : w < 6) : gpA A one w < 3 := by
  unfold gpA
  split
  · decide
  · exact hB.group hw
theorem amT_eq {m : Nat} {A : Nat → Nat} {aim one : Nat} {v : Nat → Nat → Nat} (hB : BA m A) : ∀ n, n ≤ 6 → amT A aim (fun w => v (gpA A one w) w) n = cmb aim (cmb aim (cmb aim 0 (amG A aim one 0 (v 0) n)) (amG A aim one 1 (v 1) n)) (amG A aim one 2 (v 2) n)
  | 0, _ => by
    unfold amT amG cmb
    split <;> rfl
  | n + 1, hn => by
    have ih := amT_eq (aim := aim) (one := one) (v := v) hB n (by omega)
    have g3 := gp_lt (one := one) hB (show n < 6 by omega)
    unfold amT amG
    by_cases t : 0 < tnA A n 12
    · have : gpA A one n = 0 ∨ gpA A one n = 1 ∨ gpA A one n = 2 := by omega
      rcases this with e | e | e
      · rw [if_pos t, if_pos ⟨t, e⟩, if_neg (fun q => by omega), if_neg (fun q => by omega), ih, e]
        unfold cmb
        split <;> omega
      · rw [if_pos t, if_neg (fun q => by omega), if_pos ⟨t, e⟩, if_neg (fun q => by omega), ih, e]
        unfold cmb
        split <;> omega
      · rw [if_pos t, if_neg (fun q => by omega), if_neg (fun q => by omega), if_pos ⟨t, e⟩, ih, e]
        unfold cmb
        split <;> omega
    · rw [if_neg t, if_neg (fun q => t q.1), if_neg (fun q => t q.1), if_neg (fun q => t q.1), ih]
/-- the least of the first n, the first of like ones -/
def bq (v : Nat → Nat) : Nat → Nat
  | 0 => 0
  | n + 1 => if n = 0 ∨ v n < v (bq v n) then n else bq v n
theorem bq_lt (v : Nat → Nat) : ∀ n, 0 < n → bq v n < n
  | 0, h => absurd h (Nat.lt_irrefl 0)
  | n + 1, _ => by
    unfold bq
    split
    · exact Nat.lt_succ_self n
    · rename_i q
      have := bq_lt v n (by omega)
      omega
noncomputable def sv (A : Nat → Nat) (aim one c g q : Nat) : Nat := amG A aim one g (fun w => vlA A aim c q w) 6
noncomputable def sq (A : Nat → Nat) (aim one c g : Nat) : Nat := bq (fun q => sv A aim one c g q) 3
noncomputable def alA (A : Nat → Nat) (aim one c : Nat) : Nat := cmb aim (cmb aim (cmb aim 0 (sv A aim one c 0 (sq A aim one c 0))) (sv A aim one c 1 (sq A aim one c 1))) (sv A aim one c 2 (sq A aim one c 2))
noncomputable def bcA (A : Nat → Nat) (aim one : Nat) : Nat := bq (fun c => alA A aim one c) 3
noncomputable def sqI (A : Nat → Nat) (aim one c g : Nat) : Int32 := if anG A one g 6 = true then nI (sq A aim one c g) else -1
def plc (A : Nat → Nat) (w x : Nat) : Nat → Nat
  | 0 => 1
  | r + 1 => plc A w x r + (if A (2004 + 6 * r + w) < x then 1 else 0)
theorem plc_le (A : Nat → Nat) (w x : Nat) : ∀ n, plc A w x n ≤ n + 1
  | 0 => Nat.le_refl 1
  | n + 1 => by
    have := plc_le A w x n
    unfold plc
    split <;> omega
noncomputable def plS (A : Nat → Nat) (aim : Nat) : Nat → Nat
  | 0 => 0
  | w + 1 => if 0 < tnA A w 12 then plS A aim w + wtA A w * plc A w (cmA A w (chA A) (bcA A aim 0) (sq A aim 0 (bcA A aim 0) (gpA A 0 w))) 6 else plS A aim w
theorem plS_le (A : Nat → Nat) (aim : Nat) : ∀ n, plS A aim n ≤ 175 * n
  | 0 => Nat.le_refl 0
  | n + 1 => by
    have ih := plS_le A aim n
    have wl := wt_le A n
    have pl := plc_le A n (cmA A n (chA A) (bcA A aim 0) (sq A aim 0 (bcA A aim 0) (gpA A 0 n))) 6
    unfold plS
    split
    · have := Nat.mul_le_mul wl pl
      omega
    · omega
theorem anG_in {A : Nat → Nat} {one g : Nat} : ∀ {n w : Nat}, w < n → 0 < tnA A w 12 → gpA A one w = g → anG A one g n = true
  | 0, _, h, _, _ => absurd h (Nat.not_lt_zero _)
  | n + 1, w, h, t, e => by
    unfold anG
    by_cases q : w = n
    · subst q
      rw [decide_eq_true t, decide_eq_true e, Bool.and_true, Bool.or_true]
    · rw [anG_in (n := n) (by omega) t e, Bool.true_or]
