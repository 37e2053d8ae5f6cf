/-! Signs: a checker for searches over signs of sums of products. -/
def g_sg (x : Int) : Nat := if x < 0 then 0 else if x = 0 then 1 else 2
theorem g_sg_lt (x : Int) : g_sg x < 3 := by
  unfold g_sg
  split
  · decide
  · split <;> decide
def g_get (d v : Nat) : Nat := (d >>> (3 * v)) % 8
theorem g_get_lt (d v : Nat) : g_get d v < 8 := Nat.mod_lt _ (by decide)
theorem g_get_bit (d v x : Nat) (h : x < 3) : (g_get d v).testBit x = d.testBit (3 * v + x) := by
  unfold g_get
  rw [show (8 : Nat) = 2 ^ 3 from rfl, Nat.testBit_mod_two_pow, Nat.testBit_shiftRight]
  simp [h]
def g_mT : Nat := 6276979384170588125483770438439475785860216735103130271744
def g_aT : Nat := 6277099110254125207445999281668124398975143604576751452160
def g_nT : Nat := 15637664
def g_mul (a b : Nat) : Nat := (g_mT >>> (3 * (8 * a + b))) % 8
def g_add (a b : Nat) : Nat := (g_aT >>> (3 * (8 * a + b))) % 8
def g_neg (a : Nat) : Nat := (g_nT >>> (3 * a)) % 8
def g_mS (x y : Nat) : Nat := bif x == 1 then 1 else bif y == 1 then 1 else bif x == y then 2 else 0
theorem g_mul_bit_ : ∀ a b : Fin 8, ∀ x y : Fin 3, a.1.testBit x.1 = true → b.1.testBit y.1 = true → (g_mul a.1 b.1).testBit (g_mS x.1 y.1) = true := by
  decide +kernel
theorem g_mul_bit : ∀ a, a < 8 → ∀ b, b < 8 → ∀ x, x < 3 → ∀ y, y < 3 → a.testBit x = true → b.testBit y = true → (g_mul a b).testBit (g_mS x y) = true :=
  fun a ha b hb x hx y hy => g_mul_bit_ ⟨a, ha⟩ ⟨b, hb⟩ ⟨x, hx⟩ ⟨y, hy⟩
theorem g_neg_bit : ∀ a, a < 8 → ∀ x, x < 3 → a.testBit x = true → (g_neg a).testBit (2 - x) = true := by decide +kernel
def g_aP (x y z : Nat) : Bool := (!(decide (x ≤ 1) && decide (y ≤ 1) && (decide (x = 0) || decide (y = 0))) || decide (z = 0)) && (!(decide (1 ≤ x) && decide (1 ≤ y) && (decide (x = 2) || decide (y = 2))) || decide (z = 2)) && (!(decide (x = 1) && decide (y = 1)) || decide (z = 1))
theorem g_add_bit_ : ∀ a b : Fin 8, ∀ x y z : Fin 3, a.1.testBit x.1 = true → b.1.testBit y.1 = true → g_aP x.1 y.1 z.1 = true → (g_add a.1 b.1).testBit z.1 = true := by
  decide +kernel
theorem g_aP_of (x y z : Nat) (h : ((x ≤ 1 ∧ y ≤ 1 ∧ (x = 0 ∨ y = 0) → z = 0) ∧ (1 ≤ x ∧ 1 ≤ y ∧ (x = 2 ∨ y = 2) → z = 2) ∧ (x = 1 ∧ y = 1 → z = 1))) : g_aP x y z = true := by
  simp only [g_aP, Bool.and_eq_true, Bool.or_eq_true, Bool.not_eq_true', Bool.and_eq_false_iff, Bool.or_eq_false_iff, decide_eq_true_eq, decide_eq_false_iff_not]
  omega
theorem g_add_bit : ∀ a, a < 8 → ∀ b, b < 8 → ∀ x, x < 3 → ∀ y, y < 3 → ∀ z, z < 3 → a.testBit x = true → b.testBit y = true →
    ((x ≤ 1 ∧ y ≤ 1 ∧ (x = 0 ∨ y = 0) → z = 0) ∧ (1 ≤ x ∧ 1 ≤ y ∧ (x = 2 ∨ y = 2) → z = 2) ∧ (x = 1 ∧ y = 1 → z = 1)) → (g_add a b).testBit z = true :=
  fun a ha b hb x hx y hy z hz h1 h2 h3 => g_add_bit_ ⟨a, ha⟩ ⟨b, hb⟩ ⟨x, hx⟩ ⟨y, hy⟩ ⟨z, hz⟩ h1 h2 (g_aP_of x y z h3)
theorem g_mul_lt (a b : Nat) : g_mul a b < 8 := Nat.mod_lt _ (by decide)
theorem g_add_lt (a b : Nat) : g_add a b < 8 := Nat.mod_lt _ (by decide)
theorem g_neg_lt (a : Nat) : g_neg a < 8 := Nat.mod_lt _ (by decide)
theorem g_sg_neg (x : Int) : g_sg (-x) = 2 - g_sg x := by
  unfold g_sg
  by_cases h : x < 0
  · rw [if_pos h, if_neg (by omega), if_neg (by omega)]
  · by_cases h0 : x = 0
    · subst h0; rfl
    · rw [if_neg h, if_neg h0, if_pos (by omega)]
theorem g_sg_mul (x y : Int) : g_sg (x * y) = g_mS (g_sg x) (g_sg y) := by
  rcases Int.lt_trichotomy x 0 with h | h | h
  · rcases Int.lt_trichotomy y 0 with k | k | k
    · have := Int.mul_pos_of_neg_of_neg h k
      simp only [g_sg, if_pos h, if_pos k]; rw [if_neg (by omega), if_neg (by omega)]; rfl
    · subst k; simp only [g_sg, if_pos h, Int.mul_zero]; rfl
    · have := Int.mul_neg_of_neg_of_pos h k
      simp only [g_sg, if_pos h]; rw [if_pos this, if_neg (by omega), if_neg (by omega)]; rfl
  · subst h; simp only [g_sg, Int.zero_mul]; rfl
  · rcases Int.lt_trichotomy y 0 with k | k | k
    · have := Int.mul_neg_of_pos_of_neg h k
      simp only [g_sg, if_pos k]; rw [if_pos this, if_neg (by omega), if_neg (by omega)]; rfl
    · subst k; simp only [g_sg, Int.mul_zero]; rw [if_neg (by omega), if_neg (by omega : ¬ x < 0), if_neg (by omega : ¬ x = 0)]; rfl
    · have := Int.mul_pos h k
      simp only [g_sg]
      rw [if_neg (by omega), if_neg (by omega), if_neg (by omega : ¬ x < 0), if_neg (by omega : ¬ x = 0), if_neg (by omega : ¬ y < 0), if_neg (by omega : ¬ y = 0)]; rfl
theorem g_sg_add (x y : Int) : ((g_sg x ≤ 1 ∧ g_sg y ≤ 1 ∧ (g_sg x = 0 ∨ g_sg y = 0) → g_sg (x + y) = 0) ∧ (1 ≤ g_sg x ∧ 1 ≤ g_sg y ∧ (g_sg x = 2 ∨ g_sg y = 2) → g_sg (x + y) = 2) ∧ (g_sg x = 1 ∧ g_sg y = 1 → g_sg (x + y) = 1)) := by
  have e : ∀ z : Int, (g_sg z = 0 ∧ z < 0) ∨ (g_sg z = 1 ∧ z = 0) ∨ (g_sg z = 2 ∧ 0 < z) := by
    intro z; unfold g_sg
    by_cases h : z < 0
    · left; exact ⟨if_pos h, h⟩
    · by_cases h0 : z = 0
      · right; left; exact ⟨by rw [if_neg h, if_pos h0], h0⟩
      · right; right; exact ⟨by rw [if_neg h, if_neg h0], by omega⟩
  rcases e x with h | h | h <;> rcases e y with k | k | k <;> rcases e (x + y) with l | l | l <;> omega

/-- A term: minus?, two places. -/
abbrev GT := Bool × Nat × Nat
def g_tm (d : Nat) (t : GT) : Nat := bif t.1 then g_neg (g_mul (g_get d t.2.1) (g_get d t.2.2)) else g_mul (g_get d t.2.1) (g_get d t.2.2)
def g_tv (V : Nat → Int) (t : GT) : Int := bif t.1 then -(V t.2.1 * V t.2.2) else V t.2.1 * V t.2.2
def g_sm (d : Nat) : List GT → Nat
  | [] => 2
  | t :: l => g_add (g_tm d t) (g_sm d l)
def g_sv (V : Nat → Int) : List GT → Int
  | [] => 0
  | t :: l => g_tv V t + g_sv V l
/-- The signs of V lie in d. -/
def GIn (d : Nat) (V : Nat → Int) : Prop := ∀ v, v < 35 → d.testBit (3 * v + g_sg (V v)) = true
theorem g_get_in {d V} (h : GIn d V) (v : Nat) (hv : v < 35) : (g_get d v).testBit (g_sg (V v)) = true := by
  rw [g_get_bit d v _ (g_sg_lt _)]; exact h v hv
theorem g_tm_in {d V} (h : GIn d V) (t : GT) (h1 : t.2.1 < 35) (h2 : t.2.2 < 35) : g_tm d t < 8 ∧ (g_tm d t).testBit (g_sg (g_tv V t)) = true := by
  have m := g_mul_bit _ (g_get_lt d t.2.1) _ (g_get_lt d t.2.2) _ (g_sg_lt _) _ (g_sg_lt _) (g_get_in h t.2.1 h1) (g_get_in h t.2.2 h2)
  rw [← g_sg_mul] at m
  unfold g_tm g_tv
  cases t.1
  · exact ⟨g_mul_lt _ _, m⟩
  · refine ⟨g_neg_lt _, ?_⟩
    show (g_neg _).testBit (g_sg (-(V t.2.1 * V t.2.2))) = true
    rw [g_sg_neg]
    exact g_neg_bit _ (g_mul_lt _ _) _ (g_sg_lt _) m
theorem g_sm_in {d V} (h : GIn d V) : ∀ l : List GT, (∀ t ∈ l, t.2.1 < 35 ∧ t.2.2 < 35) → g_sm d l < 8 ∧ (g_sm d l).testBit (g_sg (g_sv V l)) = true := by
  intro l
  induction l with
  | nil => intro _; exact ⟨by show 2 < 8; decide, by show Nat.testBit 2 1 = true; decide⟩
  | cons t l ih =>
    intro hl
    obtain ⟨i1, i2⟩ := ih fun t ht => hl t (List.mem_cons_of_mem _ ht)
    obtain ⟨ht1, ht2⟩ := hl t (List.mem_cons_self ..)
    obtain ⟨j1, j2⟩ := g_tm_in h t ht1 ht2
    refine ⟨g_add_lt _ _, ?_⟩
    exact g_add_bit _ j1 _ i1 _ (g_sg_lt _) _ (g_sg_lt _) _ (g_sg_lt _) j2 i2 (g_sg_add _ _)
/-- A clause: all places have signs in their masks. -/
def g_cm (d : Nat) : List (Nat × Nat) → Bool
  | [] => true
  | q :: l => (Nat.beq (Nat.land (g_get d q.1) q.2) (g_get d q.1)) && g_cm d l
theorem g_cm_in {d V} (h : GIn d V) : ∀ l : List (Nat × Nat), (∀ q ∈ l, q.1 < 35) → g_cm d l = true → ∀ q ∈ l, q.2.testBit (g_sg (V q.1)) = true := by
  intro l
  induction l with
  | nil => intro _ _ q hq; exact absurd hq (List.not_mem_nil)
  | cons p l ih =>
    intro hl hc q hq
    unfold g_cm at hc
    rw [Bool.and_eq_true] at hc
    rcases List.mem_cons.1 hq with e | e
    · subst e
      have hb := Nat.eq_of_beq_eq_true hc.1
      have := g_get_in h q.1 (hl q (List.mem_cons_self ..))
      rw [← hb] at this
      have t2 : (g_get d q.1 &&& q.2).testBit (g_sg (V q.1)) = true := this
      rw [Nat.testBit_and, Bool.and_eq_true] at t2
      exact t2.2
    · exact ih (fun t ht => hl t (List.mem_cons_of_mem _ ht)) hc.2 q e
/-- The items: sums (below na) and clauses, in rows of 16. -/
def g_all : Nat := 40564819207303340847894502572031
def g_one (d u : Nat) : Nat := Nat.land d (Nat.lor (Nat.xor g_all (7 <<< (3 * (u / 3)))) (2 ^ u))
def g_off (d u : Nat) : Nat := Nat.land d (Nat.xor g_all (2 ^ u))
theorem g_all_bit (i : Nat) (h : i < 105) : g_all.testBit i = true := by
  have : ∀ i, i < 105 → g_all.testBit i = true := by decide +kernel
  exact this i h
theorem g_one_in {d V} (h : GIn d V) (u : Nat) (hs : g_sg (V (u / 3)) = u % 3) : GIn (g_one d u) V := by
  intro v hv
  have hl := g_sg_lt (V v)
  show (d &&& ((g_all ^^^ (7 <<< (3 * (u / 3)))) ||| 2 ^ u)).testBit _ = true
  rw [Nat.testBit_and, h v hv, Bool.true_and, Nat.testBit_or, Nat.testBit_xor, g_all_bit _ (by omega), Nat.testBit_shiftLeft, Nat.testBit_two_pow]
  by_cases e : v = u / 3
  · subst e
    have : u = 3 * (u / 3) + g_sg (V (u / 3)) := by omega
    rw [Bool.or_eq_true]; right
    exact decide_eq_true this
  · rw [Bool.or_eq_true]; left
    by_cases g : 3 * v + g_sg (V v) ≥ 3 * (u / 3)
    · rw [show (7 : Nat) = 2 ^ 3 - 1 from rfl, Nat.testBit_two_pow_sub_one]
      rw [decide_eq_false (by omega : ¬ 3 * v + g_sg (V v) - 3 * (u / 3) < 3), Bool.and_false]; rfl
    · rw [decide_eq_false g, Bool.false_and]; rfl
theorem g_off_in {d V} (h : GIn d V) (u : Nat) (hs : ¬ g_sg (V (u / 3)) = u % 3) : GIn (g_off d u) V := by
  intro v hv
  have hl := g_sg_lt (V v)
  show (d &&& (g_all ^^^ 2 ^ u)).testBit _ = true
  rw [Nat.testBit_and, h v hv, Bool.true_and, Nat.testBit_xor, g_all_bit _ (by omega), Nat.testBit_two_pow]
  have : ¬ u = 3 * v + g_sg (V v) := by
    intro e
    have e1 : u / 3 = v := by omega
    rw [e1] at hs; omega
  rw [decide_eq_false this]; rfl
def g_at {α} (L : List (List α)) (k : Nat) : Option α := match L[k / 16]? with | some r => r[k % 16]? | none => none
def g_con (A : List (List (List GT))) (K : List (List (List (Nat × Nat)))) (k d : Nat) : Bool :=
  bif Nat.blt k 128 then (match g_at A k with | some l => Nat.beq (Nat.land (g_sm d l) 2) 0 | none => false)
  else (match g_at K (k - 128) with | some l => g_cm d l | none => false)
def GS (A : List (List (List GT))) (K : List (List (List (Nat × Nat)))) (V : Nat → Int) : Prop :=
  (∀ r ∈ A, ∀ l ∈ r, (∀ t ∈ l, t.2.1 < 35 ∧ t.2.2 < 35) ∧ g_sv V l = 0) ∧ (∀ r ∈ K, ∀ l ∈ r, (∀ q ∈ l, q.1 < 35) ∧ ¬ ∀ q ∈ l, q.2.testBit (g_sg (V q.1)) = true)
theorem g_at_mem {α} {L : List (List α)} {k : Nat} {a : α} (h : g_at L k = some a) : ∃ r ∈ L, a ∈ r := by
  unfold g_at at h
  split at h
  · rename_i r e
    exact ⟨r, List.mem_of_getElem? e, List.mem_of_getElem? h⟩
  · cases h
theorem g_con_no {A K V} (s : GS A K V) {d} (h : GIn d V) (k : Nat) (hc : g_con A K k d = true) : False := by
  unfold g_con at hc
  cases e : Nat.blt k 128
  · rw [e] at hc
    simp only [cond_false] at hc
    split at hc
    · rename_i l el
      obtain ⟨r, hr, hl⟩ := g_at_mem el
      obtain ⟨h1, h2⟩ := s.2 r hr l hl
      exact h2 (g_cm_in h l h1 hc)
    · cases hc
  · rw [e] at hc
    simp only [cond_true] at hc
    split at hc
    · rename_i l el
      obtain ⟨r, hr, hl⟩ := g_at_mem el
      obtain ⟨h1, h2⟩ := s.1 r hr l hl
      have := (g_sm_in h l h1)
      rw [h2] at this
      have hb := Nat.eq_of_beq_eq_true hc
      have e0 : (g_sm d l &&& 2).testBit 1 = false := by
        have : g_sm d l &&& 2 = 0 := hb
        rw [this]; decide
      rw [Nat.testBit_and] at e0
      have e1 : (g_sm d l).testBit 1 = true := this.2
      rw [e1] at e0; revert e0; decide
    · cases hc
/-- The checker: fuel, domain, pending domains, the stream. D: domains shown before. -/
def g_chk (A : List (List (List GT))) (K : List (List (List (Nat × Nat)))) (D : List Nat) : Nat → Nat → List Nat → Nat → Bool
  | 0, _, _, _ => false
  | f + 1, d, st, s =>
    bif Nat.blt (s % 256) 200 then g_con A K (s % 256) (g_one d ((s >>> 8) % 256)) && g_chk A K D f (g_off d ((s >>> 8) % 256)) st (s >>> 16)
    else bif Nat.beq (s % 256) 200 then g_chk A K D f (g_one d ((s >>> 8) % 256)) (g_off d ((s >>> 8) % 256) :: st) (s >>> 16)
    else (bif Nat.beq (s % 256) 201 then g_con A K ((s >>> 8) % 256) d else (match D[(s >>> 8) % 256]? with | some q => Nat.beq (Nat.land d q) d | none => false)) &&
      (match st with | [] => true | e :: r => g_chk A K D f e r (s >>> 16))
theorem g_chk_no {A K V} (s : GS A K V) {D : List Nat} (hD : ∀ q ∈ D, ¬ GIn q V) : ∀ f d st w, g_chk A K D f d st w = true → (¬ GIn d V ∧ ∀ q ∈ st, ¬ GIn q V) := by
  intro f
  induction f with
  | zero => intro d st w h; cases h
  | succ f ih =>
    intro d st w h
    unfold g_chk at h
    generalize (w >>> 8) % 256 = u at h
    cases e1 : Nat.blt (w % 256) 200
    · rw [e1, cond_false] at h
      cases e2 : Nat.beq (w % 256) 200
      · rw [e2, cond_false, Bool.and_eq_true] at h
        have hd : ¬ GIn d V := by
          intro hi
          have h1 := h.1
          cases e3 : Nat.beq (w % 256) 201
          · rw [e3, cond_false] at h1
            split at h1
            · rename_i q eq
              have hb : d &&& q = d := Nat.eq_of_beq_eq_true h1
              refine hD q (List.mem_of_getElem? eq) ?_
              intro v hv
              have := hi v hv
              rw [← hb, Nat.testBit_and, Bool.and_eq_true] at this
              exact this.2
            · cases h1
          · rw [e3, cond_true] at h1
            exact g_con_no s hi _ h1
        refine ⟨hd, ?_⟩
        have h2 := h.2
        cases st with
        | nil => intro q hq; exact absurd hq List.not_mem_nil
        | cons e r =>
          obtain ⟨i1, i2⟩ := ih _ _ _ h2
          intro q hq
          rcases List.mem_cons.1 hq with e | e
          · subst e; exact i1
          · exact i2 q e
      · rw [e2, cond_true] at h
        obtain ⟨i1, i2⟩ := ih _ _ _ h
        refine ⟨fun hi => ?_, fun q hq => i2 q (List.mem_cons_of_mem _ hq)⟩
        by_cases g : g_sg (V (u / 3)) = u % 3
        · exact i1 (g_one_in hi u g)
        · exact i2 _ (List.mem_cons_self ..) (g_off_in hi u g)
    · rw [e1, cond_true, Bool.and_eq_true] at h
      obtain ⟨i1, i2⟩ := ih _ _ _ h.2
      refine ⟨fun hi => ?_, i2⟩
      by_cases g : g_sg (V (u / 3)) = u % 3
      · exact g_con_no s (g_one_in hi u g) _ h.1
      · exact i1 (g_off_in hi u g)
