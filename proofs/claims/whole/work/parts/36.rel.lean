/-! ===== the relation: class and reference hold the same state ===== -/
def RS (o : Nat) (A : Nat → Nat) (μ : wm_M) : Prop :=
  (∀ i, i < 84 → μ.1 (6 + o) i = if A (240 + i) = 0 then -1 else nI (A (156 + i))) ∧
  (∀ i, i < 25 → μ.1 (11 + o) i = if A (349 + i) = 0 then -1 else nI (A (399 + i))) ∧
  (∀ i, i < 25 → μ.1 (12 + o) i = if A (349 + i) = 0 then -1 else nI (A (424 + i))) ∧
  (∀ r w, r < 6 → w < 6 → μ.1 (29 + o) (w * 6 + r) = nI (A (2004 + 6 * r + w))) ∧
  μ.1 (13 + o) 14 = nI (awk A (A 2041))
def RR (o : Nat) (A : Nat → Nat) (μ : wm_M) : Prop := ∀ k, k < A 2042 → (rP A k).1 = true ∧ rN A k ≤ 120 ∧ μ.1 (19 + o) k = nI (rP A k).2.2.1 ∧ μ.1 (20 + o) k = nI (A (471 + 127 * k)) ∧ μ.1 (21 + o) k = nI (A (472 + 127 * k)) ∧ μ.1 (22 + o) k = nI (rP A k).2.2.2.1 ∧ μ.1 (23 + o) k = nI (rP A k).2.2.2.2.length ∧ ∀ i, i < (rP A k).2.2.2.2.length → μ.1 (24 + o) (120 * k + i) = (rP A k).2.2.2.2.getD i 0
def RC (o : Nat) (A : Nat → Nat) (μ : wm_M) : Prop := RT o A μ ∧ RS o A μ ∧ RR o A μ
def VX (A : Nat → Nat) : Prop := (∀ i, i < 25 → A (374 + i) ≤ 99 * A (349 + i)) ∧ (A 2046 = 0 → A 2050 = 0) ∧ (A 2046 = 1 → A 2049 < A 2040 ∧ A 2051 % 3 < A 2040)
def askd (A : Nat → Nat) (μ : wm_M) : Prop := ∀ c hr x, c < 36 → hr < 12 → x < A 2040 → μ.1 63 ((c * 12 + hr) * 3 + x) = bI (clA A c hr x = true) ∧ μ.1 64 ((c * 12 + hr) * 3 + x) = if A (452 + x) = 1 then -1 else if sayV A 1 (A (449 + x)) c hr < nI (hd_ (A (449 + x))) then sayV A 1 (A (449 + x)) c hr else nI (hd_ (A (449 + x)))
def drwn (A : Nat → Nat) (w tab : Nat) (μ : wm_M) : Prop :=
  (∀ hr h, hr < 12 → h < 8 → μ.1 66 (hr * 8 + h) = nI (ap h (frA A w hr))) ∧
  (∀ c hr, c < 36 → hr < 12 → μ.1 65 (c * 12 + hr) = nI (fiA A w hr c)) ∧
  (∀ x a b, x < A 2040 → a < 5 → b < 5 → μ.1 67 ((x * 5 + a) * 5 + b) = nI (pcA (A (449 + x)) a (spA A tab (5 * a + b))))
def wrkd (A : Nat → Nat) (μ : wm_M) : Prop := ∀ w, w < 6 → 0 < tnA A w 12 → μ.1 77 w = nI (sooA A w (chA A)) ∧ μ.1 78 w = nI (wtA A w) ∧ ∀ c q, c < 3 → q < 3 → μ.1 76 ((w * 3 + c) * 3 + q) = nI (cmA A w (chA A) c q)
def CV (A : Nat → Nat) (μ : wm_M) : Prop := (¬ μ.1 62 7 = 0 → askd A μ) ∧ (∀ w tab, w < 7 → tab < 2 → μ.1 62 8 = nI (2 * w + tab) → drwn A w tab μ) ∧ (¬ μ.1 75 6 = 0 → wrkd A μ)
def TP (μ : wm_M) : Prop := ∃ (t : Nat) (T : Nat → Nat), t ≤ 120 ∧ μ.1 59 1 = nI t ∧ μ.1 89 4 = nI t ∧ ∀ i, i < t → T i < 256 ∧ μ.1 60 i = nI (T i) ∧ μ.1 92 i = nI (T i)
def NM (μ : wm_M) : Prop := ((μ.1 0 9 = -1 ∧ μ.1 89 49 = 0) ∨ ∃ m : Nat, m ≤ 12 ∧ μ.1 0 9 = nI m ∧ μ.1 89 48 = nI m ∧ μ.1 89 49 = 1) ∧ ∀ i, i < 12 → μ.1 85 i = μ.1 111 i
def RF (μ : wm_M) : Prop := ∀ k, k < 9 → μ.1 88 k = μ.1 90 k
def IM (n : Nat) (μ : wm_M) : Prop := (μ.1 0 2 = 0 ∧ μ.1 89 46 = 0) ∨ (μ.1 0 2 = 1 ∧ μ.1 89 46 = 1 ∧ ∃ B, BA n B ∧ VX B ∧ RM 110 B μ ∧ RC 29 B μ)
def BS (μ : wm_M) : Prop := ∀ c h, c < 36 → h < 8 → μ.1 68 (c * 8 + h) = if bsA c h = 36 then -1 else nI (bsA c h)
def RO (n : Nat) (μ : wm_M) : Prop := TP μ ∧ NM μ ∧ RF μ ∧ IM n μ ∧ BS μ
def RA (n : Nat) (A : Nat → Nat) (μ : wm_M) : Prop := BA n A ∧ VX A ∧ RM 91 A μ ∧ RC 0 A μ ∧ CV A μ
def Rel (n : Nat) (μ : wm_M) : Prop := ∃ A, RA n A μ ∧ RO n μ
/-! what the relation looks at: the log's cells; the rest -/
def kcl : List Nat := [3, 4, 5, 6, 8, 9, 10, 11, 12, 13, 14, 15, 16, 17, 19, 20, 21, 22, 23, 24, 27, 28, 29]
def kA (o c i : Nat) : Bool := kcl.any (fun q => Nat.beq (q + o) c) || (Nat.beq c (1 + o) && (Nat.beq i 4 || Nat.beq i 5)) || (Nat.beq c (2 + o) && Nat.beq i 4) || (Nat.beq c (18 + o) && Nat.beq i 6)
def kV (c i : Nat) : Bool := [63, 64, 65, 66, 67, 76, 77, 78].any (fun q => Nat.beq q c) || (Nat.beq c 62 && (Nat.beq i 7 || Nat.beq i 8)) || (Nat.beq c 75 && Nat.beq i 6)
def kT (c i : Nat) : Bool := Nat.beq c 60 || Nat.beq c 92 || (Nat.beq c 59 && Nat.beq i 1) || (Nat.beq c 89 && Nat.beq i 4)
def kN (c i : Nat) : Bool := Nat.beq c 85 || Nat.beq c 111 || (Nat.beq c 0 && Nat.beq i 9) || (Nat.beq c 89 && (Nat.beq i 48 || Nat.beq i 49))
def kF (c i : Nat) : Bool := Nat.beq c 88 || Nat.beq c 90
def kI (c i : Nat) : Bool := Nat.beq c 110 || (Nat.beq c 0 && Nat.beq i 2) || (Nat.beq c 89 && Nat.beq i 46) || kA 29 c i
def kB (c i : Nat) : Bool := Nat.beq c 68
def kO (c i : Nat) : Bool := kT c i || kN c i || kF c i || kI c i || kB c i
def kR (c i : Nat) : Bool := kA 0 c i || Nat.beq c 91 || kV c i || kO c i
/-- the same where K looks -/
def Sm (K : Nat → Nat → Bool) (μ ν : wm_M) : Prop := ∀ c i, K c i = true → ν.1 c i = μ.1 c i
theorem Sm.rf (K : Nat → Nat → Bool) (μ : wm_M) : Sm K μ μ := fun _ _ _ => rfl
theorem Sm.tr {K : Nat → Nat → Bool} {μ ν κ : wm_M} (h : Sm K μ ν) (g : Sm K ν κ) : Sm K μ κ := fun c i e => (g c i e).trans (h c i e)
theorem Sm.le {K L : Nat → Nat → Bool} {μ ν : wm_M} (h : Sm K μ ν) (g : ∀ c i, L c i = true → K c i = true) : Sm L μ ν := fun c i e => h c i (g c i e)
theorem Sm.si {K : Nat → Nat → Bool} {μ ν : wm_M} (h : Sm K μ ν) {c k : Nat} {x : Int32} (e : K c k = false) : Sm K μ (wm_si ν c k x) := by
  intro d i hi
  by_cases hd : d = c
  · subst hd
    have : i ≠ k := fun q => by rw [q, e] at hi; cases hi
    rw [si_other _ _ this]; exact h _ _ hi
  · rw [si_ne _ _ _ hd]; exact h _ _ hi
theorem Sm.sr {K : Nat → Nat → Bool} {μ ν : wm_M} (h : Sm K μ ν) {c : Nat} {f : Nat → Int32} (e : ∀ k, K c k = false) : Sm K μ (wm_sr ν c f) := by
  intro d i hi
  by_cases hd : d = c
  · subst hd; rw [e i] at hi; cases hi
  · rw [sr_ne _ _ hd]; exact h _ _ hi
theorem Sm.sl {K : Nat → Nat → Bool} {μ ν : wm_M} (h : Sm K μ ν) {c k : Nat} {x : Int64} : Sm K μ (wm_sl ν c k x) := h
theorem rcT_kA : ∀ q ∈ rcT, ∀ i, i < q.2.2.2 → kA 0 q.1 (q.2.1 + i) = true := by decide +kernel
theorem rcT_kA29 : ∀ q ∈ rcT, ∀ i, i < q.2.2.2 → kA 29 (q.1 + 29) (q.2.1 + i) = true := by decide +kernel
theorem kA_in {o c : Nat} (h : c ∈ kcl) (i : Nat) : kA o (c + o) i = true := by
  unfold kA
  have : kcl.any (fun q => Nat.beq (q + o) (c + o)) = true := List.any_eq_true.mpr ⟨c, h, Nat.beq_refl _⟩
  rw [this]; rfl
theorem RT.sm {o : Nat} (ho : o = 0 ∨ o = 29) {A : Nat → Nat} {μ ν : wm_M} (h : RT o A μ) (e : Sm (kA o) μ ν) : RT o A ν := by
  intro q hq i hi
  rw [e _ _ (by rcases ho with rfl | rfl; exact rcT_kA q hq i hi; exact rcT_kA29 q hq i hi)]
  exact h q hq i hi
theorem RS.sm {o : Nat} {A : Nat → Nat} {μ ν : wm_M} (h : RS o A μ) (e : Sm (kA o) μ ν) : RS o A ν := by
  obtain ⟨h1, h2, h3, h4, h5⟩ := h
  refine ⟨fun i hi => ?_, fun i hi => ?_, fun i hi => ?_, fun r w hr hw => ?_, ?_⟩
  · rw [e (6 + o) i (kA_in (by decide) i)]; exact h1 i hi
  · rw [e (11 + o) i (kA_in (by decide) i)]; exact h2 i hi
  · rw [e (12 + o) i (kA_in (by decide) i)]; exact h3 i hi
  · rw [e (29 + o) _ (kA_in (by decide) _)]; exact h4 r w hr hw
  · rw [e (13 + o) _ (kA_in (by decide) _)]; exact h5
theorem RR.sm {o : Nat} {A : Nat → Nat} {μ ν : wm_M} (h : RR o A μ) (e : Sm (kA o) μ ν) : RR o A ν := by
  intro k hk
  obtain ⟨h0, h1, h2, h3, h4, h5, h6, h7⟩ := h k hk
  refine ⟨h0, h1, ?_, ?_, ?_, ?_, ?_, fun i hi => ?_⟩
  · rw [e (19 + o) k (kA_in (by decide) k)]; exact h2
  · rw [e (20 + o) k (kA_in (by decide) k)]; exact h3
  · rw [e (21 + o) k (kA_in (by decide) k)]; exact h4
  · rw [e (22 + o) k (kA_in (by decide) k)]; exact h5
  · rw [e (23 + o) k (kA_in (by decide) k)]; exact h6
  · rw [e (24 + o) _ (kA_in (by decide) _)]; exact h7 i hi
theorem RC.sm {o : Nat} (ho : o = 0 ∨ o = 29) {A : Nat → Nat} {μ ν : wm_M} (h : RC o A μ) (e : Sm (kA o) μ ν) : RC o A ν := ⟨h.1.sm ho e, h.2.1.sm e, h.2.2.sm e⟩
theorem CV.sm {A : Nat → Nat} {μ ν : wm_M} (h : CV A μ) (e : Sm kV μ ν) : CV A ν := by
  obtain ⟨h1, h2, h3⟩ := h
  have e1 : ν.1 62 7 = μ.1 62 7 := e 62 7 rfl
  have e2 : ν.1 62 8 = μ.1 62 8 := e 62 8 rfl
  have e3 : ν.1 75 6 = μ.1 75 6 := e 75 6 rfl
  refine ⟨fun q => ?_, fun w tab hw ht q => ?_, fun q => ?_⟩
  · rw [e1] at q
    intro c hr x hc hh hx
    rw [e 63 _ rfl, e 64 _ rfl]; exact h1 q c hr x hc hh hx
  · rw [e2] at q
    obtain ⟨g1, g2, g3⟩ := h2 w tab hw ht q
    refine ⟨fun hr h a b => ?_, fun c hr a b => ?_, fun x a b p q r => ?_⟩
    · rw [e 66 _ rfl]; exact g1 hr h a b
    · rw [e 65 _ rfl]; exact g2 c hr a b
    · rw [e 67 _ rfl]; exact g3 x a b p q r
  · rw [e3] at q
    intro w hw ht
    obtain ⟨g1, g2, g3⟩ := h3 q w hw ht
    refine ⟨?_, ?_, fun c q a b => ?_⟩
    · rw [e 77 _ rfl]; exact g1
    · rw [e 78 _ rfl]; exact g2
    · rw [e 76 _ rfl]; exact g3 c q a b
theorem TP.sm {μ ν : wm_M} (h : TP μ) (e : Sm kT μ ν) : TP ν := by
  obtain ⟨t, T, t1, t2, t3, t4⟩ := h
  have f6 : ν.1 59 1 = μ.1 59 1 := e 59 1 rfl
  have f7 : ν.1 89 4 = μ.1 89 4 := e 89 4 rfl
  refine ⟨t, T, t1, by rw [f6]; exact t2, by rw [f7]; exact t3, fun i hi => ?_⟩
  rw [e 60 i rfl, e 92 i rfl]; exact t4 i hi
theorem NM.sm {μ ν : wm_M} (h : NM μ) (e : Sm kN μ ν) : NM ν := by
  obtain ⟨m1, m2⟩ := h
  have f1 : ν.1 0 9 = μ.1 0 9 := e 0 9 rfl
  have f2 : ν.1 89 49 = μ.1 89 49 := e 89 49 rfl
  have f3 : ν.1 89 48 = μ.1 89 48 := e 89 48 rfl
  refine ⟨by rw [f1, f2, f3]; exact m1, fun i hi => ?_⟩
  rw [e 85 i rfl, e 111 i rfl]; exact m2 i hi
theorem RF.sm {μ ν : wm_M} (h : RF μ) (e : Sm kF μ ν) : RF ν := fun k hk => by
  rw [e 88 k rfl, e 90 k rfl]; exact h k hk
theorem IM.sm {n : Nat} {μ ν : wm_M} (h : IM n μ) (e : Sm kI μ ν) : IM n ν := by
  have ek : Sm (kA 29) μ ν := e.le (fun c i q => by unfold kI; rw [q, Bool.or_true])
  have f4 : ν.1 0 2 = μ.1 0 2 := e 0 2 rfl
  have f5 : ν.1 89 46 = μ.1 89 46 := e 89 46 rfl
  unfold IM
  rw [f4, f5]
  rcases h with im | ⟨i1, i2, B, b1, b2, b3, b4⟩
  · exact Or.inl im
  · refine Or.inr ⟨i1, i2, B, b1, b2, fun i hi => ?_, b4.sm (Or.inr rfl) ek⟩
    rw [e 110 i rfl]; exact b3 i hi
theorem BS.sm {μ ν : wm_M} (h : BS μ) (e : Sm kB μ ν) : BS ν := fun c h' hc hh => by
  rw [e 68 _ rfl]; exact h c h' hc hh
theorem kO_T {c i : Nat} (h : kT c i = true) : kO c i = true := by unfold kO; rw [h]; rfl
theorem kO_N {c i : Nat} (h : kN c i = true) : kO c i = true := by unfold kO; rw [h, Bool.or_true]; rfl
theorem kO_F {c i : Nat} (h : kF c i = true) : kO c i = true := by unfold kO; rw [h, Bool.or_true]; rfl
theorem kO_I {c i : Nat} (h : kI c i = true) : kO c i = true := by unfold kO; rw [h, Bool.or_true]; rfl
theorem kO_B {c i : Nat} (h : kB c i = true) : kO c i = true := by unfold kO; rw [h, Bool.or_true]
theorem RO.sm {n : Nat} {μ ν : wm_M} (h : RO n μ) (e : Sm kO μ ν) : RO n ν := ⟨h.1.sm (e.le (fun _ _ => kO_T)), h.2.1.sm (e.le (fun _ _ => kO_N)), h.2.2.1.sm (e.le (fun _ _ => kO_F)), h.2.2.2.1.sm (e.le (fun _ _ => kO_I)), h.2.2.2.2.sm (e.le (fun _ _ => kO_B))⟩
theorem kR_A {c i : Nat} (h : kA 0 c i = true) : kR c i = true := by unfold kR; rw [h]; rfl
theorem kR_V {c i : Nat} (h : kV c i = true) : kR c i = true := by unfold kR; rw [h, Bool.or_true]; rfl
theorem kR_O {c i : Nat} (h : kO c i = true) : kR c i = true := by unfold kR; rw [h, Bool.or_true]
theorem kR_M (i : Nat) : kR 91 i = true := by unfold kR; rw [show Nat.beq 91 91 = true from rfl, Bool.or_true]; rfl
theorem RA.sm {n : Nat} {A : Nat → Nat} {μ ν : wm_M} (h : RA n A μ) (e : Sm kR μ ν) : RA n A ν := by
  obtain ⟨h1, h2, h3, h4, h5⟩ := h
  exact ⟨h1, h2, fun i hi => by rw [e 91 i (kR_M i)]; exact h3 i hi, h4.sm (Or.inl rfl) (e.le (fun c i q => kR_A q)), h5.sm (e.le (fun c i q => kR_V q))⟩
theorem Rel.sm {n : Nat} {μ ν : wm_M} (h : Rel n μ) (e : Sm kR μ ν) : Rel n ν := by
  obtain ⟨A, h1, h2⟩ := h
  exact ⟨A, h1.sm e, h2.sm (e.le (fun c i q => kR_O q))⟩
theorem ite_le {p : Prop} [Decidable p] {a b c d : Nat} (h1 : a ≤ b) (h2 : c ≤ d) : (if p then a else c) ≤ (if p then b else d) := by
  split
  · exact h1
  · exact h2
theorem bdA_mono {n m i : Nat} (h : n ≤ m) : bdA n i ≤ bdA m i := by
  unfold bdA
  repeat (refine ite_le (by omega) ?_)
  exact Nat.le_refl _
theorem BA.mono {n m : Nat} {A : Nat → Nat} (h : BA n A) (hm : n ≤ m) : BA m A := fun i hi => Nat.lt_of_lt_of_le (h i hi) (bdA_mono hm)
theorem RO.mono {n m : Nat} {μ : wm_M} (h : RO n μ) (hm : n ≤ m) : RO m μ := by
  obtain ⟨h1, h2, h3, h4, h5⟩ := h
  refine ⟨h1, h2, h3, ?_, h5⟩
  rcases h4 with h | ⟨a, b, B, c, d⟩
  · exact Or.inl h
  · exact Or.inr ⟨a, b, B, c.mono hm, d⟩
theorem RA.mono {n m : Nat} {A : Nat → Nat} {μ : wm_M} (h : RA n A μ) (hm : n ≤ m) : RA m A μ := ⟨h.1.mono hm, h.2⟩
theorem Rel.mono {n m : Nat} {μ : wm_M} (h : Rel n μ) (hm : n ≤ m) : Rel m μ := by
  obtain ⟨A, h1, h2⟩ := h
  exact ⟨A, h1.mono hm, h2.mono hm⟩
theorem Rel.up {n : Nat} {μ : wm_M} (h : Rel n μ) : Rel (n + 1) μ := h.mono (Nat.le_succ n)
/-! ===== the state changes at one place ===== -/
theorem awk_up {A : Nat → Nat} {k x : Nat} (hk : ¬ (463 ≤ k ∧ k < 471)) : ∀ m, m ≤ 8 → awk (uN A k x) m = awk A m
  | 0, _ => rfl
  | m + 1, h => by
    unfold awk
    rw [awk_up hk m (by omega), uN_ne _ _ (by omega)]
theorem awk_le (A : Nat → Nat) : ∀ m, awk A m ≤ m
  | 0 => Nat.le_refl 0
  | m + 1 => by
    unfold awk
    have := awk_le A m
    omega
theorem RS.up {o : Nat} {A : Nat → Nat} {μ : wm_M} (h : RS o A μ) (h8 : A 2041 ≤ 8) {k : Nat} (x : Nat) (hk : ¬ (156 ≤ k ∧ k < 324) ∧ ¬ (349 ≤ k ∧ k < 374) ∧ ¬ (399 ≤ k ∧ k < 449) ∧ ¬ (463 ≤ k ∧ k < 471) ∧ ¬ (2004 ≤ k ∧ k < 2040) ∧ k ≠ 2041) : RS o (uN A k x) μ := by
  obtain ⟨h1, h2, h3, h4, h5⟩ := h
  obtain ⟨k1, k2, k3, k4, k5, k6⟩ := hk
  refine ⟨fun i hi => ?_, fun i hi => ?_, fun i hi => ?_, fun r w hr hw => ?_, ?_⟩
  · rw [uN_ne _ _ (by omega), uN_ne _ _ (by omega)]; exact h1 i hi
  · rw [uN_ne _ _ (by omega), uN_ne _ _ (by omega)]; exact h2 i hi
  · rw [uN_ne _ _ (by omega), uN_ne _ _ (by omega)]; exact h3 i hi
  · rw [uN_ne _ _ (by omega)]; exact h4 r w hr hw
  · rw [uN_ne _ _ (Ne.symm k6), awk_up k4 _ h8]; exact h5
theorem rP_up {A : Nat → Nat} {k x j : Nat} (hj : j < 12) (hn : rN A j ≤ 120) (hk : ¬ (471 + 127 * j ≤ k ∧ k < 471 + 127 * (j + 1))) : rP (uN A k x) j = rP A j := by
  have e : rN (uN A k x) j = rN A j := by unfold rN; exact uN_ne _ _ (by omega)
  unfold rP
  rw [e]
  refine ruleP_congr (fun i hi => ?_)
  unfold rT
  exact uN_ne _ _ (by omega)
theorem RR.up {o : Nat} {A : Nat → Nat} {μ : wm_M} (h : RR o A μ) (h12 : A 2042 ≤ 12) {k : Nat} (x : Nat) (hk : ¬ (471 ≤ k ∧ k < 1995) ∧ k ≠ 2042) : RR o (uN A k x) μ := by
  intro j hj
  rw [uN_ne _ _ (Ne.symm hk.2)] at hj
  obtain ⟨g0, g1, g2, g3, g4, g5, g6, g7⟩ := h j hj
  have e := rP_up (A := A) (k := k) (x := x) (j := j) (by omega) g1 (by omega)
  rw [e]
  refine ⟨g0, ?_, g2, ?_, ?_, g5, g6, g7⟩
  · unfold rN at g1 ⊢; rw [uN_ne _ _ (by omega)]; exact g1
  · rw [uN_ne _ _ (by omega)]; exact g3
  · rw [uN_ne _ _ (by omega)]; exact g4
/-- the log has changed: what was worked out of it no longer counts -/
theorem Rel.chg {n m : Nat} {A : Nat → Nat} {μ ν : wm_M} (hO : RO n μ) (e : Sm kO μ ν) (hm : n ≤ m) (hA : BA m A) (hV : VX A) (hM : RM 91 A ν) (hC : RC 0 A ν) (c1 : ν.1 62 7 = 0) (c2 : ν.1 62 8 = -1) (c3 : ν.1 75 6 = 0) : Rel m ν := by
  refine ⟨A, ⟨hA, hV, hM, hC, fun q => absurd c1 q, fun w tab hw ht q => ?_, fun q => absurd c3 q⟩, (hO.sm e).mono hm⟩
  rw [c2] at q
  exact ((nI_meq (a := 2 * w + tab) (b := 1) (by omega) (by omega) (by omega)).mp q).elim
theorem Rel.rf {n : Nat} {μ : wm_M} (h : Rel n μ) (k : Nat) : Rel n (rm_ (rc_ μ k) k) := by
  obtain ⟨A, ⟨h1, h2, h3, h4, h5⟩, g1, g2, g3, g4, g5⟩ := h
  have e : ∀ K : Nat → Nat → Bool, (∀ i, K 88 i = false) → (∀ i, K 90 i = false) → Sm K μ (rm_ (rc_ μ k) k) := fun K a b => ((Sm.rf K μ).si (a k)).si (b k)
  refine ⟨A, ⟨h1, h2, h3.fr rfl, h4.sm (Or.inl rfl) (e _ (fun _ => rfl) (fun _ => rfl)), h5.sm (e _ (fun _ => rfl) (fun _ => rfl))⟩, g1.sm (e _ (fun _ => rfl) (fun _ => rfl)), g2.sm (e _ (fun _ => rfl) (fun _ => rfl)), fun j hj => ?_, g4.sm (e _ (fun _ => rfl) (fun _ => rfl)), g5.sm (e _ (fun _ => rfl) (fun _ => rfl))⟩
  have e1 : (rm_ (rc_ μ k) k).1 88 = upd (μ.1 88) k (μ.1 88 k + 1) := rfl
  have e2 : (rm_ (rc_ μ k) k).1 90 = upd (μ.1 90) k (μ.1 90 k + 1) := rfl
  rw [e1, e2]
  by_cases hjk : j = k
  · subst hjk; rw [wm_upd_eq, wm_upd_eq, g3 j hj]
  · rw [wm_upd_ne hjk, wm_upd_ne hjk]; exact g3 j hj
