/-! ===== the class works a code ===== -/
def CO (x : Int32) : Prop := (-100 : Int32) < x → 0 ≤ x ∨ ∃ j : Nat, j < 6 ∧ x = -(nI (1 + j))
def OkP (P : Ps) : Prop := ∀ p c, (∀ x ∈ c, CO x) → ∀ x ∈ (P p c).2.2, CO x
theorem CO_wk (t : Nat) (ht : t < 1000) : CO (wk t) := fun h => by
  rw [Int32.lt_iff_toInt_lt, m100, wk_toInt t ht] at h; omega
theorem CO_101 : CO (-(nI 101)) := fun h => absurd h (by decide +kernel)
theorem CO_num (v : Nat) (hv : v < 2 ^ 31) : CO (nI v) := fun _ => Or.inl (nI_pos' hv)
theorem CO_app {c : List Int32} {y : Int32} (h : ∀ x ∈ c, CO x) (hy : CO y) : ∀ x ∈ c ++ [y], CO x := fun x hx => by
  rcases List.mem_append.mp hx with q | q
  · exact h x q
  · rw [List.mem_singleton.mp q]; exact hy
theorem OkP_thn {a k : Ps} (ha : OkP a) (hk : OkP k) : OkP (thn a k) := fun p c h => by
  unfold thn
  split
  · exact hk _ _ (ha p c h)
  · exact ha p c h
theorem OkP_wrt {y : Int32} (hy : CO y) : OkP (wrt y) := fun p c h => CO_app h hy
theorem OkP_id : OkP (fun p c => (true, p, c)) := fun _ _ h => h
theorem OkP_no : OkP noP := fun _ _ h => h
theorem OkP_lp {Z : Tz} {ops : Nat → Bool} (ho : ∀ t, ops t = true → t < 1000) {sub : Ps} (hs : OkP sub) : ∀ f, OkP (lpP Z ops sub f)
  | 0 => OkP_id
  | f + 1 => fun p c h => by
    show ∀ x ∈ (if ops (Z.1 p) = true then _ else _ : Bool × Nat × List Int32).2.2, CO x
    split
    · rename_i q
      exact OkP_thn hs (OkP_thn (OkP_wrt (CO_wk _ (ho _ q))) (OkP_lp ho hs f)) _ _ h
    · exact h
theorem OkP_one {n : Nat} {Z : Tz} (hZ : HZ n Z) (deep : Bool) {E O : Ps} (hE : OkP E) (hO : OkP O) : OkP (oneP Z deep E O) := fun p c h => by
  unfold oneP
  split
  · rename_i q
    exact CO_app h (CO_num _ (by have := hZ.2 p q; omega))
  · split
    · exact CO_app h (fun _ => Or.inr ⟨Z.1 p - 3, by omega, rfl⟩)
    · split
      · exact h
      · split
        · exact OkP_thn hO (OkP_wrt CO_101) _ _ h
        · refine OkP_thn hE (fun q c h => ?_) _ _ h
          show ∀ x ∈ (if Z.1 q = 41 then _ else _ : Bool × Nat × List Int32).2.2, CO x
          split
          · exact h
          · exact h
theorem OkP_cmp {Z : Tz} {sum : Ps} (hs : OkP sum) : OkP (cmpP Z sum) := OkP_thn hs (fun p c h => by
  show ∀ x ∈ (if Z.1 p = 61 ∨ Z.1 p = 60 ∨ Z.1 p = 62 then _ else _ : Bool × Nat × List Int32).2.2, CO x
  split
  · exact OkP_thn hs (OkP_wrt (CO_wk _ (by omega))) _ _ h
  · exact h)
theorem OkP_not {Z : Tz} (deep : Bool) {cmp N : Ps} (hc : OkP cmp) (hN : OkP N) : OkP (notP Z deep cmp N) := fun p c h => by
  unfold notP
  split
  · exact hc _ _ h
  · split
    · exact h
    · exact OkP_thn hN (OkP_wrt (CO_wk 12 (by decide))) _ _ h
theorem OkP_mk {n : Nat} {Z : Tz} (hZ : HZ n Z) (deep : Bool) {O N E : Ps} (hO : OkP O) (hN : OkP N) (hE : OkP E) : OkP (mkO Z deep O N E).1 ∧ OkP (mkO Z deep O N E).2.1 ∧ OkP (mkO Z deep O N E).2.2 := by
  have one := OkP_one hZ deep hE hO
  have term := OkP_thn one (OkP_lp (Z := Z) (ops := fun t => Nat.beq t 42 || Nat.beq t 47 || Nat.beq t 37) (fun t h => by have := op_mul h; omega) one 120)
  have sum := OkP_thn term (OkP_lp (Z := Z) (ops := fun t => Nat.beq t 43 || Nat.beq t 45) (fun t h => by have := op_add h; omega) term 120)
  have nt := OkP_not (Z := Z) deep (OkP_cmp (Z := Z) sum) hN
  have an := OkP_thn nt (OkP_lp (Z := Z) (ops := fun t => Nat.beq t 11) (fun t h => by have := Nat.eq_of_beq_eq_true h; omega) nt 120)
  have or_ := OkP_thn an (OkP_lp (Z := Z) (ops := fun t => Nat.beq t 10) (fun t h => by have := Nat.eq_of_beq_eq_true h; omega) an 120)
  exact ⟨one, nt, or_⟩
theorem OkP_ps {n : Nat} {Z : Tz} (hZ : HZ n Z) : ∀ d, OkP (PS Z d).1 ∧ OkP (PS Z d).2.1 ∧ OkP (PS Z d).2.2
  | 0 => OkP_mk hZ true OkP_no OkP_no OkP_no
  | d + 1 => OkP_mk hZ false (OkP_ps hZ d).1 (OkP_ps hZ d).2.1 (OkP_ps hZ d).2.2
theorem ruleZ_CO {n : Nat} {Z : Tz} (hZ : HZ n Z) (p0 : Nat) : ∀ x ∈ (ruleZ Z p0).2.2.2.2, CO x := by
  have hE := (OkP_ps hZ 6).2.2
  unfold ruleZ
  generalize (PS Z 6).2.2 = E at hE ⊢
  have no : ∀ x ∈ ([] : List Int32), CO x := fun x hx => by cases hx
  have r1 := hE (Z.2.1 p0) [] no
  split
  · exact no
  · split
    · exact no
    · split
      · split
        · exact no
        · split
          · exact hE _ _ r1
          · exact no
      · split
        · exact r1
        · exact no
theorem rP_CO (A : Nat → Nat) (k : Nat) : ∀ x ∈ (rP A k).2.2.2.2, CO x := ruleZ_CO (tz_ok _ _) _
/-! together -/
theorem i_eq {a : Int32} (k : Int32) (n : Int) (hk : k.toInt = n) : a.toInt = n ↔ a = k := by
  rw [← hk]; exact Int32.toInt_inj
theorem fl1 {μ : wm_M} {Q : Int32 → wm_M → Prop} (h : Q 1 μ) : wm_OkI 0 177 [.int (1 : Int32)] μ Q := s_177 h
theorem fl0 {μ : wm_M} {Q : Int32 → wm_M → Prop} (h : Q 0 μ) : wm_OkI 0 177 [.int (0 : Int32)] μ Q := s_177 h
theorem c_66 (a l r : Int32) {μ : wm_M} {Q : Int32 → wm_M → Prop} (hq : Q (tgr a l r) μ) : wm_OkI 0 66 [.int a, .int l, .int r] μ Q := by
  have e10 := i_eq (a := a) 10 10 (by decide)
  have e11 := i_eq (a := a) 11 11 (by decide)
  have e42 := i_eq (a := a) 42 42 (by decide)
  have e43 := i_eq (a := a) 43 43 (by decide)
  have e45 := i_eq (a := a) 45 45 (by decide)
  have e47 := i_eq (a := a) 47 47 (by decide)
  have e60 := i_eq (a := a) 60 60 (by decide)
  have e61 := i_eq (a := a) 61 61 (by decide)
  have e62 := i_eq (a := a) 62 62 (by decide)
  refine v_66 _ _ _ _ _ ⟨fun z => ?_, fun z => ?_, fun z => ?_, fun z => ?_, fun z => ?_, fun z => ?_, fun z => ?_, fun z => ?_, fun z => ?_, fun z => ?_, trivial⟩
  · have n10 : ¬ a = 10 := fun q => z (10, 83) (by simp) (e10.mpr q)
    have n11 : ¬ a = 11 := fun q => z (11, 100) (by simp) (e11.mpr q)
    have n42 : ¬ a = 42 := fun q => z (42, 167) (by simp) (e42.mpr q)
    have n43 : ¬ a = 43 := fun q => z (43, 159) (by simp) (e43.mpr q)
    have n45 : ¬ a = 45 := fun q => z (45, 163) (by simp) (e45.mpr q)
    have n47 : ¬ a = 47 := fun q => z (47, 171) (by simp) (e47.mpr q)
    have n60 : ¬ a = 60 := fun q => z (60, 131) (by simp) (e60.mpr q)
    have n61 : ¬ a = 61 := fun q => z (61, 117) (by simp) (e61.mpr q)
    have n62 : ¬ a = 62 := fun q => z (62, 145) (by simp) (e62.mpr q)
    unfold tgr at hq
    rw [if_neg n10, if_neg n11, if_neg n61, if_neg n60, if_neg n62, if_neg n43, if_neg n45, if_neg n42, if_neg n47] at hq
    refine w_66_184 _ _ _ _ ⟨fun y => ⟨_, rfl, ?_⟩, fun y => w_66_192 _ _ _ _ ⟨y, _, rfl, ?_⟩⟩
    · rw [if_pos y] at hq; exact hq
    · rw [if_neg y] at hq; exact hq
  · have := e10.mp z; subst this
    have e : tgr 10 l r = bI (¬ l = 0 ∨ ¬ r = 0) := if_pos rfl
    rw [e] at hq
    refine w_66_84 _ _ _ _ ⟨fun y => ⟨fun x => w_66_96 _ _ (fl0 ⟨_, rfl, ?_⟩), fun x => w_66_92 _ _ (fl1 ⟨_, rfl, ?_⟩)⟩, fun y => w_66_92 _ _ (fl1 ⟨_, rfl, ?_⟩)⟩
    · rw [bI_f (fun q => q.elim (fun q => q y) (fun q => q x))] at hq; exact hq
    · rw [bI_t (Or.inr x)] at hq; exact hq
    · rw [bI_t (Or.inl y)] at hq; exact hq
  · have := e11.mp z; subst this
    have e : tgr 11 l r = bI (¬ l = 0 ∧ ¬ r = 0) := by unfold tgr; rw [if_neg (by decide), if_pos rfl]
    rw [e] at hq
    refine w_66_101 _ _ _ _ ⟨fun y => w_66_113 _ _ (fl0 ⟨_, rfl, ?_⟩), fun y => ⟨fun x => w_66_113 _ _ (fl0 ⟨_, rfl, ?_⟩), fun x => fl1 ⟨_, rfl, ?_⟩⟩⟩
    · rw [bI_f (fun q => q.1 y)] at hq; exact hq
    · rw [bI_f (fun q => q.2 x)] at hq; exact hq
    · rw [bI_t ⟨y, x⟩] at hq; exact hq
  · have := e42.mp z; subst this
    have e : tgr 42 l r = l * r := by unfold tgr; rw [if_neg (by decide), if_neg (by decide), if_neg (by decide), if_neg (by decide), if_neg (by decide), if_neg (by decide), if_neg (by decide), if_pos rfl]
    rw [e] at hq
    exact w_66_168 _ _ _ _ ⟨_, rfl, hq⟩
  · have := e43.mp z; subst this
    have e : tgr 43 l r = l + r := by unfold tgr; rw [if_neg (by decide), if_neg (by decide), if_neg (by decide), if_neg (by decide), if_neg (by decide), if_pos rfl]
    rw [e] at hq
    exact w_66_160 _ _ _ _ ⟨_, rfl, hq⟩
  · have := e45.mp z; subst this
    have e : tgr 45 l r = l - r := by unfold tgr; rw [if_neg (by decide), if_neg (by decide), if_neg (by decide), if_neg (by decide), if_neg (by decide), if_neg (by decide), if_pos rfl]
    rw [e] at hq
    exact w_66_164 _ _ _ _ ⟨_, rfl, hq⟩
  · have := e47.mp z; subst this
    have e : tgr 47 l r = if r = 0 then 0 else l / r := by unfold tgr; rw [if_neg (by decide), if_neg (by decide), if_neg (by decide), if_neg (by decide), if_neg (by decide), if_neg (by decide), if_neg (by decide), if_neg (by decide), if_pos rfl]
    rw [e] at hq
    refine w_66_172 _ _ _ _ ⟨fun y => ⟨_, rfl, ?_⟩, fun y => w_66_180 _ _ _ _ ⟨y, _, rfl, ?_⟩⟩
    · rw [if_pos y] at hq; exact hq
    · rw [if_neg y] at hq; exact hq
  · have := e60.mp z; subst this
    have e : tgr 60 l r = bI (l < r) := by unfold tgr; rw [if_neg (by decide), if_neg (by decide), if_neg (by decide), if_pos rfl]
    rw [e] at hq
    refine w_66_132 _ _ _ _ ⟨fun y => w_66_141 _ _ (fl0 ⟨_, rfl, ?_⟩), fun y => fl1 ⟨_, rfl, ?_⟩⟩
    · rw [bI_f (Int32.not_lt.mpr y)] at hq; exact hq
    · rw [bI_t (Int32.not_le.mp y)] at hq; exact hq
  · have := e61.mp z; subst this
    have e : tgr 61 l r = bI (l = r) := by unfold tgr; rw [if_neg (by decide), if_neg (by decide), if_pos rfl]
    rw [e] at hq
    refine w_66_118 _ _ _ _ ⟨fun y => fl1 ⟨_, rfl, ?_⟩, fun y => w_66_127 _ _ (fl0 ⟨_, rfl, ?_⟩)⟩
    · rw [bI_t y] at hq; exact hq
    · rw [bI_f y] at hq; exact hq
  · have := e62.mp z; subst this
    have e : tgr 62 l r = bI (r < l) := by unfold tgr; rw [if_neg (by decide), if_neg (by decide), if_neg (by decide), if_neg (by decide), if_pos rfl]
    rw [e] at hq
    refine w_66_146 _ _ _ _ ⟨fun y => w_66_155 _ _ (fl0 ⟨_, rfl, ?_⟩), fun y => fl1 ⟨_, rfl, ?_⟩⟩
    · rw [bI_f (Int32.not_lt.mpr y)] at hq; exact hq
    · rw [bI_t (Int32.not_le.mp y)] at hq; exact hq
/-! work -/
def StR (st : List Int32) (ν : wm_M) : Prop := ∀ j, j < st.length → ν.1 26 j = st.getD (st.length - 1 - j) 0
theorem StR_push {st : List Int32} {ν : wm_M} (h : StR st ν) (x : Int32) : StR (x :: st) (wm_si ν 26 st.length x) := by
  intro j hj
  simp only [List.length_cons] at hj ⊢
  by_cases e : j = st.length
  · subst e
    rw [si_same, show st.length + 1 - 1 - st.length = 0 by omega]; rfl
  · rw [si_other _ _ e, h j (by omega), show st.length + 1 - 1 - j = (st.length - 1 - j) + 1 by omega]; rfl
theorem StR_top {v : Int32} {r : List Int32} {ν : wm_M} (h : StR (v :: r) ν) : ν.1 26 r.length = v := by
  have := h r.length (by simp)
  rw [this]
  simp only [List.length_cons]
  rw [show r.length + 1 - 1 - r.length = 0 by omega]; rfl
theorem StR_tail {v : Int32} {r : List Int32} {ν : wm_M} (h : StR (v :: r) ν) : StR r ν := by
  intro j hj
  have := h j (by simp only [List.length_cons]; omega)
  rw [this]
  simp only [List.length_cons]
  rw [show r.length + 1 - 1 - j = (r.length - 1 - j) + 1 by omega]; rfl
def FR (c0 : Nat) (μ ν : wm_M) : Prop := ∀ c, c ≠ c0 → ν.1 c = μ.1 c
theorem FR.rf (c0 : Nat) (μ : wm_M) : FR c0 μ μ := fun _ _ => rfl
theorem FR.tr {c0 : Nat} {μ ν κ : wm_M} (h : FR c0 μ ν) (g : FR c0 ν κ) : FR c0 μ κ := fun c hc => (g c hc).trans (h c hc)
theorem FR.si {c0 : Nat} {μ ν : wm_M} (h : FR c0 μ ν) (k : Nat) (x : Int32) : FR c0 μ (wm_si ν c0 k x) := fun c hc => by rw [si_ne _ _ _ hc]; exact h c hc
theorem FR.sm {c0 : Nat} {μ ν : wm_M} (h : FR c0 μ ν) {K : Nat → Nat → Bool} (e : ∀ i, K c0 i = false) : Sm K μ ν := fun c i q => by
  have : c ≠ c0 := fun r => by rw [r, e i] at q; cases q
  rw [h c this]
theorem c_65s (env : Nat → Int32) (x1 x3 x5 x : Int32) (hx : CO x) (st : List Int32) (hl : st.length < 120) {Q : Option Value → wm_M → Prop} {ν : wm_M} (hS : StR st ν) (hN : ∀ j, j < 6 → ν.1 25 j = env j) (hq : ∀ κ, StR (stp env x st) κ → FR 26 ν κ → wm_Wp 0 65 185 [.ref 18, .int x1, .null, .int x3, .int (nI (stp env x st).length), .int x5, .null] κ Q) : wm_Wp 0 65 26 [.ref 18, .int x1, .null, .int x3, .int (nI st.length), .int x5, .int x] ν Q := by
  have v0 : vp_in (nI st.length) 120 := vp_in_nI hl (by decide)
  have c0 := nI_clamp (n := st.length) (by omega)
  have L : ∀ κ, κ = κ → StR (stp env x st) κ → FR 26 ν κ → ∀ t, t = (stp env x st).length → wm_Wp 0 65 185 [.ref 18, .int x1, .null, .int x3, .int (nI t), .int x5, .null] κ Q := fun κ _ a b t e => by rw [e]; exact hq κ a b
  have e143 : ¬ (-100 : Int32) < x → (¬ x = -112 ∨ st = []) → (¬ x = -101 ∨ st = []) → wm_Wp 0 65 143 [.ref 18, .int x1, .null, .int x3, .int (nI st.length), .int x5, .int x] ν Q := fun h1 h2 h3 => by
    cases st with
    | nil =>
      have hs : stp env x [] = [] := by
        unfold stp
        rw [if_neg h1, if_neg (fun q => q.2 rfl), if_neg (fun q => q.2 rfl)]
      exact f_65_143 _ _ _ _ _ _ _ ⟨fun _ => L ν rfl (by rw [hs]; exact hS) (FR.rf _ _) 0 (by rw [hs]; rfl), fun z => absurd (nI_le (a := 0) (b := 1) (by decide) (by decide)) z⟩
    | cons w r =>
      have g2 : ¬ x = -112 := h2.resolve_right (by simp)
      have g3 : ¬ x = -101 := h3.resolve_right (by simp)
      cases r with
      | nil =>
        have hs : stp env x [w] = [w] := by
          unfold stp
          rw [if_neg h1, if_neg (fun q => g2 q.1), if_neg (fun q => g3 q.1)]
        exact f_65_143 _ _ _ _ _ _ _ ⟨fun _ => L ν rfl (by rw [hs]; exact hS) (FR.rf _ _) 1 (by rw [hs]; rfl), fun z => absurd (nI_le (a := 1) (b := 1) (by decide) (by decide)) z⟩
      | cons v r =>
        have hs : stp env x (w :: v :: r) = tgr ((-100 : Int32) - x) v w :: r := by
          unfold stp
          rw [if_neg h1, if_neg (fun q => g2 q.1), if_neg (fun q => g3 q.1)]
        simp only [List.length_cons] at hl ⊢
        have a1 : nI (r.length + 1 + 1) + (-1 : Int32) = nI (r.length + 1) := pk_m1 _
        have a2 : nI (r.length + 1) - (1 : Int32) = nI r.length := nI_pred _
        refine f_65_143 _ _ _ _ _ _ _ ?_
        rw [a1, a2, nI_clamp (show r.length < 2 ^ 31 by omega), nI_clamp (show r.length + 1 < 2 ^ 31 by omega)]
        have t1 : ν.1 26 (r.length + 1) = w := StR_top hS
        have t2 : ν.1 26 r.length = v := StR_top (StR_tail hS)
        rw [t1, t2]
        refine ⟨fun z => absurd ((nI_leI (b := 1) (by omega) (by decide)).mp z) (by omega), fun _ => ⟨vp_in_nI (by omega) (by decide), vp_in_nI (by omega) (by decide), c_66 _ _ _ ⟨vp_in_nI (by omega) (by decide), ?_⟩⟩⟩
        exact L _ rfl (by rw [hs]; exact StR_push (StR_tail (StR_tail hS)) _) ((FR.rf _ _).si _ _) (r.length + 1) (by rw [hs]; rfl)
  have e109 : ¬ (-100 : Int32) < x → (¬ x = -112 ∨ st = []) → wm_Wp 0 65 109 [.ref 18, .int x1, .null, .int x3, .int (nI st.length), .int x5, .int x] ν Q := fun h1 h2 => by
    refine f_65_109 _ _ _ _ _ _ _ ⟨fun z => ⟨fun y => e143 h1 h2 (Or.inr ?_), fun y => ?_⟩, fun z => e143 h1 h2 (Or.inl z)⟩
    · have y := (nI_leI (b := 0) (by omega) (by decide)).mp y
      exact List.length_eq_zero_iff.mp (by omega)
    · have y : ¬ st.length ≤ 0 := fun q => y ((nI_leI (b := 0) (by omega) (by decide)).mpr q)
      cases st with
      | nil => exact absurd (Nat.le_refl 0) y
      | cons v r =>
        have hs : stp env x (v :: r) = (-v) :: r := by
          unfold stp
          rw [if_neg h1, if_neg (fun q => absurd (z.symm.trans q.1) (by decide)), if_pos ⟨z, by simp⟩]
        simp only [List.length_cons] at hl ⊢
        have a2 : nI (r.length + 1) - (1 : Int32) = nI r.length := nI_pred _
        have t2 : ν.1 26 r.length = v := StR_top hS
        rw [a2, nI_clamp (show r.length < 2 ^ 31 by omega), t2]
        refine ⟨vp_in_nI (by omega) (by decide), vp_in_nI (by omega) (by decide), f_65_140 _ _ _ _ _ _ ?_⟩
        exact L _ rfl (by rw [hs]; exact StR_push (StR_tail hS) _) ((FR.rf _ _).si _ _) (r.length + 1) (by rw [hs]; rfl)
  refine f_65_26 _ _ _ _ _ _ _ ⟨fun z => f_65_65 _ _ _ _ _ _ _ ⟨fun y => ⟨fun w => e109 (Int32.not_lt.mpr z) (Or.inr ?_), fun w => ?_⟩, fun y => e109 (Int32.not_lt.mpr z) (Or.inl y)⟩, fun z => ?_⟩
  · have w := (nI_leI (b := 0) (by omega) (by decide)).mp w
    exact List.length_eq_zero_iff.mp (by omega)
  · have w : ¬ st.length ≤ 0 := fun q => w ((nI_leI (b := 0) (by omega) (by decide)).mpr q)
    cases st with
    | nil => exact absurd (Nat.le_refl 0) w
    | cons v r =>
      have hs : stp env x (v :: r) = bI (v = 0) :: r := by
        unfold stp
        rw [if_neg (Int32.not_lt.mpr z), if_pos ⟨y, by simp⟩]
      simp only [List.length_cons] at hl ⊢
      have a2 : nI (r.length + 1) - (1 : Int32) = nI r.length := nI_pred _
      have t2 : ν.1 26 r.length = v := StR_top hS
      rw [a2, nI_clamp (show r.length < 2 ^ 31 by omega), t2]
      have vr : vp_in (nI r.length) 120 := vp_in_nI (by omega) (by decide)
      refine ⟨vr, fun u => fl1 ⟨vr, f_65_106 _ _ _ _ _ _ ?_⟩, fun u => fl0 ⟨vr, f_65_106 _ _ _ _ _ _ ?_⟩⟩
      · rw [bI_t u] at hs
        exact L _ rfl (by rw [hs]; exact StR_push (StR_tail hS) _) ((FR.rf _ _).si _ _) (r.length + 1) (by rw [hs]; rfl)
      · rw [bI_f u] at hs
        exact L _ rfl (by rw [hs]; exact StR_push (StR_tail hS) _) ((FR.rf _ _).si _ _) (r.length + 1) (by rw [hs]; rfl)
  · have z1 : (-100 : Int32) < x := Int32.not_le.mp z
    have hs : stp env x st = (if 0 ≤ x then x else env ((-1 : Int32) - x).toNatClampNeg) :: st := by
      unfold stp
      rw [if_pos z1]
    rw [c0]
    refine ⟨fun y => ?_, fun y => ⟨v0, f_65_59 _ _ _ _ _ _ ?_⟩⟩
    · have y0 : ¬ 0 ≤ x := Int32.not_le.mpr y
      obtain ⟨j, hj, e⟩ := (hx z1).resolve_left y0
      rw [if_neg y0] at hs
      have a1 : (-1 : Int32) - x = nI j := by
        rw [e, Int32.sub_neg, show (-1 : Int32) = -(nI 1) from by decide, Int32.add_comm, ← Int32.sub_eq_add_neg, pk_sub (by omega)]
        congr 1
        omega
      rw [a1, nI_clamp (by omega)] at hs
      rw [a1, nI_clamp (show j < 2 ^ 31 by omega), hN j hj]
      refine ⟨vp_in_nI hj (by decide), v0, f_65_59 _ _ _ _ _ _ ?_⟩
      rw [nI_1]
      exact L _ rfl (by rw [hs]; exact StR_push hS _) ((FR.rf _ _).si _ _) (st.length + 1) (by rw [hs]; rfl)
    · rw [if_pos (Int32.not_lt.mp y)] at hs
      rw [nI_1]
      exact L _ rfl (by rw [hs]; exact StR_push hS _) ((FR.rf _ _).si _ _) (st.length + 1) (by rw [hs]; rfl)
theorem stp_len (env : Nat → Int32) (x : Int32) (st : List Int32) : (stp env x st).length ≤ st.length + 1 := by
  unfold stp
  split
  · simp
  · split
    · split <;> simp
    · split
      · split <;> simp
      · split <;> simp <;> omega
theorem c_65 (env : Nat → Int32) (k a b : Nat) (c : List Int32) (hk : k < 12) (hab : a + c.length = b) (hb : b ≤ 120) (hc : ∀ x ∈ c, CO x) (v : Int32) (hv : runC env c [] = [v]) {μ : wm_M} {Q : Int32 → wm_M → Prop} (hM : ∀ i, i < c.length → μ.1 24 (120 * k + (a + i)) = c.getD i 0) (hN : ∀ j, j < 6 → μ.1 25 j = env j) (hq : ∀ ν, FR 26 μ ν → Q v ν) : wm_OkI 0 65 [.ref 18, .int (nI k), .int (nI a), .int (nI b)] μ Q := by
  have l : ∀ n i st ν, i + n = c.length → st.length ≤ i → StR st ν → FR 26 μ ν → runC env (c.drop i) st = [v] → wm_Wp 0 65 6 [.ref 18, .int (nI k), .null, .int (nI b), .int (nI st.length), .int (nI (a + i)), .null] ν (fun w ν => ∃ x, w = some (.int x) ∧ Q x ν) := by
    intro n
    induction n with
    | zero =>
      intro i st ν hi hl hS hF hr
      have e : st = [v] := by
        rw [show i = c.length by omega, List.drop_length] at hr
        exact hr
      subst e
      refine f_65_6 _ _ _ _ _ _ ⟨fun _ => f_65_191 _ _ ⟨vp_in_nI (n := 0) (by decide) (by decide), _, rfl, ?_⟩, fun z => absurd (nI_le (show b ≤ a + i by omega) (by omega)) z⟩
      have t : ν.1 26 0 = v := StR_top hS
      rw [cl_0, t]
      exact hq ν hF
    | succ n ih =>
      intro i st ν hi hl hS hF hr
      have hi' : i < c.length := by omega
      have e : (nI k * (120 : Int32)) + nI (a + i) = nI (120 * k + (a + i)) := by
        rw [show (nI k * (120 : Int32)) + nI (a + i) = nI (k * 120 + (a + i)) from ix2' 120 k (a + i), Nat.mul_comm]
      have hg : c.getD i 0 = c[i] := by rw [List.getD_eq_getElem?_getD, List.getElem?_eq_getElem hi']; rfl
      have hd : c.drop i = c[i] :: c.drop (i + 1) := List.drop_eq_getElem_cons hi'
      refine f_65_6 _ _ _ _ _ _ ⟨fun z => absurd z (nI_ge (by omega) (by omega)), fun _ => ?_⟩
      rw [e, nI_clamp (by omega), hF 24 (by decide), hM i hi', hg]
      refine ⟨vp_in_nI (by omega) (by decide), c_65s env _ _ _ _ (hc _ (List.getElem_mem hi')) st (by omega) hS (fun j hj => by rw [hF 25 (by decide)]; exact hN j hj) (fun κ hK hF2 => f_65_185 _ _ _ _ _ _ ?_)⟩
      rw [nI_1, show a + i + 1 = a + (i + 1) by omega]
      refine ih (i + 1) _ κ (by omega) (by have := stp_len env c[i] st; omega) hK (hF.tr hF2) ?_
      rw [hd] at hr
      exact hr
  refine f_65 _ _ _ _ _ ?_
  have l0 := l c.length 0 [] μ (by omega) (Nat.le_refl 0) (fun j hj => by cases hj) (FR.rf _ _) hv
  exact l0
