/-! The class's readers: comparisons, NOT, one; all levels; the whole text. -/
theorem CR_100 {T n e o} {sub : Ps} (hs : CR T n e 101 o sub) : CR T n e 100 o (cmpP (tz T n) sub) := by
  intro p k c μ Q hC h1 h0
  refine v_100 _ _ _ (hs p k c μ _ hC (fun q c' ν hp hC' s => ⟨fun z => absurd z n01, fun _ => w_100_10 _ _ _ ?_⟩) (fun q c' ν hp h6 s => ⟨fun _ => ⟨Or.inl rfl, _, rfl, h0 q c' ν (thn_F hp) h6 s⟩, fun z => absurd rfl z⟩))
  have t61 := tk_eq hC'.2.1 61 (by decide)
  have t60 := tk_eq hC'.2.1 60 (by decide)
  have t62 := tk_eq hC'.2.1 62 (by decide)
  have yes : (tk T n q = 61 ∨ tk T n q = 60 ∨ tk T n q = 62) → wm_Wp e 100 35 [.ref 59, .int (nI o), .int (ν.1 59 8)] ν (fun v ν => ∃ z, v = some (.int z) ∧ Q z ν) := by
    intro ht
    have e1 : cmpP (tz T n) sub p c = thn sub (wrt (wk (tk T n q))) (nx T n q) c' := by
      refine (thn_T hp).trans ?_
      show (if tk T n q = 61 ∨ tk T n q = 60 ∨ tk T n q = 62 then _ else _) = _
      rw [if_pos ht]; rfl
    refine w_100_35 _ _ _ _ (c_adv hC' (by omega) fun ν1 hC1 s1 => hs (nx T n q) (k + 1) c' ν1 _ hC1 (fun q2 c2 ν2 hp2 hC2 s2 => ⟨fun z => absurd z n01, fun _ => w_100_49 _ _ _ ?_⟩) (fun q2 c2 ν2 hp2 h6 s2 => ⟨fun _ => ⟨Or.inl rfl, _, rfl, h0 q2 c2 ν2 (by rw [e1, thn_F hp2]) h6 (s.tr (s1.tr s2))⟩, fun z => absurd rfl z⟩))
    rw [hC'.2.1.2.2.2.1, wk_sub]
    exact c_96 _ hC2 fun ν3 hC3 s3 => ⟨Or.inr rfl, _, rfl, h1 q2 (c2 ++ [wk (tk T n q)]) ν3 (by rw [e1, thn_T hp2]; rfl) hC3 (s.tr (s1.tr (s2.tr s3)))⟩
  refine ⟨fun z => yes (Or.inl (t61.mp z)), fun z1 => ⟨fun z => yes (Or.inr (Or.inl (t60.mp z))), fun z2 => ⟨fun z => yes (Or.inr (Or.inr (t62.mp z))), fun z3 => ⟨Or.inr rfl, _, rfl, h1 q c' ν ?_ hC' s⟩⟩⟩⟩
  refine (thn_T hp).trans ?_
  show (if tk T n q = 61 ∨ tk T n q = 60 ∨ tk T n q = 62 then _ else _) = _
  rw [if_neg]
  rintro (z | z | z)
  · exact z1 (t61.mpr z)
  · exact z2 (t60.mpr z)
  · exact z3 (t62.mpr z)
theorem o6 {o : Nat} (h : o ≤ 6) : nI o = (6 : Int32) ↔ o = 6 := nI_eq (b := 6) (by omega) (by decide)
theorem CR_99 {T n e o} (ho : o ≤ 6) {deep : Bool} (hd : deep = true ↔ o = 6) {cmp N : Ps} (hs : CR T n (e + 1) 100 o cmp) (hN : deep = false → CR T n e 99 (o + 1) N) : CR T n (e + 1) 99 o (notP (tz T n) deep cmp N) := by
  intro p k c μ Q hC h1 h0
  have t12 := tk_eq hC.2.1 12 (by decide)
  refine v_99 _ _ _ ⟨fun z => w_99_15 _ _ _ ?_, fun z => ?_⟩
  · have et := t12.mp z
    rw [o6 ho]
    refine ⟨fun h6 => ⟨Or.inl rfl, _, rfl, h0 p c μ ?_ hC.2.1.2.1 (Sm.rf _ _)⟩, fun h6 => w_99_23 _ _ _ ?_⟩
    · show (if ¬ tk T n p = 12 then _ else if deep = true then (false, p, c) else _) = _
      rw [if_neg (fun q => q et), if_pos (hd.mpr h6)]
    · have hdf : deep = false := by cases deep; rfl; exact absurd (hd.mp rfl) h6
      have e1 : notP (tz T n) deep cmp N p c = thn N (wrt (wk 12)) (nx T n p) c := by
        show (if ¬ tk T n p = 12 then _ else if deep = true then _ else _) = _
        rw [if_neg (fun q => q et), if_neg (by rw [hdf]; decide)]; rfl
      rw [nI_1]
      refine c_adv hC (by omega) fun ν1 hC1 s1 => hN hdf (nx T n p) (k + 1) c ν1 _ hC1 (fun q2 c2 ν2 hp2 hC2 s2 => ⟨fun z => absurd z n01, fun _ => w_99_39 _ _ ?_⟩) (fun q2 c2 ν2 hp2 h6 s2 => ⟨fun _ => ⟨Or.inl rfl, _, rfl, h0 q2 c2 ν2 (by rw [e1, thn_F hp2]) h6 (s1.tr s2)⟩, fun z => absurd rfl z⟩)
      exact c_96 (wk 12) hC2 fun ν3 hC3 s3 => ⟨Or.inr rfl, _, rfl, h1 q2 (c2 ++ [wk 12]) ν3 (by rw [e1, thn_T hp2]; rfl) hC3 (s1.tr (s2.tr s3))⟩
  · have e1 : notP (tz T n) deep cmp N p c = cmp p c := by
      show (if ¬ tk T n p = 12 then _ else _) = _
      rw [if_pos (fun q => z (t12.mpr q))]
    exact hs p k c μ _ hC (fun q c' ν hp hC' s => ⟨Or.inr rfl, _, rfl, h1 q c' ν (e1.trans hp) hC' s⟩) (fun q c' ν hp h6 s => ⟨Or.inl rfl, _, rfl, h0 q c' ν (e1.trans hp) h6 s⟩)
theorem CR_103 {T n e o} (ho : o ≤ 6) {deep : Bool} (hd : deep = true ↔ o = 6) {E O : Ps} (hO : deep = false → CR T n e 103 (o + 1) O) (hE : deep = false → CR T n e 97 (o + 1) E) : CR T n (e + 1) 103 o (oneP (tz T n) deep E O) := by
  intro p k c μ Q hC h1 h0
  have hk := hC.2.1
  have tl := tk_lt hk
  have t129 := tk_eq hk 129 (by decide)
  have t45 := tk_eq hk 45 (by decide)
  have t40 := tk_eq hk 40 (by decide)
  have e0 : oneP (tz T n) deep E O p c = if tk T n p = 129 then (true, nx T n p, c ++ [nI (nv T n p)]) else if 3 ≤ tk T n p ∧ tk T n p ≤ 8 then (true, nx T n p, c ++ [-(nI (1 + (tk T n p - 3)))]) else if deep = true ∨ (tk T n p ≠ 45 ∧ tk T n p ≠ 40) then (false, p, c) else if tk T n p = 45 then thn O (wrt (-(nI 101))) (nx T n p) c else thn E (fun q c => if tk T n q = 41 then (true, nx T n q, c) else (false, q, c)) (nx T n p) c := rfl
  -- a code is written while the token stands, then the next token is read
  have wr : ∀ x, tk T n p ≠ 128 → oneP (tz T n) deep E O p c = (true, nx T n p, c ++ [x]) → wm_OkV 0 96 [.ref 59, .int x] μ (fun μ1 => wm_OkV 0 90 [.ref 59] μ1 (fun μ2 => (((1 : Int32) = 0 ∨ (1 : Int32) = 1) ∧ ∃ z, some (Value.int 1) = some (.int z) ∧ Q z μ2))) := by
    intro x h128 ex
    have hz := (tz_ok T n).1 p hk.1 h128
    have z1 : p < nx T n p := hz.1
    have z2 : nx T n p ≤ n := hz.2
    obtain ⟨b1, b2, b3, b4, b5⟩ := hC
    have hn := b1.1
    refine v_96 _ _ _ ⟨fun q => absurd q ?_, fun _ => ?_⟩
    · rw [b4]; exact nI_ge (a := c.length) (b := 120) (by omega) (by decide)
    rw [b4, nI_clamp (by omega)]
    have hS : Sm kTp μ (wm_si (wm_si μ 61 c.length x) 59 3 ((wm_si μ 61 c.length x).1 59 3 + 1)) := ((Sm.rf _ _).si rfl).si rfl
    refine ⟨vp_in_nI (by omega) (by decide), w_96_29 _ _ ⟨rfl, c_90 (en T n p) (en_le hk.1) (b1.sm hS) b2.2.2.1 fun ν s cν => ?_⟩⟩
    have s' : Sm kTp _ ν := s.le fun _ _ q => kTp_q q
    refine ⟨Or.inr rfl, _, rfl, h1 _ _ ν ex ⟨(b1.sm hS).sm s', cν, ?_, ?_, fun i hi => ?_⟩ (hS.tr s')⟩
    · rw [List.length_append]; simp only [List.length_cons, List.length_nil]; show c.length + 1 + k ≤ nx T n p; omega
    · rw [s 59 3 rfl]
      show μ.1 59 3 + 1 = _
      rw [b4, nI_1, List.length_append]; rfl
    · rw [s 61 i rfl]
      rw [List.length_append] at hi
      simp only [List.length_cons, List.length_nil] at hi
      have e0 : (wm_si (wm_si μ 61 c.length x) 59 3 ((wm_si μ 61 c.length x).1 59 3 + 1)).1 61 i = (wm_si μ 61 c.length x).1 61 i := rfl
      rw [e0, List.getD_eq_getElem?_getD]
      by_cases e : i = c.length
      · subst e
        rw [si_same, List.getElem?_append_right (Nat.le_refl _), Nat.sub_self]; rfl
      · have e1 : (wm_si μ 61 c.length x).1 61 i = μ.1 61 i := by
          show va_up μ.1 61 (upd (μ.1 61) c.length x) 61 i = _
          rw [wm_up_eq, wm_upd_ne e]
        rw [e1, List.getElem?_append_left (by omega), ← List.getD_eq_getElem?_getD]
        exact b5 i (by omega)
  refine v_103 _ _ _ ⟨fun z => ?_, fun z129 => w_103_24 _ _ _ ?_⟩
  · have et := t129.mp z
    rw [hk.2.2.2.2 et]
    exact wr _ (by omega) (by rw [e0, if_pos et])
  have n129 : ¬ tk T n p = 129 := fun q => z129 (t129.mpr q)
  have no : ¬ (3 ≤ tk T n p ∧ tk T n p ≤ 8) → wm_Wp (e + 1) 103 59 [.ref 59, .int (nI o)] μ (fun v ν => ∃ z, v = some (.int z) ∧ Q z ν) := by
    intro n38
    have bad : deep = true ∨ (tk T n p ≠ 45 ∧ tk T n p ≠ 40) → wm_Wp (e + 1) 103 83 [.null, .null] μ (fun v ν => ∃ z, v = some (.int z) ∧ Q z ν) := fun hb =>
      w_103_83 _ _ ⟨Or.inl rfl, _, rfl, h0 p c μ (by rw [e0, if_neg n129, if_neg n38, if_pos hb]) hk.2.1 (Sm.rf _ _)⟩
    refine w_103_59 _ _ _ ?_
    rw [o6 ho]
    refine ⟨fun h6 => bad (Or.inl (hd.mpr h6)), fun h6 => ?_⟩
    have hdf : deep = false := by cases deep; rfl; exact absurd (hd.mp rfl) h6
    have hdn : ¬ deep = true := by rw [hdf]; decide
    have good : (tk T n p = 45 ∨ tk T n p = 40) → wm_Wp (e + 1) 103 85 [.ref 59, .int (nI o)] μ (fun v ν => ∃ z, v = some (.int z) ∧ Q z ν) := by
      intro hg
      refine w_103_85 _ _ _ ⟨fun z => ?_, fun z => w_103_104 _ _ _ ?_⟩
      · have et := t45.mp z
        have e1 : oneP (tz T n) deep E O p c = thn O (wrt (-(nI 101))) (nx T n p) c := by
          rw [e0, if_neg n129, if_neg n38, if_neg (by rintro (q | q); exact hdn q; exact q.1 et), if_pos et]
        rw [nI_1]
        refine v_104 _ _ _ (c_adv hC (by omega) fun ν1 hC1 s1 => hO hdf (nx T n p) (k + 1) c ν1 _ hC1 (fun q2 c2 ν2 hp2 hC2 s2 => ⟨fun z => absurd z n01, fun _ => w_104_14 _ _ ?_⟩) (fun q2 c2 ν2 hp2 h6 s2 => ⟨fun _ => ⟨Or.inl rfl, _, rfl, Or.inl rfl, _, rfl, h0 q2 c2 ν2 (by rw [e1, thn_F hp2]) h6 (s1.tr s2)⟩, fun z => absurd rfl z⟩))
        exact c_96 (-(nI 101)) hC2 fun ν3 hC3 s3 => ⟨Or.inr rfl, _, rfl, Or.inr rfl, _, rfl, h1 q2 (c2 ++ [-(nI 101)]) ν3 (by rw [e1, thn_T hp2]; rfl) hC3 (s1.tr (s2.tr s3))⟩
      · have n45 : ¬ tk T n p = 45 := fun q => z (t45.mpr q)
        have et : tk T n p = 40 := by rcases hg with q | q; exact absurd q n45; exact q
        have e1 : oneP (tz T n) deep E O p c = thn E (fun q c => if tk T n q = 41 then (true, nx T n q, c) else (false, q, c)) (nx T n p) c := by
          rw [e0, if_neg n129, if_neg n38, if_neg (by rintro (q | q); exact hdn q; exact q.2 et), if_neg n45]
        rw [nI_1]
        refine v_105 _ _ _ (c_adv hC (by omega) fun ν1 hC1 s1 => hE hdf (nx T n p) (k + 1) c ν1 _ hC1 (fun q2 c2 ν2 hp2 hC2 s2 => ⟨fun z => absurd z n01, fun _ => ⟨fun z => w_105_23 _ _ ?_, fun z => w_105_21 _ _ ⟨Or.inl rfl, _, rfl, Or.inl rfl, _, rfl, h0 q2 c2 ν2 ?_ hC2.2.1.2.1 (s1.tr s2)⟩⟩⟩) (fun q2 c2 ν2 hp2 h6 s2 => ⟨fun _ => w_105_21 _ _ ⟨Or.inl rfl, _, rfl, Or.inl rfl, _, rfl, h0 q2 c2 ν2 (by rw [e1, thn_F hp2]) h6 (s1.tr s2)⟩, fun z => absurd rfl z⟩))
        · have et2 := (tk_eq hC2.2.1 41 (by decide)).mp z
          refine c_adv hC2 (by omega) fun ν3 hC3 s3 => ⟨Or.inr rfl, _, rfl, Or.inr rfl, _, rfl, h1 (nx T n q2) c2 ν3 ?_ (hC3.le (by omega)) (s1.tr (s2.tr s3))⟩
          rw [e1, thn_T hp2, if_pos et2]
        · rw [e1, thn_T hp2, if_neg (fun q => z ((tk_eq hC2.2.1 41 (by decide)).mpr q))]
    refine ⟨fun z => good (Or.inl (t45.mp z)), fun z1 => ⟨fun z => good (Or.inr (t40.mp z)), fun z2 => bad (Or.inr ⟨fun q => z1 (t45.mpr q), fun q => z2 (t40.mpr q)⟩)⟩⟩
  rw [hk.2.2.2.1]
  have l3 : nI (tk T n p) < (3 : Int32) ↔ tk T n p < 3 := nI_ltI (b := 3) (by omega) (by decide)
  have l8 : (8 : Int32) < nI (tk T n p) ↔ 8 < tk T n p := nI_ltI (a := 8) (by decide) (by omega)
  rw [l3, l8]
  refine ⟨fun z => no (by omega), fun z1 => ⟨fun z => no (by omega), fun z2 => ?_⟩⟩
  have ex : (-1 : Int32) - (nI (tk T n p) - 3) = -(nI (1 + (tk T n p - 3))) := by
    rw [show (3 : Int32) = nI 3 from rfl, pk_sub (by omega), ← nI_add, Int32.neg_add, show (-1 : Int32) = -(nI 1) from by decide]
  rw [ex]
  exact wr _ (by omega) (by rw [e0, if_neg n129, if_pos ⟨by omega, by omega⟩])
theorem CR_mk {T n e o} (ho : o ≤ 6) {deep : Bool} (hd : deep = true ↔ o = 6) {O N E : Ps} (hO : deep = false → CR T n e 103 (o + 1) O) (hN : deep = false → CR T n e 99 (o + 1) N) (hE : deep = false → CR T n e 97 (o + 1) E) :
    CR T n (e + 1) 103 o (mkO (tz T n) deep O N E).1 ∧ CR T n (e + 1) 99 o (mkO (tz T n) deep O N E).2.1 ∧ CR T n (e + 1) 97 o (mkO (tz T n) deep O N E).2.2 := by
  have h103 := CR_103 ho hd hO hE
  have h99 := CR_99 ho hd (CR_100 (CR_101 (CR_102 h103))) hN
  exact ⟨h103, h99, CR_97 (CR_98 h99)⟩
theorem CR_ps {T : Nat → Nat} {n : Nat} : ∀ d, d ≤ 6 → CR T n (d + 1) 103 (6 - d) (PS (tz T n) d).1 ∧ CR T n (d + 1) 99 (6 - d) (PS (tz T n) d).2.1 ∧ CR T n (d + 1) 97 (6 - d) (PS (tz T n) d).2.2
  | 0, _ => CR_mk (e := 0) (o := 6) (by decide) (by decide) (fun h => by cases h) (fun h => by cases h) (fun h => by cases h)
  | d + 1, h => by
    have ih := CR_ps (T := T) (n := n) d (by omega)
    rw [show 6 - d = 6 - (d + 1) + 1 by omega] at ih
    exact CR_mk (e := d + 1) (o := 6 - (d + 1)) (by omega) ⟨fun q => absurd q (by decide), fun q => by omega⟩ (fun _ => ih.1) (fun _ => ih.2.1) (fun _ => ih.2.2)
/-- what reading a whole text may change -/
def kFt (c i : Nat) : Bool := !(Nat.beq c 61) && !(Nat.beq c 59 && (Nat.ble 3 i && Nat.ble i 9))
theorem kFt_T {c i : Nat} (h : kFt c i = true) : kTp c i = true := by
  unfold kFt at h; unfold kTp
  simp only [Bool.and_eq_true, Bool.not_eq_true', Bool.eq_false_iff, ne_eq, Nat.beq_eq, Nat.ble_eq, Bool.or_eq_true] at h ⊢
  omega
theorem CTx.smF {T n μ ν} (h : CTx T n μ) (e : Sm kFt μ ν) : CTx T n ν := ⟨h.1, (e 59 1 rfl).trans h.2.1, fun i hi => ⟨(h.2.2 i hi).1, (e 60 i rfl).trans (h.2.2 i hi).2⟩⟩
theorem c_89 {T : Nat → Nat} {n : Nat} {μ : wm_M} {Q : Int32 → wm_M → Prop} (hX : CTx T n μ)
    (h1 : (ruleP T n).1 = true → ∀ ν, Sm kFt μ ν → ν.1 59 4 = nI (ruleP T n).2.2.1 → ν.1 59 5 = nI (ruleP T n).2.2.2.1 → ν.1 59 3 = nI (ruleP T n).2.2.2.2.length → (∀ i, i < (ruleP T n).2.2.2.2.length → ν.1 61 i = (ruleP T n).2.2.2.2.getD i 0) → Q (-1) ν)
    (h0 : (ruleP T n).1 = false → ∀ ν, Sm kFt μ ν → Q (nI (ruleP T n).2.1) ν) : wm_OkI 0 89 [.ref 59] μ Q := by
  have hn := hX.1
  have eR : ruleP T n = ruleZ (tz T n) (sk T n 0) := rfl
  have hR := (CR_ps (T := T) (n := n) 6 (Nat.le_refl 6)).2.2
  have s0 : Sm kFt μ (wm_si (wm_si μ 59 7 0) 59 3 0) := ((Sm.rf _ _).si rfl).si rfl
  refine v_89 _ _ (c_90 0 (Nat.zero_le _) (hX.smF s0) rfl fun ν s cν => ?_)
  have sF : Sm kFt μ ν := s0.tr (s.le fun _ _ q => kTp_q (kFt_T q))
  have tl := tk_lt cν
  generalize hp0 : sk T n 0 = p0 at *
  rw [cν.2.2.2.1, show (2 : Int32) = nI 2 from rfl, nI_leI (by omega) (by decide), cν.2.1]
  refine ⟨fun hk => w_89_27 _ _ ?_, fun hk => ⟨_, rfl, ?_⟩⟩
  · -- the key
    have hk2 : ¬ 2 < (tz T n).1 p0 := by show ¬ 2 < tk T n p0; omega
    have s1 : Sm kFt μ (wm_si ν 59 4 (ν.1 59 8)) := sF.si rfl
    have c1 : CC T n p0 0 [] (wm_si ν 59 4 (ν.1 59 8)) := ⟨hX.smF s1, cν, by simp, s 59 3 rfl, fun i hi => absurd hi (by simp)⟩
    have h4 : (wm_si ν 59 4 (ν.1 59 8)).1 59 4 = nI (tk T n p0) := cν.2.2.2.1
    refine c_adv c1 (by omega) fun ν1 hC1 s2 => hR (nx T n p0) 0 [] ν1 _ (hC1.le (Nat.zero_le _)) (fun q c' ν2 hp hC2 s3 => ⟨fun z => absurd z n01, fun _ => w_89_52 _ _ ?_⟩) (fun q c' ν2 hp h6 s3 => ⟨fun _ => ⟨_, rfl, ?_⟩, fun z => absurd rfl z⟩)
    · have hp' : (PS (tz T n) 6).2.2 ((tz T n).2.1 p0) [] = (true, q, c') := hp
      have s4 : Sm kFt μ ν2 := s1.tr ((s2.tr s3).le fun _ _ q => kFt_T q)
      have k4 : ν2.1 59 4 = nI (tk T n p0) := ((s2.tr s3) 59 4 rfl).trans h4
      have s5 : Sm kFt μ (wm_si ν2 59 5 (ν2.1 59 3)) := s4.si rfl
      have c5 : CC T n q 0 c' (wm_si ν2 59 5 (ν2.1 59 3)) := ⟨hX.smF s5, hC2.2.1, hC2.2.2.1, hC2.2.2.2.1, hC2.2.2.2.2⟩
      have k5 : (wm_si ν2 59 5 (ν2.1 59 3)).1 59 5 = nI c'.length := hC2.2.2.2.1
      have t9 := tk_eq c5.2.1 9 (by decide)
      have last : ∀ q2 c2 ν3, CC T n q2 0 c2 ν3 → Sm kFt μ ν3 → ν3.1 59 4 = nI (tk T n p0) → ν3.1 59 5 = nI c'.length → (tk T n q2 = 128 → ruleP T n = (true, 0, tk T n p0, c'.length, c2)) → (¬ tk T n q2 = 128 → ruleP T n = (false, q2, 0, 0, [])) → wm_Wp 0 89 86 [.ref 59] ν3 (fun v ν => ∃ z, v = some (.int z) ∧ Q z ν) := by
        intro q2 c2 ν3 hC3 sF3 k43 k53 hy hnn
        have t128 := tk_eq hC3.2.1 128 (by decide)
        refine w_89_86 _ _ ⟨fun z => ⟨_, rfl, ?_⟩, fun z => w_89_100 _ _ ⟨_, rfl, ?_⟩⟩
        · have e := hy (t128.mp z)
          rw [e] at h1
          exact h1 rfl ν3 sF3 k43 k53 hC3.2.2.2.1 hC3.2.2.2.2
        · have e := hnn (fun q => z (t128.mpr q))
          rw [e] at h0
          rw [hC3.2.1.2.1]
          exact h0 rfl ν3 sF3
      refine ⟨fun z => ?_, fun z => ?_⟩
      · have et := t9.mp z
        have et' : (tz T n).1 q = 9 := et
        refine c_adv c5 (by omega) fun ν3 hC3 s6 => hR (nx T n q) 0 c' ν3 _ (hC3.le (Nat.zero_le _)) (fun q2 c2 ν4 hp2 hC4 s7 => ⟨fun z => absurd z n01, fun _ => ?_⟩) (fun q2 c2 ν4 hp2 h6 s7 => ⟨fun _ => ⟨_, rfl, ?_⟩, fun z => absurd rfl z⟩)
        · have hp2' : (PS (tz T n) 6).2.2 ((tz T n).2.1 q) c' = (true, q2, c2) := hp2
          refine last q2 c2 ν4 hC4 (s5.tr ((s6.tr s7).le fun _ _ q => kFt_T q)) (((s6.tr s7) 59 4 rfl).trans k4) (((s6.tr s7) 59 5 rfl).trans k5) (fun e => ?_) (fun e => ?_)
          · have e' : (tz T n).1 q2 = 128 := e
            rw [eR]; unfold ruleZ
            rw [if_neg hk2, hp', if_neg (fun z : true = false => Bool.noConfusion z), if_pos et', hp2', if_neg (fun z : true = false => Bool.noConfusion z), if_pos e']; rfl
          · have e' : ¬ (tz T n).1 q2 = 128 := e
            rw [eR]; unfold ruleZ
            rw [if_neg hk2, hp', if_neg (fun z : true = false => Bool.noConfusion z), if_pos et', hp2', if_neg (fun z : true = false => Bool.noConfusion z), if_neg e']
        · have hp2' : (PS (tz T n) 6).2.2 ((tz T n).2.1 q) c' = (false, q2, c2) := hp2
          have e : ruleP T n = (false, q2, 0, 0, []) := by
            rw [eR]; unfold ruleZ
            rw [if_neg hk2, hp', if_neg (fun z : true = false => Bool.noConfusion z), if_pos et', hp2', if_pos rfl]
          rw [e] at h0
          rw [h6]
          exact h0 rfl ν4 (s5.tr ((s6.tr s7).le fun _ _ q => kFt_T q))
      · have et : ¬ tk T n q = 9 := fun e => z (t9.mpr e)
        have et' : ¬ (tz T n).1 q = 9 := et
        refine last q c' _ c5 s5 k4 k5 (fun e => ?_) (fun e => ?_)
        · have e' : (tz T n).1 q = 128 := e
          rw [eR]; unfold ruleZ
          rw [if_neg hk2, hp', if_neg (fun z : true = false => Bool.noConfusion z), if_neg et', if_pos e']; rfl
        · have e' : ¬ (tz T n).1 q = 128 := e
          rw [eR]; unfold ruleZ
          rw [if_neg hk2, hp', if_neg (fun z : true = false => Bool.noConfusion z), if_neg et', if_neg e']
    · have hp' : (PS (tz T n) 6).2.2 ((tz T n).2.1 p0) [] = (false, q, c') := hp
      have e : ruleP T n = (false, q, 0, 0, []) := by
        rw [eR]; unfold ruleZ
        rw [if_neg hk2, hp', if_pos rfl]
      rw [e] at h0
      rw [h6]
      exact h0 rfl ν2 (s1.tr ((s2.tr s3).le fun _ _ q => kFt_T q))
  · have e : ruleP T n = (false, p0, 0, 0, []) := by
      rw [eR]; unfold ruleZ
      rw [if_pos (show 2 < (tz T n).1 p0 by show 2 < tk T n p0; omega)]
    rw [e] at h0
    exact h0 rfl ν sF
