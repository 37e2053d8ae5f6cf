/-! ===== what the reference's rules tell ===== -/
def RV (A : Nat → Nat) : Prop := ∀ k, k < A 2042 → (rP A k).1 = true ∧ rN A k ≤ 120
theorem RR.rv {o : Nat} {A : Nat → Nat} {μ : wm_M} (h : RR o A μ) : RV A := fun k hk => ⟨(h k hk).1, (h k hk).2.1⟩
theorem hol_iff (A : Nat → Nat) (key kind cell hour k : Nat) : rHolds A key kind cell hour k = true ↔ (rP A k).2.2.1 = key ∧ A (471 + 127 * k) ≤ hour ∧ hour < A (472 + 127 * k) ∧ ((rP A k).2.2.2.1 = (rP A k).2.2.2.2.length ∨ ¬ evC (envA A kind cell hour) ((rP A k).2.2.2.2.drop (rP A k).2.2.2.1) = 0) := by
  unfold rHolds
  simp only [Bool.and_eq_true, Bool.or_eq_true, Nat.beq_eq, Nat.ble_eq, Nat.blt_eq, Bool.not_eq_true', decide_eq_false_iff_not]
  exact ⟨fun ⟨⟨⟨a, b⟩, c⟩, d⟩ => ⟨a, b, c, d⟩, fun ⟨a, b, c, d⟩ => ⟨⟨⟨a, b⟩, c⟩, d⟩⟩
theorem m_240 {m : Nat} {A : Nat → Nat} (key x cell hour : Nat) (hk : key < 3) (hx : x < 3) (hc : cell < 36) (hh : hour < 12) {μ : wm_M} {Q : Int32 → wm_M → Prop} (hB : BA m A) (hV : RV A) (hM : RM 91 A μ) (hq : ∀ ν, ν.1 89 19 = sayV A key (kiR A x) cell hour → Sm kW μ ν → Q (lto (rulg A key (kiR A x) cell hour (A 2042)) nI (-1)) ν) : wm_OkI 0 240 [.ref 89, .int (nI key), .int (nI x), .int (nI cell), .int (nI hour)] μ Q := by
  have b12 := hB.rules
  have l : ∀ (μ : wm_M) k ν, k ≤ A 2042 → Sm kU μ ν → (BA m A ∧ RM 91 A ν ∧ cell < 36 ∧ x < 3 ∧ ν.1 89 14 = nI cell ∧ ν.1 89 15 = nI x ∧ ν.1 89 16 = nI hour) → (∀ κ, (∀ j, rulg A key (kiR A x) cell hour k = some j → κ.1 89 19 = evC (enR A x cell hour) ((rP A j).2.2.2.2.take (rP A j).2.2.2.1)) → (rulg A key (kiR A x) cell hour k = none → κ.1 89 19 = dfl key) → Sm kU μ κ → Q (lto (rulg A key (kiR A x) cell hour k) nI (-1)) κ) → wm_Wp 0 240 25 [.ref 89, .int (nI key), .null, .null, .int (nI hour), .int (nI k + (-1)), .null] ν (fun w ν => ∃ x, w = some (.int x) ∧ Q x ν) := by
    intro μ k
    induction k with
    | zero =>
      intro ν _ hS hE hq
      have f : ∀ y : Int32, y = dfl key → Q (-1) (wm_si ν 89 19 y) := fun y hy => hq _ (fun j e => by cases e) (fun _ => hy) (hS.si rfl)
      refine w_240_25 _ _ _ _ _ ⟨fun _ => w_240_112 _ _ _ ⟨fun z => ⟨_, rfl, f _ ?_⟩, fun z => ⟨fun y => ⟨_, rfl, f _ ?_⟩, fun y => ⟨_, rfl, f _ ?_⟩⟩⟩, fun z => absurd (by decide +kernel) z⟩
      · have z := (nI_eq (b := 0) (by omega) (by decide)).mp z
        rw [z]; rfl
      · have y := (nI_eq (b := 1) (by omega) (by decide)).mp y
        rw [y]; rfl
      · have z : ¬ key = 0 := fun q => z (by rw [q]; rfl)
        have y : ¬ key = 1 := fun q => y (by rw [q]; rfl)
        rw [show key = 2 by omega]; rfl
    | succ k ih =>
      intro ν hk1 hS hE hq
      rw [pk_m1]
      have hk12 : k < 12 := by omega
      obtain ⟨v1, v2⟩ := hV k (by omega)
      obtain ⟨o1, o2, o3, o4, o5, o6⟩ := rP_ok v1
      have hM := hE.2.1
      have bf := hB.rule (show 127 * k < 1524 by omega)
      have bt := hB.rule (show 127 * k + 1 < 1524 by omega)
      rw [show 471 + (127 * k + 1) = 472 + 127 * k by omega] at bt
      have hol := hol_iff A key (kiR A x) cell hour k
      have no : ¬ rHolds A key (kiR A x) cell hour k = true → ∀ κ, Sm kU μ κ → (BA m A ∧ RM 91 A κ ∧ cell < 36 ∧ x < 3 ∧ κ.1 89 14 = nI cell ∧ κ.1 89 15 = nI x ∧ κ.1 89 16 = nI hour) → wm_Wp 0 240 106 [.ref 89, .int (nI key), .null, .null, .int (nI hour), .int (nI k), .null] κ (fun w ν => ∃ x, w = some (.int x) ∧ Q x ν) := fun hn κ hSκ hEκ => w_240_106 _ _ _ _ _ (ih κ (by omega) hSκ hEκ (fun ξ a b c => by
        have e : rulg A key (kiR A x) cell hour (k + 1) = rulg A key (kiR A x) cell hour k := if_neg hn
        rw [e] at hq
        exact hq ξ a b c))
      have a1 : (471 : Int32) + ((127 : Int32) * nI k) = nI (471 + 127 * k) := by simp (disch := omega) only [nl, nI_add, pk_mul, pk_sub, pk_div, rm_n, nI_clamp, vi_, nI_leI, nI_ltI, nI_eq, nI_sb, nI_eqm, nI_meq, Nat.zero_add, Nat.add_zero]
      have a2 : nI (471 + 127 * k) + (1 : Int32) = nI (472 + 127 * k) := by
        rw [nI_1]; congr 1; omega
      refine w_240_25 _ _ _ _ _ ⟨fun z => absurd z (nI_pos (by omega)), fun _ => ?_⟩
      rw [a1, a2, nI_clamp (show 471 + 127 * k < 2 ^ 31 by omega), nI_clamp (show 472 + 127 * k < 2 ^ 31 by omega), hM _ (show 471 + 127 * k < 2060 by omega), hM _ (show 472 + 127 * k < 2060 by omega)]
      refine ⟨vp_in_nI (by omega) (by decide), fun z => no (fun q => ?_) ν hS hE, fun z => ⟨vp_in_nI (by omega) (by decide), fun y => w_240_70 _ _ _ _ _ _ ?_, fun y => no (fun q => ?_) ν hS hE⟩⟩
      · exact absurd ((nI_ltI (by omega) (by omega)).mp z) (by have := (hol.mp q).2.1; omega)
      · have z : ¬ hour < A (471 + 127 * k) := fun q => z ((nI_ltI (by omega) (by omega)).mpr q)
        have y := (nI_ltI (by omega) (by omega)).mp y
        have a3 : nI (471 + 127 * k) + (2 : Int32) = nI (473 + 127 * k) := by
          rw [show nI (471 + 127 * k) + (2 : Int32) = nI (471 + 127 * k + 2) from nI_add _ 2]; congr 1; omega
        have a4 : nI (471 + 127 * k) + (3 : Int32) = nI (474 + 127 * k) := by
          rw [show nI (471 + 127 * k) + (3 : Int32) = nI (471 + 127 * k + 3) from nI_add _ 3]; congr 1; omega
        rw [a3, a4, nI_clamp (show 473 + 127 * k < 2 ^ 31 by omega), hM _ (show 473 + 127 * k < 2060 by omega)]
        refine ⟨vp_in_nI (by omega) (by decide), m_238 (T := rT A k) (n := rN A k) hh 0 (nI (474 + 127 * k)) (Or.inl rfl) ⟨rfl, v2, fun i hi => ?_, Or.inr ⟨rfl, 474 + 127 * k, rfl, by omega, fun i hi => ?_⟩⟩ hE (fun e κ c12 c18 c19 c20 hSκ => ?_) (fun e => ?_)⟩
        · have := hB.rule (show 127 * k + 3 + i < 1524 by omega)
          rw [show 471 + (127 * k + 3 + i) = 474 + 127 * k + i by omega] at this
          exact this
        · show ν.1 91 (474 + 127 * k + i) = nI (A (474 + 127 * k + i))
          exact hM _ (by omega)
        · have hSμκ := hS.tr hSκ
          have hEκ : BA m A ∧ RM 91 A κ ∧ cell < 36 ∧ x < 3 ∧ κ.1 89 14 = nI cell ∧ κ.1 89 15 = nI x ∧ κ.1 89 16 = nI hour := ⟨hB, fun i hi => (hSκ 91 i rfl).trans (hM i hi), hc, hx, (hSκ 89 14 rfl).trans hE.2.2.2.2.1, (hSκ 89 15 rfl).trans hE.2.2.2.2.2.1, (hSκ 89 16 rfl).trans hE.2.2.2.2.2.2⟩
          have c18 : κ.1 89 18 = nI (rP A k).2.2.1 := c18
          have c20 : κ.1 89 20 = 0 ↔ ¬ ((rP A k).2.2.2.1 = (rP A k).2.2.2.2.length ∨ ¬ evC (envA A (kiR A x) cell hour) ((rP A k).2.2.2.2.drop (rP A k).2.2.2.1) = 0) := c20
          rw [c18]
          refine ⟨fun u => ⟨fun w => no (fun q => c20.mp w (hol.mp q).2.2.2) κ hSμκ hEκ, fun w => ⟨_, rfl, ?_⟩⟩, fun u => no (fun q => u (by rw [(hol.mp q).1])) κ hSμκ hEκ⟩
          have hy : rHolds A key (kiR A x) cell hour k = true := hol.mpr ⟨(nI_eq (by omega) (by omega)).mp u, by omega, y, Classical.not_not.mp (fun q => w (c20.mpr q))⟩
          have e : rulg A key (kiR A x) cell hour (k + 1) = some k := if_pos hy
          rw [e] at hq
          exact hq κ (fun j ej => by cases ej; exact c19) (fun q => by cases q) hSμκ
        · rw [show ruleP (rT A k) (rN A k) = rP A k from rfl, v1] at e
          cases e
      · have y : ¬ hour < A (472 + 127 * k) := fun q => y ((nI_ltI (by omega) (by omega)).mpr q)
        have := (hol.mp q).2.2.1
        omega
  refine v_240 _ _ _ _ _ _ (s_188 2 (by decide) ?_)
  rw [show (wm_si (wm_si (wm_si μ 89 14 (nI cell)) 89 15 (nI x)) 89 16 (nI hour)).1 91 (2040 + 2) = nI (A 2042) from hM 2042 (by decide), Int32.sub_eq_add_neg]
  have hS0 : Sm kW μ (wm_si (wm_si (wm_si μ 89 14 (nI cell)) 89 15 (nI x)) 89 16 (nI hour)) := (((Sm.rf _ _).si rfl).si rfl).si rfl
  refine l _ (A 2042) _ (Nat.le_refl _) (Sm.rf _ _) ⟨hB, hM.fr rfl, hc, hx, rfl, rfl, rfl⟩ (fun κ a b c => hq κ ?_ (hS0.tr (c.le (fun _ _ q => kW_U q))))
  unfold sayV
  cases e : rulg A key (kiR A x) cell hour (A 2042) with
  | none => exact b e
  | some k => exact a k e
theorem m_241 {m : Nat} {A : Nat → Nat} (key x cell hour : Nat) (hk : key < 3) (hx : x < 3) (hc : cell < 36) (hh : hour < 12) {μ : wm_M} {Q : Int32 → wm_M → Prop} (hB : BA m A) (hV : RV A) (hM : RM 91 A μ) (hq : ∀ ν, Sm kW μ ν → Q (sayV A key (kiR A x) cell hour) ν) : wm_OkI 0 241 [.ref 89, .int (nI key), .int (nI x), .int (nI cell), .int (nI hour)] μ Q :=
  v_241 _ _ _ _ _ _ (m_240 key x cell hour hk hx hc hh hB hV hM (fun ν e hS => ⟨_, rfl, by rw [e]; exact hq ν hS⟩))
/-! ===== says, why ===== -/
def okQ (A : Nat → Nat) (a b c : Int32) : Prop := ∃ t j h : Nat, t < 30 ∧ j < 36 ∧ h < 12 ∧ a = nI t ∧ b = nI j ∧ c = nI h ∧ t % 10 < A 2040
theorem c_166 {m : Nat} {A : Nat → Nat} {a b c : Int32} {μ : wm_M} {Q : Int32 → wm_M → Prop} (hC : CL m A μ) (h1 : ∀ t j h : Nat, t < 30 → j < 36 → h < 12 → a = nI t → b = nI j → c = nI h → t % 10 < A 2040 → Q 1 μ) (h0 : ¬ okQ A a b c → Q 0 μ) : wm_OkI 0 166 [.ref 0, .int a, .int b, .int c] μ Q := by
  have bs := hC.1.sails
  refine v_166 _ _ _ _ _ (s_178 ⟨fun z => w_166_42 _ _ ⟨z01, _, rfl, h0 (fun ⟨t, j, h, t1, t2, t3, e1, e2, e3, e4⟩ => bI_0.mp z (by rw [e1]; exact nI_in2 (n := 29) (by omega) (by decide)))⟩, fun z => ?_⟩)
  obtain ⟨t, ht, rfl⟩ := in_nI 29 (by decide) (nz z)
  refine ⟨n10, ?_⟩
  rw [rm10 (by omega)]
  refine c_165 hC (fun i hi e => ⟨fun q => absurd q (by decide), fun _ => s_167 ⟨fun y => w_166_42 _ _ ⟨z01, _, rfl, h0 (fun ⟨t, j, h, t1, t2, t3, e1, e2, e3, e4⟩ => bI_0.mp y (by rw [e2]; exact nI_in2 (n := 35) (by omega) (by decide)))⟩, fun y => s_178 ⟨fun x => w_166_42 _ _ ⟨z01, _, rfl, h0 (fun ⟨t, j, h, t1, t2, t3, e1, e2, e3, e4⟩ => bI_0.mp x (by rw [e3]; exact nI_in2 (n := 11) (by omega) (by decide)))⟩, fun x => ⟨o01, _, rfl, ?_⟩⟩⟩⟩) (fun q => ⟨fun _ => w_166_42 _ _ ⟨z01, _, rfl, h0 (fun ⟨t', j, h, t1, t2, t3, e1, e2, e3, e4⟩ => ?_)⟩, fun r => absurd rfl r⟩)
  · obtain ⟨j, hj, ej⟩ := in_nI 35 (by decide) (nz y)
    obtain ⟨h, hh, eh⟩ := in_nI 11 (by decide) (nz x)
    have := (nI_eq (by omega) (by omega)).mp e
    exact h1 t j h (by omega) (by omega) (by omega) rfl ej eh (by omega)
  · have := (nI_eq (by omega) (by omega)).mp e1
    subst this
    exact q _ e4 rfl
theorem m_242 {m : Nat} {A : Nat → Nat} {a b c : Int32} {μ : wm_M} {Q : Int32 → wm_M → Prop} (hB : BA m A) (hM : RM 91 A μ) (h1 : ∀ t j h : Nat, t < 30 → j < 36 → h < 12 → a = nI t → b = nI j → c = nI h → t % 10 < A 2040 → Q 1 μ) (h0 : ¬ okQ A a b c → Q 0 μ) : wm_OkI 0 242 [.ref 89, .int a, .int b, .int c] μ Q := by
  have bs := hB.sails
  refine v_242 _ _ _ _ _ ⟨fun z => w_242_45 _ _ ⟨z01, _, rfl, h0 (fun ⟨t, j, h, t1, t2, t3, e1, e2, e3, e4⟩ => absurd z (by rw [e1]; exact nI_pos (by omega)))⟩, fun z => ⟨n10, ?_⟩⟩
  obtain ⟨t, ht, rfl⟩ := nI_of z
  rw [rm10 ht, dv10 ht]
  have u : ∀ t' : Nat, t' < 30 → nI t = nI t' → t = t' := fun t' h e => (nI_eq ht (by omega)).mp e
  refine s_184 ⟨fun y => w_242_45 _ _ ⟨z01, _, rfl, h0 (fun ⟨t', j, h, t1, t2, t3, e1, e2, e3, e4⟩ => bI_0.mp y (by have := u t' t1 e1; exact nI_in2 (n := 2) (by omega) (by decide)))⟩, fun y => ⟨n10, m_191 hB hM (fun i hi e => ⟨fun q => absurd q (by decide), fun _ => s_189 ⟨fun w => w_242_45 _ _ ⟨z01, _, rfl, h0 (fun ⟨t, j, h, t1, t2, t3, e1, e2, e3, e4⟩ => bI_0.mp w (by rw [e2]; exact nI_in2 (n := 35) (by omega) (by decide)))⟩, fun w => s_190 ⟨fun v => w_242_45 _ _ ⟨z01, _, rfl, h0 (fun ⟨t, j, h, t1, t2, t3, e1, e2, e3, e4⟩ => bI_0.mp v (by rw [e3]; exact nI_in2 (n := 11) (by omega) (by decide)))⟩, fun v => ⟨o01, _, rfl, ?_⟩⟩⟩⟩) (fun q => ⟨fun _ => w_242_45 _ _ ⟨z01, _, rfl, h0 (fun ⟨t', j, h, t1, t2, t3, e1, e2, e3, e4⟩ => ?_)⟩, fun r => absurd rfl r⟩)⟩⟩
  · obtain ⟨j, hj, ej⟩ := in_nI 35 (by decide) (nz w)
    obtain ⟨h, hh, eh⟩ := in_nI 11 (by decide) (nz v)
    have y := (nI_leI (b := 2) (by omega) (by decide)).mp (nz y).2
    have := (nI_eq (by omega) (by omega)).mp e
    exact h1 t j h (by omega) (by omega) (by omega) rfl ej eh (by omega)
  · have := u t' t1 e1
    subst this
    exact q _ e4 rfl
theorem kR_W {c i : Nat} (h : kR c i = true) : kW c i = true := by
  cases hw : kW c i with
  | true => rfl
  | false =>
    exfalso
    unfold kW at hw
    simp only [Bool.not_eq_false', Bool.and_eq_true, Nat.beq_eq, Nat.ble_eq] at hw
    obtain ⟨rfl, h5, h20⟩ := hw
    have k : ∀ i, i ≤ 20 → 5 ≤ i → kR 89 i = false := by decide +kernel
    rw [k i h20 h5] at h
    cases h
theorem Rel.F2W {n : Nat} {μ ν κ : wm_M} (h : Rel n μ) (e : F2 μ ν) (f : Sm kW ν κ) : Rel n κ := h.sm ((e.sm (fun _ => rfl) (fun _ => rfl)).tr (f.le (fun _ _ q => kR_W q)))
theorem kiR_lt {A : Nat → Nat} {x : Nat} (h : x < A 2040) : kiR A x = A (449 + x) := if_pos h
theorem p_says (a b c : Int32) {n : Nat} {μ : wm_M} (h : Rel n μ) : wm_OkI 0 132 [.ref 0, .int a, .int b, .int c] μ (Pr n 243 [.ref 89, .int a, .int b, .int c]) := by
  have h' := h
  obtain ⟨A, hA, hO⟩ := h
  have hC := hA.cl (Nat.le_refl n)
  have hV := hA.2.2.2.1.2.2.rv
  have bs := hA.1.sails
  refine v_132 _ _ _ _ _ (c_166 hC (fun t j h t1 t2 t3 e1 e2 e3 e4 => ⟨fun q => absurd q (by decide), fun _ => w_132_17 _ _ _ _ _ ⟨n10, ?_⟩⟩) (fun z => ⟨fun _ => s_162 3 (by decide) ⟨_, rfl, v_243 _ _ _ _ _ (m_242 hA.1 (hA.2.2.1.fr rfl) (fun t j h t1 t2 t3 e1 e2 e3 e4 => absurd ⟨t, j, h, t1, t2, t3, e1, e2, e3, e4⟩ z) (fun _ => ⟨fun _ => w_243_27 _ _ (s_186 3 (by decide) ⟨_, rfl, rfl, (h'.rf 3).up⟩), fun q => absurd rfl q⟩))⟩, fun q => absurd rfl q⟩))
  subst e1; subst e2; subst e3
  have h3 : t % 10 < 3 := by omega
  rw [rm10 (by omega), dv10 (by omega), nI_clamp (show t % 10 < 2 ^ 31 by omega), hC.2.2.1.kind h3]
  refine ⟨vp_in_nI h3 (by decide), c_47 j _ h t2 hC (fun ν hN hF => ⟨n10, c_64 (t / 10) _ j h (by omega) t3 (hC.f2 hF) hN (fun κ hK => ⟨_, rfl, ?_⟩)⟩)⟩
  have hF2 := hF.tr (F2.of26 hK)
  have hM2 : RM 91 A κ := hA.2.2.1.fr (hF2 91 (by decide) (by decide))
  refine v_243 _ _ _ _ _ (m_242 hA.1 hM2 (fun _ _ _ _ _ _ _ _ _ _ => ⟨fun q => absurd q (by decide), fun _ => ⟨n10, n10, ?_⟩⟩) (fun q => absurd ⟨t, j, h, t1, t2, t3, rfl, rfl, rfl, e4⟩ q))
  rw [rm10 (by omega), dv10 (by omega)]
  refine m_241 (t / 10) (t % 10) j h (by omega) h3 t2 t3 hA.1 hV hM2 (fun ξ hS => ⟨_, rfl, ?_, (h'.F2W hF2 hS).up⟩)
  rw [kiR_lt e4]
theorem p_why (a b c : Int32) {n : Nat} {μ : wm_M} (h : Rel n μ) : wm_OkI 0 133 [.ref 0, .int a, .int b, .int c] μ (Pr n 244 [.ref 89, .int a, .int b, .int c]) := by
  have h' := h
  obtain ⟨A, hA, hO⟩ := h
  have hC := hA.cl (Nat.le_refl n)
  have hV := hA.2.2.2.1.2.2.rv
  have bs := hA.1.sails
  refine v_133 _ _ _ _ _ (c_166 hC (fun t j h t1 t2 t3 e1 e2 e3 e4 => ⟨fun q => absurd q (by decide), fun _ => w_133_17 _ _ _ _ _ ⟨n10, ?_⟩⟩) (fun z => ⟨fun _ => s_161 3 (by decide) ⟨_, rfl, v_244 _ _ _ _ _ (m_242 hA.1 (hA.2.2.1.fr rfl) (fun t j h t1 t2 t3 e1 e2 e3 e4 => absurd ⟨t, j, h, t1, t2, t3, e1, e2, e3, e4⟩ z) (fun _ => ⟨fun _ => w_244_27 _ _ (s_185 3 (by decide) ⟨_, rfl, rfl, (h'.rf 3).up⟩), fun q => absurd rfl q⟩))⟩, fun q => absurd rfl q⟩))
  subst e1; subst e2; subst e3
  have h3 : t % 10 < 3 := by omega
  rw [rm10 (by omega), dv10 (by omega), nI_clamp (show t % 10 < 2 ^ 31 by omega), hC.2.2.1.kind h3]
  refine ⟨vp_in_nI h3 (by decide), c_47 j _ h t2 hC (fun ν hN hF => ⟨n10, c_63 (t / 10) _ j h (by omega) t3 (hC.f2 hF) hN (fun κ hK => ⟨_, rfl, ?_⟩)⟩)⟩
  have hF2 := hF.tr (F2.of26 hK)
  have hM2 : RM 91 A κ := hA.2.2.1.fr (hF2 91 (by decide) (by decide))
  refine v_244 _ _ _ _ _ (m_242 hA.1 hM2 (fun _ _ _ _ _ _ _ _ _ _ => ⟨fun q => absurd q (by decide), fun _ => ⟨n10, n10, ?_⟩⟩) (fun q => absurd ⟨t, j, h, t1, t2, t3, rfl, rfl, rfl, e4⟩ q))
  rw [rm10 (by omega), dv10 (by omega)]
  refine m_240 (t / 10) (t % 10) j h (by omega) h3 t2 t3 hA.1 hV hM2 (fun ξ _ hS => ⟨_, rfl, ?_, (h'.F2W hF2 hS).up⟩)
  rw [kiR_lt e4]
