/-! ===== the reference reads a whole text ===== -/
theorem rz_0 {Z : Tz} {p0 : Nat} (h : 2 < Z.1 p0) : ruleZ Z p0 = (false, p0, 0, 0, []) := by unfold ruleZ; rw [if_pos h]
theorem rz_1 {Z : Tz} {p0 q : Nat} {d : List Int32} (h : ¬ 2 < Z.1 p0) (e : (PS Z 6).2.2 (Z.2.1 p0) [] = (false, q, d)) : ruleZ Z p0 = (false, q, 0, 0, []) := by
  unfold ruleZ
  rw [if_neg h, e, if_pos rfl]
theorem rz_2 {Z : Tz} {p0 q q2 : Nat} {d d2 : List Int32} (h : ¬ 2 < Z.1 p0) (e : (PS Z 6).2.2 (Z.2.1 p0) [] = (true, q, d)) (h9 : Z.1 q = 9) (e2 : (PS Z 6).2.2 (Z.2.1 q) d = (false, q2, d2)) : ruleZ Z p0 = (false, q2, 0, 0, []) := by
  unfold ruleZ
  rw [if_neg h, e, if_neg (by simp), if_pos h9, e2, if_pos rfl]
theorem rz_3 {Z : Tz} {p0 q q2 : Nat} {d d2 : List Int32} (h : ¬ 2 < Z.1 p0) (e : (PS Z 6).2.2 (Z.2.1 p0) [] = (true, q, d)) (h9 : Z.1 q = 9) (e2 : (PS Z 6).2.2 (Z.2.1 q) d = (true, q2, d2)) (h128 : Z.1 q2 = 128) : ruleZ Z p0 = (true, 0, Z.1 p0, d.length, d2) := by
  unfold ruleZ
  rw [if_neg h, e, if_neg (by simp), if_pos h9, e2, if_neg (by simp), if_pos h128]
theorem rz_4 {Z : Tz} {p0 q q2 : Nat} {d d2 : List Int32} (h : ¬ 2 < Z.1 p0) (e : (PS Z 6).2.2 (Z.2.1 p0) [] = (true, q, d)) (h9 : Z.1 q = 9) (e2 : (PS Z 6).2.2 (Z.2.1 q) d = (true, q2, d2)) (h128 : ¬ Z.1 q2 = 128) : ruleZ Z p0 = (false, q2, 0, 0, []) := by
  unfold ruleZ
  rw [if_neg h, e, if_neg (by simp), if_pos h9, e2, if_neg (by simp), if_neg h128]
theorem rz_5 {Z : Tz} {p0 q : Nat} {d : List Int32} (h : ¬ 2 < Z.1 p0) (e : (PS Z 6).2.2 (Z.2.1 p0) [] = (true, q, d)) (h9 : ¬ Z.1 q = 9) (h128 : Z.1 q = 128) : ruleZ Z p0 = (true, 0, Z.1 p0, d.length, d) := by
  unfold ruleZ
  rw [if_neg h, e, if_neg (by simp), if_neg h9, if_pos h128]
theorem rz_6 {Z : Tz} {p0 q : Nat} {d : List Int32} (h : ¬ 2 < Z.1 p0) (e : (PS Z 6).2.2 (Z.2.1 p0) [] = (true, q, d)) (h9 : ¬ Z.1 q = 9) (h128 : ¬ Z.1 q = 128) : ruleZ Z p0 = (false, q, 0, 0, []) := by
  unfold ruleZ
  rw [if_neg h, e, if_neg (by simp), if_neg h9, if_neg h128]
def kU (c i : Nat) : Bool := !(Nat.beq c 89 && ((Nat.ble 5 i && Nat.ble i 13) || (Nat.ble 17 i && Nat.ble i 20)))
/-- what ruleOf may change besides -/
def kW (c i : Nat) : Bool := !(Nat.beq c 89 && (Nat.ble 5 i && Nat.ble i 20))
theorem rd_U {c i : Nat} (h : kU c i = true) : rdK c i = true := by
  unfold kU at h
  unfold rdK
  simp only [Bool.not_eq_true', Bool.and_eq_false_iff, Bool.or_eq_false_iff] at h ⊢
  rcases h with h | h
  · exact Or.inl h
  · refine Or.inr ?_
    have : ¬ (5 ≤ i ∧ i ≤ 13) := fun q => by
      rcases h.1 with h | h
      · rw [Nat.ble_eq_true_of_le q.1] at h; cases h
      · rw [Nat.ble_eq_true_of_le q.2] at h; cases h
    have b : ∀ j, 5 ≤ j → j ≤ 13 → Nat.beq i j = false := fun j h5 h20 => by
      cases hb : Nat.beq i j with
      | false => rfl
      | true => have := Nat.eq_of_beq_eq_true hb; omega
    exact ⟨⟨⟨⟨⟨b 7 (by decide) (by decide), b 8 (by decide) (by decide)⟩, b 9 (by decide) (by decide)⟩, b 11 (by decide) (by decide)⟩, b 12 (by decide) (by decide)⟩, b 13 (by decide) (by decide)⟩
theorem kW_U {c i : Nat} (h : kW c i = true) : kU c i = true := by
  unfold kW at h
  unfold kU
  simp only [Bool.not_eq_true', Bool.and_eq_false_iff, Bool.or_eq_false_iff] at h ⊢
  rcases h with h | h
  · exact Or.inl h
  · refine Or.inr ?_
    have : ¬ (5 ≤ i ∧ i ≤ 20) := fun q => by
      rcases h with h | h
      · rw [Nat.ble_eq_true_of_le q.1] at h; cases h
      · rw [Nat.ble_eq_true_of_le q.2] at h; cases h
    have b : ∀ j k, 5 ≤ j → k ≤ 20 → Nat.ble j i = false ∨ Nat.ble i k = false := fun j k hj hk => by
      cases h1 : Nat.ble j i with
      | false => exact Or.inl rfl
      | true =>
        cases h2 : Nat.ble i k with
        | false => exact Or.inr rfl
        | true => have := Nat.le_of_ble_eq_true h1; have := Nat.le_of_ble_eq_true h2; omega
    exact ⟨b 5 13 (by decide) (by decide), b 17 20 (by decide) (by decide)⟩
theorem Sm.rd {μ ν : wm_M} (h : Sm rdK μ ν) : Sm kU μ ν := h.le (fun _ _ q => rd_U q)
theorem St_x {T : Nat → Nat} {n m : Nat} {A : Nat → Nat} {x cell hour : Nat} {o p : Nat} {μ : wm_M} (h : St T n m A x cell hour o p μ) (j : Nat) (hj : j = 18 ∨ j = 19 ∨ j = 20) (y : Int32) : St T n m A x cell hour o p (wm_si μ 89 j y) := by
  obtain ⟨⟨a1, a2, a3, a4⟩, ⟨b1, b2, b3, b4, b5, b6, b7⟩, ⟨c1, c2, c3, c4⟩, d1, d2⟩ := h
  rcases hj with rfl | rfl | rfl
  · exact ⟨⟨a1, a2, a3, a4⟩, ⟨b1, b2, b3, b4, b5, b6, b7⟩, ⟨c1, c2, c3, c4⟩, d1, d2⟩
  · exact ⟨⟨a1, a2, a3, a4⟩, ⟨b1, b2, b3, b4, b5, b6, b7⟩, ⟨c1, c2, c3, c4⟩, d1, d2⟩
  · exact ⟨⟨a1, a2, a3, a4⟩, ⟨b1, b2, b3, b4, b5, b6, b7⟩, ⟨c1, c2, c3, c4⟩, d1, d2⟩
theorem St_end {T : Nat → Nat} {n m : Nat} {A : Nat → Nat} {x cell hour : Nat} {o p : Nat} {μ : wm_M} (h : St T n m A x cell hour o p μ) : μ.1 89 8 = 0 ↔ tk T n p = 128 := by
  rcases KD_tk h.2.2.1.2.2.2 with ⟨t, k⟩ | ⟨t, _, _, _, k⟩ | ⟨t, k, _⟩ | ⟨t, k, k1, _⟩ | ⟨t, k⟩
  · exact ⟨fun _ => k, fun _ => t⟩
  · exact ⟨fun q => absurd (t.symm.trans q) (by decide), fun q => by omega⟩
  · exact ⟨fun q => absurd (t.symm.trans q) (by decide), fun q => by omega⟩
  · have := sgn_rng _ k1
    exact ⟨fun q => absurd (t.symm.trans q) (by decide), fun q => by omega⟩
  · exact ⟨fun q => absurd (t.symm.trans q) (by decide), fun q => by omega⟩
theorem m_238 {T : Nat → Nat} {n m : Nat} {A : Nat → Nat} {x cell hour : Nat} (hh : hour < 12) (a1 b : Int32) (ha1 : a1 = 0 ∨ a1 = 1) {μ : wm_M} {Q : wm_M → Prop} (hX : TX T n (wm_si (wm_si (wm_si μ 89 17 a1) 89 5 b) 89 6 (nI n))) (hE : BA m A ∧ RM 91 A μ ∧ cell < 36 ∧ x < 3 ∧ μ.1 89 14 = nI cell ∧ μ.1 89 15 = nI x ∧ μ.1 89 16 = nI hour) (h1 : (ruleP T n).1 = true → ∀ ν, ν.1 89 12 = 0 → ν.1 89 18 = nI (ruleP T n).2.2.1 → ν.1 89 19 = evC (enR A x cell hour) ((ruleP T n).2.2.2.2.take (ruleP T n).2.2.2.1) → (ν.1 89 20 = 0 ↔ ¬ ((ruleP T n).2.2.2.1 = (ruleP T n).2.2.2.2.length ∨ ¬ evC (enR A x cell hour) ((ruleP T n).2.2.2.2.drop (ruleP T n).2.2.2.1) = 0)) → Sm kU μ ν → Q ν) (h0 : (ruleP T n).1 = false → ∀ ν, Bd (ruleP T n).2.1 ν → Sm kU μ ν → Q ν) : wm_OkV 0 238 [.ref 89, .int a1, .int b, .int (nI n)] μ Q := by
  have hZ := tz_ok T n
  have hG := (Gd_ps hZ 6).2.2
  have hR := (Rd_ps (T := T) (n := n) (m := m) (A := A) (x := x) (cell := cell) hh 6 (Nat.le_refl 6)).2.2
  have eR : ruleP T n = ruleZ (tz T n) (sk T n 0) := rfl
  have hp0 := sk_le T n 0 (Nat.zero_le _)
  refine f_238 _ _ _ _ _ ⟨ha1, f_238_5 _ _ _ _ (f_238_10 _ _ _ (f_238_15 _ _ (f_238_20 _ _ (f_238_25 _ _ ⟨z01, f_238_30 _ _ ?_⟩))))⟩
  have hX6 : TX T n (wm_si (wm_si (wm_si (wm_si (wm_si (wm_si μ 89 17 a1) 89 5 b) 89 6 (nI n)) 89 7 0) 89 11 0) 89 12 0) := hX.sm ((((Sm.rf _ _).si rfl).si rfl).si rfl)
  have hS6 : Sm kU μ (wm_si (wm_si (wm_si (wm_si (wm_si (wm_si μ 89 17 a1) 89 5 b) 89 6 (nI n)) 89 7 0) 89 11 0) 89 12 0) := ((((((Sm.rf _ _).si rfl).si rfl).si rfl).si rfl).si rfl).si rfl
  have hE6 : BA m A ∧ RM 91 A (wm_si (wm_si (wm_si (wm_si (wm_si (wm_si μ 89 17 a1) 89 5 b) 89 6 (nI n)) 89 7 0) 89 11 0) 89 12 0) ∧ cell < 36 ∧ x < 3 ∧ _ := ⟨hE.1, hE.2.1.fr rfl, hE.2.2.1, hE.2.2.2.1, hE.2.2.2.2⟩
  refine m_226 0 (Nat.zero_le _) hX6 rfl (fun ν hK hS => ?_)
  have hSr : Sm rdK _ ν := hS.le (fun c i q => rd_nx q)
  have hν : St T n m A x cell hour 0 (sk T n 0) ν := ⟨hX6.sm hSr, EN_sm hE6 hSr, hK, hS 89 12 rfl, hS 89 11 rfl⟩
  have hSU : Sm kU μ ν := hS6.tr hSr.rd
  generalize hp : sk T n 0 = p0 at hν eR hp0
  -- after it has failed
  have bad93 : ∀ q κ, Bd q κ → Sm kU μ κ → (ruleP T n).1 = false → (ruleP T n).2.1 = q → wm_Wp 0 238 93 [.ref 89, .null, .null, .null] κ (fun v ν => v = none ∧ Q ν) := fun q κ hB hSκ e1 e2 => by
    refine f_238_93 _ _ ⟨fun r => absurd r (Bd_n hB), fun _ => f_238_104 _ _ ⟨fun r => absurd r (Bd_n hB), fun _ => f_238_123 _ _ ⟨o01, f_238_128 _ _ (m_228b _ (Bd_n hB) ⟨fun _ => f_238_158 _ _ ⟨fun r => absurd r (Bd_n hB), fun _ => f_238_176 _ _ ⟨rfl, h0 e1 _ ?_ ((hSκ.si rfl).si rfl)⟩⟩, fun r => absurd rfl r⟩)⟩⟩⟩
    rw [e2]; exact hB
  have bad158 : ∀ q κ, Bd q κ → Sm kU μ κ → (ruleP T n).1 = false → (ruleP T n).2.1 = q → wm_Wp 0 238 158 [.ref 89, .null, .null, .null] κ (fun v ν => v = none ∧ Q ν) := fun q κ hB hSκ e1 e2 => by
    refine f_238_158 _ _ ⟨fun r => absurd r (Bd_n hB), fun _ => f_238_176 _ _ ⟨rfl, h0 e1 _ ?_ hSκ⟩⟩
    rw [e2]; exact hB
  -- a key has been read
  have key : ∀ k : Nat, k ≤ 2 → tk T n p0 = k → wm_Wp 0 238 81 [.ref 89, .null, .null, .null] (wm_si ν 89 18 (nI k)) (fun v ν => v = none ∧ Q ν) := fun k hk ek => by
    have hk2 : ¬ 2 < (tz T n).1 p0 := by show ¬ 2 < tk T n p0; omega
    have h18 := St_x hν 18 (Or.inl rfl) (nI k)
    refine f_238_81 _ _ ⟨fun r => absurd r (nI_ne (by omega)), fun _ => f_238_93 _ _ ⟨fun _ => St_nx h18 (by omega) (fun κ hκ hS1 => ?_), fun r => absurd h18.2.2.2.1 r⟩⟩
    have k18 : κ.1 89 18 = nI k := hS1 89 18 rfl
    have hSκ : Sm kU μ κ := (hSU.si rfl).tr hS1.rd
    obtain ⟨z1, z2⟩ := hZ.1 p0 hp0 (show tk T n p0 ≠ 128 by omega)
    obtain ⟨ok, q', d', g1, g2, g3, g4⟩ := hG (nx T n p0) z2
    refine f_238_104 _ _ ⟨fun _ => hR (nx T n p0) κ _ hκ (fun q d v ξ e hrun hX1 hS2 => ?_) (fun q v ξ e1 e2 hB hS2 => ?_), fun r => absurd hκ.2.2.2.1 r⟩
    · have e' := g1 []
      rw [e, List.nil_append] at e'
      obtain ⟨rfl, rfl, rfl⟩ : ok = true ∧ q' = q ∧ d' = d := by
        injection e' with a b
        injection b with b c
        exact ⟨a.symm, b.symm, c.symm⟩
      have x18 : ξ.1 89 18 = nI k := (hS2 89 18 rfl).trans k18
      have hSξ : Sm kU μ ξ := hSκ.tr hS2.rd
      have hY := St_x (St_x hX1 19 (Or.inr (Or.inl rfl)) v) 20 (Or.inr (Or.inr rfl)) 1
      have hSY : Sm kU μ (wm_si (wm_si ξ 89 19 v) 89 20 1) := (hSξ.si rfl).si rfl
      refine f_238_123 _ _ ⟨o01, f_238_128 _ _ (m_228 9 (by decide) _ (by decide +kernel) hY.2.2.1 hY.2.2.2.1 (fun e9 => ⟨fun r => absurd r (by decide), fun _ => f_238_138 _ _ (St_nx hY (by omega) (fun χ hχ hS3 => f_238_142 _ _ ?_))⟩) (fun n9 => ⟨fun _ => ?_, fun r => absurd rfl r⟩))⟩
      · have c18 : χ.1 89 18 = nI k := (hS3 89 18 rfl).trans x18
        have c19 : χ.1 89 19 = v := hS3 89 19 rfl
        have hSχ : Sm kU μ χ := hSY.tr hS3.rd
        obtain ⟨y1, y2⟩ := hZ.1 q' g3 (show tk T n q' ≠ 128 by omega)
        obtain ⟨ok2, q2', d2', r1, r2, r3, r4⟩ := hG (nx T n q') y2
        refine hR (nx T n q') χ _ hχ (fun q2 d2 w ζ e2 hrun2 hζ hS4 => ?_) (fun q2 w ζ e1 e2 hB hS4 => ?_)
        · have e' := r1 []
          rw [e2, List.nil_append] at e'
          obtain ⟨rfl, rfl, rfl⟩ : ok2 = true ∧ q2' = q2 ∧ d2' = d2 := by
            injection e' with a b
            injection b with b c
            exact ⟨a.symm, b.symm, c.symm⟩
          have f18 : ζ.1 89 18 = nI k := (hS4 89 18 rfl).trans c18
          have f19 : ζ.1 89 19 = v := (hS4 89 19 rfl).trans c19
          have hSζ : Sm kU μ ζ := hSχ.tr hS4.rd
          have wpos : d2'.length ≥ 1 := by
            cases d2' with
            | nil => have := hrun2 []; cases this
            | cons a b => simp
          have fin : ∀ h : Nat, h < 2 → (h = 0 ↔ w = 0) → wm_Wp 0 238 158 [.ref 89, .null, .null, .null] (wm_si ζ 89 20 (nI h)) (fun v ν => v = none ∧ Q ν) := fun h hh2 hhw => by
            have h20 := St_x hζ 20 (Or.inr (Or.inr rfl)) (nI h)
            have en := St_end h20
            refine f_238_158 _ _ ⟨fun _ => ⟨fun r => f_238_176 _ _ ⟨rfl, ?_⟩, fun r => m_227 h20.2.2.1 h20.2.2.2.1 (fun η hB hS5 => f_238_176 _ _ ⟨rfl, ?_⟩)⟩, fun r => absurd h20.2.2.2.1 r⟩
            · have eZ := rz_3 (Z := tz T n) hk2 e e9 (r1 d') (en.mp r)
              rw [eR, eZ] at h1
              refine h1 rfl _ h20.2.2.2.1 ?_ ?_ ?_ (hSζ.si rfl)
              · show ζ.1 89 18 = nI (tk T n p0)
                rw [f18, ek]
              · show ζ.1 89 19 = evC _ ((d' ++ d2').take d'.length)
                rw [f19, List.take_left, evC_of (hrun [])]
              · show nI h = 0 ↔ ¬ (d'.length = (d' ++ d2').length ∨ ¬ evC _ ((d' ++ d2').drop d'.length) = 0)
                rw [List.drop_left, evC_of (hrun2 []), List.length_append]
                refine ⟨fun q => ?_, fun q => ?_⟩
                · have q := (nI_eq (b := 0) (by omega) (by decide)).mp q
                  exact fun r => r.elim (fun r => by omega) (fun r => r (hhw.mp q))
                · have : w = 0 := Classical.not_not.mp (fun r => q (Or.inr r))
                  rw [hhw.mpr this]; rfl
            · have eZ := rz_4 (Z := tz T n) hk2 e e9 (r1 d') (fun q => r (en.mpr q))
              rw [eR, eZ] at h0
              exact h0 rfl η hB ((hSζ.si rfl).tr hS5.rd)
          exact ⟨fun r => ⟨z01, fin 0 (by decide) ⟨fun _ => r, fun _ => rfl⟩⟩, fun r => ⟨o01, fin 1 (by decide) ⟨fun q => absurd q (by decide), fun q => absurd q r⟩⟩⟩
        · have e' := r1 []
          rw [e'] at e1 e2
          have e1 : ok2 = false := e1
          subst e1
          have eZ := rz_2 (Z := tz T n) hk2 e e9 (r1 d')
          have f : ∀ y : Int32, wm_Wp 0 238 158 [.ref 89, .null, .null, .null] (wm_si ζ 89 20 y) (fun v ν => v = none ∧ Q ν) := fun y => bad158 q2 _ hB ((hSχ.tr hS4.rd).si rfl) (by rw [eR, eZ]) (by rw [eR, eZ]; exact e2)
          exact ⟨fun r => ⟨z01, f _⟩, fun r => ⟨o01, f _⟩⟩
      · have en := St_end hY
        refine f_238_158 _ _ ⟨fun _ => ⟨fun r => f_238_176 _ _ ⟨rfl, ?_⟩, fun r => m_227 hY.2.2.1 hY.2.2.2.1 (fun η hB hS5 => f_238_176 _ _ ⟨rfl, ?_⟩)⟩, fun r => absurd hY.2.2.2.1 r⟩
        · have eZ := rz_5 (Z := tz T n) hk2 e n9 (en.mp r)
          rw [eR, eZ] at h1
          refine h1 rfl _ hY.2.2.2.1 ?_ ?_ ?_ hSY
          · show ξ.1 89 18 = nI (tk T n p0)
            rw [x18, ek]
          · show v = evC _ (d'.take d'.length)
            rw [List.take_length, evC_of (hrun [])]
          · show (1 : Int32) = 0 ↔ ¬ (d'.length = d'.length ∨ _)
            exact ⟨fun q => absurd q (by decide), fun q => absurd (Or.inl rfl) q⟩
        · have eZ := rz_6 (Z := tz T n) hk2 e n9 (fun q => r (en.mpr q))
          rw [eR, eZ] at h0
          exact h0 rfl η hB (hSY.tr hS5.rd)
    · have e' := g1 []
      rw [e'] at e1 e2
      have e1 : ok = false := e1
      subst e1
      have e0 : (PS (tz T n) 6).2.2 ((tz T n).2.1 p0) [] = (false, q', d') := by
        show (PS (tz T n) 6).2.2 (nx T n p0) [] = _
        rw [g1, List.nil_append]
      have eZ := rz_1 (Z := tz T n) hk2 e0
      have hB2 : Bd q (wm_si (wm_si ξ 89 19 v) 89 20 1) := hB
      exact f_238_123 _ _ ⟨o01, f_238_128 _ _ (m_228b _ (Bd_n hB2) ⟨fun _ => bad158 q _ hB2 (((hSκ.tr hS2.rd).si rfl).si rfl) (by rw [eR, eZ]) (by rw [eR, eZ]; exact e2), fun r => absurd rfl r⟩)⟩
  refine f_238_34 _ _ (m_228 0 (by decide) _ (by decide +kernel) hν.2.2.1 hν.2.2.2.1 (fun e0 => ⟨fun r => absurd r (by decide), fun _ => key 0 (by decide) e0⟩) (fun n0 => ⟨fun _ => m_228 1 (by decide) _ (by decide +kernel) hν.2.2.1 hν.2.2.2.1 (fun e1 => ⟨fun r => absurd r (by decide), fun _ => key 1 (by decide) e1⟩) (fun n1 => ⟨fun _ => m_228 2 (by decide) _ (by decide +kernel) hν.2.2.1 hν.2.2.2.1 (fun e2 => ⟨fun r => absurd r (by decide), fun _ => key 2 (by decide) e2⟩) (fun n2 => ⟨fun _ => f_238_81 _ _ ⟨fun _ => ?_, fun r => absurd rfl r⟩, fun r => absurd rfl r⟩), fun r => absurd rfl r⟩), fun r => absurd rfl r⟩))
  have h18 := St_x hν 18 (Or.inl rfl) (-1)
  refine m_227 h18.2.2.1 h18.2.2.2.1 (fun κ hB hS1 => bad93 p0 κ hB ((hSU.si rfl).tr hS1.rd) ?_ ?_)
  · rw [eR, rz_0 (show 2 < tk T n p0 by omega)]
  · rw [eR, rz_0 (show 2 < tk T n p0 by omega)]
