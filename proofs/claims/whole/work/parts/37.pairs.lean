/-! ===== calls that write plain numbers ===== -/
theorem RS.fr {o : Nat} {A : Nat → Nat} {μ ν : wm_M} (h : RS o A μ) (e : ν.1 (6 + o) = μ.1 (6 + o) ∧ ν.1 (11 + o) = μ.1 (11 + o) ∧ ν.1 (12 + o) = μ.1 (12 + o) ∧ ν.1 (29 + o) = μ.1 (29 + o) ∧ ν.1 (13 + o) 14 = μ.1 (13 + o) 14) : RS o A ν := by
  obtain ⟨h1, h2, h3, h4, h5⟩ := h
  obtain ⟨e1, e2, e3, e4, e5⟩ := e
  refine ⟨fun i hi => ?_, fun i hi => ?_, fun i hi => ?_, fun r w hr hw => ?_, ?_⟩
  · rw [e1]; exact h1 i hi
  · rw [e2]; exact h2 i hi
  · rw [e3]; exact h3 i hi
  · rw [e4]; exact h4 r w hr hw
  · rw [e5]; exact h5
theorem RR.fr {o : Nat} {A : Nat → Nat} {μ ν : wm_M} (h : RR o A μ) (e : ν.1 (19 + o) = μ.1 (19 + o) ∧ ν.1 (20 + o) = μ.1 (20 + o) ∧ ν.1 (21 + o) = μ.1 (21 + o) ∧ ν.1 (22 + o) = μ.1 (22 + o) ∧ ν.1 (23 + o) = μ.1 (23 + o) ∧ ν.1 (24 + o) = μ.1 (24 + o)) : RR o A ν := by
  intro k hk
  obtain ⟨h0, h1, h2, h3, h4, h5, h6, h7⟩ := h k hk
  obtain ⟨e1, e2, e3, e4, e5, e6⟩ := e
  rw [e1, e2, e3, e4, e5, e6]
  exact ⟨h0, h1, h2, h3, h4, h5, h6, h7⟩
theorem VX.up {A : Nat → Nat} (h : VX A) {k : Nat} (x : Nat) (hk : ¬ (349 ≤ k ∧ k < 399) ∧ k ≠ 2046 ∧ k ≠ 2050 ∧ k ≠ 2049 ∧ k ≠ 2040 ∧ k ≠ 2051) : VX (uN A k x) := by
  obtain ⟨h1, h2, h3⟩ := h
  obtain ⟨k1, k2, k3, k4, k5, k6⟩ := hk
  refine ⟨fun i hi => ?_, ?_, ?_⟩
  · rw [uN_ne _ _ (by omega), uN_ne _ _ (by omega)]; exact h1 i hi
  · rw [uN_ne _ _ (Ne.symm k2), uN_ne _ _ (Ne.symm k3)]; exact h2
  · rw [uN_ne _ _ (Ne.symm k2), uN_ne _ _ (Ne.symm k4), uN_ne _ _ (Ne.symm k5), uN_ne _ _ (Ne.symm k6)]; exact h3
/-- the class's side alone -/
def CL (m : Nat) (A : Nat → Nat) (μ : wm_M) : Prop := BA m A ∧ VX A ∧ RC 0 A μ
theorem Sm_ch (K : Nat → Nat → Bool) (μ : wm_M) (h1 : K 62 7 = false) (h2 : K 62 8 = false) (h3 : K 75 6 = false) : Sm K μ (ch_ μ) := (((Sm.rf K μ).si h1).si h2).si h3
theorem CL.sm {m : Nat} {A : Nat → Nat} {μ ν : wm_M} (h : CL m A μ) (e : Sm (kA 0) μ ν) : CL m A ν := ⟨h.1, h.2.1, h.2.2.sm (Or.inl rfl) e⟩
theorem CL.ch {m : Nat} {A : Nat → Nat} {μ : wm_M} (h : CL m A μ) : CL m A (ch_ μ) := h.sm (Sm_ch _ μ rfl rfl rfl)
theorem CL.si {m : Nat} {A : Nat → Nat} {μ : wm_M} (h : CL m A μ) {c k : Nat} {x : Int32} (e : kA 0 c k = false) : CL m A (wm_si μ c k x) := h.sm ((Sm.rf _ μ).si e)
theorem RS.fr1 {A : Nat → Nat} {μ : wm_M} (h : RS 0 A μ) {c k : Nat} (x : Int32) (hc : c ≠ 6 ∧ c ≠ 11 ∧ c ≠ 12 ∧ c ≠ 29 ∧ (c ≠ 13 ∨ k ≠ 14)) : RS 0 A (wm_si μ c k x) := by
  obtain ⟨h1, h2, h3, h4, h5⟩ := hc
  refine h.fr ⟨si_ne _ _ _ (Ne.symm h1), si_ne _ _ _ (Ne.symm h2), si_ne _ _ _ (Ne.symm h3), si_ne _ _ _ (Ne.symm h4), ?_⟩
  by_cases e : c = 13
  · subst e; exact si_other _ _ (Ne.symm (h5.resolve_left (fun q => q rfl)))
  · rw [si_ne _ _ _ (show 13 + 0 ≠ c from Ne.symm e)]
theorem RR.fr1 {A : Nat → Nat} {μ : wm_M} (h : RR 0 A μ) {c k : Nat} (x : Int32) (hc : ¬ (19 ≤ c ∧ c ≤ 24)) : RR 0 A (wm_si μ c k x) :=
  h.fr ⟨si_ne _ _ _ (by omega), si_ne _ _ _ (by omega), si_ne _ _ _ (by omega), si_ne _ _ _ (by omega), si_ne _ _ _ (by omega), si_ne _ _ _ (by omega)⟩
theorem CL.wr {m : Nat} {A : Nat → Nat} {μ : wm_M} (h : CL m A μ) (c p b n : Nat) (hq : (c, p, b, n) ∈ rcT) (hc : (c ≠ 6 ∧ c ≠ 11 ∧ c ≠ 12 ∧ c ≠ 29 ∧ ¬ (19 ≤ c ∧ c ≤ 24)) ∧ (c ≠ 13 ∨ p + n ≤ 14)) (i : Nat) (hi : i < n) (x : Nat) (hx : x < bdA m (b + i)) (hk : b + i < 156 ∨ 324 ≤ b + i ∧ b + i < 349 ∨ 449 ≤ b + i ∧ b + i < 463 ∨ 1995 ≤ b + i ∧ b + i < 2004 ∨ 2043 ≤ b + i ∧ b + i ≤ 2045 ∨ 2047 ≤ b + i ∧ b + i ≤ 2048 ∨ 2052 ≤ b + i) : CL m (uN A (b + i) x) (wm_si μ c (p + i) (nI x)) := by
  obtain ⟨h1, h2, h3, h4, h5⟩ := h
  obtain ⟨⟨c1, c2, c3, c4, c5⟩, c6⟩ := hc
  have h8 := h1.hands
  have h12 := h1.rules
  exact ⟨h1.w hx, h2.up x (by omega), h3.wr c p b n hq i hi x, (h4.up (by omega) x (by omega)).fr1 _ ⟨c1, c2, c3, c4, by omega⟩, (h5.up (by omega) x (by omega)).fr1 _ c5⟩
theorem Rel.fin {n m : Nat} {A : Nat → Nat} {μ ν : wm_M} (hO : RO n μ) (e : Sm kO μ ν) (hm : n ≤ m) (hC : CL m A ν) (hM : RM 91 A ν) (c1 : ν.1 62 7 = 0) (c2 : ν.1 62 8 = -1) (c3 : ν.1 75 6 = 0) : Rel m ν := Rel.chg hO e hm hC.1 hC.2.1 hM hC.2.2 c1 c2 c3
theorem RA.cl {n m : Nat} {A : Nat → Nat} {μ : wm_M} (h : RA n A μ) (hm : n ≤ m) : CL m A μ := ⟨h.1.mono hm, h.2.1, h.2.2.2.1⟩
theorem bI_nI {a : Nat} (h : a < 2) : bI (¬ nI a = 0) = nI a := by
  have : a = 0 ∨ a = 1 := by omega
  rcases this with rfl | rfl
  · decide +kernel
  · decide +kernel
/-- what both calls together end with -/
def Pr (n : Nat) (y : Nat) (as : List Value) : Int32 → wm_M → Prop := fun a ν => wm_OkI 0 y as ν (fun b κ => a = b ∧ Rel (n + 1) κ)
theorem p_mark (a : Int32) {n : Nat} {μ : wm_M} (h : Rel n μ) : wm_OkI 0 119 [.ref 0, .int a] μ (Pr n 202 [.ref 89, .int a]) := by
  refine s_119 (fun z => s_202 (fun _ => ⟨rfl, (h.rf 3).up⟩) (fun y => absurd y z)) (fun z => s_202 (fun y => absurd z y) (fun _ => ?_))
  obtain ⟨A, hA, hO⟩ := h
  obtain ⟨j, hj, rfl⟩ := in_nI 35 (by decide) z
  refine ⟨(hA.2.2.2.1.1.mark).trans (hA.2.2.1 2045 (by decide)).symm, ?_⟩
  have hC := (hA.cl (Nat.le_succ n)).ch.wr 2 4 2045 1 (by decide) (by decide) 0 (by decide) j (show j < 36 by omega) (by omega)
  exact Rel.fin hO (((Sm_ch _ μ rfl rfl rfl).si rfl).si rfl) (Nat.le_succ n) (hC.si rfl) ((hA.2.2.1.fr rfl).w 2045 j) rfl rfl rfl
theorem p_cell (a b c : Int32) {n : Nat} {μ : wm_M} (h : Rel n μ) : wm_OkI 0 116 [.ref 0, .int a, .int b, .int c] μ (Pr n 193 [.ref 89, .int a, .int b, .int c]) := by
  have k1 : (b = 0 ∨ b = 1) ↔ (0 ≤ b ∧ b ≤ nI 1) := by
    refine ⟨fun q => ?_, fun q => ?_⟩
    · rcases q with rfl | rfl
      · decide +kernel
      · decide +kernel
    · obtain ⟨i, hi, rfl⟩ := in_nI 1 (by decide) q
      have : i = 0 ∨ i = 1 := by omega
      rcases this with rfl | rfl
      · exact Or.inl rfl
      · exact Or.inr rfl
  refine s_116 (fun z => s_193 (fun _ => ⟨rfl, (h.rf 3).up⟩) (fun y => absurd y z) (fun j hj e => absurd (by rw [e]; exact nI_in2 (by omega) (by decide)) z)) (fun z y => s_193 (fun x => absurd z x) (fun _ _ => ⟨rfl, (h.rf 7).up⟩) (fun j hj e w v => absurd ⟨k1.mpr w, v⟩ y)) (fun j hj e y w => ?_)
  have z : 0 ≤ a ∧ a ≤ nI 35 := by rw [e]; exact nI_in2 (by omega) (by decide)
  refine s_193 (fun x => absurd z x) (fun _ x => absurd ⟨k1.mp y, w⟩ x) (fun j' hj' e' _ _ => ?_)
  have ej : j' = j := ((nI_eq (by omega) (by omega)).mp (e.symm.trans e')).symm
  subst ej
  obtain ⟨A, hA, hO⟩ := h
  obtain ⟨b', hb', rfl⟩ := in_nI 1 (by decide) (k1.mp y)
  obtain ⟨c', hc', rfl⟩ := in_nI 90 (by decide) w
  refine ⟨?_, ?_⟩
  · show bI (¬ μ.1 3 j' = 0) = μ.1 91 j'
    rw [hA.2.2.2.1.1.land hj, hA.2.2.1 j' (by omega)]
    exact bI_nI (hA.1.land hj)
  · have hC := (hA.cl (Nat.le_succ n)).ch.wr 3 0 0 36 (by decide) (by decide) j' hj b' (by rw [Nat.zero_add, bd_land _ hj]; omega) (by omega)
    have hC := hC.wr 4 0 36 36 (by decide) (by decide) j' hj c' (by rw [bd_shelter _ hj]; omega) (by omega)
    rw [Nat.zero_add] at hC
    exact Rel.fin hO (((((Sm_ch _ μ rfl rfl rfl).si rfl).si rfl).si rfl).si rfl) (Nat.le_succ n) ((hC.si rfl).si rfl) (((hA.2.2.1.fr rfl).w j' b').w (36 + j') c') rfl rfl rfl
theorem p_speed (a b c : Int32) {n : Nat} {μ : wm_M} (h : Rel n μ) : wm_OkI 0 120 [.ref 0, .int a, .int b, .int c] μ (Pr n 204 [.ref 89, .int a, .int b, .int c]) := by
  refine s_120 (fun z => s_204 (fun _ => ⟨rfl, (h.rf 3).up⟩) (fun x y => absurd ⟨x, y⟩ z) (fun i j hi hj e f => absurd ⟨by rw [e]; exact nI_in2 hi (by decide), by rw [f]; exact nI_in2 hj (by decide)⟩ z)) (fun x y z => s_204 (fun w => absurd ⟨x, y⟩ w) (fun _ _ _ => ⟨rfl, (h.rf 7).up⟩) (fun i j hi hj e f w => absurd w z)) (fun i j hi hj e f z => ?_)
  have x : ir 4 a := by rw [e]; exact nI_in2 hi (by decide)
  have y : ir 4 b := by rw [f]; exact nI_in2 hj (by decide)
  refine s_204 (fun w => absurd ⟨x, y⟩ w) (fun _ _ w => absurd z w) (fun i' j' hi' hj' e' f' _ => ?_)
  have ei : i' = i := ((nI_eq (by omega) (by omega)).mp (e.symm.trans e')).symm
  have ej : j' = j := ((nI_eq (by omega) (by omega)).mp (f.symm.trans f')).symm
  subst ei; subst ej
  obtain ⟨A, hA, hO⟩ := h
  obtain ⟨c', hc', rfl⟩ := in_nI 99 (by decide) z
  have e5 : i' * 5 + j' < 25 := by omega
  rw [show 324 + 5 * i' + j' = 324 + (i' * 5 + j') by omega]
  refine ⟨?_, ?_⟩
  · exact (hA.2.2.2.1.1.maker e5).trans (hA.2.2.1 _ (by omega)).symm
  · have hC := (hA.cl (Nat.le_succ n)).ch.wr 8 0 324 25 (by decide) (by decide) (i' * 5 + j') e5 c' (by rw [bd_maker _ e5]; omega) (by omega)
    rw [Nat.zero_add] at hC
    exact Rel.fin hO (((Sm_ch _ μ rfl rfl rfl).si rfl).si rfl) (Nat.le_succ n) (hC.si rfl) ((hA.2.2.1.fr rfl).w _ c') rfl rfl rfl
theorem p_telling (a b : Int32) {n : Nat} {μ : wm_M} (h : Rel n μ) : wm_OkI 0 136 [.ref 0, .int a, .int b] μ (Pr n 263 [.ref 89, .int a, .int b]) := by
  have k : ((0 ≤ a ∧ a ≤ nI 120) ∧ (0 ≤ b ∧ b ≤ nI 120) ∧ a ≤ b) ↔ ((0 ≤ a ∧ a ≤ nI 120) ∧ (a ≤ b ∧ b ≤ nI 120)) := ⟨fun q => ⟨q.1, q.2.2, q.2.1.2⟩, fun q => ⟨q.1, ⟨Int32.le_trans q.1.1 q.2.1, q.2.2⟩, q.2.1⟩⟩
  refine s_136 (fun z => s_263 (fun _ => ⟨rfl, (h.rf 7).up⟩) (fun y => absurd (k.mpr y) z)) (fun z => s_263 (fun y => absurd (k.mp z) y) (fun _ => ?_))
  obtain ⟨A, hA, hO⟩ := h
  obtain ⟨i, hi, rfl⟩ := in_nI 120 (by decide) z.1
  obtain ⟨j, hj, rfl⟩ := in_nI 120 (by decide) z.2.1
  refine ⟨(hA.2.2.2.1.1.first).trans (hA.2.2.1 2043 (by decide)).symm, ?_⟩
  have hC := (hA.cl (Nat.le_succ n)).ch.wr 1 4 2043 1 (by decide) (by decide) 0 (by decide) i (show i < 121 by omega) (by omega)
  have hC := hC.wr 1 5 2044 1 (by decide) (by decide) 0 (by decide) j (show j < 121 by omega) (by omega)
  exact Rel.fin hO (((((Sm_ch _ μ rfl rfl rfl).si rfl).si rfl).si rfl).si rfl) (Nat.le_succ n) ((hC.si rfl).si rfl) (((hA.2.2.1.fr rfl).w 2043 i).w 2044 j) rfl rfl rfl
theorem p_choice (a b : Int32) {n : Nat} {μ : wm_M} (h : Rel n μ) : wm_OkI 0 137 [.ref 0, .int a, .int b] μ (Pr n 264 [.ref 89, .int a, .int b]) := by
  refine s_137 (fun z => s_264 (fun _ => ⟨rfl, (h.rf 3).up⟩) (fun i hi e w => absurd ⟨by rw [e]; exact nI_in2 hi (by decide), w⟩ z)) (fun i hi e z => ?_)
  have x : ir 2 a := by rw [e]; exact nI_in2 hi (by decide)
  refine s_264 (fun w => absurd ⟨x, z⟩ w) (fun i' hi' e' _ => ?_)
  have ei : i' = i := ((nI_eq (by omega) (by omega)).mp (e.symm.trans e')).symm
  subst ei
  obtain ⟨A, hA, hO⟩ := h
  obtain ⟨c', hc', rfl⟩ := in_nI 35 (by decide) z
  have e5 : i' < 3 := by omega
  refine ⟨?_, ?_⟩
  · exact (hA.2.2.2.1.1.choice e5).trans (hA.2.2.1 _ (by omega)).symm
  · have hC := (hA.cl (Nat.le_succ n)).ch.wr 27 0 2001 3 (by decide) (by decide) i' e5 c' (by rw [bd_choice _ e5]; omega) (by omega)
    rw [Nat.zero_add] at hC
    exact Rel.fin hO (((Sm_ch _ μ rfl rfl rfl).si rfl).si rfl) (Nat.le_succ n) (hC.si rfl) ((hA.2.2.1.fr rfl).w _ c') rfl rfl rfl
theorem p_group (a b : Int32) {n : Nat} {μ : wm_M} (h : Rel n μ) : wm_OkI 0 138 [.ref 0, .int a, .int b] μ (Pr n 265 [.ref 89, .int a, .int b]) := by
  refine s_138 (fun z => s_265 (fun _ => ⟨rfl, (h.rf 3).up⟩) (fun w => absurd w z) (fun i hi e w => absurd (by rw [e]; exact nI_in2 hi (by decide)) z)) (fun x z => s_265 (fun w => absurd x w) (fun _ _ => ⟨rfl, (h.rf 7).up⟩) (fun i hi e w => absurd w z)) (fun i hi e z => ?_)
  have x : ir 5 a := by rw [e]; exact nI_in2 hi (by decide)
  refine s_265 (fun w => absurd x w) (fun _ w => absurd z w) (fun i' hi' e' _ => ?_)
  have ei : i' = i := ((nI_eq (by omega) (by omega)).mp (e.symm.trans e')).symm
  subst ei
  obtain ⟨A, hA, hO⟩ := h
  obtain ⟨c', hc', rfl⟩ := in_nI 2 (by decide) z
  have e5 : i' < 6 := by omega
  refine ⟨?_, ?_⟩
  · exact (hA.2.2.2.1.1.group e5).trans (hA.2.2.1 _ (by omega)).symm
  · have hC := (hA.cl (Nat.le_succ n)).ch.wr 28 0 1995 6 (by decide) (by decide) i' e5 c' (by rw [bd_group _ e5]; omega) (by omega)
    rw [Nat.zero_add] at hC
    exact Rel.fin hO (((Sm_ch _ μ rfl rfl rfl).si rfl).si rfl) (Nat.le_succ n) (hC.si rfl) ((hA.2.2.1.fr rfl).w _ c') rfl rfl rfl
