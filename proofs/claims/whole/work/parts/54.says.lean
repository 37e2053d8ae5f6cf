/-! ===== what the class's rules say ===== -/
def hqq (t : Nat) : Nat := hq t
def NmR (A : Nat → Nat) (kind cell hour : Nat) (ν : wm_M) : Prop := ∀ j, j < 6 → ν.1 25 j = envA A kind cell hour j
def F2 (μ ν : wm_M) : Prop := ∀ c, c ≠ 25 → c ≠ 26 → ν.1 c = μ.1 c
theorem F2.rf (μ : wm_M) : F2 μ μ := fun _ _ _ => rfl
theorem F2.tr {μ ν κ : wm_M} (h : F2 μ ν) (g : F2 ν κ) : F2 μ κ := fun c a b => (g c a b).trans (h c a b)
theorem F2.of25 {μ ν : wm_M} (h : FR 25 μ ν) : F2 μ ν := fun c a _ => h c a
theorem F2.of26 {μ ν : wm_M} (h : FR 26 μ ν) : F2 μ ν := fun c _ b => h c b
theorem F2.sm {μ ν : wm_M} (h : F2 μ ν) {K : Nat → Nat → Bool} (e : ∀ i, K 25 i = false) (f : ∀ i, K 26 i = false) : Sm K μ ν := fun c i q => by
  have a : c ≠ 25 := fun r => by rw [r, e i] at q; cases q
  have b : c ≠ 26 := fun r => by rw [r, f i] at q; cases q
  rw [h c a b]
theorem CL.f2 {m : Nat} {A : Nat → Nat} {μ ν : wm_M} (h : CL m A μ) (e : F2 μ ν) : CL m A ν := h.sm (e.sm (fun _ => rfl) (fun _ => rfl))
theorem c_47 {m : Nat} {A : Nat → Nat} (cell kind hour : Nat) (hc : cell < 36) {μ : wm_M} {Q : wm_M → Prop} (hC : CL m A μ) (hq : ∀ ν, NmR A kind cell hour ν → F2 μ ν → Q ν) : wm_OkV 0 47 [.ref 1, .int (nI cell), .int (nI kind), .int (nI hour)] μ Q := by
  refine v_47 _ _ _ _ _ ⟨vp_in_nI hc (by decide), ?_⟩
  rw [nI_clamp (by omega), hC.2.2.1.shelter hc, show μ.1 13 14 = nI (awk A (A 2041)) from hC.2.2.2.1.2.2.2.2]
  have vv : ∀ j, j < 6 → vp_in (nI j) 6 := fun j hj => vp_in_nI hj (by decide)
  refine v_62 _ _ _ _ _ _ _ ⟨vv 0 (by decide), by decide, vv 1 (by decide), vv 2 (by decide), vv 3 (by decide), vv 4 (by decide), vv 5 (by decide), rfl, rfl, hq _ ?_ ?_⟩
  · rw [cl_0, show ((1 : Int32)).toNatClampNeg = 1 from by decide +kernel, show ((2 : Int32)).toNatClampNeg = 2 from by decide +kernel, cl_3, show ((4 : Int32)).toNatClampNeg = 4 from by decide +kernel, show ((5 : Int32)).toNatClampNeg = 5 from by decide +kernel, show nI cell / (6 : Int32) = nI (cell / 6) from pk_div (d := 6) (by omega) (by decide) (by decide)]
    intro j hj
    have : j = 0 ∨ j = 1 ∨ j = 2 ∨ j = 3 ∨ j = 4 ∨ j = 5 := by omega
    rcases this with rfl | rfl | rfl | rfl | rfl | rfl
    · rfl
    · rfl
    · rfl
    · rfl
    · rfl
    · rfl
  · exact F2.of25 (((((((FR.rf _ _).si _ _).si _ _).si _ _).si _ _).si _ _).si _ _)
theorem evC_of {env : Nat → Int32} {c : List Int32} {v : Int32} (h : runC env c [] = [v]) : evC env c = v := by
  unfold evC
  rw [h]; rfl
theorem getD_take {c : List Int32} {i n : Nat} (h : i < n) : (c.take n).getD i 0 = c.getD i 0 := by
  rw [List.getD_eq_getElem?_getD, List.getD_eq_getElem?_getD, List.getElem?_take_of_lt h]
theorem getD_drop {c : List Int32} {i n : Nat} : (c.drop n).getD i 0 = c.getD (n + i) 0 := by
  rw [List.getD_eq_getElem?_getD, List.getD_eq_getElem?_getD, List.getElem?_drop]
theorem c_63 {m : Nat} {A : Nat → Nat} (key kind cell hour : Nat) (hk : key < 3) (hh : hour < 12) {μ : wm_M} {Q : Int32 → wm_M → Prop} (hC : CL m A μ) (hN : NmR A kind cell hour μ) (hq : ∀ ν, FR 26 μ ν → Q (lto (rulg A key kind cell hour (A 2042)) nI (-1)) ν) : wm_OkI 0 63 [.ref 18, .int (nI key)] μ Q := by
  have b12 := hC.1.rules
  have l : ∀ k ν, k ≤ A 2042 → FR 26 μ ν → (∀ κ, FR 26 μ κ → Q (lto (rulg A key kind cell hour k) nI (-1)) κ) → wm_Wp 0 63 14 [.ref 18, .int (nI key), .int (nI hour), .int (nI k + (-1)), .null, .null] ν (fun w ν => ∃ x, w = some (.int x) ∧ Q x ν) := by
    intro k
    induction k with
    | zero =>
      intro ν hk hF hq
      exact w_63_14 _ _ _ _ _ ⟨fun _ => w_63_91 _ _ ⟨_, rfl, hq ν hF⟩, fun z => absurd (by decide +kernel) z⟩
    | succ k ih =>
      intro ν hk1 hF hq
      rw [pk_m1]
      have hk12 : k < 12 := by omega
      obtain ⟨r0, r1, r2, r3, r4, r5, r6, r7⟩ := hC.2.2.2.2 k (by omega)
      obtain ⟨o1, o2, o3, o4, o5, o6⟩ := rP_ok r0
      have r2 : μ.1 19 k = _ := r2
      have r3 : μ.1 20 k = _ := r3
      have r4 : μ.1 21 k = _ := r4
      have r5 : μ.1 22 k = _ := r5
      have r6 : μ.1 23 k = _ := r6
      have bf := hC.1.rule (show 127 * k < 1524 by omega)
      have bt := hC.1.rule (show 127 * k + 1 < 1524 by omega)
      rw [show 471 + (127 * k + 1) = 472 + 127 * k by omega] at bt
      have no : ¬ rHolds A key kind cell hour k = true → ∀ κ, FR 26 μ κ → wm_Wp 0 63 85 [.ref 18, .int (nI key), .int (nI hour), .int (nI k), .null, .null] κ (fun w ν => ∃ x, w = some (.int x) ∧ Q x ν) := fun hn κ hF => w_63_85 _ _ _ _ _ (ih κ (by omega) hF (fun ξ hX => by
        have e : rulg A key kind cell hour (k + 1) = rulg A key kind cell hour k := if_neg hn
        rw [← e]; exact hq ξ hX))
      have yes : rHolds A key kind cell hour k = true → ∀ κ, FR 26 μ κ → wm_Wp 0 63 83 [.null, .null, .null, .int (nI k), .null, .null] κ (fun w ν => ∃ x, w = some (.int x) ∧ Q x ν) := fun hy κ hF => w_63_83 _ _ _ ⟨_, rfl, by
        have e : rulg A key kind cell hour (k + 1) = some k := if_pos hy
        have := hq κ hF
        rw [e] at this; exact this⟩
      have hol : rHolds A key kind cell hour k = true ↔ (rP A k).2.2.1 = key ∧ A (471 + 127 * k) ≤ hour ∧ hour < A (472 + 127 * k) ∧ ((rP A k).2.2.2.1 = (rP A k).2.2.2.2.length ∨ ¬ evC (envA A kind cell hour) ((rP A k).2.2.2.2.drop (rP A k).2.2.2.1) = 0) := by
        unfold rHolds
        simp only [Bool.and_eq_true, Bool.or_eq_true, Nat.beq_eq, Nat.ble_eq, Nat.blt_eq, Bool.not_eq_true', decide_eq_false_iff_not]
        exact ⟨fun ⟨⟨⟨a, b⟩, c⟩, d⟩ => ⟨a, b, c, d⟩, fun ⟨a, b, c, d⟩ => ⟨⟨⟨a, b⟩, c⟩, d⟩⟩
      have v12 : vp_in (nI k) 12 := vp_in_nI hk12 (by decide)
      refine w_63_14 _ _ _ _ _ ⟨fun z => absurd z (nI_pos (by omega)), fun _ => ?_⟩
      rw [nI_clamp (show k < 2 ^ 31 by omega), hF 19 (by decide), hF 20 (by decide), hF 21 (by decide), hF 22 (by decide), hF 23 (by decide), r2, r3, r4, r5, r6]
      refine ⟨v12, fun z => ⟨v12, fun y => no (fun q => ?_) ν hF, fun y => ⟨v12, fun x => no (fun q => ?_) ν hF, fun x => ⟨v12, v12, fun w => yes (hol.mpr ⟨?_, ?_, ?_, Or.inl ?_⟩) ν hF, fun w => ?_⟩⟩⟩, fun z => no (fun q => z (by rw [(hol.mp q).1])) ν hF⟩
      · exact absurd ((nI_ltI (by omega) (by omega)).mp y) (by have := (hol.mp q).2.1; omega)
      · exact absurd ((nI_leI (by omega) (by omega)).mp x) (by have := (hol.mp q).2.2.1; omega)
      · exact (nI_eq (by omega) (by omega)).mp z
      · have y : ¬ hour < A (471 + 127 * k) := fun q => y ((nI_ltI (by omega) (by omega)).mpr q)
        omega
      · have x : ¬ A (472 + 127 * k) ≤ hour := fun q => x ((nI_leI (by omega) (by omega)).mpr q)
        omega
      · exact (nI_eq (by omega) (by omega)).mp w
      · have w : ¬ (rP A k).2.2.2.1 = (rP A k).2.2.2.2.length := fun q => w (by rw [q])
        obtain ⟨lt, v, hv⟩ := o6.resolve_left w
        have hv0 := hv (envA A kind cell hour) []
        have y : ¬ hour < A (471 + 127 * k) := fun q => y ((nI_ltI (by omega) (by omega)).mpr q)
        have x : ¬ A (472 + 127 * k) ≤ hour := fun q => x ((nI_leI (by omega) (by omega)).mpr q)
        refine c_65 (envA A kind cell hour) k _ _ ((rP A k).2.2.2.2.drop (rP A k).2.2.2.1) hk12 (by rw [List.length_drop]; omega) (by omega) (fun x hx => rP_CO A k x (List.mem_of_mem_drop hx)) _ hv0 (fun i hi => ?_) (fun j hj => by rw [hF 25 (by decide)]; exact hN j hj) (fun κ hF2 => ⟨fun u => no (fun q => ?_) κ (hF.tr hF2), fun u => yes (hol.mpr ⟨?_, by omega, by omega, Or.inr ?_⟩) κ (hF.tr hF2)⟩)
        · rw [hF 24 (by decide), getD_drop]
          rw [List.length_drop] at hi
          exact r7 _ (by omega)
        · rcases (hol.mp q).2.2.2 with q | q
          · exact w q
          · rw [evC_of hv0] at q; exact q u
        · exact (nI_eq (by omega) (by omega)).mp z
        · rw [evC_of hv0]; exact u
  refine v_63 _ _ _ ⟨vp_in_nI (n := 2) (by decide) (by decide), ?_⟩
  rw [show ((2 : Int32)).toNatClampNeg = 2 from by decide +kernel, show μ.1 25 2 = nI hour from hN 2 (by decide), show μ.1 18 6 = nI (A 2042) from hC.2.2.1.rules, Int32.sub_eq_add_neg]
  exact l (A 2042) μ (Nat.le_refl _) (FR.rf _ _) hq
theorem rulg_lt (A : Nat → Nat) (key kind cell hour : Nat) : ∀ n k, rulg A key kind cell hour n = some k → k < n
  | 0, k, h => by cases h
  | n + 1, k, h => by
    unfold rulg at h
    split at h
    · cases h; omega
    · have := rulg_lt A key kind cell hour n k h; omega
theorem c_64 {m : Nat} {A : Nat → Nat} (key kind cell hour : Nat) (hk : key < 3) (hh : hour < 12) {μ : wm_M} {Q : Int32 → wm_M → Prop} (hC : CL m A μ) (hN : NmR A kind cell hour μ) (hq : ∀ ν, FR 26 μ ν → Q (sayV A key kind cell hour) ν) : wm_OkI 0 64 [.ref 18, .int (nI key)] μ Q := by
  have b12 := hC.1.rules
  refine v_64 _ _ _ (c_63 key kind cell hour hk hh hC hN (fun ν hF => ?_))
  cases e : rulg A key kind cell hour (A 2042) with
  | none =>
    have es : sayV A key kind cell hour = dfl key := by unfold sayV; rw [e]
    refine ⟨fun _ => ⟨vp_in_nI hk (by decide), _, rfl, ?_⟩, fun z => absurd rfl z⟩
    rw [nI_clamp (by omega), show ([0, 39, 40] : List Int32).getD key 0 = dfl key from by
      have : key = 0 ∨ key = 1 ∨ key = 2 := by omega
      rcases this with rfl | rfl | rfl
      · rfl
      · rfl
      · rfl, ← es]
    exact hq ν hF
  | some k =>
    have hkk := rulg_lt _ _ _ _ _ _ _ e
    obtain ⟨r0, r1, r2, r3, r4, r5, r6, r7⟩ := hC.2.2.2.2 k hkk
    obtain ⟨o1, o2, o3, o4, ⟨v, hv⟩, o6⟩ := rP_ok r0
    have r5 : μ.1 22 k = _ := r5
    have hv0 := hv (envA A kind cell hour) []
    have es : sayV A key kind cell hour = v (envA A kind cell hour) := by unfold sayV; rw [e]; exact evC_of hv0
    rw [show lto (some k) nI (-1) = nI k from rfl]
    refine ⟨fun z => absurd z (nI_ne (by omega)), fun _ => w_64_19 _ _ _ ?_⟩
    rw [nI_clamp (show k < 2 ^ 31 by omega), hF 22 (by decide), r5]
    refine ⟨vp_in_nI (by omega) (by decide), c_65 (envA A kind cell hour) k 0 _ ((rP A k).2.2.2.2.take (rP A k).2.2.2.1) (by omega) (by rw [List.length_take]; omega) (by omega) (fun x hx => rP_CO A k x (List.mem_of_mem_take hx)) _ hv0 (fun i hi => ?_) (fun j hj => by rw [hF 25 (by decide)]; exact hN j hj) (fun κ hF2 => ⟨_, rfl, ?_⟩)⟩
    · rw [List.length_take] at hi
      rw [hF 24 (by decide), Nat.zero_add, getD_take (by omega)]
      exact r7 _ (by omega)
    · rw [← es]; exact hq κ (hF.tr hF2)
/-! ===== tired ones, change ===== -/
theorem trA_sm (A : Nat → Nat) (least : Int32) : ∀ n, trA A least n = smN (fun h => if A (463 + h) = 0 ∧ least ≤ nI (A (455 + h)) then 1 else 0) n
  | 0 => rfl
  | n + 1 => by unfold trA smN; rw [trA_sm A least n]
theorem trA_le (A : Nat → Nat) (least : Int32) : ∀ n, trA A least n ≤ n
  | 0 => Nat.le_refl 0
  | n + 1 => by unfold trA; have := trA_le A least n; split <;> omega
theorem c_13 {m : Nat} {A : Nat → Nat} (least : Int32) {μ : wm_M} {Q : Int32 → wm_M → Prop} (hC : CL m A μ) (hq : Q (nI (trA A least (A 2041))) μ) : wm_OkI 0 13 [.ref 13, .int least] μ Q := by
  have b8 := hC.1.hands
  have es : μ.1 13 13 = nI (A 2041) := hC.2.2.1.hands
  rw [trA_sm] at hq
  refine v_13 _ _ _ (loopS (fun h => if A (463 + h) = 0 ∧ least ≤ nI (A (455 + h)) then 1 else 0) (fun a i => wm_Wp 0 13 4 [.ref 13, .int least, .int (nI a), .int (nI i)] μ _) (A 2041) (fun i a hi ih => w_13_4 _ _ _ _ _ ?_) (w_13_4 _ _ _ _ _ ?_))
  · have h8 : i < 8 := by omega
    have v8 : vp_in (nI i) 8 := vp_in_nI h8 (by decide)
    have b2 := hC.1.sleeps h8
    rw [es, nI_clamp (by omega), hC.2.2.1.sleeps h8, hC.2.2.1.tired h8]
    refine ⟨fun z => absurd z (nI_ge hi (by omega)), fun _ => ⟨v8, fun z => ⟨v8, fun y => fl0 ?_, fun y => fl1 ?_⟩, fun z => fl0 ?_⟩⟩
    · have e : (if A (463 + i) = 0 ∧ least ≤ nI (A (455 + i)) then 1 else 0) = 0 := if_neg (fun q => Int32.not_le.mpr y q.2)
      simp only [e] at ih
      rw [Int32.add_zero, nI_1]; exact ih
    · have e : (if A (463 + i) = 0 ∧ least ≤ nI (A (455 + i)) then 1 else 0) = 1 := if_pos ⟨(nI_eq (b := 0) (by omega) (by decide)).mp z, Int32.not_lt.mp y⟩
      simp only [e] at ih
      rw [nI_1, nI_1]; exact ih
    · have e : (if A (463 + i) = 0 ∧ least ≤ nI (A (455 + i)) then 1 else 0) = 0 := if_neg (fun q => z (by rw [q.1]; rfl))
      simp only [e] at ih
      rw [Int32.add_zero, nI_1]; exact ih
  · rw [es]
    exact ⟨fun _ => w_13_48 _ _ _ ⟨_, rfl, hq⟩, fun z => absurd (nI_le (Nat.le_refl _) (by omega)) z⟩
theorem k0A_lt {m : Nat} {A : Nat → Nat} (hB : BA m A) : k0A A < 5 := by
  have := hB.kind (show 0 < 3 by decide)
  unfold k0A
  split
  · exact this
  · decide
theorem c_48 {m : Nat} {A : Nat → Nat} {μ : wm_M} {Q : Int32 → wm_M → Prop} (hC : CL m A μ) (hq : ∀ ν, F2 μ ν → Q (nI (toA A)) ν) : wm_OkI 0 48 [.ref 1] μ Q := by
  have bs := hC.1.sails
  have bt := hC.1.tick
  have es : μ.1 13 10 = nI (A 2040) := hC.2.2.1.sails
  have et : μ.1 13 4 = nI (A 2050) := hC.2.2.1.tick
  have fin : ∀ kind, kind = k0A A → ∀ ν, NmR A kind 0 (hqq (A 2050)) ν → F2 μ ν → wm_OkI 0 64 [.ref 18, .int (2 : Int32)] ν (fun r5 μ4 => wm_OkI 0 13 [.ref 13, .int r5] μ4 (fun r7 μ6 => ∃ x, some (Value.int r7) = some (.int x) ∧ Q x μ6)) := fun kind e ν hN hF => by
    refine c_64 2 kind 0 (hqq (A 2050)) (by decide) (hq_lt _) (hC.f2 hF) hN (fun κ hK => ?_)
    refine c_13 _ (hC.f2 (hF.tr (F2.of26 hK))) ⟨_, rfl, ?_⟩
    have := hq κ (hF.tr (F2.of26 hK))
    unfold toA at this
    rw [e]; exact this
  refine v_48 _ _ ?_
  rw [es, et]
  refine ⟨fun z => s_180 _ (by omega) (c_47 0 0 _ (by decide) hC (fun ν hN hF => fin 0 ?_ ν hN hF)), fun z => ⟨vp_in_nI (n := 0) (by decide) (by decide), s_180 _ (by omega) ?_⟩⟩
  · have z := (nI_leI (b := 0) (by omega) (by decide)).mp z
    exact (if_neg (by omega)).symm
  · have z : ¬ A 2040 ≤ 0 := fun q => z ((nI_leI (b := 0) (by omega) (by decide)).mpr q)
    rw [cl_0, show μ.1 14 0 = nI (A (449 + 0)) from hC.2.2.1.kind (by decide)]
    exact c_47 0 _ _ (by decide) hC (fun ν hN hF => fin _ (if_pos (by omega)).symm ν hN hF)
theorem c_49 {m : Nat} {A : Nat → Nat} {μ : wm_M} {Q : Int32 → wm_M → Prop} (hC : CL m A μ) (hq : ∀ ν, F2 μ ν → Q (nI (chA A)) ν) : wm_OkI 0 49 [.ref 1] μ Q := by
  have b8 := hC.1.hands
  have al := awk_le A (A 2041)
  refine v_49 _ _ ?_
  rw [show μ.1 13 14 = nI (awk A (A 2041)) from hC.2.2.2.1.2.2.2.2]
  refine ⟨fun z => ⟨_, rfl, ?_⟩, fun z => w_49_15 _ _ (c_48 hC (fun ν hF => ⟨_, rfl, ?_⟩))⟩
  · have z := (nI_eq (b := 0) (by omega) (by decide)).mp z
    have := hq μ (F2.rf μ)
    rw [show chA A = 9 from if_pos z] at this; exact this
  · have z : ¬ awk A (A 2041) = 0 := fun q => z (by rw [q]; rfl)
    have := hq ν hF
    rw [show chA A = 2 + toA A from if_neg z] at this
    rw [show (2 : Int32) + nI (toA A) = nI (2 + toA A) from nI_add 2 _]; exact this
theorem c_14 {m : Nat} {A : Nat → Nat} {μ : wm_M} {Q : Int32 → wm_M → Prop} (hC : CL m A μ) (hq : Q (nI (smN (fun h => A (455 + h)) (A 2041))) μ) : wm_OkI 0 14 [.ref 13] μ Q := by
  have b8 := hC.1.hands
  have es : μ.1 13 13 = nI (A 2041) := hC.2.2.1.hands
  refine v_14 _ _ (loopS (fun h => A (455 + h)) (fun a i => wm_Wp 0 14 4 [.ref 13, .int (nI a), .int (nI i)] μ _) (A 2041) (fun i a hi ih => w_14_4 _ _ _ _ ?_) (w_14_4 _ _ _ _ ?_))
  · rw [es, nI_clamp (by omega), hC.2.2.1.tired (by omega), nI_add, nI_1]
    exact ⟨fun z => absurd z (nI_ge hi (by omega)), fun _ => ⟨vp_in_nI (by omega) (by decide), ih⟩⟩
  · rw [es]
    exact ⟨fun _ => w_14_27 _ _ _ ⟨_, rfl, hq⟩, fun z => absurd (nI_le (Nat.le_refl _) (by omega)) z⟩
