/-! ===== the reference: rules laid, how long a step takes ===== -/
def kL (c i : Nat) : Bool := kW c i && !(Nat.beq c 93) && !(Nat.beq c 94)
theorem kL_W {c i : Nat} (h : kL c i = true) : kW c i = true := by
  unfold kL at h
  simp only [Bool.and_eq_true] at h
  exact h.1.1
theorem sayV_0 {A : Nat → Nat} (h : A 2042 = 0) (key kind c hr : Nat) : sayV A key kind c hr = dfl key := by
  unfold sayV
  rw [h]; rfl
theorem m_245 {m : Nat} {A : Nat → Nat} (h c k : Nat) (hh : h < 12) (hc : c < 36) (hk : k < 3) {μ : wm_M} {Q : wm_M → Prop} (hB : BA m A) (hV : RV A) (hM : RM 91 A μ) (hq : ∀ ν, ν.1 93 (3 * (36 * h + c) + k) = sayV A 0 (kiR A k) c h → ν.1 94 (3 * (36 * h + c) + k) = sayV A 1 (kiR A k) c h → (∀ i, i ≠ 3 * (36 * h + c) + k → ν.1 93 i = μ.1 93 i ∧ ν.1 94 i = μ.1 94 i) → Sm kL μ ν → Q ν) : wm_OkV 0 245 [.ref 89, .int (nI h), .int (nI c), .int (nI k)] μ Q := by
  have b12 := hB.rules
  have eq : ((3 : Int32) * (((36 : Int32) * nI h) + nI c)) + nI k = nI (3 * (36 * h + c) + k) := by simp (disch := omega) only [nl, nI_add, pk_mul, pk_sub, pk_div, rm_n, nI_clamp, vi_, nI_leI, nI_ltI, nI_eq, nI_sb, nI_eqm, nI_meq, Nat.zero_add, Nat.add_zero]
  have hqb : 3 * (36 * h + c) + k < 1296 := by omega
  generalize 3 * (36 * h + c) + k = q at hq eq hqb
  have clq := nI_clamp (n := q) (by omega)
  have vq : vp_in (nI q) 1296 := vp_in_nI hqb (by decide)
  have tail : ∀ ν : wm_M, RM 91 A ν → ν.1 93 q = sayV A 0 (kiR A k) c h → (∀ i, i ≠ q → ν.1 93 i = μ.1 93 i) → (∀ i, ν.1 94 i = μ.1 94 i) → Sm kL μ ν → wm_Wp 0 245 39 [.ref 89, .int (nI h), .int (nI c), .int (nI k), .int (nI q)] ν (fun w ν => w = none ∧ Q ν) := fun ν hMν e93 o93 o94 hS => by
    refine f_245_39 _ _ _ _ _ _ (s_188 2 (by decide) ?_)
    rw [show ν.1 91 (2040 + 2) = nI (A 2042) from hMν 2042 (by decide), clq]
    refine ⟨fun z => ⟨vq, f_245_67 _ _ ⟨rfl, hq _ e93 ?_ (fun i hi => ⟨o93 i hi, ?_⟩) (hS.si rfl)⟩⟩, fun z => m_241 1 k c h (by decide) hk hc hh hB hV hMν (fun κ hW => ⟨vq, f_245_67 _ _ ⟨rfl, hq _ ?_ ?_ (fun i hi => ⟨?_, ?_⟩) ?_⟩⟩)⟩
    · have z := (nI_eq (b := 0) (by omega) (by decide)).mp z
      rw [si_same, sayV_0 z]; rfl
    · rw [si_other _ _ hi]; exact o94 i
    · show κ.1 93 q = _
      rw [hW 93 q rfl]; exact e93
    · rw [si_same]
    · show κ.1 93 i = _
      rw [hW 93 i rfl]; exact o93 i hi
    · rw [si_other _ _ hi, hW 94 i rfl]; exact o94 i
    · exact (hS.tr (hW.le (fun _ _ q => kL_W q))).si rfl
  refine f_245 _ _ _ _ _ (s_188 2 (by decide) ?_)
  rw [eq, show μ.1 91 (2040 + 2) = nI (A 2042) from hM 2042 (by decide), clq]
  refine ⟨fun z => ⟨vq, tail _ (hM.fr rfl) ?_ (fun i hi => si_other _ _ hi) (fun i => rfl) ((Sm.rf _ _).si rfl)⟩, fun z => m_241 0 k c h (by decide) hk hc hh hB hV hM (fun κ hW => ⟨vq, tail _ (fun i hi => (hW 91 i rfl).trans (hM i hi)) (si_same _ _ _ _) (fun i hi => ?_) (fun i => hW 94 i rfl) ((hW.le (fun _ _ q => kL_W q)).si rfl)⟩)⟩
  · have z := (nI_eq (b := 0) (by omega) (by decide)).mp z
    rw [si_same, sayV_0 z]; rfl
  · rw [si_other _ _ hi, hW 93 i rfl]
theorem sdec (c h x : Nat) (hh : h < 8) (hx : x < 3) : st_ c h x % 3 = x ∧ st_ c h x / 3 % 8 = h ∧ st_ c h x / 24 = c := by
  unfold st_
  omega
theorem m_249 {m : Nat} {A : Nat → Nat} (w tab c h x hr : Nat) (hw : w < 7) (ht : tab < 2) (hc : c < 36) (hh : h < 8) (hx : x < 3) (hhr : hr < 12) {μ : wm_M} {Q : Int32 → wm_M → Prop} (hB : BA m A) (hX : VX A) (hM : RM 91 A μ) (hG : x < A 2040 → μ.1 94 (3 * (36 * hr + c) + x) = sayV A 1 (A (449 + x)) c hr) (hS : x < A 2040 → bsA c h < 36 → μ.1 93 (3 * (36 * hr + bsA c h) + x) = sayV A 0 (A (449 + x)) (bsA c h) hr) (h1 : x < A 2040 → Q (nI (stA A w tab c h x hr)) μ) (h0 : ¬ x < A 2040 → Q 0 μ) : wm_OkI 0 249 [.ref 89, .int (nI w), .int (nI tab), .int (nI (st_ c h x)), .int (nI hr)] μ Q := by
  obtain ⟨e1, e2, e3⟩ := sdec c h x hh hx
  have hst : st_ c h x < 864 := by unfold st_; omega
  have bs := hB.sails
  have bk := hB.kind hx
  have bt := hB.torn hx
  have hfi := fiA_lt hB (w := w) (h := hr) c hw hhr
  have hfr := frA_lt hB (w := w) (h := hr) hw hhr
  have hap := ap_lt5 h (frA A w hr) hh hfr
  have hsp := spA_lt hB hX tab (show 5 * ap h (frA A w hr) + fiA A w hr c / 8 < 25 by omega)
  have hpc := pcA_lt (A (449 + x)) (ap h (frA A w hr)) _ hsp
  have b5 : hd_ (A (449 + x)) < 40 := by
    have : ∀ k, k < 5 → hd_ k < 40 := by decide
    exact this _ bk
  have hb36 := bsA_lt c h
  generalize st_ c h x = p at e1 e2 e3 hst
  refine f_249 _ _ _ _ _ _ ⟨by decide, by decide, by decide, by decide, ?_⟩
  rw [show nI p - nI p / (3 : Int32) * (3 : Int32) = nI x from by rw [show nI p - nI p / (3 : Int32) * (3 : Int32) = nI (p % 3) from pk_rem (d := 3) (by omega) (by decide) (by decide), e1], show (nI p / (3 : Int32)) - (nI p / (3 : Int32)) / (8 : Int32) * (8 : Int32) = nI h from by
    rw [show nI p / (3 : Int32) = nI (p / 3) from pk_div (d := 3) (by omega) (by decide) (by decide), show nI (p / 3) - nI (p / 3) / (8 : Int32) * (8 : Int32) = nI (p / 3 % 8) from pk_rem (d := 8) (by omega) (by decide) (by decide), e2], show nI p / (24 : Int32) = nI c from by rw [show nI p / (24 : Int32) = nI (p / 24) from pk_div (d := 24) (by omega) (by decide) (by decide), e3]]
  refine f_249_19 _ _ _ _ _ _ _ _ (m_247 c h hc hh (f_249_28 _ _ _ _ _ _ _ _ _ (m_213 hB hM (fun i hi ei t0 => ⟨fun q => absurd q (by decide), fun _ => ?_⟩) (fun t => ⟨fun _ => f_249_77 _ _ ⟨_, rfl, ?_⟩, fun q => absurd rfl q⟩))))
  · have ex : x = i := (nI_eq (by omega) (by omega)).mp ei
    subst ex
    have q0 : ∀ v : Nat, stA A w tab c h x hr = v → Q (nI v) μ := fun v e => e ▸ h1 hi
    have hG := hG hi
    have hS := hS hi
    refine f_249_37 _ _ _ _ _ _ _ _ _ ⟨fun z => f_249_77 _ _ ⟨_, rfl, q0 0 ?_⟩, fun z => ?_⟩
    · have : bsA c h = 36 := Classical.byContradiction (fun q => by
        unfold bsI at z
        rw [if_neg q] at z
        exact nI_ne (by omega) z)
      unfold stA; rw [if_pos this]
    · have nb : ¬ bsA c h = 36 := fun q => z (if_pos q)
      have eb : bsI c h = nI (bsA c h) := if_neg nb
      have hto : bsA c h < 36 := by omega
      have bl := hB.land hto
      rw [eb, Int32.zero_add, nI_clamp (show bsA c h < 2 ^ 31 by omega), hM _ (show bsA c h < 2060 by omega), show ((3 : Int32) * (((36 : Int32) * nI hr) + nI (bsA c h))) + nI x = nI (3 * (36 * hr + bsA c h) + x) from by simp (disch := omega) only [nl, nI_add, pk_mul, pk_sub, pk_div, rm_n, nI_clamp, vi_, nI_leI, nI_ltI, nI_eq, nI_sb, nI_eqm, nI_meq, Nat.zero_add, Nat.add_zero], nI_clamp (show 3 * (36 * hr + bsA c h) + x < 2 ^ 31 by omega), hS hto]
      have closed : clA A (bsA c h) hr x = true → stA A w tab c h x hr = 0 := fun q => by
        unfold stA
        rw [if_neg nb, if_pos (Or.inr q)]
      refine ⟨vp_in_nI (by omega) (by decide), fun y => f_249_77 _ _ ⟨_, rfl, q0 0 (closed ?_)⟩, fun y => ⟨vp_in_nI (by omega) (by decide), fun u => ?_, fun u => f_249_77 _ _ ⟨_, rfl, q0 0 (closed ?_)⟩⟩⟩
      · have y := (nI_eq (b := 1) (by omega) (by decide)).mp y
        unfold clA
        rw [decide_eq_true y]; rfl
      · have y : ¬ A (bsA c h) = 1 := fun q => y (by rw [q]; rfl)
        have ncl : ¬ clA A (bsA c h) hr x = true := by
          unfold clA
          rw [decide_eq_false y, decide_eq_true u]; decide
        refine f_249_79 _ _ _ _ _ _ _ _ (m_200 w hr c hw hhr hc hB hM (f_249_90 _ _ _ _ _ _ _ _ _ (s_212 x _ hx bk (hM _ (by omega)) ⟨fun v => f_249_124 _ _ ⟨_, rfl, q0 0 ?_⟩, fun v => f_249_101 _ _ _ _ _ _ _ _ _ ?_⟩)))
        · have v := (nI_ltI (by omega) (by omega)).mp v
          unfold stA
          rw [if_neg nb, if_neg (fun q => q.elim (fun q => by omega) ncl), if_pos (Or.inl v)]
        · have v : ¬ hd_ (A (449 + x)) < fiA A w hr c := fun q => v ((nI_ltI (by omega) (by omega)).mpr q)
          rw [show ((3 : Int32) * (((36 : Int32) * nI hr) + nI c)) + nI x = nI (3 * (36 * hr + c) + x) from by simp (disch := omega) only [nl, nI_add, pk_mul, pk_sub, pk_div, rm_n, nI_clamp, vi_, nI_leI, nI_ltI, nI_eq, nI_sb, nI_eqm, nI_meq, Nat.zero_add, Nat.add_zero], nI_clamp (show 3 * (36 * hr + c) + x < 2 ^ 31 by omega), hG]
          refine ⟨vp_in_nI (by omega) (by decide), fun g => f_249_126 _ _ _ _ _ _ _ _ (m_198 w hr hw hhr hB hM (s_248 _ _ hh hfr (f_249_140 _ _ _ _ _ _ _ ?_))), fun g => f_249_124 _ _ ⟨_, rfl, q0 0 ?_⟩⟩
          · have st : stA A w tab c h x hr = if pcA (A (449 + x)) (ap h (frA A w hr)) (spA A tab (5 * ap h (frA A w hr) + fiA A w hr c / 8)) = 0 then 0 else (10 * (if h % 2 = 0 then 10 else 14) + pcA (A (449 + x)) (ap h (frA A w hr)) (spA A tab (5 * ap h (frA A w hr) + fiA A w hr c / 8)) - 1) / pcA (A (449 + x)) (ap h (frA A w hr)) (spA A tab (5 * ap h (frA A w hr) + fiA A w hr c / 8)) := by
              unfold stA
              rw [if_neg nb, if_neg (fun q => q.elim (fun q => by omega) ncl), if_neg (fun q => q.elim v (fun q => Int32.not_lt.mpr g q))]
            rw [show (449 : Int32) + nI x = nI (449 + x) from nI_add 449 x, nI_clamp (show 449 + x < 2 ^ 31 by omega), hM _ (show 449 + x < 2060 by omega), show nI (fiA A w hr c) / (8 : Int32) = nI (fiA A w hr c / 8) from pk_div (d := 8) (by omega) (by decide) (by decide)]
            refine ⟨vp_in_nI (by omega) (by decide), by decide, m_206 tab _ _ ht hap (by omega) hB hM (m_209 _ _ _ bk hap hsp (f_249_170 _ _ _ _ ?_))⟩
            generalize pcA (A (449 + x)) (ap h (frA A w hr)) (spA A tab (5 * ap h (frA A w hr) + fiA A w hr c / 8)) = pace at st hpc
            refine ⟨fun v => f_249_177 _ _ _ _ ⟨n2, ?_⟩, fun v => ⟨_, rfl, q0 0 ?_⟩⟩
            · have v := (nI_ltI (a := 0) (by decide) (by omega)).mp v
              rw [if_neg (by omega)] at st
              rw [show nI h - nI h / (2 : Int32) * (2 : Int32) = nI (h % 2) from pk_rem (d := 2) (by omega) (by decide) (by decide)]
              refine ⟨fun p => ⟨nI_ne0 v (by omega), _, rfl, ?_⟩, fun p => f_249_189 _ _ _ ⟨nI_ne0 v (by omega), _, rfl, ?_⟩⟩
              · have p := (nI_eq (b := 0) (by omega) (by decide)).mp p
                rw [if_pos p] at st
                have e : (((10 : Int32) * (10 : Int32)) + nI pace - (1 : Int32)) / nI pace = nI ((10 * 10 + pace - 1) / pace) := by
                  rw [show ((10 : Int32) * (10 : Int32)) + nI pace = nI (100 + pace) from nI_add 100 pace, show nI (100 + pace) - (1 : Int32) = nI (100 + pace - 1) from pk_sub (b := 1) (by omega), pk_div (by omega) v (by omega)]
                rw [e]; exact q0 _ st
              · have p : ¬ h % 2 = 0 := fun r => p (by rw [r]; rfl)
                rw [if_neg p] at st
                have e : (((10 : Int32) * (14 : Int32)) + nI pace - (1 : Int32)) / nI pace = nI ((10 * 14 + pace - 1) / pace) := by
                  rw [show ((10 : Int32) * (14 : Int32)) + nI pace = nI (140 + pace) from nI_add 140 pace, show nI (140 + pace) - (1 : Int32) = nI (140 + pace - 1) from pk_sub (b := 1) (by omega), pk_div (by omega) v (by omega)]
                rw [e]; exact q0 _ st
            · have v : ¬ 0 < pace := fun r => v ((nI_ltI (a := 0) (by decide) (by omega)).mpr r)
              rw [if_pos (by omega)] at st; exact st
          · unfold stA
            rw [if_neg nb, if_neg (fun q => q.elim (fun q => by omega) ncl), if_pos (Or.inr (Int32.not_le.mp g))]
      · unfold clA
        rw [decide_eq_false u]; simp
  · by_cases hi : x < A 2040
    · have tt := t x hi rfl
      have := h1 hi
      rw [show stA A w tab c h x hr = 0 from by
        unfold stA
        by_cases nb : bsA c h = 36
        · rw [if_pos nb]
        · rw [if_neg nb, if_pos (Or.inl (by omega))]] at this
      exact this
    · exact h0 hi
