/-! ===== the reference's readers ===== -/
def kiR (A : Nat → Nat) (x : Nat) : Nat := if x < A 2040 then A (449 + x) else 0
def enR (A : Nat → Nat) (x cell hour : Nat) : Nat → Int32 := envA A (kiR A x) cell hour
def Rd (T : Nat → Nat) (n m : Nat) (A : Nat → Nat) (x cell hour : Nat) (e y o : Nat) (P : Ps) : Prop := ∀ (p : Nat) (μ : wm_M) (Q : Int32 → wm_M → Prop), St T n m A x cell hour o p μ → (∀ q d v ν, P p [] = (true, q, d) → (∀ st, runC (enR A x cell hour) d st = v :: st) → St T n m A x cell hour o q ν → Sm rdK μ ν → Q v ν) → (∀ q v ν, (P p []).1 = false → (P p []).2.1 = q → Bd q ν → Sm rdK μ ν → Q v ν) → wm_OkI e y [.ref 89] μ Q
theorem St_set {T : Nat → Nat} {n m : Nat} {A : Nat → Nat} {x cell hour : Nat} {o p : Nat} {μ : wm_M} (h : St T n m A x cell hour o p μ) (o' : Nat) : St T n m A x cell hour o' p (wm_si μ 89 11 (nI o')) := by
  obtain ⟨h1, h2, h3, h4, h5⟩ := h
  have hS : Sm rdK μ (wm_si μ 89 11 (nI o')) := (Sm.rf _ _).si rfl
  exact ⟨h1.sm hS, EN_sm h2 hS, h3, h4, rfl⟩
theorem Bd_set {q : Nat} {μ : wm_M} (h : Bd q μ) (y : Int32) : Bd q (wm_si μ 89 11 y) := h
theorem Bd_n {q : Nat} {μ : wm_M} (h : Bd q μ) : ¬ μ.1 89 12 = 0 := by rw [h.1]; decide
theorem m_230 {T : Nat → Nat} {n m : Nat} {A : Nat → Nat} {x cell hour : Nat} {o p : Nat} (ho : o ≤ 6) {μ : wm_M} {Q : Int32 → wm_M → Prop} (h : St T n m A x cell hour o p μ) (ht : tk T n p ≠ 130) (h0 : o = 6 → ∀ ν, Bd p ν → Sm rdK μ ν → Q 0 ν) (h1 : o ≠ 6 → ∀ ν, St T n m A x cell hour (o + 1) (nx T n p) ν → Sm rdK μ ν → Q 1 ν) : wm_OkI 0 230 [.ref 89] μ Q := by
  have h' := h
  obtain ⟨a1, a2, a3, a4, a5⟩ := h
  refine v_230 _ _ ?_
  rw [a5]
  refine ⟨fun z => m_227 a3 a4 (fun ν hB hS => ⟨z01, _, rfl, h0 ((nI_eq (b := 6) (by omega) (by decide)).mp z) ν hB hS⟩), fun z => w_230_15 _ _ ?_⟩
  have z : ¬ o = 6 := fun q => z (by rw [q]; rfl)
  rw [a5, nI_1]
  exact St_nx (St_set h' (o + 1)) ht (fun ν hν hS => ⟨o01, _, rfl, h1 z ν hν (((Sm.rf _ _).si rfl).tr hS)⟩)
/-- name -/
theorem m_231 {T : Nat → Nat} {n m : Nat} {A : Nat → Nat} {x cell hour : Nat} {o p : Nat} {μ : wm_M} {Q : Int32 → wm_M → Prop} (h : St T n m A x cell hour o p μ) (hh : hour < 12) (h1 : 3 ≤ tk T n p → tk T n p ≤ 8 → Q (enR A x cell hour (tk T n p - 3)) μ) (h0 : ¬ (3 ≤ tk T n p ∧ tk T n p ≤ 8) → ∀ ν, Bd p ν → Sm rdK μ ν → Q 0 ν) : wm_OkI 0 231 [.ref 89] μ Q := by
  obtain ⟨a1, ⟨b1, b2, b3, b4, b5, b6, b7⟩, a3, a4, a5⟩ := h
  have bs := b1.sails
  have nm : ∀ i, 3 ≤ i → i ≤ 8 → tk T n p = i → ∀ v, enR A x cell hour (i - 3) = v → Q v μ := fun i h3 h8 e v ev => by
    have := h1 (by omega) (by omega)
    rw [e, ev] at this; exact this
  refine v_231 _ _ (m_228 3 (by decide) _ (by decide +kernel) a3 a4 (fun e => ⟨fun q => absurd q (by decide), fun _ => ⟨_, rfl, ?_⟩⟩) (fun n3 => ⟨fun _ => w_231_15 _ _ (m_228 4 (by decide) _ (by decide +kernel) a3 a4 (fun e => ⟨fun q => absurd q (by decide), fun _ => ⟨by decide, _, rfl, ?_⟩⟩) (fun n4 => ⟨fun _ => w_231_33 _ _ (m_228 5 (by decide) _ (by decide +kernel) a3 a4 (fun e => ⟨fun q => absurd q (by decide), fun _ => ⟨_, rfl, ?_⟩⟩) (fun n5 => ⟨fun _ => w_231_48 _ _ (m_228 6 (by decide) _ (by decide +kernel) a3 a4 (fun e => ⟨fun q => absurd q (by decide), fun _ => s_188 0 (by decide) ?_⟩) (fun n6 => ⟨fun _ => w_231_88 _ _ (m_228 7 (by decide) _ (by decide +kernel) a3 a4 (fun e => ⟨fun q => absurd q (by decide), fun _ => ?_⟩) (fun n7 => ⟨fun _ => w_231_111 _ _ (m_228 8 (by decide) _ (by decide +kernel) a3 a4 (fun e => ⟨fun q => absurd q (by decide), fun _ => m_220 b1 b2 ⟨_, rfl, ?_⟩⟩) (fun n8 => ⟨fun _ => w_231_126 _ _ (m_227 a3 a4 (fun ν hB hS => ⟨_, rfl, h0 (by omega) ν hB hS⟩)), fun q => absurd rfl q⟩)), fun q => absurd rfl q⟩)), fun q => absurd rfl q⟩)), fun q => absurd rfl q⟩)), fun q => absurd rfl q⟩)), fun q => absurd rfl q⟩))
  · rw [b5]; exact nm 3 (by decide) (by decide) e _ rfl
  · rw [b5, show nI cell / (6 : Int32) = nI (cell / 6) from pk_div (d := 6) (by omega) (by decide) (by decide)]; exact nm 4 (by decide) (by decide) e _ rfl
  · rw [b7]; exact nm 5 (by decide) (by decide) e _ rfl
  · rw [show μ.1 91 (2040 + 0) = nI (A 2040) from b2 2040 (by decide), b6]
    refine ⟨fun z => w_231_86 _ _ ⟨_, rfl, nm 6 (by decide) (by decide) e _ ?_⟩, fun z => ?_⟩
    · have z := (nI_leI (by omega) (by omega)).mp z
      show nI (kiR A x) = 0
      rw [show kiR A x = 0 from if_neg (by omega)]; rfl
    · have z : ¬ A 2040 ≤ x := fun q => z ((nI_leI (by omega) (by omega)).mpr q)
      rw [show (449 : Int32) + nI x = nI (449 + x) from nI_add 449 x, nI_clamp (by omega), b2 _ (by omega)]
      refine ⟨vp_in_nI (by omega) (by decide), _, rfl, nm 6 (by decide) (by decide) e _ ?_⟩
      show nI (kiR A x) = _
      rw [show kiR A x = A (449 + x) from if_pos (by omega)]
  · rw [b5, show (36 : Int32) + nI cell = nI (36 + cell) from nI_add 36 cell, nI_clamp (by omega), b2 _ (by omega)]
    exact ⟨vp_in_nI (by omega) (by decide), _, rfl, nm 7 (by decide) (by decide) e _ rfl⟩
  · exact nm 8 (by decide) (by decide) e _ rfl
/-- a loop of a reader: operators and what they work on -/
theorem loopR {T : Nat → Nat} {n m : Nat} {A : Nat → Nat} {x cell hour : Nat} {e y o : Nat} {ops : Nat → Bool} (ho : ∀ t, ops t = true → t < 100 ∧ t ≠ 12 ∧ t ≠ 1) {sub : Ps} (hG : Gd n sub) (hs : Rd T n m A x cell hour e y o sub) (H F : Int32 → wm_M → Prop) (hstop : ∀ v p μ, St T n m A x cell hour o p μ → ¬ ops (tk T n p) = true → F v μ → H v μ) (hbad : ∀ v q μ, Bd q μ → F v μ → H v μ) (hgo : ∀ v p μ, St T n m A x cell hour o p μ → ops (tk T n p) = true → (∀ ν, St T n m A x cell hour o (nx T n p) ν → Sm rdK μ ν → wm_OkI e y [.ref 89] ν (fun w κ => H (tgr (nI (tk T n p)) v w) κ)) → H v μ) : ∀ f v p μ, n - p ≤ f → St T n m A x cell hour o p μ → (∀ q d w ν, lpP (tz T n) ops sub f p [] = (true, q, d) → (∀ st, runC (enR A x cell hour) d (v :: st) = w :: st) → St T n m A x cell hour o q ν → Sm rdK μ ν → F w ν) → (∀ q w ν, (lpP (tz T n) ops sub f p []).1 = false → (lpP (tz T n) ops sub f p []).2.1 = q → Bd q ν → Sm rdK μ ν → F w ν) → H v μ := by
  have hZ := tz_ok T n
  intro f
  induction f with
  | zero =>
    intro v p μ hf hS h1 h0
    have : ¬ ops (tk T n p) = true := fun q => by
      have := ho _ q
      have : tk T n p = 128 := if_pos (by omega)
      omega
    exact hstop v p μ hS this (h1 p [] v μ rfl (fun _ => rfl) hS (Sm.rf _ _))
  | succ f ih =>
    intro v p μ hf hS h1 h0
    have hpn := hS.2.2.1.1
    by_cases hop : ops (tk T n p) = true
    · obtain ⟨o1, o2, o3⟩ := ho _ hop
      obtain ⟨z1, z2⟩ := hZ.1 p hpn (show tk T n p ≠ 128 by omega)
      have z1 : p < nx T n p := z1
      have z2 : nx T n p ≤ n := z2
      have el : ∀ c, lpP (tz T n) ops sub (f + 1) p c = thn sub (thn (wrt (wk (tk T n p))) (lpP (tz T n) ops sub f)) (nx T n p) c := fun c => by
        show (if ops (tk T n p) = true then _ else _) = _
        rw [if_pos hop]; rfl
      obtain ⟨ok, q', d', g1, g2, g3, g4⟩ := hG (nx T n p) z2
      refine hgo v p μ hS hop (fun ν hν hSm => hs (nx T n p) ν _ hν (fun q d w κ e hr hK hSm2 => ?_) (fun q w κ e1 e2 hB hSm2 => ?_))
      · have e' := g1 []
        rw [e, List.nil_append] at e'
        obtain ⟨rfl, rfl, rfl⟩ : ok = true ∧ q' = q ∧ d' = d := by
          injection e' with a b
          injection b with b c
          exact ⟨a.symm, b.symm, c.symm⟩
        obtain ⟨l1, l2, _⟩ := g4 rfl
        obtain ⟨ok2, q2', d2', k1, k2, k3, k4⟩ := Gl_lp hZ (ops := ops) (fun t h => by have := ho t h; omega) hG f q' g3
        have ew : ∀ c, wrt (wk (tk T n p)) q' c = (true, q', c ++ [wk (tk T n p)]) := fun _ => rfl
        have full : lpP (tz T n) ops sub (f + 1) p [] = (ok2, q2', d' ++ [wk (tk T n p)] ++ d2') := by
          rw [el, thn_t g1, thn_t ew, k1, List.nil_append]
        have part : lpP (tz T n) ops sub f q' [] = (ok2, q2', d2') := by rw [k1, List.nil_append]
        refine ih _ q' κ (by omega) hK (fun q2 d2 w2 ξ e2 hr2 hX hSm3 => ?_) (fun q2 w2 ξ e2 e3 hB hSm3 => ?_)
        · rw [part] at e2
          obtain ⟨rfl, rfl, rfl⟩ : ok2 = true ∧ q2' = q2 ∧ d2' = d2 := by
            injection e2 with a b
            injection b with b c
            exact ⟨a, b, c⟩
          refine h1 q2' _ w2 ξ full (fun st => ?_) hX ((hSm.tr hSm2).tr hSm3)
          rw [runC_app, runC_app, hr, runC_1, stp_wk _ _ (by omega) o2 o3, hr2]
        · rw [part] at e2 e3
          exact h0 q2 w2 ξ (by rw [full]; exact e2) (by rw [full]; exact e3) hB ((hSm.tr hSm2).tr hSm3)
      · have e' := g1 []
        rw [e'] at e1 e2
        have e1 : ok = false := e1
        subst e1
        exact hbad _ q κ hB (h0 q _ κ (by rw [el, thn_f g1]) (by rw [el, thn_f g1]; exact e2) hB (hSm.tr hSm2))
    · refine hstop v p μ hS hop (h1 p [] v μ ?_ (fun _ => rfl) hS (Sm.rf _ _))
      show (if ops (tk T n p) = true then _ else _) = _
      rw [if_neg hop]
/-- one reader behind another: a loop that begins with what the first read -/
theorem Rd_thn {T : Nat → Nat} {n m : Nat} {A : Nat → Nat} {x cell hour : Nat} {e y y' o : Nat} {a k : Ps} (ha : Gd n a) (hk : Gl n k) (hr : Rd T n m A x cell hour e y' o a) (H : (Int32 → wm_M → Prop) → Int32 → wm_M → Prop) (start : ∀ μ Q, wm_OkI e y' [.ref 89] μ (fun v ν => H Q v ν) → wm_OkI e y [.ref 89] μ Q) (hbad : ∀ Q v q μ, Bd q μ → Q v μ → H Q v μ) (loop : ∀ Q v p μ, p ≤ n → St T n m A x cell hour o p μ → (∀ q d w ν, k p [] = (true, q, d) → (∀ st, runC (enR A x cell hour) d (v :: st) = w :: st) → St T n m A x cell hour o q ν → Sm rdK μ ν → Q w ν) → (∀ q w ν, (k p []).1 = false → (k p []).2.1 = q → Bd q ν → Sm rdK μ ν → Q w ν) → H Q v μ) : Rd T n m A x cell hour e y o (thn a k) := by
  intro p μ Q hS h1 h0
  have hpn := hS.2.2.1.1
  obtain ⟨ok, q', d', g1, g2, g3, g4⟩ := ha p hpn
  refine start μ Q (hr p μ _ hS (fun q d v ν e hrun hν hSm => ?_) (fun q v ν e1 e2 hB hSm => ?_))
  · have e' := g1 []
    rw [e, List.nil_append] at e'
    obtain ⟨rfl, rfl, rfl⟩ : ok = true ∧ q' = q ∧ d' = d := by
      injection e' with a b
      injection b with b c
      exact ⟨a.symm, b.symm, c.symm⟩
    obtain ⟨ok2, q2', d2', k1, k2, k3, k4⟩ := hk q' g3
    have full : thn a k p [] = (ok2, q2', d' ++ d2') := by rw [thn_t g1, k1, List.nil_append]
    have part : k q' [] = (ok2, q2', d2') := by rw [k1, List.nil_append]
    refine loop Q v q' ν g3 hν (fun q2 d2 w ξ e2 hr2 hX hSm2 => ?_) (fun q2 w ξ e2 e3 hB hSm2 => ?_)
    · rw [part] at e2
      obtain ⟨rfl, rfl, rfl⟩ : ok2 = true ∧ q2' = q2 ∧ d2' = d2 := by
        injection e2 with a b
        injection b with b c
        exact ⟨a, b, c⟩
      exact h1 q2' _ w ξ full (fun st => by rw [runC_app, hrun, hr2]) hX (hSm.tr hSm2)
    · rw [part] at e2 e3
      exact h0 q2 w ξ (by rw [full]; exact e2) (by rw [full]; exact e3) hB (hSm.tr hSm2)
  · have e' := g1 []
    rw [e'] at e1 e2
    have e1 : ok = false := e1
    subst e1
    exact hbad Q v q ν hB (h0 q v ν (by rw [thn_f g1]) (by rw [thn_f g1]; exact e2) hB hSm)
