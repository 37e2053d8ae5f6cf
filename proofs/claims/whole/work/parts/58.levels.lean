/-! ===== the readers of the reference, level by level ===== -/
theorem St_w {T : Nat → Nat} {n m : Nat} {A : Nat → Nat} {x cell hour : Nat} {o p : Nat} {μ : wm_M} (h : St T n m A x cell hour o p μ) {t : Nat} (e : tk T n p = t) (ht : t ∈ sgn) : μ.2 89 10 = lN t := by
  have r := sgn_rng _ ht
  rcases KD_tk h.2.2.1.2.2.2 with ⟨_, a⟩ | ⟨_, _, _, _, a⟩ | ⟨_, a, _⟩ | ⟨_, a, _, b⟩ | ⟨_, a⟩
  · omega
  · omega
  · omega
  · rw [b, ← a, e]
  · omega
theorem lc_ (t k : Nat) (ht : t < 1000) (hk : k < 1000) : lg_cmp (lN t) (lN k) = 0 ↔ t = k := by
  rw [lg_cmp_eq, pk_lEQ (by omega) (by omega)]
theorem Rd_term {T : Nat → Nat} {n m : Nat} {A : Nat → Nat} {x cell hour : Nat} {e o : Nat} {one : Ps} (hG : Gd n one) (hr : Rd T n m A x cell hour e 232 o one) : Rd T n m A x cell hour e 233 o (termP (tz T n) one) := by
  have ho : ∀ t, (Nat.beq t 42 || Nat.beq t 47 || Nat.beq t 37) = true → t < 100 ∧ t ≠ 12 ∧ t ≠ 1 := fun t h => by have := op_mul h; omega
  have hbad : ∀ (Q : Int32 → wm_M → Prop) v q μ, Bd q μ → Q v μ → wm_Wp e 233 5 [.ref 89, .int v, .null, .null, .null] μ (fun w ν => ∃ x, w = some (.int x) ∧ Q x ν) := fun Q v q μ hB hQ => w_233_5 _ _ _ (m_229b _ (Bd_n hB) ⟨fun _ => m_229b _ (Bd_n hB) ⟨fun _ => m_229b _ (Bd_n hB) ⟨fun _ => w_233_94 _ _ _ ⟨_, rfl, hQ⟩, fun q => absurd rfl q⟩, fun q => absurd rfl q⟩, fun q => absurd rfl q⟩)
  refine Rd_thn hG (Gl_lp (tz_ok T n) (fun t h => by have := ho t h; have := op_mul h; omega) hG 120) hr (fun Q v μ => wm_Wp e 233 5 [.ref 89, .int v, .null, .null, .null] μ (fun w ν => ∃ x, w = some (.int x) ∧ Q x ν)) (fun μ Q h => v_233 _ _ h) hbad (fun Q v p μ hp hS h1 h0 => ?_)
  have n120 := hS.1.2.1
  refine loopR ho hG hr _ Q (fun v p μ hS hop hQ => ?_) (fun v q μ hB hQ => hbad Q v q μ hB hQ) (fun v p μ hS hop hsub => ?_) 120 v p μ (by omega) hS h1 h0
  · have h42 : ¬ tk T n p = 42 := fun q => hop (by rw [q]; rfl)
    have h47 : ¬ tk T n p = 47 := fun q => hop (by rw [q]; rfl)
    have h37 : ¬ tk T n p = 37 := fun q => hop (by rw [q]; rfl)
    exact w_233_5 _ _ _ (m_229 42 (by decide) hS.1 hS.2.2.1 hS.2.2.2.1 (fun q => absurd q h42) (fun _ => ⟨fun _ => m_229 47 (by decide) hS.1 hS.2.2.1 hS.2.2.2.1 (fun q => absurd q h47) (fun _ => ⟨fun _ => m_229 37 (by decide) hS.1 hS.2.2.1 hS.2.2.2.1 (fun q => absurd q h37) (fun _ => ⟨fun _ => w_233_94 _ _ _ ⟨_, rfl, hQ⟩, fun q => absurd rfl q⟩), fun q => absurd rfl q⟩), fun q => absurd rfl q⟩))
  · have ht := op_mul hop
    have go : wm_Wp e 233 32 [.ref 89, .int v, .null, .null, .null] μ (fun w ν => ∃ x, w = some (.int x) ∧ Q x ν) := by
      have hm : tk T n p ∈ sgn := by rcases ht with h | h | h <;> rw [h] <;> decide
      have hw := St_w hS rfl hm
      refine w_233_32 _ _ _ (St_nx hS (by omega) (fun ν hν hSm => (hsub ν hν hSm).mono (fun w κ hH => ?_)))
      rw [hw]
      have hH : wm_Wp e 233 5 [.ref 89, .int (tgr (nI (tk T n p)) v w), .null, .null, .null] κ (fun w ν => ∃ x, w = some (.int x) ∧ Q x ν) := hH
      refine ⟨fun z => ?_, fun z => ?_⟩
      · have z := (lc_ (tk T n p) 42 (by omega) (by decide)).mp z
        rw [z, show tgr (nI 42) v w = v * w from by unfold tgr; rw [if_neg (by decide), if_neg (by decide), if_neg (by decide), if_neg (by decide), if_neg (by decide), if_neg (by decide), if_neg (by decide), if_pos (by decide)]] at hH
        exact hH
      · have z : ¬ tk T n p = 42 := fun q => z ((lc_ (tk T n p) 42 (by omega) (by decide)).mpr q)
        refine w_233_62 _ _ _ _ _ ⟨fun y => ?_, fun y => w_233_71 _ _ _ _ _ ⟨fun u => ⟨y, ?_⟩, fun u => w_233_86 _ _ _ _ ⟨y, ?_⟩⟩⟩
        · have e0 : tgr (nI (tk T n p)) v w = 0 := by
            rcases ht with h | h | h
            · exact absurd h z
            · rw [h]; unfold tgr; rw [if_neg (by decide), if_neg (by decide), if_neg (by decide), if_neg (by decide), if_neg (by decide), if_neg (by decide), if_neg (by decide), if_neg (by decide), if_pos (by decide), if_pos y]
            · rw [h]; unfold tgr; rw [if_neg (by decide), if_neg (by decide), if_neg (by decide), if_neg (by decide), if_neg (by decide), if_neg (by decide), if_neg (by decide), if_neg (by decide), if_neg (by decide), if_pos y]
          rw [e0] at hH; exact hH
        · have u := (lc_ (tk T n p) 47 (by omega) (by decide)).mp u
          rw [u, show tgr (nI 47) v w = v / w from by unfold tgr; rw [if_neg (by decide), if_neg (by decide), if_neg (by decide), if_neg (by decide), if_neg (by decide), if_neg (by decide), if_neg (by decide), if_neg (by decide), if_pos (by decide), if_neg y]] at hH
          exact hH
        · have u : ¬ tk T n p = 47 := fun q => u ((lc_ (tk T n p) 47 (by omega) (by decide)).mpr q)
          rw [show tk T n p = 37 by omega, show tgr (nI 37) v w = v - v / w * w from by unfold tgr; rw [if_neg (by decide), if_neg (by decide), if_neg (by decide), if_neg (by decide), if_neg (by decide), if_neg (by decide), if_neg (by decide), if_neg (by decide), if_neg (by decide), if_neg y]] at hH
          exact hH
    refine w_233_5 _ _ _ (m_229 42 (by decide) hS.1 hS.2.2.1 hS.2.2.2.1 (fun q => ⟨fun r => absurd r (by decide), fun _ => go⟩) (fun q1 => ⟨fun _ => m_229 47 (by decide) hS.1 hS.2.2.1 hS.2.2.2.1 (fun q => ⟨fun r => absurd r (by decide), fun _ => go⟩) (fun q2 => ⟨fun _ => m_229 37 (by decide) hS.1 hS.2.2.1 hS.2.2.2.1 (fun q => ⟨fun r => absurd r (by decide), fun _ => go⟩) (fun q3 => by omega), fun q => absurd rfl q⟩), fun q => absurd rfl q⟩))
theorem Rd_sum {T : Nat → Nat} {n m : Nat} {A : Nat → Nat} {x cell hour : Nat} {e o : Nat} {term : Ps} (hG : Gd n term) (hr : Rd T n m A x cell hour e 233 o term) : Rd T n m A x cell hour e 234 o (sumP (tz T n) term) := by
  have ho : ∀ t, (Nat.beq t 43 || Nat.beq t 45) = true → t < 100 ∧ t ≠ 12 ∧ t ≠ 1 := fun t h => by have := op_add h; omega
  have hbad : ∀ (Q : Int32 → wm_M → Prop) v q μ, Bd q μ → Q v μ → wm_Wp e 234 5 [.ref 89, .int v, .null, .null] μ (fun w ν => ∃ x, w = some (.int x) ∧ Q x ν) := fun Q v q μ hB hQ => w_234_5 _ _ _ (m_229b _ (Bd_n hB) ⟨fun _ => m_229b _ (Bd_n hB) ⟨fun _ => w_234_66 _ _ _ ⟨_, rfl, hQ⟩, fun q => absurd rfl q⟩, fun q => absurd rfl q⟩)
  refine Rd_thn hG (Gl_lp (tz_ok T n) (fun t h => by have := ho t h; have := op_add h; omega) hG 120) hr (fun Q v μ => wm_Wp e 234 5 [.ref 89, .int v, .null, .null] μ (fun w ν => ∃ x, w = some (.int x) ∧ Q x ν)) (fun μ Q h => v_234 _ _ h) hbad (fun Q v p μ hp hS h1 h0 => ?_)
  have n120 := hS.1.2.1
  refine loopR ho hG hr _ Q (fun v p μ hS hop hQ => ?_) (fun v q μ hB hQ => hbad Q v q μ hB hQ) (fun v p μ hS hop hsub => ?_) 120 v p μ (by omega) hS h1 h0
  · have h43 : ¬ tk T n p = 43 := fun q => hop (by rw [q]; rfl)
    have h45 : ¬ tk T n p = 45 := fun q => hop (by rw [q]; rfl)
    exact w_234_5 _ _ _ (m_229 43 (by decide) hS.1 hS.2.2.1 hS.2.2.2.1 (fun q => absurd q h43) (fun _ => ⟨fun _ => m_229 45 (by decide) hS.1 hS.2.2.1 hS.2.2.2.1 (fun q => absurd q h45) (fun _ => ⟨fun _ => w_234_66 _ _ _ ⟨_, rfl, hQ⟩, fun q => absurd rfl q⟩), fun q => absurd rfl q⟩))
  · have ht := op_add hop
    have go : wm_Wp e 234 23 [.ref 89, .int v, .null, .null] μ (fun w ν => ∃ x, w = some (.int x) ∧ Q x ν) := by
      have hm : tk T n p ∈ sgn := by rcases ht with h | h <;> rw [h] <;> decide
      have hw := St_w hS rfl hm
      refine w_234_23 _ _ _ ?_
      rw [hw]
      refine ⟨fun z => St_nx hS (by omega) (fun ν hν hSm => (hsub ν hν hSm).mono (fun w κ hH => ⟨fun q => absurd q (by decide), fun _ => ?_⟩)), fun z => w_234_38 _ _ _ (St_nx hS (by omega) (fun ν hν hSm => (hsub ν hν hSm).mono (fun w κ hH => ⟨fun _ => w_234_59 _ _ _ _ ?_, fun q => absurd rfl q⟩)))⟩
      · have z := (lc_ (tk T n p) 43 (by omega) (by decide)).mp z
        have hH : wm_Wp e 234 5 [.ref 89, .int (tgr (nI (tk T n p)) v w), .null, .null] κ (fun w ν => ∃ x, w = some (.int x) ∧ Q x ν) := hH
        rw [z, show tgr (nI 43) v w = v + w from by unfold tgr; rw [if_neg (by decide), if_neg (by decide), if_neg (by decide), if_neg (by decide), if_neg (by decide), if_pos (by decide)]] at hH
        exact hH
      · have z : ¬ tk T n p = 43 := fun q => z ((lc_ (tk T n p) 43 (by omega) (by decide)).mpr q)
        have hH : wm_Wp e 234 5 [.ref 89, .int (tgr (nI (tk T n p)) v w), .null, .null] κ (fun w ν => ∃ x, w = some (.int x) ∧ Q x ν) := hH
        rw [show tk T n p = 45 by omega, show tgr (nI 45) v w = v - w from by unfold tgr; rw [if_neg (by decide), if_neg (by decide), if_neg (by decide), if_neg (by decide), if_neg (by decide), if_neg (by decide), if_pos (by decide)]] at hH
        exact hH
    refine w_234_5 _ _ _ (m_229 43 (by decide) hS.1 hS.2.2.1 hS.2.2.2.1 (fun q => ⟨fun r => absurd r (by decide), fun _ => go⟩) (fun q1 => ⟨fun _ => m_229 45 (by decide) hS.1 hS.2.2.1 hS.2.2.2.1 (fun q => ⟨fun r => absurd r (by decide), fun _ => go⟩) (fun q2 => by omega), fun q => absurd rfl q⟩))
theorem Rd_and {T : Nat → Nat} {n m : Nat} {A : Nat → Nat} {x cell hour : Nat} {e o : Nat} {nt : Ps} (hG : Gd n nt) (hr : Rd T n m A x cell hour e 235 o nt) : Rd T n m A x cell hour e 236 o (andP (tz T n) nt) := by
  have ho : ∀ t, Nat.beq t 11 = true → t < 100 ∧ t ≠ 12 ∧ t ≠ 1 := fun t h => by have := Nat.eq_of_beq_eq_true h; omega
  have hbad : ∀ (Q : Int32 → wm_M → Prop) v q μ, Bd q μ → Q v μ → wm_Wp e 236 5 [.ref 89, .int v, .null] μ (fun w ν => ∃ x, w = some (.int x) ∧ Q x ν) := fun Q v q μ hB hQ => w_236_5 _ _ _ (m_228b _ (Bd_n hB) ⟨fun _ => w_236_41 _ _ _ ⟨_, rfl, hQ⟩, fun q => absurd rfl q⟩)
  refine Rd_thn hG (Gl_lp (tz_ok T n) (fun t h => by have := Nat.eq_of_beq_eq_true h; omega) hG 120) hr (fun Q v μ => wm_Wp e 236 5 [.ref 89, .int v, .null] μ (fun w ν => ∃ x, w = some (.int x) ∧ Q x ν)) (fun μ Q h => v_236 _ _ h) hbad (fun Q v p μ hp hS h1 h0 => ?_)
  have n120 := hS.1.2.1
  refine loopR ho hG hr _ Q (fun v p μ hS hop hQ => ?_) (fun v q μ hB hQ => hbad Q v q μ hB hQ) (fun v p μ hS hop hsub => ?_) 120 v p μ (by omega) hS h1 h0
  · have h11 : ¬ tk T n p = 11 := fun q => hop (by rw [q]; rfl)
    exact w_236_5 _ _ _ (m_228 11 (by decide) _ (by decide +kernel) hS.2.2.1 hS.2.2.2.1 (fun q => absurd q h11) (fun _ => ⟨fun _ => w_236_41 _ _ _ ⟨_, rfl, hQ⟩, fun q => absurd rfl q⟩))
  · have ht : tk T n p = 11 := Nat.eq_of_beq_eq_true hop
    refine w_236_5 _ _ _ (m_228 11 (by decide) _ (by decide +kernel) hS.2.2.1 hS.2.2.2.1 (fun _ => ⟨fun q => absurd q (by decide), fun _ => St_nx hS (by omega) (fun ν hν hSm => (hsub ν hν hSm).mono (fun w κ hH => ?_))⟩) (fun q => absurd ht q))
    have hH : wm_Wp e 236 5 [.ref 89, .int (tgr (nI (tk T n p)) v w), .null] κ (fun w ν => ∃ x, w = some (.int x) ∧ Q x ν) := hH
    rw [ht, show tgr (nI 11) v w = bI (¬ v = 0 ∧ ¬ w = 0) from by unfold tgr; rw [if_neg (by decide), if_pos (by decide)]] at hH
    refine ⟨fun z => w_236_36 _ _ ?_, fun z => ⟨fun y => w_236_36 _ _ ?_, fun y => ?_⟩⟩
    · rw [bI_f (fun q => q.1 z)] at hH; exact hH
    · rw [bI_f (fun q => q.2 y)] at hH; exact hH
    · rw [bI_t ⟨z, y⟩] at hH; exact hH
theorem Rd_or {T : Nat → Nat} {n m : Nat} {A : Nat → Nat} {x cell hour : Nat} {e o : Nat} {nt : Ps} (hG : Gd n nt) (hr : Rd T n m A x cell hour e 236 o nt) : Rd T n m A x cell hour e 237 o (orP (tz T n) nt) := by
  have ho : ∀ t, Nat.beq t 10 = true → t < 100 ∧ t ≠ 12 ∧ t ≠ 1 := fun t h => by have := Nat.eq_of_beq_eq_true h; omega
  have hbad : ∀ (Q : Int32 → wm_M → Prop) v q μ, Bd q μ → Q v μ → wm_Wp e 237 5 [.ref 89, .int v, .null] μ (fun w ν => ∃ x, w = some (.int x) ∧ Q x ν) := fun Q v q μ hB hQ => w_237_5 _ _ _ (m_228b _ (Bd_n hB) ⟨fun _ => w_237_41 _ _ _ ⟨_, rfl, hQ⟩, fun q => absurd rfl q⟩)
  refine Rd_thn hG (Gl_lp (tz_ok T n) (fun t h => by have := Nat.eq_of_beq_eq_true h; omega) hG 120) hr (fun Q v μ => wm_Wp e 237 5 [.ref 89, .int v, .null] μ (fun w ν => ∃ x, w = some (.int x) ∧ Q x ν)) (fun μ Q h => v_237 _ _ h) hbad (fun Q v p μ hp hS h1 h0 => ?_)
  have n120 := hS.1.2.1
  refine loopR ho hG hr _ Q (fun v p μ hS hop hQ => ?_) (fun v q μ hB hQ => hbad Q v q μ hB hQ) (fun v p μ hS hop hsub => ?_) 120 v p μ (by omega) hS h1 h0
  · have h10 : ¬ tk T n p = 10 := fun q => hop (by rw [q]; rfl)
    exact w_237_5 _ _ _ (m_228 10 (by decide) _ (by decide +kernel) hS.2.2.1 hS.2.2.2.1 (fun q => absurd q h10) (fun _ => ⟨fun _ => w_237_41 _ _ _ ⟨_, rfl, hQ⟩, fun q => absurd rfl q⟩))
  · have ht : tk T n p = 10 := Nat.eq_of_beq_eq_true hop
    refine w_237_5 _ _ _ (m_228 10 (by decide) _ (by decide +kernel) hS.2.2.1 hS.2.2.2.1 (fun _ => ⟨fun q => absurd q (by decide), fun _ => St_nx hS (by omega) (fun ν hν hSm => (hsub ν hν hSm).mono (fun w κ hH => ?_))⟩) (fun q => absurd ht q))
    have hH : wm_Wp e 237 5 [.ref 89, .int (tgr (nI (tk T n p)) v w), .null] κ (fun w ν => ∃ x, w = some (.int x) ∧ Q x ν) := hH
    rw [ht, show tgr (nI 10) v w = bI (¬ v = 0 ∨ ¬ w = 0) from by unfold tgr; rw [if_pos (by decide)]] at hH
    refine ⟨fun z => ⟨fun y => w_237_36 _ _ ?_, fun y => w_237_32 _ _ ?_⟩, fun z => w_237_32 _ _ ?_⟩
    · rw [bI_f (fun q => q.elim (fun q => q z) (fun q => q y))] at hH; exact hH
    · rw [bI_t (Or.inr y)] at hH; exact hH
    · rw [bI_t (Or.inl z)] at hH; exact hH
