theorem Rd_cmpnot {T : Nat → Nat} {n m : Nat} {A : Nat → Nat} {x cell hour : Nat} {e o : Nat} (ho6 : o ≤ 6) {deep : Bool} (hd : deep = true ↔ o = 6) {sum N : Ps} (hGs : Gd n sum) (hGN : Gd n N) (hs : Rd T n m A x cell hour (e + 1) 234 o sum) (hN : deep = false → Rd T n m A x cell hour e 235 (o + 1) N) : Rd T n m A x cell hour (e + 1) 235 o (notP (tz T n) deep (cmpP (tz T n) sum) N) := by
  intro p μ Q hS h1 h0
  have hpn := hS.2.2.1.1
  have hZ := tz_ok T n
  refine v_235 _ _ (m_228 12 (by decide) _ (by decide +kernel) hS.2.2.1 hS.2.2.2.1 (fun e12 => ⟨fun q => absurd q (by decide), fun _ => m_230 ho6 hS (by omega) (fun o6 ν hB hSm => ⟨fun _ => ⟨_, rfl, ?_⟩, fun q => absurd rfl q⟩) (fun o6 ν hν hSm => ⟨fun q => absurd q (by decide), fun _ => w_235_19 _ _ ?_⟩)⟩) (fun n12 => ⟨fun _ => w_235_44 _ _ ?_, fun q => absurd rfl q⟩))
  · have dt : deep = true := hd.mpr o6
    have eP : notP (tz T n) deep (cmpP (tz T n) sum) N p [] = (false, p, []) := by
      unfold notP
      rw [if_neg (fun q => q e12), if_pos dt]
    exact h0 p 0 ν (by rw [eP]) (by rw [eP]) hB hSm
  · have df : deep = false := by
      cases deep with
      | false => rfl
      | true => exact absurd (hd.mp rfl) o6
    have eP : notP (tz T n) deep (cmpP (tz T n) sum) N p [] = thn N (wrt (wk 12)) (nx T n p) [] := by
      unfold notP
      rw [if_neg (fun q => q e12), if_neg (by rw [df]; decide)]; rfl
    obtain ⟨z1, z2⟩ := hZ.1 p hpn (show tk T n p ≠ 128 by omega)
    obtain ⟨ok, q', d', g1, g2, g3, g4⟩ := hGN (nx T n p) z2
    refine hN df (nx T n p) ν _ hν (fun q d v κ e hrun hK hSm2 => ?_) (fun q v κ e1 e2 hB hSm2 => ?_)
    · have e' := g1 []
      rw [e, List.nil_append] at e'
      obtain ⟨rfl, rfl, rfl⟩ : ok = true ∧ q' = q ∧ d' = d := by
        injection e' with a b
        injection b with b c
        exact ⟨a.symm, b.symm, c.symm⟩
      have full : notP (tz T n) deep (cmpP (tz T n) sum) N p [] = (true, q', d' ++ [wk 12]) := by
        rw [eP, thn_t g1]; rfl
      have eo : κ.1 89 11 = nI (o + 1) := hK.2.2.2.2
      have hK2 := St_set hK o
      rw [eo, show nI (o + 1) - (1 : Int32) = nI o from nI_pred o]
      have run : ∀ st, runC (enR A x cell hour) (d' ++ [wk 12]) st = bI (v = 0) :: st := fun st => by rw [runC_app, hrun, runC_1, stp_not]
      refine ⟨fun z => ⟨_, rfl, ?_⟩, fun z => w_235_42 _ _ ⟨_, rfl, ?_⟩⟩
      · have := h1 q' _ (bI (v = 0)) _ full run hK2 ((hSm.tr hSm2).si rfl)
        rw [bI_t z] at this; exact this
      · have := h1 q' _ (bI (v = 0)) _ full run hK2 ((hSm.tr hSm2).si rfl)
        rw [bI_f z] at this; exact this
    · have e' := g1 []
      rw [e'] at e1 e2
      have e1 : ok = false := e1
      subst e1
      have full : notP (tz T n) deep (cmpP (tz T n) sum) N p [] = (false, q', d') := by
        rw [eP, thn_f g1]; rfl
      have f1 := fun v => h0 q v (wm_si κ 89 11 (κ.1 89 11 - 1)) (by rw [full]) (by rw [full]; exact e2) (Bd_set hB _) ((hSm.tr hSm2).si rfl)
      exact ⟨fun z => ⟨_, rfl, f1 _⟩, fun z => w_235_42 _ _ ⟨_, rfl, f1 _⟩⟩
  · have eP : notP (tz T n) deep (cmpP (tz T n) sum) N p [] = cmpP (tz T n) sum p [] := by
      have b : ¬ (tz T n).1 p = 12 := n12
      unfold notP
      rw [if_pos b]
    rw [eP] at h1 h0
    obtain ⟨ok, q', d', g1, g2, g3, g4⟩ := hGs p hpn
    refine hs p μ _ hS (fun q d v ν e0 hrun hν hSm => ?_) (fun q v ν e1 e2 hB hSm => ?_)
    · have e' := g1 []
      rw [e0, List.nil_append] at e'
      obtain ⟨rfl, rfl, rfl⟩ : ok = true ∧ q' = q ∧ d' = d := by
        injection e' with a b
        injection b with b c
        exact ⟨a.symm, b.symm, c.symm⟩
      have eC : cmpP (tz T n) sum p [] = (if tk T n q' = 61 ∨ tk T n q' = 60 ∨ tk T n q' = 62 then thn sum (wrt (wk (tk T n q'))) (nx T n q') d' else (true, q', d')) := by
        unfold cmpP
        rw [thn_t g1, List.nil_append]; rfl
      have go : (tk T n q' = 61 ∨ tk T n q' = 60 ∨ tk T n q' = 62) → wm_Wp (e + 1) 235 78 [.ref 89, .int v, .null, .null, .null] ν (fun w ν => ∃ x, w = some (.int x) ∧ Q x ν) := fun ht => by
        have hm : tk T n q' ∈ sgn := by rcases ht with h | h | h <;> rw [h] <;> decide
        have hw := St_w hν rfl hm
        rw [if_pos ht] at eC
        obtain ⟨z1, z2⟩ := hZ.1 q' g3 (show tk T n q' ≠ 128 by omega)
        obtain ⟨ok2, q2, d2, k1, k2, k3, k4⟩ := hGs (nx T n q') z2
        refine w_235_78 _ _ _ (St_nx hν (by omega) (fun κ hK hSm2 => hs (nx T n q') κ _ hK (fun q3 d3 w ξ e3 hrun3 hX hSm3 => ?_) (fun q3 w ξ e3 e4 hB hSm3 => ?_)))
        · have e' := k1 []
          rw [e3, List.nil_append] at e'
          obtain ⟨rfl, rfl, rfl⟩ : ok2 = true ∧ q2 = q3 ∧ d2 = d3 := by
            injection e' with a b
            injection b with b c
            exact ⟨a.symm, b.symm, c.symm⟩
          have full : cmpP (tz T n) sum p [] = (true, q2, d' ++ d2 ++ [wk (tk T n q')]) := by
            rw [eC, thn_t k1]; rfl
          have run : ∀ st, runC (enR A x cell hour) (d' ++ d2 ++ [wk (tk T n q')]) st = tgr (nI (tk T n q')) v w :: st := fun st => by rw [runC_app, runC_app, hrun, hrun3, runC_1, stp_wk _ _ (by omega) (by omega) (by omega)]
          have F := h1 q2 _ _ ξ full run hX ((hSm.tr hSm2).tr hSm3)
          rw [hw]
          refine ⟨fun z => ?_, fun z => w_235_110 _ _ _ _ _ ⟨fun y => ?_, fun y => w_235_127 _ _ _ _ ?_⟩⟩
          · have z := (lc_ (tk T n q') 60 (by omega) (by decide)).mp z
            rw [z, show tgr (nI 60) v w = bI (v < w) from by unfold tgr; rw [if_neg (by decide), if_neg (by decide), if_neg (by decide), if_pos (by decide)]] at F
            refine ⟨fun u => w_235_137 _ _ ⟨_, rfl, ?_⟩, fun u => w_235_133 _ _ ⟨_, rfl, ?_⟩⟩
            · rw [bI_f (Int32.not_lt.mpr u)] at F; exact F
            · rw [bI_t (Int32.not_le.mp u)] at F; exact F
          · have y := (lc_ (tk T n q') 61 (by omega) (by decide)).mp y
            rw [y, show tgr (nI 61) v w = bI (v = w) from by unfold tgr; rw [if_neg (by decide), if_neg (by decide), if_pos (by decide)]] at F
            refine ⟨fun u => w_235_133 _ _ ⟨_, rfl, ?_⟩, fun u => w_235_137 _ _ ⟨_, rfl, ?_⟩⟩
            · rw [bI_t u] at F; exact F
            · rw [bI_f u] at F; exact F
          · have z : ¬ tk T n q' = 60 := fun r => z ((lc_ (tk T n q') 60 (by omega) (by decide)).mpr r)
            have y : ¬ tk T n q' = 61 := fun r => y ((lc_ (tk T n q') 61 (by omega) (by decide)).mpr r)
            rw [show tk T n q' = 62 by omega, show tgr (nI 62) v w = bI (w < v) from by unfold tgr; rw [if_neg (by decide), if_neg (by decide), if_neg (by decide), if_neg (by decide), if_pos (by decide)]] at F
            refine ⟨fun u => w_235_137 _ _ ⟨_, rfl, ?_⟩, fun u => w_235_133 _ _ ⟨_, rfl, ?_⟩⟩
            · rw [bI_f (Int32.not_lt.mpr u)] at F; exact F
            · rw [bI_t (Int32.not_le.mp u)] at F; exact F
        · have e' := k1 []
          rw [e'] at e3 e4
          have e3 : ok2 = false := e3
          subst e3
          have full : cmpP (tz T n) sum p [] = (false, q2, d' ++ d2) := by rw [eC, thn_f k1]
          have F := fun v => h0 q3 v ξ (by rw [full]) (by rw [full]; exact e4) hB ((hSm.tr hSm2).tr hSm3)
          have F1 := w_235_133 (e := e) ξ (fun w ν => ∃ x, w = some (.int x) ∧ Q x ν) ⟨_, rfl, F _⟩
          have F0 := w_235_137 (e := e) ξ (fun w ν => ∃ x, w = some (.int x) ∧ Q x ν) ⟨_, rfl, F _⟩
          exact ⟨fun _ => ⟨fun _ => F0, fun _ => F1⟩, fun _ => w_235_110 _ _ _ _ _ ⟨fun _ => ⟨fun _ => F1, fun _ => F0⟩, fun _ => w_235_127 _ _ _ _ ⟨fun _ => F0, fun _ => F1⟩⟩⟩
      refine m_229 60 (by decide) hν.1 hν.2.2.1 hν.2.2.2.1 (fun q => ⟨fun r => absurd r (by decide), fun _ => go (Or.inr (Or.inl q))⟩) (fun q1 => ⟨fun _ => m_229 61 (by decide) hν.1 hν.2.2.1 hν.2.2.2.1 (fun q => ⟨fun r => absurd r (by decide), fun _ => go (Or.inl q)⟩) (fun q2 => ⟨fun _ => m_229 62 (by decide) hν.1 hν.2.2.1 hν.2.2.2.1 (fun q => ⟨fun r => absurd r (by decide), fun _ => go (Or.inr (Or.inr q))⟩) (fun q3 => ⟨fun _ => ⟨_, rfl, ?_⟩, fun q => absurd rfl q⟩), fun q => absurd rfl q⟩), fun q => absurd rfl q⟩)
      rw [if_neg (by omega)] at eC
      exact h1 q' d' v ν eC hrun hν hSm
    · have e' := g1 []
      rw [e'] at e1 e2
      have e1 : ok = false := e1
      subst e1
      have full : cmpP (tz T n) sum p [] = (false, q', d') := by
        unfold cmpP
        rw [thn_f g1]; rfl
      exact m_229b _ (Bd_n hB) ⟨fun _ => m_229b _ (Bd_n hB) ⟨fun _ => m_229b _ (Bd_n hB) ⟨fun _ => ⟨_, rfl, h0 q v ν (by rw [full]) (by rw [full]; exact e2) hB hSm⟩, fun q => absurd rfl q⟩, fun q => absurd rfl q⟩, fun q => absurd rfl q⟩
theorem Rd_one {T : Nat → Nat} {n m : Nat} {A : Nat → Nat} {x cell hour : Nat} (hh : hour < 12) {e o : Nat} (ho6 : o ≤ 6) {deep : Bool} (hd : deep = true ↔ o = 6) {E O : Ps} (hGE : Gd n E) (hGO : Gd n O) (hE : deep = false → Rd T n m A x cell hour e 237 (o + 1) E) (hO : deep = false → Rd T n m A x cell hour e 232 (o + 1) O) : Rd T n m A x cell hour (e + 1) 232 o (oneP (tz T n) deep E O) := by
  intro p μ Q hS h1 h0
  have hpn := hS.2.2.1.1
  have hZ := tz_ok T n
  have dtf : deep = true ∨ deep = false := by cases deep <;> simp
  have deepfail : o = 6 → (tk T n p = 45 ∨ tk T n p = 40) → oneP (tz T n) deep E O p [] = (false, p, []) := fun o6 ht => by
    have a1 : ¬ (tz T n).1 p = 129 := by show ¬ tk T n p = 129; omega
    have a2 : ¬ (3 ≤ (tz T n).1 p ∧ (tz T n).1 p ≤ 8) := by show ¬ (3 ≤ tk T n p ∧ tk T n p ≤ 8); omega
    unfold oneP
    rw [if_neg a1, if_neg a2, if_pos (Or.inl (hd.mpr o6))]
  have notdeep : o ≠ 6 → deep = false := fun o6 => by
    rcases dtf with h | h
    · exact absurd (hd.mp h) o6
    · exact h
  refine v_232 _ _ (m_229 45 (by decide) hS.1 hS.2.2.1 hS.2.2.2.1 (fun e45 => ⟨fun q => absurd q (by decide), fun _ => m_230 ho6 hS (by omega) (fun o6 ν hB hSm => ⟨fun _ => w_232_161 _ _ _ ⟨_, rfl, ?_⟩, fun q => absurd rfl q⟩) (fun o6 ν hν hSm => ⟨fun q => absurd q (by decide), fun _ => ?_⟩)⟩) (fun n45 => ⟨fun _ => w_232_37 _ _ _ (m_229 40 (by decide) hS.1 hS.2.2.1 hS.2.2.2.1 (fun e40 => ⟨fun q => absurd q (by decide), fun _ => m_230 ho6 hS (by omega) (fun o6 ν hB hSm => ⟨fun _ => w_232_161 _ _ _ ⟨_, rfl, ?_⟩, fun q => absurd rfl q⟩) (fun o6 ν hν hSm => ⟨fun q => absurd q (by decide), fun _ => ?_⟩)⟩) (fun n40 => ⟨fun _ => w_232_95 _ _ _ ?_, fun q => absurd rfl q⟩)), fun q => absurd rfl q⟩))
  · have eP := deepfail o6 (Or.inl e45)
    exact h0 p 0 ν (by rw [eP]) (by rw [eP]) hB hSm
  · have df := notdeep o6
    have a1 : ¬ (tz T n).1 p = 129 := by show ¬ tk T n p = 129; omega
    have a2 : ¬ (3 ≤ (tz T n).1 p ∧ (tz T n).1 p ≤ 8) := by show ¬ (3 ≤ tk T n p ∧ tk T n p ≤ 8); omega
    have a3 : ¬ (deep = true ∨ ((tz T n).1 p ≠ 45 ∧ (tz T n).1 p ≠ 40)) := fun q => q.elim (fun q => by rw [df] at q; cases q) (fun q => q.1 e45)
    have a4 : (tz T n).1 p = 45 := e45
    have eP : oneP (tz T n) deep E O p [] = thn O (wrt (-(nI 101))) (nx T n p) [] := by
      unfold oneP
      rw [if_neg a1, if_neg a2, if_neg a3, if_pos a4]; rfl
    obtain ⟨z1, z2⟩ := hZ.1 p hpn (show tk T n p ≠ 128 by omega)
    obtain ⟨ok, q', d', g1, g2, g3, g4⟩ := hGO (nx T n p) z2
    refine hO df (nx T n p) ν _ hν (fun q d v κ e hrun hK hSm2 => w_232_161 _ _ _ ⟨_, rfl, ?_⟩) (fun q v κ e1 e2 hB hSm2 => w_232_161 _ _ _ ⟨_, rfl, ?_⟩)
    · have e' := g1 []
      rw [e, List.nil_append] at e'
      obtain ⟨rfl, rfl, rfl⟩ : ok = true ∧ q' = q ∧ d' = d := by
        injection e' with a b
        injection b with b c
        exact ⟨a.symm, b.symm, c.symm⟩
      rw [show κ.1 89 11 = nI (o + 1) from hK.2.2.2.2, show nI (o + 1) - (1 : Int32) = nI o from nI_pred o]
      exact h1 q' (d' ++ [-(nI 101)]) (-v) _ (by rw [eP, thn_t g1]; rfl) (fun st => by rw [runC_app, hrun, runC_1, stp_min]) (St_set hK o) ((hSm.tr hSm2).si rfl)
    · have e' := g1 []
      rw [e'] at e1 e2
      have e1 : ok = false := e1
      subst e1
      have full : oneP (tz T n) deep E O p [] = (false, q', d') := by rw [eP, thn_f g1]; rfl
      exact h0 q _ _ (by rw [full]) (by rw [full]; exact e2) (Bd_set hB _) ((hSm.tr hSm2).si rfl)
  · have eP := deepfail o6 (Or.inr e40)
    exact h0 p 0 ν (by rw [eP]) (by rw [eP]) hB hSm
  · have df := notdeep o6
    have a1 : ¬ (tz T n).1 p = 129 := by show ¬ tk T n p = 129; omega
    have a2 : ¬ (3 ≤ (tz T n).1 p ∧ (tz T n).1 p ≤ 8) := by show ¬ (3 ≤ tk T n p ∧ tk T n p ≤ 8); omega
    have a3 : ¬ (deep = true ∨ ((tz T n).1 p ≠ 45 ∧ (tz T n).1 p ≠ 40)) := fun q => q.elim (fun q => by rw [df] at q; cases q) (fun q => q.2 e40)
    have a4 : ¬ (tz T n).1 p = 45 := n45
    have eP : oneP (tz T n) deep E O p [] = thn E (fun q c => if tk T n q = 41 then (true, nx T n q, c) else (false, q, c)) (nx T n p) [] := by
      unfold oneP
      rw [if_neg a1, if_neg a2, if_neg a3, if_neg a4]; rfl
    obtain ⟨z1, z2⟩ := hZ.1 p hpn (show tk T n p ≠ 128 by omega)
    obtain ⟨ok, q', d', g1, g2, g3, g4⟩ := hGE (nx T n p) z2
    refine hE df (nx T n p) ν _ hν (fun q d v κ e hrun hK hSm2 => ?_) (fun q v κ e1 e2 hB hSm2 => ?_)
    · have e' := g1 []
      rw [e, List.nil_append] at e'
      obtain ⟨rfl, rfl, rfl⟩ : ok = true ∧ q' = q ∧ d' = d := by
        injection e' with a b
        injection b with b c
        exact ⟨a.symm, b.symm, c.symm⟩
      have eQ : oneP (tz T n) deep E O p [] = (if tk T n q' = 41 then (true, nx T n q', d') else (false, q', d')) := by rw [eP, thn_t g1]; rfl
      refine m_229 41 (by decide) hK.1 hK.2.2.1 hK.2.2.2.1 (fun e41 => ⟨fun r => absurd r (by decide), fun _ => w_232_71 _ _ _ ?_⟩) (fun n41 => ⟨fun _ => m_227 hK.2.2.1 hK.2.2.2.1 (fun ξ hB hSm3 => w_232_71 _ _ _ ⟨fun r => absurd r (Bd_n (Bd_set hB _)), fun _ => w_232_161 _ _ _ ⟨_, rfl, ?_⟩⟩), fun r => absurd rfl r⟩)
      · rw [if_pos e41] at eQ
        rw [show κ.1 89 11 = nI (o + 1) from hK.2.2.2.2, show nI (o + 1) - (1 : Int32) = nI o from nI_pred o]
        have hK2 := St_set hK o
        refine ⟨fun _ => St_nx hK2 (by omega) (fun ξ hX hSm3 => w_232_161 _ _ _ ⟨_, rfl, ?_⟩), fun r => absurd hK2.2.2.2.1 r⟩
        exact h1 _ d' v ξ eQ hrun hX (((hSm.tr hSm2).si rfl).tr hSm3)
      · rw [if_neg n41] at eQ
        exact h0 q' _ _ (by rw [eQ]) (by rw [eQ]) (Bd_set hB _) (((hSm.tr hSm2).tr hSm3).si rfl)
    · have e' := g1 []
      rw [e'] at e1 e2
      have e1 : ok = false := e1
      subst e1
      have full : oneP (tz T n) deep E O p [] = (false, q', d') := by rw [eP, thn_f g1]; rfl
      refine m_229b _ (Bd_n hB) ⟨fun _ => m_227b (Bd_n hB) (w_232_71 _ _ _ ⟨fun r => absurd r (Bd_n (Bd_set hB _)), fun _ => w_232_161 _ _ _ ⟨_, rfl, ?_⟩⟩), fun r => absurd rfl r⟩
      exact h0 q _ _ (by rw [full]) (by rw [full]; exact e2) (Bd_set hB _) ((hSm.tr hSm2).si rfl)
  · have bad0 := hS.2.2.2.1
    have fl : ¬ (3 ≤ tk T n p ∧ tk T n p ≤ 8) → tk T n p ≠ 129 → oneP (tz T n) deep E O p [] = (false, p, []) := fun a2 a1 => by
      have b1 : ¬ (tz T n).1 p = 129 := a1
      have b2 : ¬ (3 ≤ (tz T n).1 p ∧ (tz T n).1 p ≤ 8) := a2
      unfold oneP
      rw [if_neg b1, if_neg b2, if_pos (Or.inr ⟨n45, n40⟩)]
    rcases KD_tk hS.2.2.1.2.2.2 with ⟨t, k⟩ | ⟨t, k1, k2, k3, k⟩ | ⟨t, k, w⟩ | ⟨t, k, k1, k2⟩ | ⟨t, k⟩
    · have eP := fl (by omega) (by omega)
      refine ⟨fun _ => ⟨fun r => absurd (t.symm.trans r) (by decide), fun _ => w_232_123 _ _ _ ⟨fun _ => ⟨fun r => absurd (t.symm.trans r) (by decide), fun _ => w_232_157 _ _ _ (m_227 hS.2.2.1 bad0 (fun ν hB hSm => w_232_161 _ _ _ ⟨_, rfl, h0 p _ ν (by rw [eP]) (by rw [eP]) hB hSm⟩))⟩, fun r => absurd bad0 r⟩⟩, fun r => absurd bad0 r⟩
    · refine ⟨fun _ => ⟨fun r => absurd (t.symm.trans r) (by decide), fun _ => w_232_123 _ _ _ ⟨fun _ => ⟨fun _ => m_231 hS hh (fun l3 l8 => ⟨fun _ => St_nx hS (by omega) (fun ν hν hSm => w_232_161 _ _ _ ⟨_, rfl, ?_⟩), fun r => absurd bad0 r⟩) (fun nl ν hB hSm => ⟨fun r => absurd r (Bd_n hB), fun _ => w_232_161 _ _ _ ⟨_, rfl, ?_⟩⟩), fun r => absurd t r⟩, fun r => absurd bad0 r⟩⟩, fun r => absurd bad0 r⟩
      · have b1 : ¬ (tz T n).1 p = 129 := by show ¬ tk T n p = 129; omega
        have b2 : 3 ≤ (tz T n).1 p ∧ (tz T n).1 p ≤ 8 := ⟨l3, l8⟩
        refine h1 (nx T n p) [-(nI (1 + (tk T n p - 3)))] _ ν ?_ (fun st => by rw [runC_1, stp_name _ _ (by omega)]) hν hSm
        unfold oneP
        rw [if_neg b1, if_pos b2]; rfl
      · have eP := fl nl (by omega)
        exact h0 p _ ν (by rw [eP]) (by rw [eP]) hB hSm
    · have hv := hZ.2 p (show (tz T n).1 p = 129 from k)
      have hv : nv T n p < 100000 := hv
      refine ⟨fun _ => ⟨fun _ => St_nx hS (by omega) (fun ν hν hSm => w_232_161 _ _ _ ⟨_, rfl, ?_⟩), fun r => absurd t r⟩, fun r => absurd bad0 r⟩
      rw [w, lN_i]
      have b1 : (tz T n).1 p = 129 := k
      refine h1 (nx T n p) [nI (nv T n p)] _ ν ?_ (fun st => by rw [runC_1, stp_num _ _ (by omega)]) hν hSm
      unfold oneP
      rw [if_pos b1]; rfl
    · have rr := sgn_rng _ k1
      have eP := fl (by omega) (by omega)
      refine ⟨fun _ => ⟨fun r => absurd (t.symm.trans r) (by decide), fun _ => w_232_123 _ _ _ ⟨fun _ => ⟨fun r => absurd (t.symm.trans r) (by decide), fun _ => w_232_157 _ _ _ (m_227 hS.2.2.1 bad0 (fun ν hB hSm => w_232_161 _ _ _ ⟨_, rfl, h0 p _ ν (by rw [eP]) (by rw [eP]) hB hSm⟩))⟩, fun r => absurd bad0 r⟩⟩, fun r => absurd bad0 r⟩
    · have eP := fl (by omega) (by omega)
      refine ⟨fun _ => ⟨fun r => absurd (t.symm.trans r) (by decide), fun _ => w_232_123 _ _ _ ⟨fun _ => ⟨fun r => absurd (t.symm.trans r) (by decide), fun _ => w_232_157 _ _ _ (m_227 hS.2.2.1 bad0 (fun ν hB hSm => w_232_161 _ _ _ ⟨_, rfl, h0 p _ ν (by rw [eP]) (by rw [eP]) hB hSm⟩))⟩, fun r => absurd bad0 r⟩⟩, fun r => absurd bad0 r⟩
/-- all readers, by how much may still be opened -/
theorem Rd_mk {T : Nat → Nat} {n m : Nat} {A : Nat → Nat} {x cell hour : Nat} (hh : hour < 12) {e o : Nat} (ho6 : o ≤ 6) {deep : Bool} (hd : deep = true ↔ o = 6) {O N E : Ps} (hGO : Gd n O) (hGN : Gd n N) (hGE : Gd n E) (hO : deep = false → Rd T n m A x cell hour e 232 (o + 1) O) (hN : deep = false → Rd T n m A x cell hour e 235 (o + 1) N) (hE : deep = false → Rd T n m A x cell hour e 237 (o + 1) E) : Rd T n m A x cell hour (e + 1) 232 o (mkO (tz T n) deep O N E).1 ∧ Rd T n m A x cell hour (e + 1) 235 o (mkO (tz T n) deep O N E).2.1 ∧ Rd T n m A x cell hour (e + 1) 237 o (mkO (tz T n) deep O N E).2.2 := by
  have hZ := tz_ok T n
  have g := Gd_mk hZ deep hGO hGN hGE
  have gone := Gd_one hZ deep hGE hGO
  have gterm := Gd_thn gone (Gl_lp hZ (ops := fun t => Nat.beq t 42 || Nat.beq t 47 || Nat.beq t 37) (fun t h => by have := op_mul h; omega) gone 120)
  have gsum := Gd_thn gterm (Gl_lp hZ (ops := fun t => Nat.beq t 43 || Nat.beq t 45) (fun t h => by have := op_add h; omega) gterm 120)
  have gnot : Gd n (mkO (tz T n) deep O N E).2.1 := g.2.1
  have gand := Gd_thn gnot (Gl_lp hZ (ops := fun t => Nat.beq t 11) (fun t h => by have := Nat.eq_of_beq_eq_true h; omega) gnot 120)
  have r1 := Rd_one (T := T) (n := n) (m := m) (A := A) (x := x) (cell := cell) hh ho6 hd hGE hGO hE hO
  have r2 := Rd_term gone r1
  have r3 := Rd_sum gterm r2
  have r4 := Rd_cmpnot ho6 hd gsum hGN r3 hN
  have r5 := Rd_and gnot r4
  have r6 := Rd_or gand r5
  exact ⟨r1, r4, r6⟩
theorem Rd_ps {T : Nat → Nat} {n m : Nat} {A : Nat → Nat} {x cell hour : Nat} (hh : hour < 12) : ∀ d, d ≤ 6 → Rd T n m A x cell hour (d + 1) 232 (6 - d) (PS (tz T n) d).1 ∧ Rd T n m A x cell hour (d + 1) 235 (6 - d) (PS (tz T n) d).2.1 ∧ Rd T n m A x cell hour (d + 1) 237 (6 - d) (PS (tz T n) d).2.2
  | 0, _ => Rd_mk hh (e := 0) (o := 6) (by decide) (by decide) Gd_no Gd_no Gd_no (fun h => by cases h) (fun h => by cases h) (fun h => by cases h)
  | d + 1, h => by
    have ih := Rd_ps (T := T) (n := n) (m := m) (A := A) (x := x) (cell := cell) hh d (by omega)
    have g := Gd_ps (tz_ok T n) d
    have e : 6 - (d + 1) + 1 = 6 - d := by omega
    exact Rd_mk hh (e := d + 1) (o := 6 - (d + 1)) (by omega) ⟨fun q => (by cases q), fun q => (by omega)⟩ g.1 g.2.1 g.2.2 (fun _ => by rw [e]; exact ih.1) (fun _ => by rw [e]; exact ih.2.1) (fun _ => by rw [e]; exact ih.2.2)
