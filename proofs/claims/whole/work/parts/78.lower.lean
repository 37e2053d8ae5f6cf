/-! ===== class: lower, spread ===== -/
theorem c_110 {ℓ : Nat → Nat} {F : Nat → List Nat} (s t : Nat) (hs : s < 864) (ht : t < 100000) {μ : wm_M} {Q : wm_M → Prop} (hL : LabC ℓ μ) (hl : ∀ s, s < 864 → ℓ s ≠ 999 → ℓ s ≤ 120) (hF : LX (fun _ => True) ℓ F μ) (hk : ∀ ν G, LabC (btL ℓ s t) ν → LX (fun _ => True) (btL ℓ s t) G ν → (∀ u, u < t → G u = F u) → (∀ d, d < 70 ∨ 73 < d → ν.1 d = μ.1 d) → Q ν) : wm_OkV 0 110 [.ref 69, .int (nI s), .int (nI t)] μ Q := by
  have vs : vp_in (nI s) 864 := vp_in_nI hs (by decide)
  have cs : (nI s).toNatClampNeg = s := nI_clamp (by omega)
  have ct : (nI t).toNatClampNeg = t := nI_clamp (by omega)
  obtain ⟨l1, l2⟩ := hL s hs
  have no : ¬ (t ≤ 120 ∧ t < ℓ s) → wm_Wp 0 110 16 [.null, .null, .null] μ (fun w ν => w = none ∧ Q ν) := fun q => by
    have e : btL ℓ s t = ℓ := by unfold btL; exact if_neg q
    exact w_110_16 _ _ ⟨rfl, hk μ F (by rw [e]; exact hL) (by rw [e]; exact hF) (fun _ _ => rfl) (fun _ _ => rfl)⟩
  have put : t ≤ 120 → t < ℓ s → ∀ ν G, LX (fun a => a ≠ s) ℓ G ν → (∀ u, u < ℓ s → G u = F u) → (∀ d, d < 71 ∨ 73 < d → ν.1 d = μ.1 d) → wm_Wp 0 110 34 [.ref 69, .int (nI s), .int (nI t)] ν (fun w ν => w = none ∧ Q ν) := fun t1 t2 ν G hG hu hd => by
    have vt : vp_in (nI t) 121 := vp_in_nI (by omega) (by decide)
    have e : btL ℓ s t = uN ℓ s t := by unfold btL; exact if_pos ⟨t1, t2⟩
    obtain ⟨g1, g2, g3⟩ := hG t t1
    have hh : ν.1 73 t = hdL (G t) := Dl_hd g1
    have sG : s ∉ G t := fun q => ((g3 s).mp q).2.2 rfl
    have fin : ∀ κ : wm_M, κ.1 70 s = nI t → (∀ a, a ≠ s → κ.1 70 a = ν.1 70 a) → κ.1 71 s = hdL (G t) → (∀ a, a ≠ s → κ.1 71 a = ν.1 71 a) → κ.1 72 s = -1 → (∀ a M, G t = a :: M → κ.1 72 a = nI s) → (∀ a, a ≠ s → (∀ M, G t ≠ a :: M) → κ.1 72 a = ν.1 72 a) → κ.1 73 t = nI s → (∀ u, u ≠ t → κ.1 73 u = ν.1 73 u) → (∀ d, d < 70 ∨ 73 < d → κ.1 d = μ.1 d) → Q κ := fun κ a1 a2 b1 b2 c1 c2 c3 d1 d2 k => by
      refine hk κ (uL G t (s :: G t)) ?_ ?_ (fun u h => ?_) k
      · rw [e]
        intro a ha
        by_cases q : a = s
        · subst q
          rw [uN_eq]
          exact ⟨by omega, a1⟩
        · rw [uN_ne _ _ q, a2 a q, hd 70 (by decide)]
          exact hL a ha
      · rw [e]
        intro u hu'
        by_cases q : u = t
        · subst q
          rw [uL_eq]
          refine ⟨⟨d1, c1, ?_⟩, List.nodup_cons.mpr ⟨sG, g2⟩, fun a => ?_⟩
          · rw [b1, ← hh]
            have r := Dl_first (nI s) g2 g1 (bf' := κ.1 72) c2 (fun b hb hM => c3 b (fun q => sG (by rw [← q]; exact hb)) hM)
            exact Dl_congr _ (fun b hb => ⟨b2 b (fun q => sG (by rw [← q]; exact hb)), rfl⟩) r
          · rw [List.mem_cons, g3 a]
            constructor
            · rintro (r | ⟨r1, r2, r3⟩)
              · subst r; exact ⟨hs, uN_eq _ _ _, trivial⟩
              · exact ⟨r1, by rw [uN_ne _ _ r3]; exact r2, trivial⟩
            · rintro ⟨r1, r2, _⟩
              by_cases z : a = s
              · exact Or.inl z
              · rw [uN_ne _ _ z] at r2
                exact Or.inr ⟨r1, r2, z⟩
        · obtain ⟨j1, j2, j3⟩ := hG u hu'
          rw [uL_ne _ _ q]
          refine ⟨?_, j2, fun a => ?_⟩
          · rw [d2 u q]
            refine Dl_congr _ (fun a ha => ?_) j1
            have r := (j3 a).mp ha
            refine ⟨b2 a r.2.2, c3 a r.2.2 (fun M z => q ?_)⟩
            have := (g3 a).mp (by rw [z]; exact List.mem_cons_self)
            rw [← r.2.1]; exact this.2.1
          · rw [j3 a]
            constructor
            · rintro ⟨r1, r2, r3⟩
              exact ⟨r1, by rw [uN_ne _ _ r3]; exact r2, trivial⟩
            · rintro ⟨r1, r2, _⟩
              by_cases z : a = s
              · subst z
                rw [uN_eq] at r2
                exact absurd r2.symm q
              · rw [uN_ne _ _ z] at r2
                exact ⟨r1, r2, z⟩
      · rw [uL_ne _ _ (by omega)]
        exact hu u (by omega)
    have m2 : (wm_si (wm_si ν 70 s (nI t)) 72 s (-1)).1 73 t = hdL (G t) := by
      rw [si_ne _ _ _ (by decide), si_ne _ _ _ (by decide)]; exact hh
    have m3 : (wm_si (wm_si (wm_si ν 70 s (nI t)) 72 s (-1)) 71 s (hdL (G t))).1 73 t = hdL (G t) := by
      rw [si_ne _ _ _ (by decide)]; exact m2
    refine w_110_34 _ _ _ _ ?_
    rw [cs, ct, m2, m3]
    refine ⟨vs, vs, vt, vs, vt, fun z => w_110_82 _ _ _ _ ⟨vt, rfl, ?_⟩, fun z => ⟨vt, ?_⟩⟩
    · rw [ct]
      have en : G t = [] := by
        cases h : G t with
        | nil => rfl
        | cons a M =>
          rw [h] at z
          exact absurd z (nI_n1 ((g3 a).mp (by rw [h]; exact List.mem_cons_self)).1)
      refine fin _ ?_ (fun a q => ?_) ?_ (fun a q => ?_) ?_ (fun a M q => ?_) (fun a q _ => ?_) (si_same _ _ _ _) (fun u q => ?_) (fun d h => ?_)
      · rw [si_ne _ _ _ (by decide), si_ne _ _ _ (by decide), si_ne _ _ _ (by decide), si_same]
      · rw [si_ne _ _ _ (by decide), si_ne _ _ _ (by decide), si_ne _ _ _ (by decide), si_other _ _ q]
      · rw [si_ne _ _ _ (by decide), si_same]
      · rw [si_ne _ _ _ (by decide), si_other _ _ q, si_ne _ _ _ (by decide), si_ne _ _ _ (by decide)]
      · rw [si_ne _ _ _ (by decide), si_ne _ _ _ (by decide), si_same]
      · rw [en] at q; cases q
      · rw [si_ne _ _ _ (by decide), si_ne _ _ _ (by decide), si_other _ _ q, si_ne _ _ _ (by decide)]
      · rw [si_other _ _ q, si_ne _ _ _ (by decide), si_ne _ _ _ (by decide), si_ne _ _ _ (by decide)]
      · rw [si_ne _ _ _ (by omega), si_ne _ _ _ (by omega), si_ne _ _ _ (by omega), si_ne _ _ _ (by omega)]
        exact hd d (by omega)
    · obtain ⟨b, M, eG⟩ := hdL_in z
      have hb := (g3 b).mp (by rw [eG]; exact List.mem_cons_self)
      have ehd : hdL (G t) = nI b := by rw [eG]; rfl
      rw [ehd, nI_clamp (show b < 2 ^ 31 by omega)]
      refine ⟨vp_in_nI hb.1 (by decide), w_110_82 _ _ _ _ ⟨vt, rfl, ?_⟩⟩
      rw [ct]
      have sb : s ≠ b := Ne.symm hb.2.2
      refine fin _ ?_ (fun a q => ?_) ?_ (fun a q => ?_) ?_ (fun a M' q => ?_) (fun a q hM => ?_) (si_same _ _ _ _) (fun u q => ?_) (fun d h => ?_)
      · rw [si_ne _ _ _ (by decide), si_ne _ _ _ (by decide), si_ne _ _ _ (by decide), si_ne _ _ _ (by decide), si_same]
      · rw [si_ne _ _ _ (by decide), si_ne _ _ _ (by decide), si_ne _ _ _ (by decide), si_ne _ _ _ (by decide), si_other _ _ q]
      · rw [si_ne _ _ _ (by decide), si_ne _ _ _ (by decide), si_same, ehd]
      · rw [si_ne _ _ _ (by decide), si_ne _ _ _ (by decide), si_other _ _ q, si_ne _ _ _ (by decide), si_ne _ _ _ (by decide)]
      · rw [si_ne _ _ _ (by decide), si_other _ _ sb, si_ne _ _ _ (by decide), si_same]
      · rw [eG] at q
        injection q with q1 _
        subst q1
        rw [si_ne _ _ _ (by decide), si_same]
      · have ab : a ≠ b := fun r => hM M (by rw [r]; exact eG)
        rw [si_ne _ _ _ (by decide), si_other _ _ ab, si_ne _ _ _ (by decide), si_other _ _ q, si_ne _ _ _ (by decide)]
      · rw [si_other _ _ q, si_ne _ _ _ (by decide), si_ne _ _ _ (by decide), si_ne _ _ _ (by decide), si_ne _ _ _ (by decide)]
      · rw [si_ne _ _ _ (by omega), si_ne _ _ _ (by omega), si_ne _ _ _ (by omega), si_ne _ _ _ (by omega), si_ne _ _ _ (by omega)]
        exact hd d (by omega)
  refine v_110 _ _ _ _ ⟨fun z => no (fun r => ?_), fun z => ⟨vs, ?_⟩⟩
  · have := (nI_ltI (a := 120) (by decide) (by omega)).mp z
    omega
  have t1 : t ≤ 120 := Nat.le_of_not_lt (fun r => z ((nI_ltI (a := 120) (by decide) (by omega)).mpr r))
  rw [cs, l2]
  refine ⟨fun y => ?_, fun y => no (fun r => y ((nI_ltI (by omega) (by omega)).mpr r.2))⟩
  have t2 : t < ℓ s := (nI_ltI (by omega) (by omega)).mp y
  refine w_110_17 _ _ _ _ ⟨vs, ?_⟩
  rw [cs, l2]
  refine ⟨fun x => put t1 t2 μ F (fun u hu => ?_) (fun _ _ => rfl) (fun _ _ => rfl), fun x => ?_⟩
  · have x : ℓ s = 999 := (nI_eq (b := 999) (by omega) (by decide)).mp x
    obtain ⟨g1, g2, g3⟩ := hF u hu
    refine ⟨g1, g2, fun a => ?_⟩
    rw [g3 a]
    exact ⟨fun r => ⟨r.1, r.2.1, fun q => by subst q; have := r.2.1; omega⟩, fun r => ⟨r.1, r.2.1, trivial⟩⟩
  · have x : ℓ s ≠ 999 := fun q => x (by rw [q]; rfl)
    have h120 := hl s hs x
    refine c_111 s hs h120 hL hF (fun ν L k1 k2 => put t1 t2 ν _ k1 (fun u h => uL_ne _ _ (by omega)) k2)
/-- what spreading a state gives, e the soonest end of its step -/
def spL (A : Nat → Nat) (ch : Nat) (ℓ : Nat → Nat) (T p e : Nat) : Nat → Nat := if bsA (p / 24) (p / 3 % 8) = 36 then sailL A (turnL ℓ T (p / 24) (p / 3 % 8) (p % 3) 8) T ch (p / 24) (p / 3 % 8) (p % 3) (A 2040) else btL (sailL A (turnL ℓ T (p / 24) (p / 3 % 8) (p % 3) 8) T ch (p / 24) (p / 3 % 8) (p % 3) (A 2040)) (st_ (bsA (p / 24) (p / 3 % 8)) (p / 3 % 8) (p % 3)) e
theorem sp_rx {A ℓ : Nat → Nat} {w tab ch T p e : Nat} (b3 : A 2040 ≤ 3) (hp : p < 864) (hT : T ≤ 120) (hc0 : 0 < ch) (hx : p % 3 < A 2040) (he : IsEnd (fun hr => stF A w tab p hr) T e) : Rx (Cn A w tab ch T p T) ℓ (spL A ch ℓ T p e) ∧ ∀ s t, s < 864 → arcP (stF A w tab) (whA A) ch p T s t → t ≤ 120 → spL A ch ℓ T p e s ≤ t := by
  have hh : p / 3 % 8 < 8 := by omega
  obtain ⟨t1, t2⟩ := turn_rx (C := Cn A w tab ch T p T) (ℓ := ℓ) (T := T) (c := p / 24) (hd := p / 3 % 8) (x := p % 3) (fun h a b d => by
    obtain ⟨s1, s2, s3⟩ := sdec (p / 24) h (p % 3) a (by omega)
    have po := ap_pos h a (p / 3 % 8) hh b
    refine ⟨by unfold st_; omega, d, by omega, by rw [s1]; exact hx, Or.inl ⟨s3.symm, s1.symm, fun r => b ?_, by rw [s2]⟩⟩
    rw [← s2, ← r]) 8 (Nat.le_refl 8)
  obtain ⟨u1, u2⟩ := sail_rx (C := Cn A w tab ch T p T) (A := A) (ℓ := turnL ℓ T (p / 24) (p / 3 % 8) (p % 3) 8) (T := T) (ch := ch) (c := p / 24) (hd := p / 3 % 8) (x := p % 3) (m := A 2040) (fun y a b z d => by
    obtain ⟨s1, s2, s3⟩ := sdec (p / 24) (p / 3 % 8) y hh (by omega)
    refine ⟨by unfold st_; omega, d, by omega, by rw [s1]; exact a, Or.inr (Or.inl ⟨s3.symm, s2.symm, fun r => b ?_, by rw [s1]; exact whA_of a z, rfl⟩)⟩
    rw [← s1, ← r]) (A 2040) (Nat.le_refl _)
  have pu := st_un p
  have arcs : ∀ ℓ' : Nat → Nat, Rx (Cn A w tab ch T p T) (sailL A (turnL ℓ T (p / 24) (p / 3 % 8) (p % 3) 8) T ch (p / 24) (p / 3 % 8) (p % 3) (A 2040)) ℓ' → (bsA (p / 24) (p / 3 % 8) ≠ 36 → e ≤ 120 → ℓ' (st_ (bsA (p / 24) (p / 3 % 8)) (p / 3 % 8) (p % 3)) ≤ e) → Rx (Cn A w tab ch T p T) ℓ ℓ' ∧ ∀ s t, s < 864 → arcP (stF A w tab) (whA A) ch p T s t → t ≤ 120 → ℓ' s ≤ t := fun ℓ' v1 v2 => by
    refine ⟨(t1.tr u1).tr v1, fun s t hs a ht => ?_⟩
    have su := st_un s
    rcases a with ⟨a1, a2, a3, a4⟩ | ⟨a1, a2, a3, a4, a5⟩ | ⟨a1, a2, a3, b, b1, b2, b3, b4⟩
    · have ne : s / 3 % 8 ≠ p / 3 % 8 := fun z => a3 (by rw [← su, ← pu, z, a1, a2])
      have v := t2 (s / 3 % 8) (by omega) ne (by rw [← a4]; exact ht)
      have es : st_ (p / 24) (s / 3 % 8) (p % 3) = s := by rw [a1, a2, su]
      rw [es, ← a4] at v
      exact Nat.le_trans ((u1.tr v1) s).1 v
    · have ne : s % 3 ≠ p % 3 := fun z => a3 (by rw [← su, ← pu, z, a1, a2])
      obtain ⟨y1, y2⟩ := whA_to a4
      have v := u2 (s % 3) y1 ne y2 (by rw [← a5]; exact ht)
      have es : st_ (p / 24) (p / 3 % 8) (s % 3) = s := by rw [a1, a2, su]
      rw [es, ← a5] at v
      exact Nat.le_trans (v1 s).1 v
    · have e36 : bsA (p / 24) (p / 3 % 8) ≠ 36 := by rw [a1]; omega
      have le := he.2.1 b b1 b2 b3 he.1 (show b + stF A w tab p (hq b) ≤ 999 by omega)
      have le : e ≤ t := by rw [b4]; exact le
      have v := v2 e36 (by omega)
      rw [a1, a2, a3, su] at v
      omega
  unfold spL
  split
  · rename_i q
    exact arcs _ (Rx.rf _ _) (fun r => absurd q r)
  · rename_i q
    refine arcs _ (Rx.bt (fun t => ?_)) (fun _ r => bt_le r)
    have b36 := bsA_lt (p / 24) (p / 3 % 8)
    obtain ⟨s1, s2, s3⟩ := sdec (bsA (p / 24) (p / 3 % 8)) (p / 3 % 8) (p % 3) hh (by omega)
    obtain ⟨b, b1, b2, b3', b4⟩ := he.2.2 t
    have b3' : 0 < stF A w tab p (hq b) := b3'
    have b4 : e = b + stF A w tab p (hq b) := b4
    exact ⟨by unfold st_; omega, t, by omega, by rw [s1]; exact hx, Or.inr (Or.inr ⟨s3.symm, s2.symm, s1.symm, b, b1, b2, b3', b4⟩)⟩
