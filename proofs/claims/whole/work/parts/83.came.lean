/-! ===== class: canEndAt, cameFrom ===== -/
theorem sb_lt {a b t : Nat} (ha : a < 2 ^ 30) (hb : b < 2 ^ 30) (ht : t < 2 ^ 30) : nI a - nI b < nI t ↔ a < b + t := by
  rw [Int32.lt_iff_toInt_lt, pk_sub_toInt ha hb, nI_toInt (by omega)]
  omega
theorem c_25 {m : Nat} {A : Nat → Nat} (w tab c h x t e : Nat) (hw : w < 7) (hc : c < 36) (hh : h < 8) (hx : x < A 2040) (he : e ≤ 120) (hte : t < e) {μ : wm_M} {Q : Int32 → wm_M → Prop} (hC : Chd m A w tab μ) (h1 : ExE (fun hr => stA A w tab c h x hr) t e → Q 1 μ) (h0 : ¬ ExE (fun hr => stA A w tab c h x hr) t e → Q 0 μ) : wm_OkI 0 25 [.ref 62, .int (nI c), .int (nI h), .int (nI x), .int (nI t), .int (nI e)] μ Q := by
  obtain ⟨g1, g2, g3, g4⟩ := hC
  have lp : ∀ j hr, hr + j = 12 → hq t ≤ hr → (∀ b, t ≤ b → b < 120 → hq b < hr → 0 < stA A w tab c h x (hq b) → e ≠ b + stA A w tab c h x (hq b)) → wm_Wp 0 25 7 [.ref 62, .int (nI c), .int (nI h), .int (nI x), .int (nI t), .int (nI e), .int (nI hr), .null, .null] μ (fun w κ => ∃ x, w = some (.int x) ∧ Q x κ) := by
    intro j
    induction j with
    | zero =>
      intro hr hj h0' hn
      have : hr = 12 := by omega
      subst this
      refine w_25_7 _ _ _ _ _ _ _ _ ⟨fun _ => w_25_62 _ _ ⟨z01, _, rfl, h0 (fun ⟨b, b1, b2, b3, b4⟩ => hn b b1 b2 (hq_lt b) b3 b4)⟩, fun q => absurd (nI_le (Nat.le_refl 12) (by decide)) q⟩
    | succ j ih =>
      intro hr hj h0' hn
      have hr12 : hr < 12 := by omega
      have sl := stA_le A w tab c h x hr
      have nx : (∀ b, t ≤ b → b < 120 → hq b = hr → 0 < stA A w tab c h x (hq b) → e ≠ b + stA A w tab c h x (hq b)) → wm_Wp 0 25 56 [.ref 62, .int (nI c), .int (nI h), .int (nI x), .int (nI t), .int (nI e), .int (nI hr), .null, .null] μ (fun w κ => ∃ x, w = some (.int x) ∧ Q x κ) := fun hno => by
        refine w_25_56 _ _ _ _ _ _ _ _ ?_
        rw [nI_1]
        refine ih (hr + 1) (by omega) (by omega) (fun b b1 b2 b3 b4 => ?_)
        by_cases z : hq b = hr
        · exact hno b b1 b2 z b4
        · exact hn b b1 b2 (by omega) b4
      refine w_25_7 _ _ _ _ _ _ _ _ ⟨fun q => absurd q (nI_ge (a := hr) (b := 12) (by omega) (by decide)), fun _ => c_22 w tab c h x hr hw hc hh hx hr12 g1 g2 g3 g4 ?_⟩
      generalize hs : stA A w tab c h x hr = k at *
      refine ⟨fun z => nx (fun b b1 b2 b3 b4 => ?_), fun z => ⟨fun y => nx (fun b b1 b2 b3 b4 b5 => ?_), fun y => ?_⟩⟩
      · have z := (nI_leI (b := 0) (by omega) (by decide)).mp z
        rw [b3, hs] at b4; omega
      · rw [b3, hs] at b5
        have y := (sb_lt (by omega) (by omega) (by omega)).mp y
        omega
      · have z : 0 < k := Nat.lt_of_not_le (fun r => z ((nI_leI (b := 0) (by omega) (by decide)).mpr r))
        have y : ¬ e < k + t := fun r => y ((sb_lt (by omega) (by omega) (by omega)).mpr r)
        rw [pk_sub (by omega)]
        have hl := hq_lt (e - k)
        refine s_180 (e - k) (by omega) ⟨fun v => ⟨o01, _, rfl, h1 ⟨e - k, by omega, by omega, ?_, ?_⟩⟩, fun v => nx (fun b b1 b2 b3 b4 b5 => ?_)⟩
        · have v := (nI_eq (by omega) (by omega)).mp v
          show 0 < stA A w tab c h x (hq (e - k))
          rw [v, hs]; exact z
        · have v := (nI_eq (by omega) (by omega)).mp v
          show e = e - k + stA A w tab c h x (hq (e - k))
          rw [v, hs]; omega
        · rw [b3, hs] at b5
          have : b = e - k := by omega
          rw [this] at b3
          exact v (by rw [b3])
  exact v_25 _ _ _ _ _ _ _ (s_180 t (by omega) (lp (12 - hq t) (hq t) (by have := hq_lt t; omega) (Nat.le_refl _) (fun b a1 a2 a3 => absurd (hq_mono a1) (by omega))))
/-- the least of those looked at so far -/
def Mn (P S : Nat → Prop) (m : Nat) : Prop := (m = 864 ∨ (m < 864 ∧ P m)) ∧ ∀ p, p < 864 → S p → P p → m ≤ p
theorem Mn_min {P S S' : Nat → Prop} {m p : Nat} (h : Mn P S m) (hp : p < 864) (hP : P p) (hS : ∀ q, q < 864 → S' q → P q → S q ∨ q = p) : Mn P S' (if p < m then p else m) := by
  obtain ⟨h1, h2⟩ := h
  refine ⟨?_, fun q hq s z => ?_⟩
  · split
    · exact Or.inr ⟨hp, hP⟩
    · exact h1
  · rcases hS q hq s z with r | r
    · have := h2 q hq r z
      split <;> omega
    · split <;> omega
theorem Mn_no {P S S' : Nat → Prop} {m : Nat} (h : Mn P S m) (hS : ∀ q, q < 864 → S' q → P q → S q) : Mn P S' m := ⟨h.1, fun q hq s z => h.2 q hq (hS q hq s z) z⟩
theorem Mn_I {p m : Nat} (hp : p < 864) (hm : m ≤ 864) : (if nI p < nI m then nI p else nI m) = nI (if p < m then p else m) := by
  by_cases q : p < m
  · rw [if_pos q, if_pos ((nI_ltI (by omega) (by omega)).mpr q)]
  · rw [if_neg q, if_neg (fun r => q ((nI_ltI (by omega) (by omega)).mp r))]
theorem Mn_le {P S : Nat → Prop} {m : Nat} (h : Mn P S m) : m ≤ 864 := by
  rcases h.1 with q | q
  · omega
  · omega
def ExP (P : Nat → Prop) : Prop := ∃ p, p < 864 ∧ P p
theorem c_114 {m : Nat} {A : Nat → Nat} {ℓ : Nat → Nat} (w tab ch s : Nat) (hw : w < 7) (hs : s < 864) (hc0 : 0 < ch) (hch : ch < 10000) (hx : s % 3 < A 2040) (hl : ℓ s ≤ 120) {μ : wm_M} {Q : Int32 → wm_M → Prop} (hC : Chd m A w tab μ) (hL : LabC ℓ μ) (h7 : μ.1 69 7 = nI ch) (hex : ExP (Fr (stF A w tab) (whA A) ch ℓ s)) (hk : ∀ p, p < 864 → Fr (stF A w tab) (whA A) ch ℓ s p → (∀ q, q < 864 → Fr (stF A w tab) (whA A) ch ℓ s q → p ≤ q) → Q (nI p) μ) : wm_OkI 0 114 [.ref 69, .int (nI s)] μ Q := by
  have b3 := hC.1.1.sails
  have e3 : nI s - nI s / (3 : Int32) * (3 : Int32) = nI (s % 3) := pk_rem (d := 3) (by omega) (by decide) (by decide)
  have e24 : nI s / (24 : Int32) = nI (s / 24) := pk_div (d := 24) (by omega) (by decide) (by decide)
  have d3 : nI s / (3 : Int32) = nI (s / 3) := pk_div (d := 3) (by omega) (by decide) (by decide)
  have e8 : nI (s / 3) - nI (s / 3) / (8 : Int32) * (8 : Int32) = nI (s / 3 % 8) := pk_rem (d := 8) (by omega) (by decide) (by decide)
  have hc : s / 24 < 36 := by omega
  have hh : s / 3 % 8 < 8 := by omega
  have hx3 : s % 3 < 3 := by omega
  have vs : vp_in (nI s) 864 := vp_in_nI hs (by decide)
  have cs : (nI s).toNatClampNeg = s := nI_clamp (by omega)
  have ls := (hL s hs).2
  have su := st_un s
  generalize hP : Fr (stF A w tab) (whA A) ch ℓ s = P at hex hk
  have fin : ∀ x, Mn P (fun _ => True) x → wm_Wp 0 114 240 [.null, .null, .null, .null, .null, .int (nI x), .null, .null] μ (fun w κ => ∃ x, w = some (.int x) ∧ Q x κ) := fun x hM => by
    obtain ⟨p, hp, fp⟩ := hex
    have xp := hM.2 p hp trivial fp
    refine w_114_240 _ _ _ ⟨fun q => absurd ((nI_eq (b := 864) (by omega) (by decide)).mp q) (by omega), fun _ => w_114_252 _ _ _ ⟨_, rfl, ?_⟩⟩
    rcases hM.1 with q | q
    · omega
    · exact hk x q.1 q.2 (fun r hr z => hM.2 r hr trivial z)
  have step : ∀ x, Mn P (fun p => (p / 24 = s / 24 ∧ p % 3 = s % 3) ∨ (p / 24 = s / 24 ∧ p / 3 % 8 = s / 3 % 8)) x → wm_Wp 0 114 160 [.ref 69, .int (nI s), .int (nI (s % 3)), .int (nI (s / 3 % 8)), .int (nI (s / 24)), .int (nI x), .null, .null] μ (fun w κ => ∃ x, w = some (.int x) ∧ Q x κ) := fun x hM => by
    have inv := bs_inv (s / 24) hc (s / 3 % 8) hh
    have h48 : (s / 3 % 8 + 4) % 8 < 8 := by omega
    have b36 := bsA_lt (s / 24) ((s / 3 % 8 + 4) % 8)
    have xl := Mn_le hM
    refine w_114_160 _ _ _ _ _ _ _ ⟨by decide, ?_⟩
    rw [show nI (s / 3 % 8) + (4 : Int32) = nI (s / 3 % 8 + 4) from nI_add _ 4, show nI (s / 3 % 8 + 4) - nI (s / 3 % 8 + 4) / (8 : Int32) * (8 : Int32) = nI ((s / 3 % 8 + 4) % 8) from pk_rem (d := 8) (by omega) (by decide) (by decide)]
    refine c_182 _ _ hc h48 ?_
    generalize hb : bsA (s / 24) ((s / 3 % 8 + 4) % 8) = b at *
    have cls : ∀ q, q < 864 → P q → ((q / 24 = s / 24 ∧ q % 3 = s % 3) ∨ (q / 24 = s / 24 ∧ q / 3 % 8 = s / 3 % 8)) ∨ (b ≠ 36 ∧ q = st_ b (s / 3 % 8) (s % 3)) := fun q hq z => by
      rw [← hP] at z
      rcases fr_cls z with c | c | c
      · exact Or.inl (Or.inl ⟨c.1, c.2.1⟩)
      · exact Or.inl (Or.inr ⟨c.1, c.2.1⟩)
      · have e := (inv (q / 24) (by omega)).mp (by rw [← c.2.1]; exact c.1)
        have e' := e
        refine Or.inr ⟨by omega, ?_⟩
        rw [← st_un q, ← e', c.2.1, c.2.2]
    unfold bsI
    rw [hb]
    by_cases e : b = 36
    · rw [if_pos e]
      refine ⟨fun _ => fin x (Mn_no hM (fun q hq _ z => (cls q hq z).elim id (fun r => absurd e r.1))), fun q => absurd rfl q⟩
    · rw [if_neg e]
      have hb36 : b < 36 := by omega
      obtain ⟨s1, s2, s3⟩ := sdec b (s / 3 % 8) (s % 3) hh hx3
      have ho : st_ b (s / 3 % 8) (s % 3) < 864 := by unfold st_; omega
      refine ⟨fun q => absurd q (nI_n1 (by omega)), fun _ => s_183 _ _ _ ?_⟩
      have arc : bsA (st_ b (s / 3 % 8) (s % 3) / 24) (st_ b (s / 3 % 8) (s % 3) / 3 % 8) = s / 24 := by
        rw [s3, s2]
        exact (inv b hb36).mpr rfl
      have fs := fr_step (f := stF A w tab) (wh := whA A) (ch := ch) (L := ℓ) hs ho arc s2 s1
      have lo := hL _ ho
      have no : ¬ ExE (stF A w tab (st_ b (s / 3 % 8) (s % 3))) (ℓ (st_ b (s / 3 % 8) (s % 3))) (ℓ s) → wm_Wp 0 114 240 [.null, .null, .null, .null, .null, .int (nI x), .null, .null] μ (fun w κ => ∃ x, w = some (.int x) ∧ Q x κ) := fun q => fin x (Mn_no hM (fun r hr _ z => (cls r hr z).elim id (fun y => by
        rw [y.2, ← hP] at z
        exact absurd (fs.mp z) q)))
      rw [nI_clamp (show st_ b (s / 3 % 8) (s % 3) < 2 ^ 31 by omega), cs, ls, lo.2]
      have vo : vp_in (nI (st_ b (s / 3 % 8) (s % 3))) 864 := vp_in_nI ho (by decide)
      refine ⟨vo, vs, fun q => no (fun ⟨z, z1, z2, z3, z4⟩ => ?_), fun q => ⟨vo, vs, ?_⟩⟩
      · have q := (nI_leI (by omega) (by omega)).mp q
        omega
      · have q : ℓ (st_ b (s / 3 % 8) (s % 3)) < ℓ s := Nat.lt_of_not_le (fun r => q ((nI_leI (by omega) (by omega)).mpr r))
        have ef : (fun hr => stA A w tab b (s / 3 % 8) (s % 3) hr) = stF A w tab (st_ b (s / 3 % 8) (s % 3)) := by
          funext hr
          unfold stF
          rw [s1, s2, s3]
        refine c_25 w tab b (s / 3 % 8) (s % 3) _ _ hw hb36 hh hx hl q hC (fun z => ⟨fun y => absurd y (by decide), fun _ => ?_⟩) (fun z => ⟨fun _ => no (by rw [← ef]; exact z), fun y => absurd rfl y⟩)
        rw [ef] at z
        rw [Mn_I ho xl]
        exact fin _ (Mn_min hM ho (by rw [← hP]; exact fs.mpr z) (fun r hr _ y => (cls r hr y).elim Or.inl (fun v => Or.inr v.2)))
  have sails : ∀ j y x, y + j = 3 → Mn P (fun p => (p / 24 = s / 24 ∧ p % 3 = s % 3) ∨ (p / 24 = s / 24 ∧ p / 3 % 8 = s / 3 % 8 ∧ p % 3 < y)) x → wm_Wp 0 114 89 [.ref 69, .int (nI s), .int (nI (s % 3)), .int (nI (s / 3 % 8)), .int (nI (s / 24)), .int (nI x), .int (nI y), .null] μ (fun w κ => ∃ x, w = some (.int x) ∧ Q x κ) := by
    intro j
    induction j with
    | zero =>
      intro y x hj hM
      have : y = 3 := by omega
      subst this
      refine w_114_89 _ _ _ _ _ _ _ _ ⟨fun _ => step x (Mn_no hM (fun q hq z _ => z.elim Or.inl (fun r => Or.inr ⟨r.1, r.2, by omega⟩))), fun q => absurd (nI_le (Nat.le_refl 3) (by decide)) q⟩
    | succ j ih =>
      intro y x hj hM
      have xl := Mn_le hM
      have tor := hC.1.1.torn hx3
      refine w_114_89 _ _ _ _ _ _ _ _ ⟨fun q => absurd q (nI_ge (a := y) (b := 3) (by omega) (by decide)), fun _ => ⟨vp_in_nI hx3 (by decide), ?_⟩⟩
      rw [nI_clamp (show s % 3 < 2 ^ 31 by omega), hC.1.2.2.1.torn hx3]
      have nx : ∀ x', Mn P (fun p => (p / 24 = s / 24 ∧ p % 3 = s % 3) ∨ (p / 24 = s / 24 ∧ p / 3 % 8 = s / 3 % 8 ∧ p % 3 < y + 1)) x' → wm_Wp 0 114 154 [.ref 69, .int (nI s), .int (nI (s % 3)), .int (nI (s / 3 % 8)), .int (nI (s / 24)), .int (nI x'), .int (nI y), .null] μ (fun w κ => ∃ x, w = some (.int x) ∧ Q x κ) := fun x' hM' => by
        refine w_114_154 _ _ _ _ _ _ _ _ ?_
        rw [nI_1]
        exact ih (y + 1) x' (by omega) hM'
      refine ⟨fun t0 => ⟨fun q => nx x (Mn_no hM (fun r hr z _ => ?_)), fun q => ?_⟩, fun t1 => step x (Mn_no hM (fun r hr z fr => ?_))⟩
      · have q := (nI_eq (by omega) (by omega)).mp q
        rcases z with z | z
        · exact Or.inl z
        · by_cases v : r % 3 = y
          · exact Or.inl ⟨z.1, by omega⟩
          · exact Or.inr ⟨z.1, z.2.1, by omega⟩
      · have q : ¬ y = s % 3 := fun r => q (by rw [r])
        have t0 := (nI_eq (b := 0) (by omega) (by decide)).mp t0
        have ho : st_ (s / 24) (s / 3 % 8) y < 864 := by unfold st_; omega
        obtain ⟨s1, s2, s3⟩ := sdec (s / 24) (s / 3 % 8) y hh (by omega)
        have es : (nI s - nI (s % 3)) + nI y = nI (st_ (s / 24) (s / 3 % 8) y) := by
          rw [pk_sub (by omega), nI_add]
          congr 1
          unfold st_
          omega
        have lo := hL _ ho
        have fs := fr_sail (f := stF A w tab) (wh := whA A) (ch := ch) (L := ℓ) hs s3 s2 (fun r => q (by rw [← s1, r]))
        rw [es, nI_clamp (show st_ (s / 24) (s / 3 % 8) y < 2 ^ 31 by omega), cs, ls, lo.2, h7, nI_add]
        have cl : ∀ r, r < 864 → ((r / 24 = s / 24 ∧ r % 3 = s % 3) ∨ (r / 24 = s / 24 ∧ r / 3 % 8 = s / 3 % 8 ∧ r % 3 < y + 1)) → ((r / 24 = s / 24 ∧ r % 3 = s % 3) ∨ (r / 24 = s / 24 ∧ r / 3 % 8 = s / 3 % 8 ∧ r % 3 < y)) ∨ r = st_ (s / 24) (s / 3 % 8) y := fun r hr z => by
          rcases z with z | z
          · exact Or.inl (Or.inl z)
          · by_cases v : r % 3 = y
            · exact Or.inr (by rw [← st_un r, z.1, z.2.1, v])
            · exact Or.inl (Or.inr ⟨z.1, z.2.1, by omega⟩)
        refine ⟨vp_in_nI ho (by decide), vs, fun z => nx x (Mn_no hM (fun r hr v fr => (cl r hr v).elim id (fun e => ?_))), fun z => ?_⟩
        · have z := (nI_ltI (by omega) (by omega)).mp z
          rw [e, ← hP] at fr
          have := (fs.mp fr).2
          omega
        · have z : ¬ ℓ s < ℓ (st_ (s / 24) (s / 3 % 8) y) + ch := fun r => z ((nI_ltI (by omega) (by omega)).mpr r)
          rw [Mn_I ho xl]
          exact nx _ (Mn_min hM ho (by rw [← hP]; exact fs.mpr ⟨whA_of hx t0, by omega⟩) (fun r hr v _ => cl r hr v))
      · rcases z with z | z
        · exact Or.inl z
        · rw [← hP] at fr
          by_cases v : r = s
          · exact Or.inl (by rw [v]; exact ⟨rfl, rfl⟩)
          · have := (fr_sail hs z.1 z.2 v).mp fr
            exact absurd (by rw [(whA_to this.1).2]; rfl) t1
  have turns : ∀ j h x, h + j = 8 → Mn P (fun p => p / 24 = s / 24 ∧ p % 3 = s % 3 ∧ p / 3 % 8 < h) x → wm_Wp 0 114 25 [.ref 69, .int (nI s), .int (nI (s % 3)), .int (nI (s / 3 % 8)), .int (nI (s / 24)), .int (nI x), .int (nI h), .null] μ (fun w κ => ∃ x, w = some (.int x) ∧ Q x κ) := by
    intro j
    induction j with
    | zero =>
      intro h x hj hM
      have : h = 8 := by omega
      subst this
      refine w_114_25 _ _ _ _ _ _ _ _ ⟨fun _ => w_114_86 _ _ _ _ _ _ _ (sails 3 0 x rfl (Mn_no hM (fun q hq z _ => ?_))), fun q => absurd (nI_le (Nat.le_refl 8) (by decide)) q⟩
      rcases z with z | z
      · exact ⟨z.1, z.2, by omega⟩
      · omega
    | succ j ih =>
      intro h x hj hM
      have xl := Mn_le hM
      have ho : st_ (s / 24) h (s % 3) < 864 := by unfold st_; omega
      obtain ⟨s1, s2, s3⟩ := sdec (s / 24) h (s % 3) (by omega) hx3
      have nx : ∀ x', Mn P (fun p => p / 24 = s / 24 ∧ p % 3 = s % 3 ∧ p / 3 % 8 < h + 1) x' → wm_Wp 0 114 80 [.ref 69, .int (nI s), .int (nI (s % 3)), .int (nI (s / 3 % 8)), .int (nI (s / 24)), .int (nI x'), .int (nI h), .null] μ (fun w κ => ∃ x, w = some (.int x) ∧ Q x κ) := fun x' hM' => by
        refine w_114_80 _ _ _ _ _ _ _ _ ?_
        rw [nI_1]
        exact ih (h + 1) x' (by omega) hM'
      have cl : ∀ r, r < 864 → (r / 24 = s / 24 ∧ r % 3 = s % 3 ∧ r / 3 % 8 < h + 1) → (r / 24 = s / 24 ∧ r % 3 = s % 3 ∧ r / 3 % 8 < h) ∨ r = st_ (s / 24) h (s % 3) := fun r hr z => by
        by_cases v : r / 3 % 8 = h
        · exact Or.inr (by rw [← st_un r, z.1, z.2.1, v])
        · exact Or.inl ⟨z.1, z.2.1, by omega⟩
      refine w_114_25 _ _ _ _ _ _ _ _ ⟨fun q => absurd q (nI_ge (a := h) (b := 8) (by omega) (by decide)), fun _ => s_183 _ _ _ ⟨fun q => nx x (Mn_no hM (fun r hr z fr => (cl r hr z).elim id (fun e => ?_))), fun q => ?_⟩⟩
      · have q := (nI_eq (by omega) (by omega)).mp q
        have : r = s := by rw [e, q, su]
        rw [this, ← hP] at fr
        exact absurd (fr_lt hc0 fr) (Nat.lt_irrefl _)
      · have q : ¬ h = s / 3 % 8 := fun r => q (by rw [r])
        have ha := ap_le h (s / 3 % 8) (by omega) hh
        have lo := hL _ ho
        have fs := fr_turn (f := stF A w tab) (wh := whA A) (ch := ch) (L := ℓ) hs s3 s1 (fun r => q (by rw [← s2, r]))
        rw [s2] at fs
        refine ⟨vp_in_nI ho (by decide), s_181 h (s / 3 % 8) (by omega) hh ⟨vs, ?_⟩⟩
        rw [nI_clamp (show st_ (s / 24) h (s % 3) < 2 ^ 31 by omega), cs, ls, lo.2, nI_add]
        refine ⟨fun z => nx x (Mn_no hM (fun r hr v fr => (cl r hr v).elim id (fun e => ?_))), fun z => ?_⟩
        · have z := (nI_ltI (by omega) (by omega)).mp z
          rw [e, ← hP] at fr
          have := fs.mp fr
          omega
        · have z : ¬ ℓ s < ℓ (st_ (s / 24) h (s % 3)) + ap h (s / 3 % 8) := fun r => z ((nI_ltI (by omega) (by omega)).mpr r)
          rw [Mn_I ho xl]
          exact nx _ (Mn_min hM ho (by rw [← hP]; exact fs.mpr (by omega)) (fun r hr v _ => cl r hr v))
  refine v_114 _ _ _ ?_
  rw [e3, e24, d3, e8]
  exact ⟨by decide, by decide, by decide, by decide, turns 8 0 864 rfl ⟨Or.inl rfl, fun p hp z _ => by omega⟩⟩
