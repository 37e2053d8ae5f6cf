/-! ===== readers: where they end, and that their codes make one number ===== -/
theorem runC_app (env : Nat → Int32) (a b st : List Int32) : runC env (a ++ b) st = runC env b (runC env a st) := by unfold runC; exact List.foldl_append
theorem runC_1 (env : Nat → Int32) (x : Int32) (st : List Int32) : runC env [x] st = stp env x st := rfl
def HZ (n : Nat) (Z : Tz) : Prop := (∀ p, p ≤ n → Z.1 p ≠ 128 → p < Z.2.1 p ∧ Z.2.1 p ≤ n) ∧ (∀ p, Z.1 p = 129 → Z.2.2 p < 100000)
def GdR (n p : Nat) (P : Ps) (ok : Bool) (q : Nat) (d : List Int32) : Prop := (∀ c, P p c = (ok, q, c ++ d)) ∧ p ≤ q ∧ q ≤ n ∧ (ok = true → p < q ∧ d.length + p ≤ q ∧ ∃ v : (Nat → Int32) → Int32, ∀ env st, runC env d st = v env :: st)
def Gd (n : Nat) (P : Ps) : Prop := ∀ p, p ≤ n → ∃ ok q d, GdR n p P ok q d
def GlR (n p : Nat) (P : Ps) (ok : Bool) (q : Nat) (d : List Int32) : Prop := (∀ c, P p c = (ok, q, c ++ d)) ∧ p ≤ q ∧ q ≤ n ∧ (ok = true → d.length + p ≤ q ∧ ∃ g : (Nat → Int32) → Int32 → Int32, ∀ env v st, runC env d (v :: st) = g env v :: st)
def Gl (n : Nat) (P : Ps) : Prop := ∀ p, p ≤ n → ∃ ok q d, GlR n p P ok q d
theorem Gl_same {n : Nat} : ∀ p, p ≤ n → GlR n p (fun p c => (true, p, c)) true p [] := fun p hp => ⟨fun c => by rw [List.append_nil], Nat.le_refl p, hp, fun _ => ⟨by simp, fun _ v => v, fun _ _ _ => rfl⟩⟩
theorem Gd_no {n : Nat} : Gd n noP := fun p hp => ⟨false, p, [], fun c => by rw [List.append_nil]; rfl, Nat.le_refl p, hp, fun h => Bool.noConfusion h⟩
theorem thn_f {a k : Ps} {p : Nat} {q : Nat} {d : List Int32} (h : ∀ c, a p c = (false, q, c ++ d)) (c : List Int32) : thn a k p c = (false, q, c ++ d) := by
  unfold thn
  rw [h c]; rfl
theorem thn_t {a k : Ps} {p : Nat} {q : Nat} {d : List Int32} (h : ∀ c, a p c = (true, q, c ++ d)) (c : List Int32) : thn a k p c = k q (c ++ d) := by
  unfold thn
  rw [h c]; rfl
theorem Gd_thn {n : Nat} {a k : Ps} (ha : Gd n a) (hk : Gl n k) : Gd n (thn a k) := by
  intro p hp
  obtain ⟨ok, q, d, h1, h2, h3, h4⟩ := ha p hp
  cases ok with
  | false => exact ⟨false, q, d, thn_f h1, h2, h3, fun h => Bool.noConfusion h⟩
  | true =>
    obtain ⟨l1, l2, v, l3⟩ := h4 rfl
    obtain ⟨ok2, q2, d2, g1, g2, g3, g4⟩ := hk q h3
    refine ⟨ok2, q2, d ++ d2, fun c => ?_, by omega, g3, fun e => ?_⟩
    · rw [thn_t h1, g1, List.append_assoc]
    · obtain ⟨m1, g, m2⟩ := g4 e
      refine ⟨by omega, ?_, fun env => g env (v env), fun env st => ?_⟩
      · rw [List.length_append]; omega
      · rw [runC_app, l3, m2]
theorem Gl_thn {n : Nat} {a k : Ps} (ha : Gl n a) (hk : Gl n k) : Gl n (thn a k) := by
  intro p hp
  obtain ⟨ok, q, d, h1, h2, h3, h4⟩ := ha p hp
  cases ok with
  | false => exact ⟨false, q, d, thn_f h1, h2, h3, fun h => Bool.noConfusion h⟩
  | true =>
    obtain ⟨l1, v, l3⟩ := h4 rfl
    obtain ⟨ok2, q2, d2, g1, g2, g3, g4⟩ := hk q h3
    refine ⟨ok2, q2, d ++ d2, fun c => ?_, by omega, g3, fun e => ?_⟩
    · rw [thn_t h1, g1, List.append_assoc]
    · obtain ⟨m1, g, m2⟩ := g4 e
      refine ⟨?_, fun env x => g env (v env x), fun env x st => ?_⟩
      · rw [List.length_append]; omega
      · rw [runC_app, l3, m2]
theorem wk_toInt (t : Nat) (ht : t < 1000) : (wk t).toInt = -(100 + t : Int) := by
  unfold wk
  rw [sb_negT (by omega)]; omega
theorem m100 : (-100 : Int32).toInt = -100 := by decide +kernel
theorem stp_wk (env : Nat → Int32) (t : Nat) (ht : t < 1000) (h12 : t ≠ 12) (h1 : t ≠ 1) (w v : Int32) (r : List Int32) : stp env (wk t) (w :: v :: r) = tgr (nI t) v w :: r := by
  have e := wk_toInt t ht
  have a1 : ¬ (-100 : Int32) < wk t := by rw [Int32.lt_iff_toInt_lt, m100, e]; omega
  have a2 : ¬ wk t = -112 := fun q => by
    have := congrArg Int32.toInt q
    rw [e, show (-112 : Int32).toInt = -112 from by decide +kernel] at this; omega
  have a3 : ¬ wk t = -101 := fun q => by
    have := congrArg Int32.toInt q
    rw [e, show (-101 : Int32).toInt = -101 from by decide +kernel] at this; omega
  have a4 : (-100 : Int32) - wk t = nI t := by
    unfold wk
    rw [Int32.sub_neg, show (-100 : Int32) = -(nI 100) from by decide, Int32.add_comm, ← Int32.sub_eq_add_neg, pk_sub (by omega)]
    congr 1
    omega
  unfold stp
  rw [if_neg a1, if_neg (fun q => a2 q.1), if_neg (fun q => a3 q.1), a4]
theorem stp_not (env : Nat → Int32) (v : Int32) (r : List Int32) : stp env (wk 12) (v :: r) = bI (v = 0) :: r := by
  unfold stp
  rw [if_neg (by decide +kernel), if_pos ⟨by decide +kernel, by simp⟩]
theorem stp_min (env : Nat → Int32) (v : Int32) (r : List Int32) : stp env (-(nI 101)) (v :: r) = (-v) :: r := by
  unfold stp
  rw [if_neg (by decide +kernel), if_neg (fun q => absurd q.1 (by decide +kernel)), if_pos ⟨by decide +kernel, by simp⟩]
theorem stp_num (env : Nat → Int32) (x : Nat) (hx : x < 2 ^ 31) (r : List Int32) : stp env (nI x) r = nI x :: r := by
  unfold stp
  rw [if_pos (by rw [Int32.lt_iff_toInt_lt, m100, nI_toInt hx]; omega), if_pos (nI_pos' hx)]
theorem stp_name (env : Nat → Int32) (x : Nat) (hx : x < 6) (r : List Int32) : stp env (-(nI (1 + x))) r = env x :: r := by
  have e : (-(nI (1 + x))).toInt = -(1 + x : Int) := by rw [sb_negT (by omega)]; omega
  have a1 : (-1 : Int32) - -(nI (1 + x)) = nI x := by
    rw [Int32.sub_neg, show (-1 : Int32) = -(nI 1) from by decide, Int32.add_comm, ← Int32.sub_eq_add_neg, pk_sub (by omega)]
    congr 1
    omega
  unfold stp
  rw [if_pos (by rw [Int32.lt_iff_toInt_lt, m100, e]; omega), if_neg (by rw [Int32.le_iff_toInt_le, e, show (0 : Int32).toInt = 0 from by decide]; omega), a1, nI_clamp (by omega)]
theorem Gl_lp {n : Nat} {Z : Tz} (hZ : HZ n Z) {ops : Nat → Bool} (ho : ∀ t, ops t = true → t < 1000 ∧ t ≠ 12 ∧ t ≠ 1 ∧ t ≠ 128) {sub : Ps} (hs : Gd n sub) : ∀ f, Gl n (lpP Z ops sub f)
  | 0 => fun p hp => ⟨true, p, [], Gl_same p hp⟩
  | f + 1 => by
    intro p hp
    by_cases h : ops (Z.1 p) = true
    · obtain ⟨o1, o2, o3, o4⟩ := ho _ h
      obtain ⟨z1, z2⟩ := hZ.1 p hp o4
      obtain ⟨ok, q, d, h1, h2, h3, h4⟩ := hs (Z.2.1 p) z2
      have e : ∀ c, lpP Z ops sub (f + 1) p c = thn sub (thn (wrt (wk (Z.1 p))) (lpP Z ops sub f)) (Z.2.1 p) c := fun c => by
        show (if ops (Z.1 p) = true then _ else _) = _
        rw [if_pos h]
      cases ok with
      | false => exact ⟨false, q, d, fun c => by rw [e, thn_f h1], by omega, h3, fun h => Bool.noConfusion h⟩
      | true =>
        obtain ⟨l1, l2, v, l3⟩ := h4 rfl
        obtain ⟨ok2, q2, d2, g1, g2, g3, g4⟩ := Gl_lp hZ ho hs f q h3
        refine ⟨ok2, q2, d ++ ([wk (Z.1 p)] ++ d2), fun c => ?_, by omega, g3, fun e => ?_⟩
        · rw [e, thn_t h1]
          show thn (wrt (wk (Z.1 p))) (lpP Z ops sub f) q (c ++ d) = _
          have w : ∀ c', wrt (wk (Z.1 p)) q c' = (true, q, c' ++ [wk (Z.1 p)]) := fun _ => rfl
          rw [thn_t w, g1]
          simp only [List.append_assoc]
        · obtain ⟨m1, g, m2⟩ := g4 e
          refine ⟨?_, fun env x => g env (tgr (nI (Z.1 p)) x (v env)), fun env x st => ?_⟩
          · simp only [List.length_append, List.length_cons, List.length_nil]; omega
          · rw [runC_app, l3, runC_app, runC_1, stp_wk _ _ o1 o2 o3, m2]
    · refine ⟨true, p, [], fun c => ?_, Nat.le_refl p, hp, (Gl_same p hp).2.2.2⟩
      show (if ops (Z.1 p) = true then _ else _) = _
      rw [if_neg h, List.append_nil]
theorem Gd_wrt1 {n : Nat} {a : Ps} (x : Int32) (g : Int32 → Int32) (hx : ∀ env v r, stp env x (v :: r) = g v :: r) {p p0 : Nat} (h0 : p0 < p) (ha : ∃ ok q d, GdR n p a ok q d) : ∃ ok q d, (∀ c, thn a (wrt x) p c = (ok, q, c ++ d)) ∧ p0 ≤ q ∧ q ≤ n ∧ (ok = true → p0 < q ∧ d.length + p0 ≤ q ∧ ∃ v : (Nat → Int32) → Int32, ∀ env st, runC env d st = v env :: st) := by
  obtain ⟨ok, q, d, h1, h2, h3, h4⟩ := ha
  cases ok with
  | false => exact ⟨false, q, d, thn_f h1, by omega, h3, fun h => Bool.noConfusion h⟩
  | true =>
    obtain ⟨l1, l2, v, l3⟩ := h4 rfl
    refine ⟨true, q, d ++ [x], fun c => ?_, by omega, h3, fun _ => ⟨by omega, ?_, fun env => g (v env), fun env st => ?_⟩⟩
    · rw [thn_t h1]
      show (true, q, c ++ d ++ [x]) = _
      rw [List.append_assoc]
    · simp only [List.length_append, List.length_cons, List.length_nil]; omega
    · rw [runC_app, l3, runC_1, hx]
theorem Gd_one {n : Nat} {Z : Tz} (hZ : HZ n Z) (deep : Bool) {E O : Ps} (hE : Gd n E) (hO : Gd n O) : Gd n (oneP Z deep E O) := by
  intro p hp
  by_cases h1 : Z.1 p = 129
  · obtain ⟨z1, z2⟩ := hZ.1 p hp (by omega)
    have hv := hZ.2 p h1
    refine ⟨true, Z.2.1 p, [nI (Z.2.2 p)], fun c => ?_, by omega, z2, fun _ => ⟨z1, ?_, fun _ => nI (Z.2.2 p), fun env st => ?_⟩⟩
    · unfold oneP; rw [if_pos h1]
    · simp only [List.length_cons, List.length_nil]; omega
    · rw [runC_1, stp_num _ _ (by omega)]
  by_cases h2 : 3 ≤ Z.1 p ∧ Z.1 p ≤ 8
  · obtain ⟨z1, z2⟩ := hZ.1 p hp (by omega)
    refine ⟨true, Z.2.1 p, [-(nI (1 + (Z.1 p - 3)))], fun c => ?_, by omega, z2, fun _ => ⟨z1, ?_, fun env => env (Z.1 p - 3), fun env st => ?_⟩⟩
    · unfold oneP; rw [if_neg h1, if_pos h2]
    · simp only [List.length_cons, List.length_nil]; omega
    · rw [runC_1, stp_name _ _ (by omega)]
  by_cases h3 : deep = true ∨ (Z.1 p ≠ 45 ∧ Z.1 p ≠ 40)
  · refine ⟨false, p, [], fun c => ?_, Nat.le_refl p, hp, fun h => Bool.noConfusion h⟩
    unfold oneP; rw [if_neg h1, if_neg h2, if_pos h3, List.append_nil]
  have z0 : Z.1 p ≠ 128 := fun q => h3 (Or.inr ⟨by omega, by omega⟩)
  obtain ⟨z1, z2⟩ := hZ.1 p hp z0
  by_cases h4 : Z.1 p = 45
  · obtain ⟨ok, q, d, k1, k2⟩ := Gd_wrt1 (-(nI 101)) (fun v => -v) (fun env v r => stp_min env v r) z1 (hO (Z.2.1 p) z2)
    refine ⟨ok, q, d, fun c => ?_, k2⟩
    rw [← k1 c]
    unfold oneP; rw [if_neg h1, if_neg h2, if_neg h3, if_pos h4]
  · have e : ∀ c, oneP Z deep E O p c = thn E (fun q c => if Z.1 q = 41 then (true, Z.2.1 q, c) else (false, q, c)) (Z.2.1 p) c := fun c => by
      unfold oneP; rw [if_neg h1, if_neg h2, if_neg h3, if_neg h4]
    obtain ⟨ok, q, d, k1, k2, k3, k4⟩ := hE (Z.2.1 p) z2
    cases ok with
    | false => exact ⟨false, q, d, fun c => by rw [e, thn_f k1], by omega, k3, fun h => Bool.noConfusion h⟩
    | true =>
      obtain ⟨l1, l2, v, l3⟩ := k4 rfl
      by_cases h5 : Z.1 q = 41
      · obtain ⟨y1, y2⟩ := hZ.1 q k3 (by omega)
        refine ⟨true, Z.2.1 q, d, fun c => ?_, by omega, y2, fun _ => ⟨by omega, by omega, v, l3⟩⟩
        rw [e, thn_t k1]
        exact if_pos h5
      · refine ⟨false, q, d, fun c => ?_, by omega, k3, fun h => Bool.noConfusion h⟩
        rw [e, thn_t k1]
        exact if_neg h5
theorem Gd_not_ {n : Nat} {Z : Tz} (hZ : HZ n Z) (deep : Bool) {cmp N : Ps} (hc : Gd n cmp) (hN : Gd n N) : Gd n (notP Z deep cmp N) := by
  intro p hp
  by_cases h1 : Z.1 p = 12
  · by_cases h2 : deep = true
    · refine ⟨false, p, [], fun c => ?_, Nat.le_refl p, hp, fun h => Bool.noConfusion h⟩
      unfold notP; rw [if_neg (fun q => q h1), if_pos h2, List.append_nil]
    · obtain ⟨z1, z2⟩ := hZ.1 p hp (by omega)
      obtain ⟨ok, q, d, k1, k2⟩ := Gd_wrt1 (wk 12) (fun v => bI (v = 0)) (fun env v r => stp_not env v r) z1 (hN (Z.2.1 p) z2)
      refine ⟨ok, q, d, fun c => ?_, k2⟩
      rw [← k1 c]
      unfold notP; rw [if_neg (fun q => q h1), if_neg h2]
  · obtain ⟨ok, q, d, k1, k2⟩ := hc p hp
    refine ⟨ok, q, d, fun c => ?_, k2⟩
    rw [← k1 c]
    unfold notP; rw [if_pos h1]
theorem Gl_cmp {n : Nat} {Z : Tz} (hZ : HZ n Z) {sum : Ps} (hs : Gd n sum) : Gl n (fun p c => if Z.1 p = 61 ∨ Z.1 p = 60 ∨ Z.1 p = 62 then thn sum (wrt (wk (Z.1 p))) (Z.2.1 p) c else (true, p, c)) := by
  intro p hp
  by_cases h : Z.1 p = 61 ∨ Z.1 p = 60 ∨ Z.1 p = 62
  · obtain ⟨z1, z2⟩ := hZ.1 p hp (by omega)
    obtain ⟨ok, q, d, h1, h2, h3, h4⟩ := hs (Z.2.1 p) z2
    cases ok with
    | false => exact ⟨false, q, d, fun c => by show (if Z.1 p = 61 ∨ Z.1 p = 60 ∨ Z.1 p = 62 then _ else _) = _; rw [if_pos h, thn_f h1], by omega, h3, fun h => Bool.noConfusion h⟩
    | true =>
      obtain ⟨l1, l2, v, l3⟩ := h4 rfl
      refine ⟨true, q, d ++ [wk (Z.1 p)], fun c => ?_, by omega, h3, fun _ => ⟨?_, fun env x => tgr (nI (Z.1 p)) x (v env), fun env x st => ?_⟩⟩
      · show (if Z.1 p = 61 ∨ Z.1 p = 60 ∨ Z.1 p = 62 then _ else _) = _
        rw [if_pos h, thn_t h1]
        show (true, q, c ++ d ++ [wk (Z.1 p)]) = _
        rw [List.append_assoc]
      · simp only [List.length_append, List.length_cons, List.length_nil]; omega
      · rw [runC_app, l3, runC_1, stp_wk _ _ (by omega) (by omega) (by omega)]
  · refine ⟨true, p, [], fun c => ?_, Nat.le_refl p, hp, (Gl_same p hp).2.2.2⟩
    show (if Z.1 p = 61 ∨ Z.1 p = 60 ∨ Z.1 p = 62 then _ else _) = _
    rw [if_neg h, List.append_nil]
theorem op_mul {t : Nat} (h : (Nat.beq t 42 || Nat.beq t 47 || Nat.beq t 37) = true) : t = 42 ∨ t = 47 ∨ t = 37 := by
  simp only [Bool.or_eq_true, Nat.beq_eq] at h
  omega
theorem op_add {t : Nat} (h : (Nat.beq t 43 || Nat.beq t 45) = true) : t = 43 ∨ t = 45 := by
  simp only [Bool.or_eq_true, Nat.beq_eq] at h
  omega
theorem Gd_mk {n : Nat} {Z : Tz} (hZ : HZ n Z) (deep : Bool) {O N E : Ps} (hO : Gd n O) (hN : Gd n N) (hE : Gd n E) : Gd n (mkO Z deep O N E).1 ∧ Gd n (mkO Z deep O N E).2.1 ∧ Gd n (mkO Z deep O N E).2.2 := by
  have one := Gd_one hZ deep hE hO
  have term := Gd_thn one (Gl_lp hZ (ops := fun t => Nat.beq t 42 || Nat.beq t 47 || Nat.beq t 37) (fun t h => by have := op_mul h; omega) one 120)
  have sum := Gd_thn term (Gl_lp hZ (ops := fun t => Nat.beq t 43 || Nat.beq t 45) (fun t h => by have := op_add h; omega) term 120)
  have cmp := Gd_thn sum (Gl_cmp hZ sum)
  have nt := Gd_not_ hZ deep cmp hN
  have an := Gd_thn nt (Gl_lp hZ (ops := fun t => Nat.beq t 11) (fun t h => by have := Nat.eq_of_beq_eq_true h; omega) nt 120)
  have or_ := Gd_thn an (Gl_lp hZ (ops := fun t => Nat.beq t 10) (fun t h => by have := Nat.eq_of_beq_eq_true h; omega) an 120)
  exact ⟨one, nt, or_⟩
theorem Gd_ps {n : Nat} {Z : Tz} (hZ : HZ n Z) : ∀ d, Gd n (PS Z d).1 ∧ Gd n (PS Z d).2.1 ∧ Gd n (PS Z d).2.2
  | 0 => Gd_mk hZ true Gd_no Gd_no Gd_no
  | d + 1 => Gd_mk hZ false (Gd_ps hZ d).1 (Gd_ps hZ d).2.1 (Gd_ps hZ d).2.2
/-! ===== tokens ===== -/
theorem adv_q (q : Nat → Bool) (T : Nat → Nat) (n : Nat) : ∀ f p i, p ≤ i → i < adv q T n f p → q (T i) = true
  | 0, p, i, h1, h2 => by unfold adv at h2; omega
  | f + 1, p, i, h1, h2 => by
    unfold adv at h2
    by_cases hp : p < n ∧ q (T p) = true
    · rw [if_pos hp] at h2
      by_cases e : i = p
      · rw [e]; exact hp.2
      · exact adv_q q T n f (p + 1) i (by omega) h2
    · rw [if_neg hp] at h2; omega
theorem adv_gt (q : Nat → Bool) (T : Nat → Nat) (n f p : Nat) (hp : p < n) (hq : q (T p) = true) (hf : 0 < f) : p < adv q T n f p := by
  cases f with
  | zero => omega
  | succ f =>
    unfold adv
    rw [if_pos ⟨hp, hq⟩]
    exact adv_ge q T n f (p + 1)
theorem en_gt {T : Nat → Nat} {n p : Nat} (h : p < n) : p < en T n p := by
  unfold en
  rw [if_neg (by omega)]
  split
  · rename_i q; exact adv_gt _ _ _ _ _ h q (by omega)
  · split
    · rename_i q; exact adv_gt _ _ _ _ _ h q (by omega)
    · omega
theorem nvF_lt {T : Nat → Nat} {p : Nat} : ∀ k, (∀ i, i < k → isD (T (p + i)) = true) → nvF T p k < 10 ^ k
  | 0, _ => by show 0 < 10 ^ 0; decide
  | k + 1, h => by
    have h1 := nvF_lt k (fun i hi => h i (by omega))
    have h2 := h k (by omega)
    unfold isD at h2
    simp only [Bool.and_eq_true, Nat.ble_eq] at h2
    unfold nvF
    rw [Nat.pow_succ]
    omega
theorem tz_ok (T : Nat → Nat) (n : Nat) : HZ n (tz T n) := by
  refine ⟨fun p hp h => ?_, fun p h => ?_⟩
  · have h : tk T n p ≠ 128 := h
    have hn : p < n := by
      by_cases q : n ≤ p
      · exact absurd (show tk T n p = 128 from if_pos q) h
      · omega
    show p < nx T n p ∧ nx T n p ≤ n
    unfold nx sk
    have := en_gt (T := T) hn
    have := en_le (T := T) (n := n) (p := p) hp
    have := adv_ge (fun b => Nat.beq b 32) T n n (en T n p)
    exact ⟨by omega, adv_le _ _ _ _ _ (by omega)⟩
  · have h : tk T n p = 129 := h
    show nv T n p < 100000
    unfold tk at h
    split at h
    · omega
    · rename_i hn
      split at h
      · rename_i hl
        have wl : ∀ (l : List Nat) (ws : List (List Nat)) (i : Nat), i + ws.length ≤ 13 → wix l i ws ≠ 129 := by
          intro l ws
          induction ws with
          | nil => intro i hi; unfold wix; omega
          | cons w r ih =>
            intro i hi
            unfold wix
            simp only [List.length_cons] at hi
            split
            · omega
            · exact ih (i + 1) (by omega)
        exact absurd h (wl _ wds 0 (by decide))
      · rename_i hl
        split at h
        · rename_i hd
          split at h
          · omega
          · rename_i h5
            unfold nv
            have e : en T n p = adv isD T n n p := by
              unfold en
              rw [if_neg hn, if_neg hl, if_pos hd]
            have l := nvF_lt (T := T) (p := p) (en T n p - p) (fun i hi => adv_q isD T n n p (p + i) (by omega) (by rw [← e]; omega))
            have : 10 ^ (en T n p - p) ≤ 10 ^ 5 := Nat.pow_le_pow_right (by decide) (by omega)
            omega
        · split at h
          · rename_i hm
            have : ∀ x ∈ sgn, x ≠ 129 := by decide
            exact absurd h (this _ hm)
          · omega
/-- what stands in a RULE's code -/
theorem ruleZ_ok {n : Nat} {Z : Tz} (hZ : HZ n Z) {p0 : Nat} (hp : p0 ≤ n) (h : (ruleZ Z p0).1 = true) : (ruleZ Z p0).2.2.1 ≤ 2 ∧ (ruleZ Z p0).2.2.2.2.length ≤ n ∧ 1 ≤ (ruleZ Z p0).2.2.2.1 ∧ (ruleZ Z p0).2.2.2.1 ≤ (ruleZ Z p0).2.2.2.2.length ∧ (∃ v : (Nat → Int32) → Int32, ∀ env st, runC env ((ruleZ Z p0).2.2.2.2.take (ruleZ Z p0).2.2.2.1) st = v env :: st) ∧ ((ruleZ Z p0).2.2.2.1 = (ruleZ Z p0).2.2.2.2.length ∨ ((ruleZ Z p0).2.2.2.1 < (ruleZ Z p0).2.2.2.2.length ∧ ∃ v : (Nat → Int32) → Int32, ∀ env st, runC env ((ruleZ Z p0).2.2.2.2.drop (ruleZ Z p0).2.2.2.1) st = v env :: st)) := by
  have ne : ∀ (d : List Int32), (∃ v : (Nat → Int32) → Int32, ∀ env st, runC env d st = v env :: st) → 1 ≤ d.length := fun d ⟨v, hv⟩ => by
    cases d with
    | nil => have := hv (fun _ => 0) []; cases this
    | cons a b => simp
  unfold ruleZ at h ⊢
  by_cases h0 : 2 < Z.1 p0
  · rw [if_pos h0] at h; cases h
  rw [if_neg h0] at h ⊢
  obtain ⟨z1, z2⟩ := hZ.1 p0 hp (by omega)
  obtain ⟨ok, q, d, k1, k2, k3, k4⟩ := (Gd_ps hZ 6).2.2 (Z.2.1 p0) z2
  rw [k1 []] at h ⊢
  cases ok with
  | false => cases h
  | true =>
    obtain ⟨l1, l2, v, l3⟩ := k4 rfl
    have nd := ne d ⟨v, l3⟩
    simp only [List.nil_append] at h ⊢
    rw [if_neg (by simp)] at h ⊢
    by_cases h1 : Z.1 q = 9
    · rw [if_pos h1] at h ⊢
      obtain ⟨y1, y2⟩ := hZ.1 q k3 (by omega)
      obtain ⟨ok2, q2, d2, g1, g2, g3, g4⟩ := (Gd_ps hZ 6).2.2 (Z.2.1 q) y2
      rw [g1 d] at h ⊢
      cases ok2 with
      | false => cases h
      | true =>
        obtain ⟨m1, m2, w, m3⟩ := g4 rfl
        have nd2 := ne d2 ⟨w, m3⟩
        simp only at h ⊢
        rw [if_neg (by simp)] at h ⊢
        by_cases h2 : Z.1 q2 = 128
        · rw [if_pos h2] at h ⊢
          refine ⟨by show Z.1 p0 ≤ 2; omega, ?_, nd, ?_, ⟨v, fun env st => ?_⟩, Or.inr ⟨?_, w, fun env st => ?_⟩⟩
          · show (d ++ d2).length ≤ n
            rw [List.length_append]; omega
          · show d.length ≤ (d ++ d2).length
            rw [List.length_append]; omega
          · show runC env ((d ++ d2).take d.length) st = _
            rw [List.take_left]; exact l3 env st
          · show d.length < (d ++ d2).length
            rw [List.length_append]; omega
          · show runC env ((d ++ d2).drop d.length) st = _
            rw [List.drop_left]; exact m3 env st
        · rw [if_neg h2] at h; cases h
    · rw [if_neg h1] at h ⊢
      by_cases h2 : Z.1 q = 128
      · rw [if_pos h2] at h ⊢
        refine ⟨by show Z.1 p0 ≤ 2; omega, ?_, nd, Nat.le_refl _, ⟨v, fun env st => ?_⟩, Or.inl rfl⟩
        · show d.length ≤ n
          omega
        · show runC env (d.take d.length) st = _
          rw [List.take_length]; exact l3 env st
      · rw [if_neg h2] at h; cases h
theorem sk_le (T : Nat → Nat) (n p : Nat) (h : p ≤ n) : sk T n p ≤ n := adv_le _ _ _ _ _ h
theorem rP_ok {A : Nat → Nat} {k : Nat} (h : (rP A k).1 = true) : (rP A k).2.2.1 ≤ 2 ∧ (rP A k).2.2.2.2.length ≤ rN A k ∧ 1 ≤ (rP A k).2.2.2.1 ∧ (rP A k).2.2.2.1 ≤ (rP A k).2.2.2.2.length ∧ (∃ v : (Nat → Int32) → Int32, ∀ env st, runC env ((rP A k).2.2.2.2.take (rP A k).2.2.2.1) st = v env :: st) ∧ ((rP A k).2.2.2.1 = (rP A k).2.2.2.2.length ∨ ((rP A k).2.2.2.1 < (rP A k).2.2.2.2.length ∧ ∃ v : (Nat → Int32) → Int32, ∀ env st, runC env ((rP A k).2.2.2.2.drop (rP A k).2.2.2.1) st = v env :: st)) :=
  ruleZ_ok (tz_ok _ _) (sk_le _ _ _ (Nat.zero_le _)) h
theorem cdl (A : Nat → Nat) (k : Nat) (h : (rP A k).1 = true) (hn : rN A k ≤ 120) : (rP A k).2.2.2.2.length ≤ 120 := by
  have := (rP_ok h).2.1
  omega
