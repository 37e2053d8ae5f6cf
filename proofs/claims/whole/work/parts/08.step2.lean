/-! ===== the steps that touch memory, and calls ===== -/
section WMT
variable {G : wm_G} {y e o : Nat} {cc : ByteArray} {nL : Nat} {X : Nat × (Nat → Int32)} {p : Program} {l0 : Launch} {en : Env} {R : Room} {s : State} {m : MethodId} {args : Array Value} {below : List Frame} {meth : Method} {c : Code} {nc ns : Nat} {Qw : State → Prop} {pc : Nat} {l st : List Value} {μ : wm_M}
theorem wm_sh_eq {a t n : Nat} (h1 : (wm_sh a).1 = t) (h2 : (wm_sh a).2 = n) : wm_sh a = (t, n) := by rw [← h1, ← h2]
theorem wm_get_ok {a ci k : Nat} {f : Value → Prop} (h : wm_get μ a ci k f) : a < wm_n ∧ wm_sh a = (0, ci) ∧ ∃ v, f v ∧ ∀ G : wm_G, wm_fv G μ a k (wm_ft ci k) = wm_v G v := by
  unfold wm_get at h
  obtain ⟨h0, h⟩ := wm_cond_no h
  refine ⟨wm_lt h0, ?_⟩
  cases h1 : (wm_sh a).1 with
  | succ n => rw [h1] at h; exact h.elim
  | zero =>
    rw [h1] at h
    obtain ⟨h2, h⟩ := wm_cond_ok h
    refine ⟨wm_sh_eq h1 (Nat.eq_of_beq_eq_true h2), ?_⟩
    split at h
    · rename_i e1; rw [e1]; exact ⟨_, h, fun G => rfl⟩
    · rename_i e1; rw [e1]; exact ⟨_, h, fun G => rfl⟩
    · rename_i e1 e2
      refine ⟨_, h, fun G => ?_⟩
      unfold wm_fv
      split
      · rename_i z; exact (e1 z).elim
      · rename_i z; exact (e2 z).elim
      · rfl
theorem wm_E_obj (G : wm_G) (μ : wm_M) {a ci : Nat} (h : wm_sh a = (0, ci)) : wm_E G μ a (wm_sh a) = .inr (ci, (List.range (wm_nf ci)).map (fun k => wm_fv G μ a k (wm_ft ci k))) := by rw [h]; rfl
theorem wm_s_get (C : wm_C G y e o cc nL X p R nc ns s m args c) {i ci k : Nat} (hok : wm_okI y o pc (.getfield i, 3, ci, k, 0) = true) (hd : decode cc pc = .ok (.getfield i, 3)) {a : Nat} {r : List Value} {f : Value → Prop} (h : wm_get μ a ci k f) (hk : ∀ v, f v → wm_J G nL p l0 en R s m args below meth c nc ns Qw (pc + 3) l (v :: r) μ) : wm_J G nL p l0 en R s m args below meth c nc ns Qw pc l (.ref a :: r) μ := by
  obtain ⟨hx, hb, hml, hown, hts, hK, hX, -⟩ := C
  obtain ⟨ha, hs, v, hf, hv⟩ := wm_get_ok h
  simp only [wm_okI, Bool.and_eq_true] at hok
  obtain ⟨h1, h2, h3⟩ := hok
  obtain ⟨t, ht, h4⟩ := wm_any_q h1
  have e1 := wm_q4_ok h4
  have hw := wm_scan_T (g := wm_flc) wm_fl_all ht
  rw [e1] at hw
  obtain ⟨q, hq⟩ := Option.isSome_iff_exists.mp h3
  obtain ⟨hn, hin, hnm, ty0, hty, hdc, -⟩ := wm_cls_ok ci q hq
  have hkn : k < q.2.2 := by rw [hn]; exact wm_blt h2
  intro H locs ls hP hD hS hL
  have he := wm_ws_at G μ ha
  rw [wm_E_obj G μ hs] at he
  have hv2 := wm_fs_at G μ a ci (wm_blt h2)
  rw [hv G] at hv2
  have hlink : (Jvm.Cond.fieldLink (wm_ow o) i q.1 (q.2.1 k).2.1 (q.2.1 k).2.2.1).before args s = true := by
    have h5 := hts _ hw
    simp only [wm_flc, hq] at h5
    exact h5
  exact va_get (C := q.1) (T := q.2.1) (N := q.2.2) hx hb hts hin hown hK hP a he hq k hkn hlink (fun x hx' => by rw [hdc k hkn] at hx'; exact hx') hv2 hd (hk v hf H locs ls hP hD hS hL)
theorem wm_put_ok {a ci k : Nat} {v : Value} {f : wm_M → Prop} (h : wm_put μ a ci k v f) : a < wm_n ∧ wm_sh a = (0, ci) ∧ ((∃ x, v = .int x ∧ (wm_ft ci k = 0 ∨ (wm_ft ci k = 1 ∧ (x = 0 ∨ x = 1))) ∧ f (wm_si μ a k x)) ∨ (∃ x, v = .long x ∧ wm_ft ci k = 2 ∧ f (wm_sl μ a k x))) := by
  unfold wm_put at h
  obtain ⟨h0, h⟩ := wm_cond_no h
  refine ⟨wm_lt h0, ?_⟩
  cases h1 : (wm_sh a).1 with
  | succ n => rw [h1] at h; exact h.elim
  | zero =>
    rw [h1] at h
    obtain ⟨h2, h5⟩ := wm_cond_ok h
    clear h
    refine ⟨wm_sh_eq h1 (Nat.eq_of_beq_eq_true h2), ?_⟩
    split at h5
    · rename_i e1; exact Or.inl ⟨_, rfl, Or.inl e1, h5⟩
    · rename_i e1; exact Or.inl ⟨_, rfl, Or.inr ⟨e1, h5.1⟩, h5.2⟩
    · rename_i e1; exact Or.inr ⟨_, rfl, e1, h5⟩
    · exact h5.elim
theorem wm_upd_eq {f : Nat → Int32} {k : Nat} {x : Int32} : upd f k x k = x := by simp [upd]
theorem wm_upd_ne {f : Nat → Int32} {k j : Nat} {x : Int32} (h : j ≠ k) : upd f k x j = f j := by simp [upd, h]
theorem wm_updL_eq {f : Nat → Int64} {k : Nat} {x : Int64} : vp_updL f k x k = x := by simp [vp_updL]
theorem wm_updL_ne {f : Nat → Int64} {k j : Nat} {x : Int64} (h : j ≠ k) : vp_updL f k x j = f j := by simp [vp_updL, h]
theorem wm_put_i (G : wm_G) {a ci k : Nat} {x : Int32} (hs : wm_sh a = (0, ci)) (ht : wm_ft ci k = 0 ∨ wm_ft ci k = 1) : (wm_ws G μ).set a (G.2.2.1 a, .inr (ci, ((List.range (wm_nf ci)).map (fun k => wm_fv G μ a k (wm_ft ci k))).set k (.int x))) = wm_ws G (wm_si μ a k x) := by
  refine wm_ws_si G ?_
  rw [wm_E_obj G _ hs, wm_fs_set G (ν := wm_si μ a k x)]
  · rcases ht with ht | ht <;> (rw [ht]; show Value.int (va_up μ.1 a (upd (μ.1 a) k x) a k) = _; rw [wm_up_eq, wm_upd_eq])
  · intro j hj
    have e1 : (wm_si μ a k x).1 a j = μ.1 a j := by show va_up μ.1 a (upd (μ.1 a) k x) a j = _; rw [wm_up_eq, wm_upd_ne hj]
    unfold wm_fv
    rw [e1]
    rfl
theorem wm_put_l (G : wm_G) {a ci k : Nat} {x : Int64} (hs : wm_sh a = (0, ci)) (ht : wm_ft ci k = 2) : (wm_ws G μ).set a (G.2.2.1 a, .inr (ci, ((List.range (wm_nf ci)).map (fun k => wm_fv G μ a k (wm_ft ci k))).set k (.long x))) = wm_ws G (wm_sl μ a k x) := by
  refine wm_ws_sl G ?_
  rw [wm_E_obj G _ hs, wm_fs_set G (ν := wm_sl μ a k x)]
  · rw [ht]; show Value.long (va_up μ.2 a (vp_updL (μ.2 a) k x) a k) = _; rw [wm_up_eq, wm_updL_eq]
  · intro j hj
    have e1 : (wm_sl μ a k x).2 a j = μ.2 a j := by show va_up μ.2 a (vp_updL (μ.2 a) k x) a j = _; rw [wm_up_eq, wm_updL_ne hj]
    unfold wm_fv
    rw [e1]
    rfl
theorem wm_nb {x : Int32} (h : x = 0 ∨ x = 1) : narrow .boolean (.int x) = .int x ∧ fits .boolean (.int x) = true := by rcases h with rfl | rfl <;> exact ⟨by decide +kernel, by decide +kernel⟩
theorem wm_s_put (C : wm_C G y e o cc nL X p R nc ns s m args c) {i ci k : Nat} (hok : wm_okI y o pc (.putfield i, 3, ci, k, 0) = true) (hd : decode cc pc = .ok (.putfield i, 3)) {a : Nat} {v : Value} {r : List Value} {f : wm_M → Prop} (h : wm_put μ a ci k v f) (hk : ∀ ν, f ν → wm_J G nL p l0 en R s m args below meth c nc ns Qw (pc + 3) l r ν) : wm_J G nL p l0 en R s m args below meth c nc ns Qw pc l (v :: .ref a :: r) μ := by
  obtain ⟨hx, hb, hml, hown, hts, hK, hX, -⟩ := C
  obtain ⟨ha, hs, hc⟩ := wm_put_ok h
  simp only [wm_okI, Bool.and_eq_true] at hok
  obtain ⟨h1, h2, h3⟩ := hok
  obtain ⟨t, ht, h4⟩ := wm_any_q h1
  have e1 := wm_q4_ok h4
  have hw := wm_scan_T (g := wm_flc) wm_fl_all ht
  rw [e1] at hw
  cases hq : wm_cl[ci]? with
  | none => rw [hq] at h3; cases h3
  | some q =>
    rw [hq] at h3
    obtain ⟨hn, hin, hnm, ty0, hty, hdc, hft⟩ := wm_cls_ok ci q hq
    have hkn : k < q.2.2 := by rw [hn]; exact wm_blt h2
    have hlink : (Jvm.Cond.fieldLink (wm_ow o) i q.1 (q.2.1 k).2.1 (q.2.1 k).2.2.1).before args s = true := by
      have h5 := hts _ hw
      simp only [wm_flc, hq] at h5
      exact h5
    intro H locs ls hP hD hS hL
    have he := wm_ws_at G μ ha
    rw [wm_E_obj G μ hs] at he
    have hlen : k < ((List.range (wm_nf ci)).map (fun k => wm_fv G μ a k (wm_ft ci k))).length := by simpa using wm_blt h2
    have hfin : (q.2.1 k).2.2.2 = false := by simpa using h3
    have hsm : ∀ x, s.fieldFound? (q.2.1 k).1 (q.2.1 k).2.1 (q.2.1 k).2.2.1 = some x → s.fieldFound? q.1 (q.2.1 k).2.1 (q.2.1 k).2.2.1 = some x := fun x hx' => by rw [hdc k hkn] at hx'; exact hx'
    rcases hc with ⟨x, rfl, hty1, hf⟩ | ⟨x, rfl, hty1, hf⟩
    · have hnf : narrow (ty0 k) (.int x) = .int x ∧ fits (ty0 k) (.int x) = true := by
        rcases hty1 with z | ⟨z, zx⟩
        · rw [(hft k hkn).1 z]; exact ⟨rfl, rfl⟩
        · rw [(hft k hkn).2.1 z]; exact wm_nb zx
      have hz : wm_ft ci k = 0 ∨ wm_ft ci k = 1 := hty1.elim Or.inl (fun z => Or.inr z.1)
      refine va_put (C := q.1) (T := q.2.1) (N := q.2.2) hx hb hts hin ty0 hty hnm hown hK hP hD hS a he hq k hkn hlink hsm hfin (hty k hkn) hnf.1 hnf.2 hlen hd (fun H1 locs1 hP1 hD1 hS1 => ?_)
      have e9 := wm_put_i (μ := μ) (x := x) G hs hz
      exact hk _ hf H1 locs1 ls (by rw [← e9]; exact hP1) (by rw [← e9]; exact hD1) hS1 hL
    · have hnf : narrow (ty0 k) (.long x) = .long x ∧ fits (ty0 k) (.long x) = true := by rw [(hft k hkn).2.2 hty1]; exact ⟨rfl, rfl⟩
      refine va_put (C := q.1) (T := q.2.1) (N := q.2.2) hx hb hts hin ty0 hty hnm hown hK hP hD hS a he hq k hkn hlink hsm hfin (hty k hkn) hnf.1 hnf.2 hlen hd (fun H1 locs1 hP1 hD1 hS1 => ?_)
      have e9 := wm_put_l (μ := μ) (x := x) G hs hty1
      exact hk _ hf H1 locs1 ls (by rw [← e9]; exact hP1) (by rw [← e9]; exact hD1) hS1 hL
theorem wm_E_i (G : wm_G) (μ : wm_M) {a n : Nat} (h : wm_sh a = (1, n)) : wm_E G μ a (wm_sh a) = .inl (G.2.1.1, n, .inl (μ.1 a)) := by rw [h]; rfl
theorem wm_E_z (G : wm_G) (μ : wm_M) {a n : Nat} (h : wm_sh a = (2, n)) : wm_E G μ a (wm_sh a) = .inl (G.2.1.2.1, n, .inl (μ.1 a)) := by rw [h]; rfl
theorem wm_E_l (G : wm_G) (μ : wm_M) {a n : Nat} (h : wm_sh a = (3, n)) : wm_E G μ a (wm_sh a) = .inl (G.2.1.2.2, n, .inr (.inl (μ.2 a))) := by rw [h]; rfl
theorem wm_oa_ok : ∀ {L : List (Nat × FieldType × Nat × List Int32)} {a : Nat} {q : FieldType × Nat × List Int32}, wm_oa L a = some q → (a, q) ∈ L
  | [], a, q, h => by simp [wm_oa] at h
  | t :: L, a, q, h => by
    simp only [wm_oa] at h
    cases hb : Nat.beq t.1 a with
    | true =>
      rw [hb] at h
      simp only [cond_true, Option.some.injEq] at h
      rw [← h, ← Nat.eq_of_beq_eq_true hb]
      exact List.mem_cons_self
    | false =>
      rw [hb] at h
      exact List.mem_cons_of_mem _ (wm_oa_ok h)
theorem wm_vin0 {i : Int32} (h : vp_in i 0) : False := h (Or.inr (Nat.zero_le _))
theorem wm_s_ild (C : wm_C G y e o cc nL X p R nc ns s m args c) (hd : decode cc pc = .ok (.iaload, 1)) {a : Nat} {i : Int32} {r : List Value} {f : Value → Prop} (h : wm_ald X μ a i 1 f) (hk : ∀ v, f v → wm_J G nL p l0 en R s m args below meth c nc ns Qw (pc + 1) l (v :: r) μ) : wm_J G nL p l0 en R s m args below meth c nc ns Qw pc l (.int i :: .ref a :: r) μ := by
  obtain ⟨hx, hb, hml, hown, hts, hK, hX, -, -, hsc⟩ := C
  intro H locs ls hP hD hS hL
  unfold wm_ald at h
  cases hn : Nat.ble wm_n a with
  | false =>
    rw [hn] at h
    obtain ⟨h1, h2, h3⟩ := wm_cond_ok h
    have he := wm_ws_at G μ (wm_lt hn)
    rw [wm_E_i G μ (wm_sh_eq (Nat.eq_of_beq_eq_true h1) rfl)] at he
    exact va_iald hx hb hK hP a 0 he rfl h2 hd (hk _ h3 H locs ls hP hD hS hL)
  | true =>
    rw [hn] at h
    simp only [cond_true] at h
    cases h3 : Nat.beq a 3000 with
    | true =>
      rw [h3] at h
      have ea := Nat.eq_of_beq_eq_true h3
      subst ea
      rcases hsc with z | ⟨z1, z2, z3⟩
      · exact (h.1 z).elim
      · exact va_sld hx hb z1 z2 z3 hS h.2.1 hd (hk _ h.2.2 H locs ls hP hD hS hL)
    | false =>
      rw [h3] at h
      cases hq : wm_oa wm_OA a with
      | none => simp only [hq, cond_false] at h
      | some q =>
        simp only [hq, cond_false] at h
        obtain ⟨ty, n, vs⟩ := q
        have hT := hX.2.2.1 _ (wm_oa_ok hq)
        cases ty <;> first | exact h.elim | skip
        exact va_ti hx hb hT hS h.1 rfl hd (hk _ h.2 H locs ls hP hD hS hL)
theorem wm_s_zld (C : wm_C G y e o cc nL X p R nc ns s m args c) (hd : decode cc pc = .ok (.baload, 1)) {a : Nat} {i : Int32} {r : List Value} {f : Value → Prop} (h : wm_ald X μ a i 2 f) (hk : ∀ v, f v → wm_J G nL p l0 en R s m args below meth c nc ns Qw (pc + 1) l (v :: r) μ) : wm_J G nL p l0 en R s m args below meth c nc ns Qw pc l (.int i :: .ref a :: r) μ := by
  obtain ⟨hx, hb, hml, hown, hts, hK, hX, -, -, hsc⟩ := C
  intro H locs ls hP hD hS hL
  unfold wm_ald at h
  cases hn : Nat.ble wm_n a with
  | false =>
    rw [hn] at h
    obtain ⟨h1, h2, h3⟩ := wm_cond_ok h
    have he := wm_ws_at G μ (wm_lt hn)
    rw [wm_E_z G μ (wm_sh_eq (Nat.eq_of_beq_eq_true h1) rfl)] at he
    exact va_zald hx hb hK hP a 1 he rfl h2 hd (hk _ h3 H locs ls hP hD hS hL)
  | true =>
    rw [hn] at h
    simp only [cond_true] at h
    cases h3 : Nat.beq a 3000 with
    | true => rw [h3] at h; exact h.elim
    | false =>
      rw [h3] at h
      cases hq : wm_oa wm_OA a with
      | none => simp only [hq, cond_false] at h
      | some q =>
        simp only [hq, cond_false] at h
        obtain ⟨ty, n, vs⟩ := q
        cases ty <;> exact h.elim
theorem wm_s_lld (C : wm_C G y e o cc nL X p R nc ns s m args c) (hd : decode cc pc = .ok (.laload, 1)) {a : Nat} {i : Int32} {r : List Value} {f : Value → Prop} (h : wm_ald X μ a i 3 f) (hk : ∀ v, f v → wm_J G nL p l0 en R s m args below meth c nc ns Qw (pc + 1) l (v :: r) μ) : wm_J G nL p l0 en R s m args below meth c nc ns Qw pc l (.int i :: .ref a :: r) μ := by
  obtain ⟨hx, hb, hml, hown, hts, hK, hX, -, -, hsc⟩ := C
  intro H locs ls hP hD hS hL
  unfold wm_ald at h
  cases hn : Nat.ble wm_n a with
  | false =>
    rw [hn] at h
    obtain ⟨h1, h2, h3⟩ := wm_cond_ok h
    have he := wm_ws_at G μ (wm_lt hn)
    rw [wm_E_l G μ (wm_sh_eq (Nat.eq_of_beq_eq_true h1) rfl)] at he
    exact va_lald hx hb hK hP a 2 he rfl h2 hd (hk _ h3 H locs ls hP hD hS hL)
  | true =>
    rw [hn] at h
    simp only [cond_true] at h
    cases h3 : Nat.beq a 3000 with
    | true => rw [h3] at h; exact h.elim
    | false =>
      rw [h3] at h
      cases hq : wm_oa wm_OA a with
      | none => simp only [hq, cond_false] at h
      | some q =>
        simp only [hq, cond_false] at h
        obtain ⟨ty, n, vs⟩ := q
        cases ty <;> exact h.elim
theorem wm_s_ist (C : wm_C G y e o cc nL X p R nc ns s m args c) (hd : decode cc pc = .ok (.iastore, 1)) {a : Nat} {i x : Int32} {r : List Value} {q : Prop} (h : bif Nat.ble wm_n a then False else bif Nat.beq (wm_sh a).1 1 then vp_in i (wm_sh a).2 ∧ q else False) (hk : q → wm_J G nL p l0 en R s m args below meth c nc ns Qw (pc + 1) l r (wm_si μ a i.toNatClampNeg x)) : wm_J G nL p l0 en R s m args below meth c nc ns Qw pc l (.int x :: .int i :: .ref a :: r) μ := by
  obtain ⟨hx, hb, hml, hown, hts, hK, hX, -⟩ := C
  intro H locs ls hP hD hS hL
  obtain ⟨h0, h⟩ := wm_cond_no h
  obtain ⟨h1, h2, h3⟩ := wm_cond_ok h
  have hs := wm_sh_eq (a := a) (Nat.eq_of_beq_eq_true h1) rfl
  have he := wm_ws_at G μ (wm_lt h0)
  rw [wm_E_i G μ hs] at he
  refine va_iast hx hb hK hP hD hS a 0 he rfl h2 hd (fun H1 locs1 hP1 hD1 hS1 => ?_)
  rw [wm_ws_si (x := x) (i := i.toNatClampNeg) G (by rw [wm_E_i G _ hs]; show Sum.inl (_, _, Sum.inl (va_up μ.1 a _ a)) = _; rw [wm_up_eq])] at hP1 hD1
  exact hk h3 H1 locs1 ls hP1 hD1 hS1 hL
theorem wm_s_zst (C : wm_C G y e o cc nL X p R nc ns s m args c) (hd : decode cc pc = .ok (.bastore, 1)) {a : Nat} {i x : Int32} {r : List Value} {q : Prop} (h : bif Nat.ble wm_n a then False else bif Nat.beq (wm_sh a).1 2 then vp_in i (wm_sh a).2 ∧ q else False) (hk : q → wm_J G nL p l0 en R s m args below meth c nc ns Qw (pc + 1) l r (wm_si μ a i.toNatClampNeg (vp_nar .boolean x))) : wm_J G nL p l0 en R s m args below meth c nc ns Qw pc l (.int x :: .int i :: .ref a :: r) μ := by
  obtain ⟨hx, hb, hml, hown, hts, hK, hX, -⟩ := C
  intro H locs ls hP hD hS hL
  obtain ⟨h0, h⟩ := wm_cond_no h
  obtain ⟨h1, h2, h3⟩ := wm_cond_ok h
  have hs := wm_sh_eq (a := a) (Nat.eq_of_beq_eq_true h1) rfl
  have he := wm_ws_at G μ (wm_lt h0)
  rw [wm_E_z G μ hs] at he
  refine va_zast hx hb hK hP hD hS a 1 he rfl h2 hd (fun H1 locs1 hP1 hD1 hS1 => ?_)
  rw [wm_ws_si (x := vp_nar .boolean x) (i := i.toNatClampNeg) G (by rw [wm_E_z G _ hs]; show Sum.inl (_, _, Sum.inl (va_up μ.1 a _ a)) = _; rw [wm_up_eq])] at hP1 hD1
  exact hk h3 H1 locs1 ls hP1 hD1 hS1 hL
theorem wm_s_lst (C : wm_C G y e o cc nL X p R nc ns s m args c) (hd : decode cc pc = .ok (.lastore, 1)) {a : Nat} {i : Int32} {x : Int64} {r : List Value} {q : Prop} (h : bif Nat.ble wm_n a then False else bif Nat.beq (wm_sh a).1 3 then vp_in i (wm_sh a).2 ∧ q else False) (hk : q → wm_J G nL p l0 en R s m args below meth c nc ns Qw (pc + 1) l r (wm_sl μ a i.toNatClampNeg x)) : wm_J G nL p l0 en R s m args below meth c nc ns Qw pc l (.long x :: .int i :: .ref a :: r) μ := by
  obtain ⟨hx, hb, hml, hown, hts, hK, hX, -⟩ := C
  intro H locs ls hP hD hS hL
  obtain ⟨h0, h⟩ := wm_cond_no h
  obtain ⟨h1, h2, h3⟩ := wm_cond_ok h
  have hs := wm_sh_eq (a := a) (Nat.eq_of_beq_eq_true h1) rfl
  have he := wm_ws_at G μ (wm_lt h0)
  rw [wm_E_l G μ hs] at he
  refine va_last hx hb hK hP hD hS a 2 he rfl h2 hd (fun H1 locs1 hP1 hD1 hS1 => ?_)
  rw [wm_ws_sl (x := x) (i := i.toNatClampNeg) G (by rw [wm_E_l G _ hs]; show Sum.inl (_, _, Sum.inr (Sum.inl (va_up μ.2 a _ a))) = _; rw [wm_up_eq])] at hP1 hD1
  exact hk h3 H1 locs1 ls hP1 hD1 hS1 hL
theorem wm_s_len (C : wm_C G y e o cc nL X p R nc ns s m args c) (hd : decode cc pc = .ok (.arraylength, 1)) {a : Nat} {r : List Value} {f : Value → Prop} (h : wm_alen X a f) (hk : ∀ v, f v → wm_J G nL p l0 en R s m args below meth c nc ns Qw (pc + 1) l (v :: r) μ) : wm_J G nL p l0 en R s m args below meth c nc ns Qw pc l (.ref a :: r) μ := by
  obtain ⟨hx, hb, hml, hown, hts, hK, hX, -, -, hsc⟩ := C
  intro H locs ls hP hD hS hL
  unfold wm_alen at h
  cases hn : Nat.ble wm_n a with
  | false =>
    rw [hn] at h
    have he := wm_ws_at G μ (wm_lt hn)
    split at h
    · exact h.elim
    · rename_i e1
      rw [wm_E_i G μ (wm_sh_eq e1 rfl)] at he
      exact va_alen hx hb hK hP a 0 he rfl rfl hd (hk _ h H locs ls hP hD hS hL)
    · rename_i e1
      rw [wm_E_z G μ (wm_sh_eq e1 rfl)] at he
      exact va_alen hx hb hK hP a 1 he rfl rfl hd (hk _ h H locs ls hP hD hS hL)
    · rename_i e1
      rw [wm_E_l G μ (wm_sh_eq e1 rfl)] at he
      exact va_alen hx hb hK hP a 2 he rfl rfl hd (hk _ h H locs ls hP hD hS hL)
    · exact h.elim
  | true =>
    rw [hn] at h
    simp only [cond_true] at h
    obtain ⟨h1, h2⟩ := wm_cond_ok h
    have ea := Nat.eq_of_beq_eq_true h1
    subst ea
    rcases hsc with z | ⟨z1, z2, z3⟩
    · exact (h2.1 z).elim
    · exact va_slen hx hb z1 z2 z3 hS hd (hk _ h2.2 H locs ls hP hD hS hL)
end WMT
