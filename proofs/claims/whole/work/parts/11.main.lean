/-! ===== a step, a run ===== -/
section WMW
variable {G : wm_G} {y e o : Nat} {cc : ByteArray} {nL : Nat} {X : Nat × (Nat → Int32)} {p : Program} {l0 : Launch} {en : Env} {R : Room} {s : State} {m : MethodId} {args : Array Value} {below : List Frame} {meth : Method} {c : Code} {nc ns : Nat} {Qw : State → Prop} {pc : Nat} {l st : List Value} {μ : wm_M}
theorem wm_sw_ok {x : Int} {t : Int → Prop} : ∀ (os : List Int) (i : Int), wm_sw x t i os → i ≤ x → x < i + os.length → ∃ f, os[(x - i).toNat]? = some f ∧ t f
  | [], i, _, h1, h2 => by simp at h2; omega
  | q :: os, i, h, h1, h2 => by
    by_cases he : x = i
    · refine ⟨q, ?_, h.1 he⟩
      rw [he, Int.sub_self]
      rfl
    · obtain ⟨f, h3, h4⟩ := wm_sw_ok os (i + 1) h.2 (by omega) (by simp only [List.length_cons] at h2; omega)
      refine ⟨f, ?_, h4⟩
      rw [show (x - i).toNat = (x - (i + 1)).toNat + 1 by omega, List.getElem?_cons_succ]
      exact h3
theorem wm_lw_ok {x d : Int} {t : Int → Prop} : ∀ (ps : List (Int × Int)), wm_lw x t ps → ((∀ q ∈ ps, ¬ x = q.1) → t d) → t (Op.lookupswitch.offset ps d x)
  | [], _, h => h (fun _ hq => by cases hq)
  | q :: ps, h, hd => by
    obtain ⟨a, o⟩ := q
    rw [Op.lookupswitch.offset_cons]
    by_cases he : a = x
    · rw [if_pos he]; exact h.1 he.symm
    · rw [if_neg he]
      exact wm_lw_ok ps h.2 (fun hq => hd (fun q hm => by
        rcases List.mem_cons.mp hm with rfl | hm
        · exact fun z => he z.symm
        · exact hq q hm))
theorem wm_lw_and {x : Int} {t u : Int → Prop} : ∀ (ps : List (Int × Int)), wm_lw x t ps → (∀ q ∈ ps, u q.2) → wm_lw x (fun f => u f ∧ t f) ps
  | [], _, _ => trivial
  | q :: ps, h, hu => ⟨fun z => ⟨hu q List.mem_cons_self, h.1 z⟩, wm_lw_and ps h.2 (fun q hq => hu q (List.mem_cons_of_mem _ hq))⟩
theorem wm_e0_ok {r : List Value} {q : Prop} (h : wm_e0 r q) : r = [] ∧ q := by
  cases r with
  | nil => exact ⟨rfl, h⟩
  | cons v r => exact h.elim
theorem wm_tn {a : Int} (h : 0 ≤ a) : a = (a.toNat : Int) := (Int.toNat_of_nonneg h).symm
set_option maxHeartbeats 4000000 in
theorem wm_step_ok {B : wm_B} {cut : List (Nat × List Bool)} {rt : Option FieldType} {Q : Option Value → wm_M → Prop} {K : Nat → List Value → wm_M → Prop} {k : Nat → List wm_Op → List Value → List Value → wm_M → Prop} (C : wm_C G y e o cc nL X p R nc ns s m args c) (hB : wm_okB y o cc B = true)
    (hk : ∀ pc os l st μ, k pc os l st μ → wm_okL y o cc pc os = true → wm_J G nL p l0 en R s m args below meth c nc ns Qw pc l st μ) (hK0 : ∀ t l μ, K t l μ → wm_J G nL p l0 en R s m args below meth c nc ns Qw t l [] μ)
    (hRi : ∀ pc l x μ, decode cc pc = .ok (.ireturn, 1) → wm_ri rt x (Q (some (.int x)) μ) → wm_J G nL p l0 en R s m args below meth c nc ns Qw pc l [.int x] μ)
    (hRj : ∀ pc l x μ, decode cc pc = .ok (.lreturn, 1) → wm_rj rt (Q (some (.long x)) μ) → wm_J G nL p l0 en R s m args below meth c nc ns Qw pc l [.long x] μ)
    (hRa : ∀ pc l x μ, decode cc pc = .ok (.areturn, 1) → wm_ra rt (Q (some (.ref x)) μ) → wm_J G nL p l0 en R s m args below meth c nc ns Qw pc l [.ref x] μ)
    (hRv : ∀ pc l μ, decode cc pc = .ok (.return_, 1) → wm_r0 rt (Q none μ) → wm_J G nL p l0 en R s m args below meth c nc ns Qw pc l [] μ)
    {ops : List wm_Op} (hok : wm_okL y o cc pc ops = true) (h : wm_step B cut e rt X Q K k pc ops l st μ) : wm_J G nL p l0 en R s m args below meth c nc ns Qw pc l st μ := by
  have jj : ∀ {t : Nat} {l st : List Value} {μ : wm_M}, wm_j B cut k K t l st μ → wm_J G nL p l0 en R s m args below meth c nc ns Qw t l st μ := fun h => wm_j_ok hB hk hK0 h
  cases ops with
  | nil => exact jj h
  | cons q os =>
    obtain ⟨i, len, r1, r2, r3⟩ := q
    simp only [wm_okL, Bool.and_eq_true, decide_eq_true_eq] at hok
    obtain ⟨hd, hoi, hos⟩ := hok
    have C0 := C
    obtain ⟨hx, hb, hml, hown, hts, hK, hX, hdq, hcs, hsc⟩ := C0
    cases i with
    | iconst n =>
      have e1 : Int32.ofInt n = wm_k n := by simpa [wm_okI] using hoi
      exact fun H locs ls hP hD hS hL => lv_iconst hx hb hd e1 (hk _ _ _ _ _ h hos H locs ls hP hD hS hL)
    | bipush n =>
      have e1 : (Int8.ofInt n).toInt32 = wm_k n := by simpa [wm_okI] using hoi
      exact fun H locs ls hP hD hS hL => lv_bipush hx hb hd e1 (hk _ _ _ _ _ h hos H locs ls hP hD hS hL)
    | sipush n =>
      have e1 : (Int16.ofInt n).toInt32 = wm_k n := by simpa [wm_okI] using hoi
      exact fun H locs ls hP hD hS hL => lv_sipush hx hb hd e1 (hk _ _ _ _ _ h hos H locs ls hP hD hS hL)
    | lconst n => exact fun H locs ls hP hD hS hL => lv_lconst hx hb hd rfl (hk _ _ _ _ _ h hos H locs ls hP hD hS hL)
    | ldc2_w i =>
      simp only [wm_okI] at hoi
      obtain ⟨t, ht, h4⟩ := wm_any_q hoi
      simp only [Bool.and_eq_true, decide_eq_true_eq] at h4
      have hw := hts _ (wm_scan_T (g := wm_klc) wm_kl_all ht)
      unfold wm_klc at hw
      rw [Nat.eq_of_beq_eq_true h4.1, Nat.eq_of_beq_eq_true h4.2.1, h4.2.2] at hw
      exact fun H locs ls hP hD hS hL => lv_ldc2 hx hb hown hw hd (hk _ _ _ _ _ h hos H locs ls hP hD hS hL)
    | ldc i =>
      simp only [wm_okI] at hoi
      obtain ⟨t, ht, h4⟩ := wm_any_q hoi
      simp only [Bool.and_eq_true, decide_eq_true_eq] at h4
      have hw := hts _ (wm_scan_T (g := wm_kic) wm_ki_all ht)
      unfold wm_kic at hw
      rw [Nat.eq_of_beq_eq_true h4.1, Nat.eq_of_beq_eq_true h4.2.1, h4.2.2] at hw
      exact fun H locs ls hP hD hS hL => lv_ldc hx hb hown hw hd (hk _ _ _ _ _ h hos H locs ls hP hD hS hL)
    | ldc_w i =>
      simp only [wm_okI] at hoi
      obtain ⟨t, ht, h4⟩ := wm_any_q hoi
      simp only [Bool.and_eq_true, decide_eq_true_eq] at h4
      have hw := hts _ (wm_scan_T (g := wm_kic) wm_ki_all ht)
      unfold wm_kic at hw
      rw [Nat.eq_of_beq_eq_true h4.1, Nat.eq_of_beq_eq_true h4.2.1, h4.2.2] at hw
      exact fun H locs ls hP hD hS hL => lv_ldcw hx hb hown hw hd (hk _ _ _ _ _ h hos H locs ls hP hD hS hL)
    | iload i =>
      obtain ⟨v, hv, h⟩ := wm_load_ok h
      obtain ⟨x, rfl, h⟩ := wm_isI_ok h
      exact fun H locs ls hP hD hS hL => lv_iload hx hb hd (hL.2.2.2 i _ hv (by simp)) (hk _ _ _ _ _ h hos H locs ls hP hD hS hL)
    | iload_n i =>
      obtain ⟨v, hv, h⟩ := wm_load_ok h
      obtain ⟨x, rfl, h⟩ := wm_isI_ok h
      exact fun H locs ls hP hD hS hL => lv_iload_n hx hb hd rfl (hL.2.2.2 i _ hv (by simp)) (hk _ _ _ _ _ h hos H locs ls hP hD hS hL)
    | lload i =>
      obtain ⟨v, hv, h⟩ := wm_load_ok h
      obtain ⟨x, rfl, h⟩ := wm_isJ_ok h
      exact fun H locs ls hP hD hS hL => lv_lload hx hb hd (hL.2.2.2 i _ hv (by simp)) (hk _ _ _ _ _ h hos H locs ls hP hD hS hL)
    | lload_n i =>
      obtain ⟨v, hv, h⟩ := wm_load_ok h
      obtain ⟨x, rfl, h⟩ := wm_isJ_ok h
      exact fun H locs ls hP hD hS hL => lv_lload_n hx hb hd rfl (hL.2.2.2 i _ hv (by simp)) (hk _ _ _ _ _ h hos H locs ls hP hD hS hL)
    | aload i =>
      obtain ⟨v, hv, h⟩ := wm_load_ok h
      obtain ⟨x, rfl, h⟩ := wm_isR_ok h
      exact fun H locs ls hP hD hS hL => lv_aload hx hb hd (hL.2.2.2 i _ hv (by simp)) (hk _ _ _ _ _ h hos H locs ls hP hD hS hL)
    | aload_n i =>
      obtain ⟨v, hv, h⟩ := wm_load_ok h
      obtain ⟨x, rfl, h⟩ := wm_isR_ok h
      exact fun H locs ls hP hD hS hL => lv_aload_n hx hb hd rfl (hL.2.2.2 i _ hv (by simp)) (hk _ _ _ _ _ h hos H locs ls hP hD hS hL)
    | istore i =>
      obtain ⟨x, r, rfl, h⟩ := wm_pI_ok h
      obtain ⟨h0, h⟩ := wm_cond_ok h
      exact fun H locs ls hP hD hS hL => lv_istore hx hb hd hL.has (Nat.lt_of_lt_of_le (wm_blt h0) hL.2.2.1) rfl (fun ls' h' => hk _ _ _ _ _ h hos H locs ls' hP hD hS (wm_L.s1 (v := .int x) hL.2.2.1 h'))
    | istore_n i =>
      obtain ⟨x, r, rfl, h⟩ := wm_pI_ok h
      obtain ⟨h0, h⟩ := wm_cond_ok h
      exact fun H locs ls hP hD hS hL => lv_istore_n hx hb hd rfl hL.has (Nat.lt_of_lt_of_le (wm_blt h0) hL.2.2.1) rfl (fun ls' h' => hk _ _ _ _ _ h hos H locs ls' hP hD hS (wm_L.s1 (v := .int x) hL.2.2.1 h'))
    | lstore i =>
      obtain ⟨x, r, rfl, h⟩ := wm_pJ_ok h
      obtain ⟨h0, h⟩ := wm_cond_ok h
      exact fun H locs ls hP hD hS hL => lv_lstore hx hb hd hL.has (Nat.lt_of_lt_of_le (wm_blt h0) hL.2.2.1) rfl (fun ls' h' => hk _ _ _ _ _ h hos H locs ls' hP hD hS (wm_L.s2 (v := .long x) hL.2.2.1 h'))
    | lstore_n i =>
      obtain ⟨x, r, rfl, h⟩ := wm_pJ_ok h
      obtain ⟨h0, h⟩ := wm_cond_ok h
      exact fun H locs ls hP hD hS hL => lv_lstore_n hx hb hd rfl hL.has (Nat.lt_of_lt_of_le (wm_blt h0) hL.2.2.1) rfl (fun ls' h' => hk _ _ _ _ _ h hos H locs ls' hP hD hS (wm_L.s2 (v := .long x) hL.2.2.1 h'))
    | astore i =>
      obtain ⟨x, r, rfl, h⟩ := wm_pR_ok h
      obtain ⟨h0, h⟩ := wm_cond_ok h
      exact fun H locs ls hP hD hS hL => lv_astore hx hb hd hL.has (Nat.lt_of_lt_of_le (wm_blt h0) hL.2.2.1) rfl (fun ls' h' => hk _ _ _ _ _ h hos H locs ls' hP hD hS (wm_L.s1 (v := .ref x) hL.2.2.1 h'))
    | astore_n i =>
      obtain ⟨x, r, rfl, h⟩ := wm_pR_ok h
      obtain ⟨h0, h⟩ := wm_cond_ok h
      exact fun H locs ls hP hD hS hL => lv_astore_n hx hb hd rfl hL.has (Nat.lt_of_lt_of_le (wm_blt h0) hL.2.2.1) rfl (fun ls' h' => hk _ _ _ _ _ h hos H locs ls' hP hD hS (wm_L.s1 (v := .ref x) hL.2.2.1 h'))
    | iinc i n =>
      have e1 : Int32.ofInt n = wm_k n := by simpa [wm_okI] using hoi
      obtain ⟨v, hv, h⟩ := wm_load_ok h
      obtain ⟨x, r, hr, h⟩ := wm_pI_ok h
      cases hr
      obtain ⟨h0, h⟩ := wm_cond_ok h
      intro H locs ls hP hD hS hL
      obtain ⟨k', hk'⟩ := List.getElem?_of_mem (wm_ps_in (G := G) hv (by simp))
      exact lv_iinc hx hb hd hL.has hk' (by rw [e1]) (Nat.lt_of_lt_of_le (wm_blt h0) hL.2.2.1) rfl (fun ls' h' => hk _ _ _ _ _ h hos H locs ls' hP hD hS (wm_L.s1 (v := .int (x + wm_k n)) hL.2.2.1 h'))
    | iadd => obtain ⟨b, r, rfl, h⟩ := wm_pI_ok h; obtain ⟨a, r, rfl, h⟩ := wm_pI_ok h; exact fun H locs ls hP hD hS hL => lv_iadd hx hb hd (hk _ _ _ _ _ h hos H locs ls hP hD hS hL)
    | isub => obtain ⟨b, r, rfl, h⟩ := wm_pI_ok h; obtain ⟨a, r, rfl, h⟩ := wm_pI_ok h; exact fun H locs ls hP hD hS hL => lv_isub hx hb hd (hk _ _ _ _ _ h hos H locs ls hP hD hS hL)
    | imul => obtain ⟨b, r, rfl, h⟩ := wm_pI_ok h; obtain ⟨a, r, rfl, h⟩ := wm_pI_ok h; exact fun H locs ls hP hD hS hL => lv_imul hx hb hd (hk _ _ _ _ _ h hos H locs ls hP hD hS hL)
    | idiv => obtain ⟨b, r, rfl, h⟩ := wm_pI_ok h; obtain ⟨a, r, rfl, h⟩ := wm_pI_ok h; exact fun H locs ls hP hD hS hL => lv_idiv hx hb hd h.1 (hk _ _ _ _ _ h.2 hos H locs ls hP hD hS hL)
    | irem => obtain ⟨b, r, rfl, h⟩ := wm_pI_ok h; obtain ⟨a, r, rfl, h⟩ := wm_pI_ok h; exact fun H locs ls hP hD hS hL => lv_irem hx hb hd h.1 (hk _ _ _ _ _ h.2 hos H locs ls hP hD hS hL)
    | ineg => obtain ⟨a, r, rfl, h⟩ := wm_pI_ok h; exact fun H locs ls hP hD hS hL => lv_ineg hx hb hd (hk _ _ _ _ _ h hos H locs ls hP hD hS hL)
    | iand => obtain ⟨b, r, rfl, h⟩ := wm_pI_ok h; obtain ⟨a, r, rfl, h⟩ := wm_pI_ok h; exact fun H locs ls hP hD hS hL => lv_iand hx hb hd (hk _ _ _ _ _ h hos H locs ls hP hD hS hL)
    | ior => obtain ⟨b, r, rfl, h⟩ := wm_pI_ok h; obtain ⟨a, r, rfl, h⟩ := wm_pI_ok h; exact fun H locs ls hP hD hS hL => lv_ior hx hb hd (hk _ _ _ _ _ h hos H locs ls hP hD hS hL)
    | ishl => obtain ⟨b, r, rfl, h⟩ := wm_pI_ok h; obtain ⟨a, r, rfl, h⟩ := wm_pI_ok h; exact fun H locs ls hP hD hS hL => lv_ishl hx hb hd (hk _ _ _ _ _ h hos H locs ls hP hD hS hL)
    | ishr => obtain ⟨b, r, rfl, h⟩ := wm_pI_ok h; obtain ⟨a, r, rfl, h⟩ := wm_pI_ok h; exact fun H locs ls hP hD hS hL => lv_ishr hx hb hd (hk _ _ _ _ _ h hos H locs ls hP hD hS hL)
    | iushr => obtain ⟨b, r, rfl, h⟩ := wm_pI_ok h; obtain ⟨a, r, rfl, h⟩ := wm_pI_ok h; exact fun H locs ls hP hD hS hL => lv_iushr hx hb hd rfl (hk _ _ _ _ _ h hos H locs ls hP hD hS hL)
    | ladd => obtain ⟨b, r, rfl, h⟩ := wm_pJ_ok h; obtain ⟨a, r, rfl, h⟩ := wm_pJ_ok h; exact fun H locs ls hP hD hS hL => lv_ladd hx hb hd (hk _ _ _ _ _ h hos H locs ls hP hD hS hL)
    | lsub => obtain ⟨b, r, rfl, h⟩ := wm_pJ_ok h; obtain ⟨a, r, rfl, h⟩ := wm_pJ_ok h; exact fun H locs ls hP hD hS hL => lv_lsub hx hb hd (hk _ _ _ _ _ h hos H locs ls hP hD hS hL)
    | lmul => obtain ⟨b, r, rfl, h⟩ := wm_pJ_ok h; obtain ⟨a, r, rfl, h⟩ := wm_pJ_ok h; exact fun H locs ls hP hD hS hL => lv_lmul hx hb hd (hk _ _ _ _ _ h hos H locs ls hP hD hS hL)
    | ldiv => obtain ⟨b, r, rfl, h⟩ := wm_pJ_ok h; obtain ⟨a, r, rfl, h⟩ := wm_pJ_ok h; exact fun H locs ls hP hD hS hL => lv_ldiv hx hb hd h.1 (hk _ _ _ _ _ h.2 hos H locs ls hP hD hS hL)
    | lneg => obtain ⟨a, r, rfl, h⟩ := wm_pJ_ok h; exact fun H locs ls hP hD hS hL => lv_lneg hx hb hd (hk _ _ _ _ _ h hos H locs ls hP hD hS hL)
    | lxor => obtain ⟨b, r, rfl, h⟩ := wm_pJ_ok h; obtain ⟨a, r, rfl, h⟩ := wm_pJ_ok h; exact fun H locs ls hP hD hS hL => lv_lxor hx hb hd (hk _ _ _ _ _ h hos H locs ls hP hD hS hL)
    | lcmp => obtain ⟨b, r, rfl, h⟩ := wm_pJ_ok h; obtain ⟨a, r, rfl, h⟩ := wm_pJ_ok h; exact fun H locs ls hP hD hS hL => W.lcmp hx hb hd (hk _ _ _ _ _ h hos H locs ls hP hD hS hL)
    | i2l => obtain ⟨a, r, rfl, h⟩ := wm_pI_ok h; exact fun H locs ls hP hD hS hL => lv_i2l hx hb hd rfl (hk _ _ _ _ _ h hos H locs ls hP hD hS hL)
    | l2i => obtain ⟨a, r, rfl, h⟩ := wm_pJ_ok h; exact fun H locs ls hP hD hS hL => lv_l2i hx hb hd rfl (hk _ _ _ _ _ h hos H locs ls hP hD hS hL)
    | i2c => obtain ⟨a, r, rfl, h⟩ := wm_pI_ok h; exact fun H locs ls hP hD hS hL => lv_i2c hx hb hd rfl (hk _ _ _ _ _ h hos H locs ls hP hD hS hL)
    | dup =>
      cases st with
      | nil => exact h.elim
      | cons v r =>
        obtain ⟨h0, h⟩ := wm_cat_ok h
        exact fun H locs ls hP hD hS hL => lv_dup hx hb hd (by rw [wm_v_cat]; exact h0) (hk _ _ _ _ _ h hos H locs ls hP hD hS hL)
    | dup2 =>
      cases st with
      | nil => exact h.elim
      | cons v r =>
        cases r with
        | nil => exact h.elim
        | cons w r =>
          obtain ⟨h0, h⟩ := wm_cat_ok h
          obtain ⟨h1, h⟩ := wm_cat_ok h
          exact fun H locs ls hP hD hS hL => lv_dup2_11 hx hb hd (by rw [wm_v_cat]; exact h0) (by rw [wm_v_cat]; exact h1) (hk _ _ _ _ _ h hos H locs ls hP hD hS hL)
    | pop =>
      cases st with
      | nil => exact h.elim
      | cons v r =>
        obtain ⟨h0, h⟩ := wm_cat_ok h
        exact fun H locs ls hP hD hS hL => lv_pop hx hb hd (by rw [wm_v_cat]; exact h0) (hk _ _ _ _ _ h hos H locs ls hP hD hS hL)
    | ifCond c0 off =>
      have e1 : (pc : Int) + off = (r1 : Int) := by simpa [wm_okI] using hoi
      obtain ⟨a, r, rfl, h⟩ := wm_pI_ok h
      intro H locs ls hP hD hS hL
      cases c0 with
      | eq => exact lv_if_eq hx hb hd e1 (fun z => jj (h.1 z) H locs ls hP hD hS hL) (fun z => hk _ _ _ _ _ (h.2 z) hos H locs ls hP hD hS hL)
      | ne => exact lv_if_ne hx hb hd e1 (fun z => jj (h.2 z) H locs ls hP hD hS hL) (fun z => hk _ _ _ _ _ (h.1 z) hos H locs ls hP hD hS hL)
      | lt => exact lv_if_lt hx hb hd e1 (fun z => jj (h.1 z) H locs ls hP hD hS hL) (fun z => hk _ _ _ _ _ (h.2 z) hos H locs ls hP hD hS hL)
      | ge => exact lv_if_ge hx hb hd e1 (fun z => jj (h.1 z) H locs ls hP hD hS hL) (fun z => hk _ _ _ _ _ (h.2 z) hos H locs ls hP hD hS hL)
      | gt => exact lv_if_gt hx hb hd e1 (fun z => jj (h.1 z) H locs ls hP hD hS hL) (fun z => hk _ _ _ _ _ (h.2 z) hos H locs ls hP hD hS hL)
      | le => exact lv_if_le hx hb hd e1 (fun z => jj (h.1 z) H locs ls hP hD hS hL) (fun z => hk _ _ _ _ _ (h.2 z) hos H locs ls hP hD hS hL)
    | if_icmp c0 off =>
      have e1 : (pc : Int) + off = (r1 : Int) := by simpa [wm_okI] using hoi
      obtain ⟨b, r, rfl, h⟩ := wm_pI_ok h
      obtain ⟨a, r, rfl, h⟩ := wm_pI_ok h
      intro H locs ls hP hD hS hL
      cases c0 with
      | eq => exact lv_icmp_eq hx hb hd e1 (fun z => jj (h.1 z) H locs ls hP hD hS hL) (fun z => hk _ _ _ _ _ (h.2 z) hos H locs ls hP hD hS hL)
      | ne => exact lv_icmp_ne hx hb hd e1 (fun z => jj (h.2 z) H locs ls hP hD hS hL) (fun z => hk _ _ _ _ _ (h.1 z) hos H locs ls hP hD hS hL)
      | lt => exact lv_icmp_lt hx hb hd e1 (fun z => jj (h.1 z) H locs ls hP hD hS hL) (fun z => hk _ _ _ _ _ (h.2 z) hos H locs ls hP hD hS hL)
      | ge => exact lv_icmp_ge hx hb hd e1 (fun z => jj (h.1 z) H locs ls hP hD hS hL) (fun z => hk _ _ _ _ _ (h.2 z) hos H locs ls hP hD hS hL)
      | gt => exact lv_icmp_gt hx hb hd e1 (fun z => jj (h.1 z) H locs ls hP hD hS hL) (fun z => hk _ _ _ _ _ (h.2 z) hos H locs ls hP hD hS hL)
      | le => exact lv_icmp_le hx hb hd e1 (fun z => jj (h.1 z) H locs ls hP hD hS hL) (fun z => hk _ _ _ _ _ (h.2 z) hos H locs ls hP hD hS hL)
    | goto off =>
      have e1 : (pc : Int) + off = (r1 : Int) := by simpa [wm_okI] using hoi
      exact fun H locs ls hP hD hS hL => lv_goto hx hb hd e1 (jj h H locs ls hP hD hS hL)
    | tableswitch d lo hi offs =>
      simp only [wm_okI, Bool.and_eq_true, decide_eq_true_eq] at hoi
      obtain ⟨o1, o2, o3⟩ := hoi
      obtain ⟨a, r, rfl, h⟩ := wm_pI_ok h
      intro H locs ls hP hD hS hL
      by_cases z : a.toInt < lo ∨ hi < a.toInt
      · exact lv_tableOut hx hb hd z (wm_tn o1) (jj (h.1 z) H locs ls hP hD hS hL)
      · obtain ⟨f, g1, g2⟩ := wm_sw_ok offs.toList lo h.2 (by omega) (by omega)
        exact lv_tableIn hx hb hd (by omega) (by omega) (by rw [← Array.getElem?_toList]; exact g1) (wm_tn (by simpa using List.all_eq_true.mp o2 f (List.mem_of_getElem? g1))) (jj g2 H locs ls hP hD hS hL)
    | lookupswitch d ps =>
      simp only [wm_okI, Bool.and_eq_true, decide_eq_true_eq] at hoi
      obtain ⟨o1, o2, o3⟩ := hoi
      obtain ⟨a, r, rfl, h⟩ := wm_pI_ok h
      intro H locs ls hP hD hS hL
      have g := wm_lw_ok (x := a.toInt) (d := d) (t := fun f => 0 ≤ (pc : Int) + f ∧ wm_j B cut k K ((pc : Int) + f).toNat l r μ) ps.toList (wm_lw_and ps.toList h.2 (fun q hq => by simpa using List.all_eq_true.mp o2 q hq)) (fun z => ⟨o1, h.1 z⟩)
      exact lv_lookup hx hb hd o3 rfl (wm_tn g.1) (jj g.2 H locs ls hP hD hS hL)
    | ireturn => obtain ⟨a, r, rfl, h5⟩ := wm_pI_ok h; obtain ⟨rfl, h6⟩ := wm_e0_ok h5; exact hRi _ _ _ _ hd h6
    | lreturn => obtain ⟨a, r, rfl, h5⟩ := wm_pJ_ok h; obtain ⟨rfl, h6⟩ := wm_e0_ok h5; exact hRj _ _ _ _ hd h6
    | areturn => obtain ⟨a, r, rfl, h5⟩ := wm_pR_ok h; obtain ⟨rfl, h6⟩ := wm_e0_ok h5; exact hRa _ _ _ _ hd h6
    | return_ => obtain ⟨rfl, h6⟩ := wm_e0_ok h; exact hRv _ _ _ hd h6
    | getfield i => obtain ⟨a, r, rfl, h5⟩ := wm_pR_ok h; exact wm_s_get C hoi hd h5 (fun v hv => hk _ _ _ _ _ hv hos)
    | putfield i =>
      cases st with
      | nil => exact h.elim
      | cons v r => obtain ⟨a, r, rfl, h5⟩ := wm_pR_ok h; exact wm_s_put C hoi hd h5 (fun v hv => hk _ _ _ _ _ hv hos)
    | getstatic i =>
      simp only [wm_okI] at hoi
      obtain ⟨t, ht, h4⟩ := wm_any_q hoi
      have hw := wm_scan_T (g := wm_slc) wm_sl_all ht
      rw [wm_q3_ok h4] at hw
      have h : (match wm_SV[r1]? with | some q => k (pc + 3) os l (q.2.2.2 :: st) μ | none => False) := h
      cases hq : wm_SV[r1]? with
      | none => rw [hq] at h; exact h.elim
      | some q =>
        rw [hq] at h
        have hl := hts _ hw
        simp only [wm_slc, hq] at hl
        exact fun H locs ls hP hD hS hL => va_gets hx hb (hX.2.1 q (List.mem_of_getElem? hq)) hS hown hl (fun _ z => z) hd (hk _ _ _ _ _ h hos H locs ls hP hD hS hL)
    | iaload => obtain ⟨b, r, rfl, h5⟩ := wm_pI_ok h; obtain ⟨a, r, rfl, h6⟩ := wm_pR_ok h5; exact wm_s_ild C hd h6 (fun v hv => hk _ _ _ _ _ hv hos)
    | baload => obtain ⟨b, r, rfl, h5⟩ := wm_pI_ok h; obtain ⟨a, r, rfl, h6⟩ := wm_pR_ok h5; exact wm_s_zld C hd h6 (fun v hv => hk _ _ _ _ _ hv hos)
    | laload => obtain ⟨b, r, rfl, h5⟩ := wm_pI_ok h; obtain ⟨a, r, rfl, h6⟩ := wm_pR_ok h5; exact wm_s_lld C hd h6 (fun v hv => hk _ _ _ _ _ hv hos)
    | iastore => obtain ⟨b, r, rfl, h5⟩ := wm_pI_ok h; obtain ⟨d, r, rfl, h6⟩ := wm_pI_ok h5; obtain ⟨a, r, rfl, h7⟩ := wm_pR_ok h6; exact wm_s_ist C hd h7 (fun hv => hk _ _ _ _ _ hv hos)
    | bastore => obtain ⟨b, r, rfl, h5⟩ := wm_pI_ok h; obtain ⟨d, r, rfl, h6⟩ := wm_pI_ok h5; obtain ⟨a, r, rfl, h7⟩ := wm_pR_ok h6; exact wm_s_zst C hd h7 (fun hv => hk _ _ _ _ _ hv hos)
    | lastore => obtain ⟨b, r, rfl, h5⟩ := wm_pJ_ok h; obtain ⟨d, r, rfl, h6⟩ := wm_pI_ok h5; obtain ⟨a, r, rfl, h7⟩ := wm_pR_ok h6; exact wm_s_lst C hd h7 (fun hv => hk _ _ _ _ _ hv hos)
    | invokevirtual i =>
      have h : (match wm_pp (r2 % 16) st [] with | some q => wm_pR q.2 (fun a r => bif Nat.ble (wm_sum r) 8 then wm_rcv a (r2 / 16) (wm_call e r1 r3 (.ref a :: q.1) μ (fun v μ => k (pc + 3) os l (v ++ r) μ)) else False) | none => False) := h
      cases hq : wm_pp (r2 % 16) st [] with
      | none => rw [hq] at h; exact h.elim
      | some q =>
        rw [hq] at h
        obtain ⟨as, rs⟩ := q
        obtain ⟨a, r, hr, h⟩ := wm_pR_ok h
        cases hr
        obtain ⟨h0, h⟩ := wm_cond_ok h
        exact wm_s_vir C hoi hd hq h0 h (fun v ν hv => hk _ _ _ _ _ hv hos)
    | invokestatic i =>
      have h : bif Nat.ble 20 r3 then wm_sp μ (r3 - 20) st (fun r μ => bif Nat.ble (wm_sum r) 10 then k (pc + 3) os l r μ else False) else (match wm_pp r2 st [] with | some q => (bif Nat.ble (wm_sum q.2) 8 then wm_call e r1 r3 q.1 μ (fun v μ => k (pc + 3) os l (v ++ q.2) μ) else False) | none => False) := h
      cases h20 : Nat.ble 20 r3 with
      | true =>
        rw [h20] at h
        exact wm_s_spc C h20 hoi hd h (fun rs ν hv => hk _ _ _ _ _ hv hos)
      | false =>
        rw [h20] at h
        simp only [cond_false] at h
        cases hq : wm_pp r2 st [] with
        | none => rw [hq] at h; exact h.elim
        | some q =>
          rw [hq] at h
          obtain ⟨as, rs⟩ := q
          obtain ⟨h0, h⟩ := wm_cond_ok h
          exact wm_s_sta C h20 hoi hd hq h0 h (fun v ν hv => hk _ _ _ _ _ hv hos)
    | arraylength =>
      obtain ⟨a, r, rfl, h5⟩ := wm_pR_ok h
      exact wm_s_len C hd h5 (fun v hv => hk _ _ _ _ _ hv hos)
    | _ => exact False.elim h
end WMW
