/-! A second machine, for code that touches the two constant texts: its own steps ahead of the first machine's; each instruction is a block. -/
def wn_j0 (B : wm_B) : wm_B := B.map (fun q => (q.1, []))
def wn_k (k : Nat → List wm_Op → List Value → List Value → wm_M → Prop) : Nat → List wm_Op → List Value → List Value → wm_M → Prop := fun pc os l st μ => match os with
  | [] => k pc [] l st μ
  | _ :: _ => False
def wn_str (a : Nat) : Bool := Nat.beq a 2000 || Nat.beq a 2001
def wn_arr (a : Nat) : Bool := Nat.beq a 2010 || Nat.beq a 2011
def wn_len (a : Nat) : Nat := bif Nat.beq a 2010 then 63 else 10
def wn_byt (a : Nat) : List Int32 := bif Nat.beq a 2010 then wm_S1 else wm_S2
def wn_own (e : Nat) (B : wm_B) (cut : List (Nat × List Bool)) (K : Nat → List Value → wm_M → Prop) (k : Nat → List wm_Op → List Value → List Value → wm_M → Prop) (pc : Nat) (o : wm_Op) (l st : List Value) (μ : wm_M) : Prop := match o.1 with
  | .ldc _ => k (pc + 2) [] l (.ref (2000 + o.2.2.1) :: st) μ
  | .getfield _ => wm_pR st (fun a r => bif wn_str a then (bif Nat.beq o.2.2.1 0 then k (pc + 3) [] l (.ref (a + 10) :: r) μ else k (pc + 3) [] l (.int 0 :: r) μ) else False)
  | .baload => wm_pI st (fun i r => wm_pR r (fun a r => bif wn_arr a then (vp_in i (wn_len a) ∧ k (pc + 1) [] l (.int ((wn_byt a).getD i.toNatClampNeg 0) :: r) μ) else False))
  | .arraylength => wm_pR st (fun a r => bif wn_arr a then k (pc + 1) [] l (.int (Int32.ofNat (wn_len a)) :: r) μ else False)
  | .i2b => wm_pI st (fun x r => k (pc + 1) [] l (.int x.toInt8.toInt32 :: r) μ)
  | .invokevirtual _ => (match wm_pp (o.2.2.2.1 % 16) st [] with
    | some q => wm_pR q.2 (fun a r => bif Nat.ble (wm_sum r) 8 then (bif wn_str a then wm_call e o.2.2.1 (o.2.2.2.2 - 1000) (.ref a :: q.1) μ (fun v μ => k (pc + 3) [] l (v ++ r) μ) else False) else False)
    | none => False)
  | _ => False
def wn_step (B : wm_B) (cut : List (Nat × List Bool)) (e : Nat) (rt : Option FieldType) (X : Nat × (Nat → Int32)) (Q : Option Value → wm_M → Prop) (K : Nat → List Value → wm_M → Prop) (k : Nat → List wm_Op → List Value → List Value → wm_M → Prop) (pc : Nat) (ops : List wm_Op) (l st : List Value) (μ : wm_M) : Prop := match ops with
  | [] => wm_j B cut k K pc l st μ
  | o :: _ => bif Nat.blt o.2.2.2.2 100 then wm_step (wn_j0 B) cut e rt X Q K (wn_k k) pc [o] l st μ else wn_own e B cut K k pc o l st μ
def wn_run (B : wm_B) (cut : List (Nat × List Bool)) (e : Nat) (rt : Option FieldType) (X : Nat × (Nat → Int32)) (Q : Option Value → wm_M → Prop) (K : Nat → List Value → wm_M → Prop) (n : Nat) : Nat → List wm_Op → List Value → List Value → wm_M → Prop := Nat.rec (fun _ _ _ _ _ => False) (fun _ k => wn_step B cut e rt X Q K k) n
/-- the checks -/
def wn_okO (y o : Nat) (cc : ByteArray) (pc : Nat) (q : wm_Op) : Bool := bif Nat.blt q.2.2.2.2 100 then wm_okL y o cc pc [q] else (decide (decode cc pc = .ok (q.1, wm_len q.1 q.2.1)) && (match q.1 with
  | .ldc i => Nat.beq o 9 && ((Nat.beq i 67 && Nat.beq q.2.2.1 0) || (Nat.beq i 59 && Nat.beq q.2.2.1 1))
  | .getfield i => Nat.beq o 16 && ((Nat.beq i 9 && Nat.beq q.2.2.1 0) || (Nat.beq i 15 && Nat.beq q.2.2.1 1))
  | .invokevirtual i => wm_okI y o pc (.invokevirtual i, 3, q.2.2.1, q.2.2.2.1, q.2.2.2.2 - 1000) && Nat.beq (wm_oc q.2.2.1) 16
  | .baload => true
  | .arraylength => true
  | .i2b => true
  | _ => false))
def wn_okP (y o : Nat) (cc : ByteArray) (pc : Nat) (os : List wm_Op) : Bool := match os with
  | [] => true
  | [q] => wn_okO y o cc pc q
  | _ => false
def wn_okB (y o : Nat) (cc : ByteArray) (B : wm_B) : Bool := B.all (fun q => wn_okP y o cc q.1 q.2)
theorem wn_j0_ok (y o : Nat) (cc : ByteArray) (B : wm_B) : wm_okB y o cc (wn_j0 B) = true := by
  unfold wm_okB wn_j0
  rw [List.all_map]
  exact List.all_eq_true.mpr fun _ _ => rfl
theorem wn_str_of {a : Nat} (h : wn_str a = true) : ∃ i, i < 2 ∧ a = 2000 + i := by
  unfold wn_str at h
  rw [Bool.or_eq_true] at h
  rcases h with h | h
  · exact ⟨0, by decide, Nat.eq_of_beq_eq_true h⟩
  · exact ⟨1, by decide, Nat.eq_of_beq_eq_true h⟩
theorem wn_arr_of {a : Nat} (h : wn_arr a = true) : ∃ i, i < 2 ∧ a = 2010 + i ∧ ([63, 10] : List Nat).getD i 0 = wn_len a ∧ ([wm_S1, wm_S2] : List (List Int32)).getD i [] = wn_byt a := by
  unfold wn_arr at h
  rw [Bool.or_eq_true] at h
  rcases h with h | h
  · have := Nat.eq_of_beq_eq_true h; subst this; exact ⟨0, by decide, rfl, rfl, rfl⟩
  · have := Nat.eq_of_beq_eq_true h; subst this; exact ⟨1, by decide, rfl, rfl, rfl⟩
def wn_FL : List (Nat × Nat) := [(2149, 0), (2150, 1)]
def wn_flc (i : Nat) : Jvm.Cond := bif Nat.beq i 0 then .fieldLink "java/lang/String" 9 "java/lang/String" "value" "[B" else .fieldLink "java/lang/String" 15 "java/lang/String" "coder" "B"
theorem wn_fl_all : wm_scan (fun w q => decide (w = wn_flc q) && goodWord w) lw_tbl 0 wn_FL = true := by decide +kernel
section WNS
variable {G : wm_G} {y e o : Nat} {cc : ByteArray} {nL : Nat} {X : Nat × (Nat → Int32)} {p : Program} {l0 : Launch} {en : Env} {R : Room} {s : State} {m : MethodId} {args : Array Value} {below : List Frame} {meth : Method} {c : Code} {nc ns : Nat} {Qw : State → Prop} {pc : Nat} {l st : List Value} {μ : wm_M}
theorem wn_j_ok {B : wm_B} {cut : List (Nat × List Bool)} {k : Nat → List wm_Op → List Value → List Value → wm_M → Prop} {K : Nat → List Value → wm_M → Prop} (hB : wn_okB y o cc B = true)
    (hk : ∀ pc os l st μ, k pc os l st μ → wn_okP y o cc pc os = true → wm_J G nL p l0 en R s m args below meth c nc ns Qw pc l st μ) (hK0 : ∀ t l μ, K t l μ → wm_J G nL p l0 en R s m args below meth c nc ns Qw t l [] μ) {t : Nat} (h : wm_j B cut k K t l st μ) : wm_J G nL p l0 en R s m args below meth c nc ns Qw t l st μ := by
  unfold wm_j at h
  cases hc : wm_cu cut t with
  | some ms =>
    rw [hc] at h
    cases st with
    | nil => exact fun H locs ls hP hD hS hL => hK0 t _ μ h H locs ls hP hD hS (hL.mask ms)
    | cons v r => exact h.elim
  | none =>
    rw [hc] at h
    cases hl : wm_lk B t with
    | none => simp only [hl] at h
    | some os =>
      simp only [hl] at h
      exact hk t os l st μ h (List.all_eq_true.mp hB _ (wm_lk_ok hl))
/-- a call of a method of a text -/
theorem wn_s_vir (C : wm_C G y e o cc nL X p R nc ns s m args c) {i z np r : Nat} (hok : wm_okI y o pc (.invokevirtual i, 3, z, np, r) = true) (h16 : wm_oc z = 16) (hd : decode cc pc = .ok (.invokevirtual i, 3)) {as rs : List Value} {a : Nat} (ha : wn_str a = true) {f : List Value → wm_M → Prop} (hpp : wm_pp (np % 16) st [] = some (as, .ref a :: rs)) (hsum : Nat.ble (wm_sum rs) 8 = true) (h : wm_call e z r (.ref a :: as) μ f) (hk : ∀ v μ, f v μ → wm_J G nL p l0 en R s m args below meth c nc ns Qw (pc + 3) l (v ++ rs) μ) : wm_J G nL p l0 en R s m args below meth c nc ns Qw pc l st μ := by
  obtain ⟨hx, hb, hml, hown, hts, hK, hX, ⟨hd1, hd2, hd3⟩, hcs, -⟩ := C
  simp only [wm_okI, Bool.and_eq_true] at hok
  obtain ⟨h1, h2, h3, h4, h4b, h5, h6⟩ := hok
  have hnp : np % 16 = wm_np z := Nat.eq_of_beq_eq_true h4
  have hmk := wm_mok_of (wm_blt h5)
  obtain ⟨f1, f2, f3, f4, f5, f6⟩ := wm_mok_facts hmk
  obtain ⟨t, ht, e1⟩ := wm_any_q h1
  have hml1 := wm_scan_T (g := wm_mlc) wm_ml_all ht
  rw [wm_q3_ok e1] at hml1
  obtain ⟨t2, ht2, et2⟩ := wm_any_id h2
  have him := wm_scan_T (g := fun q => Jvm.Cond.instanceMethod (wm_nm q)) wm_im_all ht2
  rw [et2] at him
  obtain ⟨t3, ht3, et3⟩ := wm_any_id h3
  have hse := wm_scan_T (g := fun q => Jvm.Cond.selects (wm_nm q).cls (wm_nm q) (wm_nm q)) wm_se_all ht3
  rw [et3] at hse
  obtain ⟨e2, Qf, hM, hlv, hQf⟩ := wm_call_ok h
  have hdd := wm_dk_ok h6 hlv
  obtain ⟨bs, b1, b2, b3⟩ := wm_pp_ok _ _ _ _ _ hpp
  obtain ⟨si, hsi, ea⟩ := wn_str_of ha
  intro H locs ls hP hD hS hL
  have hrec := vk_recv hX.2.2.2.1 hsi hS
  have hcl : (wm_nm z).cls = "java/lang/String" := by rw [f3, h16]; rfl
  rw [← hcl, ← ea] at hrec
  have hT : GoodIn wm_T (wsV (wm_ow o) i (wm_nm z).cls (wm_nm z) (wm_wo z)) := by
    intro w hw
    unfold wsV at hw
    rcases List.mem_append.mp hw with hw | hw
    · simp only [List.mem_cons, List.not_mem_nil, or_false] at hw
      rcases hw with rfl | rfl | rfl | rfl
      · exact ⟨hml1, wm_T_good hml1⟩
      · exact ⟨him, wm_T_good him⟩
      · exact ⟨hse, wm_T_good hse⟩
      · exact ⟨f2, wm_T_good f2⟩
    · exact wm_wo_good hmk w hw
  have hW8 : 2 * (F0 m pc ls (st.map (wm_v G))).monitorRoom + ((rs.map (wm_v G)).map fun v => v.category).sum ≤ 8 := lv_room (by rw [wm_sum_map]; exact Nat.le_of_ble_eq_true hsum)
  have hstk : (F0 m pc ls (st.map (wm_v G))).stack = (as.map (wm_v G)).reverse ++ .ref (G.2.2.1 a) :: rs.map (wm_v G) := by
    show st.map (wm_v G) = _
    rw [b1, b2]
    simp [wm_v]
  have hrun := va_runV (cells := nc) (slots := ns) (locs := locs) (p := p) (l := l0) (e := en) (below := below) (meth := meth) (rest := rs.map (wm_v G)) (As := as.map (wm_v G)) (Ts := wm_T) (own := wm_ow o) (C := (wm_nm z).cls) (b := G.2.2.1 a) (g := F0 m pc ls (st.map (wm_v G))) (nL := nL) (H := H) (R := R) ⟨hx, hb, hml, hown, hts⟩ (hM l0 G)
    (cwV (maxL := wm_mx z) (bytes := wm_by z) (ret := wm_rt z) (ws' := wm_T) (wm_np z) hts hT rfl rfl rfl ⟨rfl, f4, f5, f6⟩ (wm_room hdd f1 ⟨hd2, hd3⟩)) ⟨wm_blind G _ μ, hrec, wm_pre hK hX hP hD hS (.ref a :: as)⟩ rfl (by rw [List.length_map, b2]; simp [b3, hnp]) hL.1 hstk hW8 hd ⟨hcs.1, hcs.2⟩
  exact wm_back_ok hrun hS (fun v ν H1 locs1 hq1 hP1 hD1 hS1 => by
    have h9 := hk _ ν (hQf v ν hq1) H1 locs1 ls hP1 hD1 hS1 hL
    rw [List.map_append] at h9
    have e9 : v.toList.map (wm_v G) = (v.map (wm_v G)).toList := by cases v <;> rfl
    rw [e9] at h9
    exact h9)
theorem wn_own_ok {B : wm_B} {cut : List (Nat × List Bool)} {K : Nat → List Value → wm_M → Prop} {k : Nat → List wm_Op → List Value → List Value → wm_M → Prop} (C : wm_C G y e o cc nL X p R nc ns s m args c)
    (hk : ∀ pc l st μ, k pc [] l st μ → wm_J G nL p l0 en R s m args below meth c nc ns Qw pc l st μ)
    {q : wm_Op} (hf : Nat.blt q.2.2.2.2 100 = false) (hok : wn_okO y o cc pc q = true) (h : wn_own e B cut K k pc q l st μ) : wm_J G nL p l0 en R s m args below meth c nc ns Qw pc l st μ := by
  have C0 := C
  obtain ⟨hx, hb, hml, hown, hts, hK, hX, hdq, hcs, hsc⟩ := C0
  obtain ⟨i, len, r1, r2, r3⟩ := q
  unfold wn_okO at hok
  rw [hf] at hok
  simp only [cond_false, Bool.and_eq_true, decide_eq_true_eq] at hok
  obtain ⟨hd, hok⟩ := hok
  cases i with
  | ldc i =>
    simp only [Bool.and_eq_true, Bool.or_eq_true] at hok
    obtain ⟨ho, hi⟩ := hok
    have eo : o = 9 := Nat.eq_of_beq_eq_true ho
    have how : s.vm.findClass "WindBoat$Tape" = some m.cls := by rw [eo] at hown; exact hown
    rcases hi with ⟨h1, h2⟩ | ⟨h1, h2⟩
    · have e1 := Nat.eq_of_beq_eq_true h1
      have e2 : r1 = 0 := Nat.eq_of_beq_eq_true h2
      subst e1 e2
      exact fun H locs ls hP hD hS hL => va_ldcS hx hb how hX.2.2.2.2.1 hd (hk _ _ _ _ h H locs ls hP hD hS hL)
    · have e1 := Nat.eq_of_beq_eq_true h1
      have e2 : r1 = 1 := Nat.eq_of_beq_eq_true h2
      subst e1 e2
      exact fun H locs ls hP hD hS hL => va_ldcS hx hb how hX.2.2.2.2.2.1 hd (hk _ _ _ _ h H locs ls hP hD hS hL)
  | getfield i =>
    simp only [Bool.and_eq_true, Bool.or_eq_true] at hok
    obtain ⟨ho, hi⟩ := hok
    have eo : o = 16 := Nat.eq_of_beq_eq_true ho
    have how : s.vm.findClass "java/lang/String" = some m.cls := by rw [eo] at hown; exact hown
    obtain ⟨a, r, rfl, h⟩ := wm_pR_ok h
    obtain ⟨ha, h⟩ := wm_cond_ok h
    obtain ⟨si, hsi, ea⟩ := wn_str_of ha
    subst ea
    have hE := hX.2.2.2.1.1 si hsi
    rcases hi with ⟨h1, h2⟩ | ⟨h1, h2⟩
    · have e1 := Nat.eq_of_beq_eq_true h1
      have e2 : r1 = 0 := Nat.eq_of_beq_eq_true h2
      subst e1 e2
      have hl := hts _ (wm_scan_T (g := wn_flc) wn_fl_all (q := (2149, 0)) (by unfold wn_FL; exact List.mem_cons_self))
      have h' : k (pc + 3) [] l (.ref (2010 + si) :: r) μ := by rw [show 2010 + si = 2000 + si + 10 by omega]; exact h
      exact fun H locs ls hP hD hS hL => vk_getf hx hb hE.2.2.1 hS how hl (fun _ z => z) hd (hk _ _ _ _ h' H locs ls hP hD hS hL)
    · have e1 := Nat.eq_of_beq_eq_true h1
      have e2 : r1 = 1 := Nat.eq_of_beq_eq_true h2
      subst e1 e2
      have hl := hts _ (wm_scan_T (g := wn_flc) wn_fl_all (q := (2150, 1)) (by unfold wn_FL; exact List.mem_cons_of_mem _ List.mem_cons_self))
      exact fun H locs ls hP hD hS hL => vk_getf hx hb hE.2.1 hS how hl (fun _ z => z) hd (hk _ _ _ _ h H locs ls hP hD hS hL)
  | baload =>
    obtain ⟨b, r, rfl, h⟩ := wm_pI_ok h
    obtain ⟨a, r, rfl, h⟩ := wm_pR_ok h
    obtain ⟨ha, h1, h2⟩ := wm_cond_ok h
    obtain ⟨si, hsi, ea, el, eb⟩ := wn_arr_of ha
    have hT := (hX.2.2.2.1.1 si hsi).2.2.2
    rw [el, eb] at hT
    have hT' : va_T .byte (G.2.2.1 a) (wn_len a) (fun j => .int ((wn_byt a).getD j 0)) (wm_A G) s s.heap := by
      have e := ea
      rw [congrArg G.2.2.1 e]; exact hT
    exact fun H locs ls hP hD hS hL => va_tb hx hb hT' hS h1 rfl hd (hk _ _ _ _ h2 H locs ls hP hD hS hL)
  | arraylength =>
    obtain ⟨a, r, rfl, h⟩ := wm_pR_ok h
    obtain ⟨ha, h2⟩ := wm_cond_ok h
    obtain ⟨si, hsi, ea, el, eb⟩ := wn_arr_of ha
    have hT := (hX.2.2.2.1.1 si hsi).2.2.2
    rw [el, eb] at hT
    have hT' : va_T .byte (G.2.2.1 a) (wn_len a) (fun j => .int ((wn_byt a).getD j 0)) (wm_A G) s s.heap := by
      have e := ea
      rw [congrArg G.2.2.1 e]; exact hT
    exact fun H locs ls hP hD hS hL => va_tlen hx hb hT' hS rfl hd (hk _ _ _ _ h2 H locs ls hP hD hS hL)
  | i2b =>
    obtain ⟨a, r, rfl, h⟩ := wm_pI_ok h
    exact fun H locs ls hP hD hS hL => lv_i2b hx hb hd rfl (hk _ _ _ _ h H locs ls hP hD hS hL)
  | invokevirtual i =>
    rw [Bool.and_eq_true] at hok
    obtain ⟨ho, h16⟩ := hok
    unfold wn_own at h
    dsimp only at h ho h16 hd hf
    generalize r3 - 1000 = r at h ho
    split at h
    · rename_i q hpp
      obtain ⟨a, r, eq, h⟩ := wm_pR_ok h
      obtain ⟨hs, h⟩ := wm_cond_ok h
      obtain ⟨ha, h⟩ := wm_cond_ok h
      obtain ⟨as, rs⟩ := q
      simp only at eq
      subst eq
      exact wn_s_vir C ho (Nat.eq_of_beq_eq_true h16) hd ha hpp hs h (fun v μ hv => hk _ _ _ _ hv)
    · exact h.elim
  | _ => first | exact h.elim | (simp at hok)
theorem wn_step_ok {B : wm_B} {cut : List (Nat × List Bool)} {rt : Option FieldType} {Q : Option Value → wm_M → Prop} {K : Nat → List Value → wm_M → Prop} {k : Nat → List wm_Op → List Value → List Value → wm_M → Prop} (C : wm_C G y e o cc nL X p R nc ns s m args c) (hB : wn_okB y o cc B = true)
    (hk : ∀ pc os l st μ, k pc os l st μ → wn_okP y o cc pc os = true → wm_J G nL p l0 en R s m args below meth c nc ns Qw pc l st μ) (hK0 : ∀ t l μ, K t l μ → wm_J G nL p l0 en R s m args below meth c nc ns Qw t l [] μ)
    (hRi : ∀ pc l x μ, decode cc pc = .ok (.ireturn, 1) → wm_ri rt x (Q (some (.int x)) μ) → wm_J G nL p l0 en R s m args below meth c nc ns Qw pc l [.int x] μ)
    (hRj : ∀ pc l x μ, decode cc pc = .ok (.lreturn, 1) → wm_rj rt (Q (some (.long x)) μ) → wm_J G nL p l0 en R s m args below meth c nc ns Qw pc l [.long x] μ)
    (hRa : ∀ pc l x μ, decode cc pc = .ok (.areturn, 1) → wm_ra rt (Q (some (.ref x)) μ) → wm_J G nL p l0 en R s m args below meth c nc ns Qw pc l [.ref x] μ)
    (hRv : ∀ pc l μ, decode cc pc = .ok (.return_, 1) → wm_r0 rt (Q none μ) → wm_J G nL p l0 en R s m args below meth c nc ns Qw pc l [] μ)
    {ops : List wm_Op} (hok : wn_okP y o cc pc ops = true) (h : wn_step B cut e rt X Q K k pc ops l st μ) : wm_J G nL p l0 en R s m args below meth c nc ns Qw pc l st μ := by
  cases ops with
  | nil => exact wn_j_ok hB hk hK0 h
  | cons q os =>
    cases os with
    | cons q2 os => exact absurd (show false = true from hok) (by decide)
    | nil =>
      have hok : wn_okO y o cc pc q = true := hok
      unfold wn_step at h
      simp only at h
      cases hf : Nat.blt q.2.2.2.2 100
      · rw [hf] at h
        exact wn_own_ok (B := B) (cut := cut) (K := K) C (fun pc l st μ hh => hk pc [] l st μ hh rfl) hf hok h
      · rw [hf] at h
        have hok2 : wm_okL y o cc pc [q] = true := by unfold wn_okO at hok; rw [hf] at hok; exact hok
        refine wm_step_ok C (wn_j0_ok y o cc B) (k := wn_k k) (fun pc os l st μ hh _ => ?_) hK0 hRi hRj hRa hRv hok2 h
        cases os with
        | nil => exact hk pc [] l st μ hh rfl
        | cons a b => exact hh.elim
end WNS
def wn_go (B : wm_B) (cut : List (Nat × List Bool)) (e y : Nat) (rt : Option FieldType) (Q : Option Value → wm_M → Prop) (n pc : Nat) (l : List Value) (μ : wm_M) : Prop := match wm_lk B pc with
  | some os => wn_run B cut e rt (0, fun _ => 0) Q (fun t l μ => wm_Wp e y t l μ Q) n pc os l [] μ
  | none => False
theorem wn_vc {e y : Nat} {B : wm_B} (hB : wn_okB y (wm_oc y) (wm_by y) B = true) {rt : Option FieldType} (hr : wm_rt y = rt) (cut : List (Nat × List Bool)) (n : Nat) {Q : Option Value → wm_M → Prop} {pc : Nat} {l : List Value} {μ : wm_M} (h : wn_go B cut e y rt Q n pc l μ) : wm_Wp e y pc l μ Q := by
  intro l0 G p en R s m args below meth c C hrt hlocks
  have fin : ∀ n pc ops l st μ, wn_run B cut e rt (0, fun _ => 0) Q (fun t l μ => wm_Wp e y t l μ Q) n pc ops l st μ → wn_okP y (wm_oc y) (wm_by y) pc ops = true → wm_J G (wm_mx y) p l0 en R s m args below meth c 0 0 (MQ below (wm_Qc G Q) args s 0 0 (wm_A G)) pc l st μ := by
    intro n
    induction n with
    | zero => intro pc ops l st μ h _; exact h.elim
    | succ n ih =>
      intro pc ops l st μ h hok
      refine wn_step_ok C hB (k := wn_run B cut e rt (0, fun _ => 0) Q (fun t l μ => wm_Wp e y t l μ Q) n) ih (fun t l μ hK => hK l0 G p en R s m args below meth c C hrt hlocks) ?_ ?_ ?_ ?_ hok h
      · intro pc l x μ hd hq H locs ls hP hD hS hL
        have post : Q (some (.int x)) μ → ∀ t : State, t.heap = H → s.WarmedH t.vm → wm_Qc G Q args s (.returned (some (.int x))) t := fun hq t ht hW => ⟨some (.int x), μ, rfl, hq, by rw [ht]; exact hP, hD, hS.F ht⟩
        unfold wm_ri at hq
        split at hq
        · exact W.iret C.1 C.2.1 (hrt.trans hr) (post hq) hS.2.2 hd hlocks
        · exact W.zret C.1 C.2.1 (hrt.trans hr) (wm_nb hq.1).1 (post hq.2) hS.2.2 hd hlocks
        · exact W.zret C.1 C.2.1 (hrt.trans hr) hq.1 (post hq.2) hS.2.2 hd hlocks
        · exact W.zret C.1 C.2.1 (hrt.trans hr) hq.1 (post hq.2) hS.2.2 hd hlocks
        · exact hq.elim
      · intro pc l x μ hd hq H locs ls hP hD hS hL
        unfold wm_rj at hq
        split at hq
        · exact W.lret C.1 C.2.1 (hrt.trans hr) (fun t ht hW => ⟨some (.long x), μ, rfl, hq, by rw [ht]; exact hP, hD, hS.F ht⟩) hS.2.2 hd hlocks
        · exact hq.elim
      · intro pc l x μ hd hq H locs ls hP hD hS hL
        unfold wm_ra at hq
        split at hq
        · exact W.aret C.1 C.2.1 (hrt.trans hr) (Or.inl ⟨_, rfl⟩) (Or.inr ⟨_, rfl⟩) (fun t ht hW => ⟨some (.ref x), μ, rfl, hq, by rw [ht]; exact hP, hD, hS.F ht⟩) hS.2.2 hd hlocks
        · exact hq.elim
      · intro pc l μ hd hq H locs ls hP hD hS hL
        unfold wm_r0 at hq
        split at hq
        · exact W.vret C.1 C.2.1 (hrt.trans hr) (fun t ht hW => ⟨none, μ, rfl, hq, by rw [ht]; exact hP, hD, hS.F ht⟩) hS.2.2 hd hlocks
        · exact hq.elim
  unfold wn_go at h
  cases hl : wm_lk B pc with
  | none => rw [hl] at h; exact h.elim
  | some os =>
    rw [hl] at h
    exact fin n pc os l [] μ h (List.all_eq_true.mp hB _ (wm_lk_ok hl))
