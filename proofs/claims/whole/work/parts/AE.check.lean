/-! String.checkIndex: its formatter is a value that nobody knows. -/
def mb_344 : wm_B := [(0, [(.iload_n 0, 1, 0, 0, 0), (.ifCond .lt 8, 3, 9, 0, 0), (.iload_n 0, 1, 0, 0, 0), (.iload_n 1, 1, 0, 0, 0), (.if_icmp .lt 10, 3, 16, 0, 0)]), (16, [(.iload_n 0, 1, 0, 0, 0), (.ireturn, 1, 0, 0, 0)])]
theorem mo_344 : wm_okB 344 (wm_oc 344) (wm_by 344) mb_344 = true := by decide +kernel
theorem w_344_0 (i n : Int32) (μ : wm_M) (Q : Option Value → wm_M → Prop) (h0 : ¬ i < 0) (h1 : i < n) (h : Q (some (.int i)) μ) : wm_Wp 0 344 0 [.int i, .int n, .null] μ Q :=
  wm_vc mo_344 (rt := some .int) (by decide +kernel) [] 30 (show (i < 0 → False) ∧ (¬ i < 0 → ((i < n → Q (some (.int i)) μ) ∧ (¬ i < n → False))) from ⟨h0, fun _ => ⟨fun _ => h, fun q => q h1⟩⟩)
def wr_Pc (G : wm_G) (as : List Value) (μ : wm_M) : Array Value → State → Prop := va_Pc as (fun U => va_P G.1 wm_cl (wm_ws G μ) U.heap ∧ va_K G.1 wm_cl (wm_ty G) U ∧ va_D (wm_A G) (wm_ws G μ) ∧ wm_X G U)
theorem wr_344 (i n : Int32) (v : Value) (hvv : v = .null ∨ ∃ t, v = .ref t) (μ : wm_M) (Q : Option Value → wm_M → Prop) (h : wm_Wp 0 344 0 [.int i, .int n, .null] μ Q) (l : Launch) (G : wm_G) : Met l (wm_nm 344) (wm_wo 344) (wm_rm (wm_dq 344 0)) (wr_Pc G [.int i, .int n, v] μ) (wm_Qc G Q) 0 0 (wm_A G) := by
  have hyN : 344 < wm_N := by decide
  have hmk := wm_mok_of hyN
  obtain ⟨f1, f2, f3, f4, f5, f6⟩ := wm_mok_facts hmk
  have hdq : 1 ≤ wm_dq 344 0 := by decide
  refine MetFree.of_bodySF (code := wm_by 344) (maxLocals := wm_mx 344) (ret := wm_rt 344) (by decide +kernel) (fun args s m hpre hnm => ?_) (fun p en s m args below meth c s₁ B hml hv _ => ?_)
  · obtain ⟨a1, a2, b1, b2, b3, b4, b5, b6, _⟩ := Cond.code_spec hnm (atoms_spec (ws := wm_wo 344) hpre _ List.mem_cons_self)
    exact ⟨a1, a2, b1, b2, b3, b4, b5, b6⟩
  have hW : W p l en (headSpec (wm_wo 344) (wm_rm (wm_dq 344 0))).room s m args below meth c s.heap [] 0 0 (MQ below (wm_Qc G Q) args s 0 0 (wm_A G)) (entryFrame m args (wm_mx 344)) := by
    obtain ⟨rfl, hP, hK, hD, hX⟩ := hv
    have hts := atoms_spec (ws := wm_wo 344) B.pre
    have hown : s.vm.findClass (wm_ow (wm_oc 344)) = some m.cls := by rw [← f3]; exact findClass_of_methodNamed B.named
    have hlen : (lg_sl [.int i, .int n, v]).length ≤ wm_mx 344 := by
      rcases hvv with hz | ⟨t, hz⟩
      · rw [hz]; exact (by decide : 3 ≤ wm_mx 344)
      · rw [hz]; exact (by decide : 3 ≤ wm_mx 344)
    have hle := lv_entry [.int i, .int n, v] (n := wm_mx 344) hlen
    rw [lg_entry_eq]
    refine h l G p en _ s m _ below meth c ⟨B.exec, B.bytes, hml, hown, fun w hw => hts w (List.mem_cons_of_mem _ hw), hK, hX, ⟨hdq, Nat.le_refl _, Nat.le_refl _⟩, ⟨Nat.zero_le _, Nat.zero_le _⟩, Or.inl rfl⟩ B.returns B.notSynchronized s.heap [] _ hP hD va_S.rf ⟨hle.1, hle.2.1, (by decide : 3 ≤ wm_mx 344), fun j w hw hn => ?_⟩
    match j, hw with
    | 0, hw =>
      have e : Value.int i = w := Option.some.inj hw
      subst e
      exact hle.2.2 (0, .int i) (by simp [lv_args])
    | 1, hw =>
      have e : Value.int n = w := Option.some.inj hw
      subst e
      exact hle.2.2 (1, .int n) (by simp [lv_args, Value.category])
    | 2, hw =>
      have e : Value.null = w := Option.some.inj hw
      exact absurd e.symm hn
    | j + 3, hw => exact absurd hw (by simp)
  obtain ⟨t, a1, o, b1, b2, b3⟩ := hW s₁ (by rw [B.state]; rfl) (Stand.of_body B)
  exact ⟨t, o, a1, b1, b2, b3.1, b3.2⟩
theorem wr_blind (G : wm_G) (as : List Value) (μ : wm_M) : FrameBlind (wr_Pc G as μ) := by
  intro a U g mk q
  obtain ⟨q0, qP, qK, qD, h1, h2, h3, h4, h5, h6, h7⟩ := q
  exact ⟨q0, qP, va_K.moved (u := U) (U := U.calling g mk a) (Vm.Alike.refl U.vm) qK, qD, fun q hq => va_Nw.same rfl (u := U) (U := U.calling g mk a) rfl (h1 q hq), fun q hz => va_Z.moved (u := U) (U := U.calling g mk a) (Vm.Alike.refl U.vm) (h2 q hz), fun q hz => va_T.moved (u := U) (U := U.calling g mk a) (Vm.Alike.refl U.vm) (h3 q hz), vk_S.moved (u := U) (U := U.calling g mk a) (Vm.Alike.refl U.vm) h4, vk_R.same (u := U) (U := U.calling g mk a) rfl h5, vk_R.same (u := U) (U := U.calling g mk a) rfl h6, va_Zq.moved (u := U) (U := U.calling g mk a) (Vm.Alike.refl U.vm) h7⟩
theorem wr_pre {G : wm_G} {s : State} {μ : wm_M} (hK : va_K G.1 wm_cl (wm_ty G) s) (hX : wm_X G s) {H : Heap} {locs : List Loc} (hP : va_P G.1 wm_cl (wm_ws G μ) H) (hD : va_D (wm_A G) (wm_ws G μ)) (hS : va_S (wm_A G) s.heap H locs) (as : List Value) : ∀ U : State, U.heap = H → s.WarmedH U.vm → wr_Pc G as μ as.toArray U := by
  intro U hU hW
  exact ⟨rfl, by rw [hU]; exact hP, va_K.moved hW.alike hK, hD, hX.go hW (fun a h1 h2 => by rw [hU]; exact hS.2.1 a h1 h2)⟩
section WNE
variable {G : wm_G} {y e o : Nat} {cc : ByteArray} {nL : Nat} {X : Nat × (Nat → Int32)} {p : Program} {l0 : Launch} {en : Env} {R : Room} {s : State} {m : MethodId} {args : Array Value} {below : List Frame} {meth : Method} {c : Code} {nc ns : Nat} {Qw : State → Prop} {pc : Nat} {l st : List Value} {μ : wm_M}
theorem wm_one (C : wm_C G y e o cc nL X p R nc ns s m args c) {q : wm_Op} (hok : wm_okL y o cc pc [q] = true)
    (h : wm_step [] [] e none X (fun _ _ => False) (fun _ _ _ => False) (fun pc _ l st μ => wm_J G nL p l0 en R s m args below meth c nc ns Qw pc l st μ) pc [q] l st μ) : wm_J G nL p l0 en R s m args below meth c nc ns Qw pc l st μ :=
  wm_step_ok (B := []) (cut := []) (rt := none) (Q := fun _ _ => False) (K := fun _ _ _ => False) C rfl (fun _ _ _ _ _ h _ => h) (fun _ _ _ h => h.elim) (fun _ _ _ _ _ h => (show False from h).elim) (fun _ _ _ _ _ h => (show False from h).elim) (fun _ _ _ _ _ h => (show False from h).elim) (fun _ _ _ _ h => (show False from h).elim) hok h
end WNE
def wn_SI : List (Nat × Nat) := [(834, 0)]
def wn_sic (_ : Nat) : Jvm.Cond := .fieldLink "java/lang/String" 1053 "jdk/internal/util/Preconditions" "SIOOBE_FORMATTER" "Ljava/util/function/BiFunction;"
theorem wn_si_all : wm_scan (fun w q => decide (w = wn_sic q) && goodWord w) lw_tbl 0 wn_SI = true := by decide +kernel
theorem mo_327 : wm_okB 327 (wm_oc 327) (wm_by 327) [(0, [(.iload_n 0, 1, 0, 0, 0)]), (1, [(.iload_n 1, 1, 0, 0, 0)]), (5, [(.invokestatic 1059, 3, 344, 3, 4)]), (8, [(.pop, 1, 0, 0, 0)]), (9, [(.return_, 1, 0, 0, 0)])] = true := by decide +kernel
theorem dec_327 : decode (wm_by 327) 2 = .ok (.getstatic 1053, 3) := by decide +kernel

theorem s_327 (i n : Int32) (h0 : ¬ i < 0) (h1 : i < n) {μ : wm_M} {Q : wm_M → Prop} (h : Q μ) : wm_OkV 0 327 [.int i, .int n] μ Q := by
  refine wm_ent (nL := 2) (l := [.int i, .int n]) (by decide +kernel) (by decide +kernel) (by decide +kernel) rfl rfl ?_
  intro l0 G p en R s m args below meth c C hrt hlocks
  have k9 : wm_J G (wm_mx 327) p l0 en R s m args below meth c 0 0 (MQ below (wm_Qc G (fun v ν => v = none ∧ Q ν)) args s 0 0 (wm_A G)) 9 [.int i, .int n] [] μ :=
    wm_vc mo_327 (rt := none) (by decide +kernel) [] 5 (pc := 9) (Q := fun v ν => v = none ∧ Q ν) (show (none : Option Value) = none ∧ Q μ from ⟨rfl, h⟩) l0 G p en R s m args below meth c C hrt hlocks
  have k8 : wm_J G (wm_mx 327) p l0 en R s m args below meth c 0 0 (MQ below (wm_Qc G (fun v ν => v = none ∧ Q ν)) args s 0 0 (wm_A G)) 8 [.int i, .int n] [.int i] μ :=
    wm_one C (q := (.pop, 1, 0, 0, 0)) (by decide +kernel) k9
  have k2 : wm_J G (wm_mx 327) p l0 en R s m args below meth c 0 0 (MQ below (wm_Qc G (fun v ν => v = none ∧ Q ν)) args s 0 0 (wm_A G)) 2 [.int i, .int n] [.int n, .int i] μ := by
    have C0 := C
    obtain ⟨hx, hb, hml, hown, hts, hK, hX, ⟨hd1, hd2, hd3⟩, hcs, -⟩ := C0
    intro H locs ls hP hD hS hL
    have hl := hts _ (wm_scan_T (g := wn_sic) wn_si_all (q := (834, 0)) List.mem_cons_self)
    have how : s.vm.findClass "java/lang/String" = some m.cls := hown
    have hmk := wm_mok_of (show 344 < wm_N by decide)
    obtain ⟨f1, f2, f3, f4, f5, f6⟩ := wm_mok_facts hmk
    have hml0 : wm_ML.any (fun t => wm_q3 t.2 16 1059 344) = true := by decide +kernel
    obtain ⟨t, ht, e1⟩ := wm_any_q hml0
    have hml1 := wm_scan_T (g := wm_mlc) wm_ml_all ht
    rw [wm_q3_ok e1] at hml1
    have hst0 : wm_ST.any (fun t => Nat.beq t.2 344) = true := by decide +kernel
    obtain ⟨t2, ht2, et2⟩ := wm_any_id hst0
    have hst := wm_scan_T (g := fun q => Jvm.Cond.static (wm_nm q)) wm_st_all ht2
    rw [et2] at hst
    have hT : GoodIn wm_T (va_wsS (wm_ow 16) 1059 (wm_nm 344) (wm_wo 344)) := by
      intro w hw
      unfold va_wsS at hw
      rcases List.mem_append.mp hw with hw | hw
      · simp only [List.mem_cons, List.not_mem_nil, or_false] at hw
        rcases hw with rfl | rfl | rfl
        · exact ⟨hml1, wm_T_good hml1⟩
        · exact ⟨hst, wm_T_good hst⟩
        · exact ⟨f2, wm_T_good f2⟩
      · exact wm_wo_good hmk w hw
    have hdd : wm_dq 344 0 + 1 ≤ wm_dq 327 0 := by decide
    have hd5 : decode (wm_by 327) 5 = .ok (.invokestatic 1059, 3) := by decide +kernel
    have call : ∀ v, (v = .null ∨ ∃ t, v = .ref t) → W p l0 en R s m args below meth c H locs 0 0 (MQ below (wm_Qc G (fun v ν => v = none ∧ Q ν)) args s 0 0 (wm_A G)) (F0 m 5 ls [v, .int n, .int i]) := by
      intro v hv
      have hM := wr_344 i n v hv μ (fun r ν => r = some (.int i) ∧ ν = μ) (w_344_0 i n μ _ h0 h1 ⟨rfl, rfl⟩) l0 G
      have hW8 : 2 * (F0 m 5 ls [v, .int n, .int i]).monitorRoom + ((([] : List Value)).map fun v => v.category).sum ≤ 8 := lv_room (by simp)
      have hrun : va_Run p l0 en R s m args below meth c H locs 0 0 0 0 (F0 m 5 ls [v, .int n, .int i]) [] (wm_Qc G (fun r ν => r = some (.int i) ∧ ν = μ) [.int i, .int n, v].toArray) (wm_A G) :=
        va_runS (rest := []) (As := [.int i, .int n, v]) (Ts := wm_T) (own := wm_ow 16) (g := F0 m 5 ls [v, .int n, .int i]) (nL := wm_mx 327) ⟨hx, hb, hml, hown, hts⟩ hM
          (va_cwS (maxL := wm_mx 344) (bytes := wm_by 344) (ret := wm_rt 344) (ws' := wm_T) (wm_np 344) hts hT rfl rfl rfl ⟨f4, f5, f6⟩ (wm_room (y := 327) (e := 0) hdd f1 ⟨hd2, hd3⟩)) ⟨wr_blind G _ μ, wr_pre hK hX hP hD hS _⟩ rfl rfl hL.1 rfl hW8 hd5 ⟨hcs.1, hcs.2⟩
      exact wm_back_ok hrun hS (fun r ν H1 locs1 hq hP1 hD1 hS1 => by
        obtain ⟨rfl, rfl⟩ := hq
        exact k8 H1 locs1 ls hP1 hD1 hS1 hL)
    rcases hX.2.2.2.2.2.2 with hZ | ⟨t, hZ⟩
    · exact va_gets hx hb hZ hS how hl (fun _ z => z) dec_327 (call .null (Or.inl rfl))
    · exact va_gets hx hb hZ hS how hl (fun _ z => z) dec_327 (call (.ref t) (Or.inr ⟨t, rfl⟩))
  have k1 : wm_J G (wm_mx 327) p l0 en R s m args below meth c 0 0 (MQ below (wm_Qc G (fun v ν => v = none ∧ Q ν)) args s 0 0 (wm_A G)) 1 [.int i, .int n] [.int i] μ :=
    wm_one C (q := (.iload_n 1, 1, 0, 0, 0)) (by decide +kernel) k2
  exact wm_one C (q := (.iload_n 0, 1, 0, 0, 0)) (by decide +kernel) k1
