/-! Pure calls: within, beside. Printed by wip/gen/genbes.py. -/
def cx_PI (y d : Nat) (as : List Value) (r : Int32) : Prop := ∀ l : Launch, Met l (wm_nm y) (wm_wo y) (cx_rm d 0 0) (va_Pc as cx_N) (va_Qi (fun x (_ : Unit) => x = r) (fun _ _ => True) (fun _ => False)) 0 0 (fun _ => False)
def cp_E (y : Nat) (p : Program) (s : State) (m : MethodId) (args : Array Value) (c : Code) : Prop :=
  p.tables.exec = Jvm.exec ∧ c.code = wm_by y ∧ c.maxLocals = wm_mx y ∧ s.vm.findClass (wm_ow (wm_oc y)) = some m.cls ∧ (∀ w ∈ wm_T, w.before args s = true)
def cp_J (p : Program) (l : Launch) (e : Env) (R : Room) (s : State) (m : MethodId) (args : Array Value) (below : List Frame) (meth : Method) (c : Code) (Q : State → Prop) (pc : Nat) (ls : Array Slot) (st : List Value) : Prop :=
  ∀ (H : Heap) (locs : List Loc), va_S (fun _ => False) s.heap H locs → W p l e R s m args below meth c H locs 0 0 Q (F0 m pc ls st)
theorem cp_enter {y d : Nat} {as : List Value} {r : Int32} {ty : FieldType} (hy : Nat.blt y wm_N = true) (hm : plainName (wm_nm y).cls = true) (hal : (lg_sl as).length ≤ wm_mx y) (hr : wm_rt y = some ty) (hnr : narrow ty (.int r) = .int r)
    (h : ∀ (l : Launch) (p : Program) (e : Env) (s : State) (m : MethodId) (below : List Frame) (meth : Method) (c : Code) (Q : State → Prop), cp_E y p s m as.toArray c → cx_N s → (∀ (pc : Nat) (ls : Array Slot), decode (wm_by y) pc = .ok (.ireturn, 1) → cp_J p l e (cx_rm d 0 0) s m as.toArray below meth c Q pc ls [.int r]) → ∀ ls : Array Slot, lv_has ls (wm_mx y) (lv_args 0 as) → cp_J p l e (cx_rm d 0 0) s m as.toArray below meth c Q 0 ls []) : cx_PI y d as r := by
  intro l
  have hyN := wm_blt hy
  have hmk := wm_mok_of hyN
  obtain ⟨f1, f2, f3, f4, f5, f6⟩ := wm_mok_facts hmk
  refine Met.ofW (cc := wm_by y) (maxL := wm_mx y) (ret := wm_rt y) hm rfl ?_
  intro p en s m args below meth c s₁ B hml hv
  obtain ⟨rfl, hN⟩ := hv
  have hts := atoms_spec (ws := wm_wo y) B.pre
  have hown : s.vm.findClass (wm_ow (wm_oc y)) = some m.cls := by rw [← f3]; exact findClass_of_methodNamed B.named
  have hle := lv_entry as (n := wm_mx y) hal
  have hlocks := B.notSynchronized
  rw [lg_entry_eq]
  exact h l p en s m below meth c _ ⟨B.exec, B.bytes, hml, hown, fun w hw => hts w (List.mem_cons_of_mem _ hw)⟩ hN (fun pc ls hd H locs hS => W.zret B.exec B.bytes (B.returns.trans hr) hnr (fun t ht hW => ⟨⟨r, (), rfl, rfl, trivial⟩, hS.F ht⟩) hS.2.2 hd hlocks) _ hle s.heap [] va_S.rf
section CPS
variable {y : Nat} {p : Program} {l : Launch} {e : Env} {R : Room} {s : State} {m : MethodId} {args : Array Value} {below : List Frame} {meth : Method} {c : Code} {Q : State → Prop} {pc : Nat} {ls : Array Slot} {rest : List Value} {cells slots : Nat}
theorem cp_blind (as : List Value) : FrameBlind (va_Pc as cx_N) := by
  intro a U gg mk q
  obtain ⟨q0, qN⟩ := q
  exact ⟨q0, fun q hq => va_Nw.same rfl (u := U) (U := U.calling gg mk a) rfl (qN q hq)⟩
theorem cp_call (E : cp_E y p s m args c) (hN : cx_N s) {i z d : Nat} {As st : List Value} {r : Int32} (hl : (wm_ML.any (fun t => wm_q3 t.2 (wm_oc y) i z) || wm_NL.any (fun t => wm_q3 t.2 (wm_oc y) i z)) = true) (hstt : wm_ST.any (fun t => Nat.beq t.2 z) = true) (hz : Nat.blt z wm_N = true) (hnp : As.length = wm_np z) (hM : cx_PI z d As r) (hR : d + 1 ≤ R.frames ∧ 100 * (d + 1) ≤ R.locals) (hsz : ls.size = wm_mx y) (hst : st = As.reverse ++ rest) (hsum : (rest.map fun v => v.category).sum ≤ 8) (hc : cells ≤ R.cells) (hs : slots ≤ R.slots) (hdg : decode (wm_by y) pc = .ok (.invokestatic i, 3))
    {A0 : Nat → Prop} {H0 H : Heap} {locs : List Loc} (hS : va_S A0 H0 H locs) (k : ∀ (H1 : Heap) (locs1 : List Loc), (∀ q : Nat, q < H.size → H1[q]? = H[q]?) → va_S A0 H0 H1 locs1 → W p l e R s m args below meth c H1 locs1 cells slots Q (F0 m (pc + 3) ls (.int r :: rest))) : W p l e R s m args below meth c H locs cells slots Q (F0 m pc ls st) := by
  obtain ⟨hx, hb, hml, hown, hts⟩ := E
  have hmk := wm_mok_of (wm_blt hz)
  obtain ⟨f1, f2, f3, f4, f5, f6⟩ := wm_mok_facts hmk
  have hroom : (cx_rm d 0 0).frames + 1 ≤ R.frames ∧ 8 + (wm_mx z + 11) + (cx_rm d 0 0).locals ≤ R.locals := by
    simp only [cx_rm]
    omega
  have hpre : PreS s H (va_Pc As cx_N) As := ⟨cp_blind _, fun U hU hW => ⟨rfl, fun q hq => va_Nw.warmM hW (hN q hq)⟩⟩
  have hW8 : 2 * (F0 m pc ls st).monitorRoom + (rest.map fun v => v.category).sum ≤ 8 := lv_room hsum
  have hsw := cx_st hstt
  have hrun : va_Run p l e R s m args below meth c H locs cells slots 0 0 (F0 m pc ls st) rest (va_Qi (fun x (_ : Unit) => x = r) (fun _ _ => True) (fun _ => False) As.toArray) (fun _ => False) := by
    rcases (Bool.or_eq_true _ _).mp hl with h1 | h1
    · have hml1 := cx_ml h1
      have hT : GoodIn wm_T (va_wsS (wm_ow (wm_oc y)) i (wm_nm z) (wm_wo z)) := by
        intro w hw
        unfold va_wsS at hw
        rcases List.mem_append.mp hw with hw | hw
        · simp only [List.mem_cons, List.not_mem_nil, or_false] at hw
          rcases hw with rfl | rfl | rfl
          · exact ⟨hml1, wm_T_good hml1⟩
          · exact ⟨hsw, wm_T_good hsw⟩
          · exact ⟨f2, wm_T_good f2⟩
        · exact wm_wo_good hmk w hw
      exact va_runS (g := F0 m pc ls st) (nL := wm_mx y) (Ts := wm_T) (own := wm_ow (wm_oc y)) ⟨hx, hb, hml, hown, hts⟩ (hM l) (va_cwS (maxL := wm_mx z) (bytes := wm_by z) (ret := wm_rt z) (ws' := wm_T) (wm_np z) hts hT rfl rfl rfl ⟨f4, f5, f6⟩ hroom) hpre rfl hnp hsz hst hW8 hdg ⟨hc, hs⟩
    · obtain ⟨t, ht, e1⟩ := wm_any_q h1
      have hn1 := hN t ht
      rw [wm_q3_ok e1] at hn1
      exact va_runSN (host := "WindBoat") (g := F0 m pc ls st) (nL := wm_mx y) (Ts := wm_T) (own := wm_ow (wm_oc y)) ⟨hx, hb, hml, hown, hts⟩ (hM l) ⟨va_cnB (maxL := wm_mx z) (bytes := wm_by z) (ret := wm_rt z) (ws' := wm_T) (wm_np z) hts (wm_wo_good hmk) rfl rfl rfl hn1 (hts _ f2) ⟨f4, f5, f6⟩ hroom, hts _ hsw, trivial⟩ hpre rfl hnp hsz hst hW8 hdg ⟨hc, hs⟩
  refine va_calli hrun hS (fun q _ h => h.elim) (fun q h => h.elim) (fun x u t H1 locs1 ht hvm hw hB hz1 hk1 hS1 => ?_)
  subst hw
  exact k H1 locs1 (fun q hq => hk1 q hq (fun z => z)) hS1
end CPS
set_option maxRecDepth 100000 in
theorem dk_178 : cx_dk 178 [(0, .iload_n 0, 1), (1, .iload_n 1, 1), (2, .if_icmp .lt 12, 3), (5, .iload_n 0, 1), (6, .iload_n 2, 1), (7, .if_icmp .gt 7, 3), (10, .iconst 1, 1), (11, .goto 4, 3), (14, .iconst 0, 1), (15, .ireturn, 1)] = true := by decide +kernel
theorem pi_178 (a b c : Int32) : cx_PI 178 0 [.int a, .int b, .int c] (bI (b ≤ a ∧ a ≤ c)) := by
  refine cp_enter (ty := .boolean) (by decide +kernel) (by decide +kernel) (Nat.le_of_ble_eq_true rfl) (by decide +kernel) (by unfold bI; split <;> rfl) ?_
  intro l p e s m below meth cc Q E hN hret ls hl H locs hS
  obtain ⟨hx, hb, -, -, -⟩ := E
  have hl : lv_has ls 3 [(0, .int a), (1, .int b), (2, .int c)] := hl
  have r0 : ¬ (b ≤ a ∧ a ≤ c) → W p l e (cx_rm 0 0 0) s m [Value.int a, Value.int b, Value.int c].toArray below meth cc H locs 0 0 Q (F0 m 14 ls []) := fun h => by
    refine lv_iconst (v := 0) hx hb (cx_d dk_178 8 rfl) (by decide) ?_
    have := hret 15 ls (cx_d dk_178 9 rfl) H locs hS
    rw [bI_f h] at this
    exact this
  refine lv_iload_n hx hb (cx_d dk_178 0 rfl) rfl (lv_at hl 0 rfl) ?_
  refine lv_iload_n hx hb (cx_d dk_178 1 rfl) rfl (lv_at hl 1 rfl) ?_
  refine lv_icmp_lt (tgt := 14) hx hb (cx_d dk_178 2 rfl) (by decide) (fun z => r0 (fun q => Int32.not_le.mpr z q.1)) (fun z => ?_)
  refine lv_iload_n hx hb (cx_d dk_178 3 rfl) rfl (lv_at hl 0 rfl) ?_
  refine lv_iload_n hx hb (cx_d dk_178 4 rfl) rfl (lv_at hl 2 rfl) ?_
  refine lv_icmp_gt (tgt := 14) hx hb (cx_d dk_178 5 rfl) (by decide) (fun z => r0 (fun q => Int32.not_le.mpr z q.2)) (fun z2 => ?_)
  refine lv_iconst (v := 1) hx hb (cx_d dk_178 6 rfl) (by decide) ?_
  refine lv_goto (tgt := 15) hx hb (cx_d dk_178 7 rfl) (by decide) ?_
  have := hret 15 ls (cx_d dk_178 9 rfl) H locs hS
  rw [bI_t ⟨Int32.not_lt.mp z, Int32.not_lt.mp z2⟩] at this
  exact this
set_option maxRecDepth 100000 in
theorem dk_182 : cx_dk 182 [(0, .iload_n 0, 1), (1, .bipush 6, 2), (3, .idiv, 1), (4, .istore_n 2, 1), (5, .iload_n 0, 1), (6, .bipush 6, 2), (8, .irem, 1), (9, .istore_n 3, 1), (10, .iload_n 1, 1), (11, .bipush 7, 2), (13, .if_icmp .eq 8, 3), (16, .iload_n 1, 1), (17, .iconst 1, 1), (18, .if_icmp .gt 9, 3), (21, .iinc 2 (-1), 3), (24, .goto 16, 3), (27, .iload_n 1, 1), (28, .iconst 3, 1), (29, .if_icmp .lt 11, 3), (32, .iload_n 1, 1), (33, .iconst 5, 1), (34, .if_icmp .gt 6, 3), (37, .iinc 2 1, 3), (40, .iload_n 1, 1), (41, .iconst 1, 1), (42, .if_icmp .lt 14, 3), (45, .iload_n 1, 1), (46, .iconst 3, 1), (47, .if_icmp .gt 9, 3), (50, .iinc 3 1, 3), (53, .goto 11, 3), (56, .iload_n 1, 1), (57, .iconst 5, 1), (58, .if_icmp .lt 6, 3), (61, .iinc 3 (-1), 3), (64, .iload_n 2, 1), (65, .iconst 0, 1), (66, .iconst 5, 1), (67, .invokestatic 91, 3), (70, .ifCond .eq 16, 3), (73, .iload_n 3, 1), (74, .iconst 0, 1), (75, .iconst 5, 1), (76, .invokestatic 91, 3), (79, .ifCond .eq 7, 3), (82, .iconst 1, 1), (83, .goto 4, 3), (86, .iconst 0, 1), (87, .istore 4, 2), (89, .iload 4, 2), (91, .ifCond .eq 12, 3), (94, .iload_n 2, 1), (95, .bipush 6, 2), (97, .imul, 1), (98, .iload_n 3, 1), (99, .iadd, 1), (100, .goto 4, 3), (103, .iconst (-1), 1), (104, .ireturn, 1)] = true := by decide +kernel
theorem pt_182 {l : Launch} {p : Program} {e : Env} {s : State} {m : MethodId} {below : List Frame} {meth : Method} {cc : Code} {Q : State → Prop} {args : Array Value} {c h r k : Nat} (E : cp_E 182 p s m args cc) (hN : cx_N s) (hret : ∀ (pc : Nat) (ls : Array Slot), decode (wm_by 182) pc = .ok (.ireturn, 1) → cp_J p l e (cx_rm 1 0 0) s m args below meth cc Q pc ls [.int (bsI c h)]) (hr : r < 8) (hk : k < 8) (eb : bsA c h = if 1 ≤ r ∧ r ≤ 6 ∧ 1 ≤ k ∧ k ≤ 6 then 6 * (r - 1) + (k - 1) else 36) (ls : Array Slot) (hl : lv_has ls 5 [(2, .int (nI r + (-1))), (3, .int (nI k + (-1)))]) : cp_J p l e (cx_rm 1 0 0) s m args below meth cc Q 64 ls [] := by
  have hx := E.1
  have hb := E.2.1
  have bad : ¬ (1 ≤ r ∧ r ≤ 6 ∧ 1 ≤ k ∧ k ≤ 6) → cp_J p l e (cx_rm 1 0 0) s m args below meth cc Q 86 ls [] := fun q H locs hS => by
    rw [if_neg q] at eb
    have e1 : bsI c h = -1 := if_pos eb
    refine lv_iconst (v := 0) hx hb (cx_d dk_182 47 rfl) (by decide) ?_
    refine lv_istore (lv' := [(4, .int 0), (2, .int (nI r + (-1))), (3, .int (nI k + (-1)))]) hx hb (cx_d dk_182 48 rfl) hl (by decide) rfl (fun ls hl => ?_)
    refine lv_iload hx hb (cx_d dk_182 49 rfl) (lv_at hl 0 rfl) ?_
    refine lv_if_eq (tgt := 103) hx hb (cx_d dk_182 50 rfl) (by decide) (fun _ => ?_) (fun z => absurd rfl z)
    refine lv_iconst (v := -1) hx hb (cx_d dk_182 57 rfl) (by decide) ?_
    have := hret 104 ls (cx_d dk_182 58 rfl) H locs hS
    rw [e1] at this
    exact this
  intro H locs hS
  refine lv_iload_n hx hb (cx_d dk_182 35 rfl) rfl (lv_at hl 0 rfl) ?_
  refine lv_iconst (v := 0) hx hb (cx_d dk_182 36 rfl) (by decide) ?_
  refine lv_iconst (v := 5) hx hb (cx_d dk_182 37 rfl) (by decide) ?_
  refine cp_call (rest := []) (As := [.int (nI r + (-1)), .int 0, .int 5]) E hN (by decide +kernel) (by decide +kernel) (by decide +kernel) rfl (pi_178 (nI r + (-1)) 0 5) ⟨Nat.le_of_ble_eq_true rfl, Nat.le_of_ble_eq_true rfl⟩ hl.1 rfl (Nat.zero_le _) (Nat.zero_le _) (Nat.zero_le _) (cx_d dk_182 38 rfl) hS (fun H locs _ hS => ?_)
  refine lv_if_eq (tgt := 86) hx hb (cx_d dk_182 39 rfl) (by decide) (fun z => bad (fun q => bI_0.mp z ((bs_r r hr).mpr ⟨q.1, q.2.1⟩)) H locs hS) (fun z => ?_)
  refine lv_iload_n hx hb (cx_d dk_182 40 rfl) rfl (lv_at hl 1 rfl) ?_
  refine lv_iconst (v := 0) hx hb (cx_d dk_182 41 rfl) (by decide) ?_
  refine lv_iconst (v := 5) hx hb (cx_d dk_182 42 rfl) (by decide) ?_
  refine cp_call (rest := []) (As := [.int (nI k + (-1)), .int 0, .int 5]) E hN (by decide +kernel) (by decide +kernel) (by decide +kernel) rfl (pi_178 (nI k + (-1)) 0 5) ⟨Nat.le_of_ble_eq_true rfl, Nat.le_of_ble_eq_true rfl⟩ hl.1 rfl (Nat.zero_le _) (Nat.zero_le _) (Nat.zero_le _) (cx_d dk_182 43 rfl) hS (fun H locs _ hS => ?_)
  refine lv_if_eq (tgt := 86) hx hb (cx_d dk_182 44 rfl) (by decide) (fun y => bad (fun q => bI_0.mp y ((bs_r k hk).mpr q.2.2)) H locs hS) (fun y => ?_)
  have z := (bs_r r hr).mp (nz z)
  have y := (bs_r k hk).mp (nz y)
  have ok : 1 ≤ r ∧ r ≤ 6 ∧ 1 ≤ k ∧ k ≤ 6 := ⟨z.1, z.2, y⟩
  rw [if_pos ok] at eb
  have e1 : bsI c h = nI (6 * (r - 1) + (k - 1)) := by
    unfold bsI
    rw [if_neg (by rw [eb]; omega), eb]
  refine lv_iconst (v := 1) hx hb (cx_d dk_182 45 rfl) (by decide) ?_
  refine lv_goto (tgt := 87) hx hb (cx_d dk_182 46 rfl) (by decide) ?_
  refine lv_istore (lv' := [(4, .int 1), (2, .int (nI r + (-1))), (3, .int (nI k + (-1)))]) hx hb (cx_d dk_182 48 rfl) hl (by decide) rfl (fun ls hl => ?_)
  refine lv_iload hx hb (cx_d dk_182 49 rfl) (lv_at hl 0 rfl) ?_
  refine lv_if_eq (tgt := 103) hx hb (cx_d dk_182 50 rfl) (by decide) (fun q => absurd q (by decide)) (fun _ => ?_)
  refine lv_iload_n hx hb (cx_d dk_182 51 rfl) rfl (lv_at hl 1 rfl) ?_
  refine lv_bipush (v := 6) hx hb (cx_d dk_182 52 rfl) (by decide) ?_
  refine lv_imul hx hb (cx_d dk_182 53 rfl) ?_
  refine lv_iload_n hx hb (cx_d dk_182 54 rfl) rfl (lv_at hl 2 rfl) ?_
  refine lv_iadd hx hb (cx_d dk_182 55 rfl) ?_
  refine lv_goto (tgt := 104) hx hb (cx_d dk_182 56 rfl) (by decide) ?_
  have := hret 104 ls (cx_d dk_182 58 rfl) H locs hS
  rw [e1, ← (bs_fin hr hk ok).1] at this
  exact this
set_option maxRecDepth 100000 in
theorem pb_182_0 (c : Nat) (hc : c < 36) : cx_PI 182 1 [.int (nI c), .int 0] (bsI c 0) := by
  have r6 : c / 6 < 6 := by omega
  have k6 : c % 6 < 6 := by omega
  refine cp_enter (ty := .int) (by decide +kernel) (by decide +kernel) (Nat.le_of_ble_eq_true rfl) (by decide +kernel) rfl ?_
  intro l p e s m below meth cc Q E hN hret ls hl H locs hS
  have hx := E.1
  have hb := E.2.1
  have hl : lv_has ls 5 [(0, .int (nI c)), (1, .int 0)] := hl
  refine lv_iload_n hx hb (cx_d dk_182 0 rfl) rfl (lv_at hl 0 rfl) ?_
  refine lv_bipush (v := 6) hx hb (cx_d dk_182 1 rfl) (by decide) ?_
  refine lv_idiv hx hb (cx_d dk_182 2 rfl) (by decide) ?_
  rw [dv6 (by omega)]
  refine lv_istore_n (lv' := [(2, .int (nI (c / 6))), (0, .int (nI c)), (1, .int 0)]) hx hb (cx_d dk_182 3 rfl) rfl hl (by decide) rfl (fun ls hl => ?_)
  refine lv_iload_n hx hb (cx_d dk_182 4 rfl) rfl (lv_at hl 1 rfl) ?_
  refine lv_bipush (v := 6) hx hb (cx_d dk_182 5 rfl) (by decide) ?_
  refine lv_irem hx hb (cx_d dk_182 6 rfl) (by decide) ?_
  rw [rm6 (by omega)]
  refine lv_istore_n (lv' := [(3, .int (nI (c % 6))), (2, .int (nI (c / 6))), (0, .int (nI c)), (1, .int 0)]) hx hb (cx_d dk_182 7 rfl) rfl hl (by decide) rfl (fun ls hl => ?_)
  refine lv_iload_n hx hb (cx_d dk_182 8 rfl) rfl (lv_at hl 3 rfl) ?_
  refine lv_bipush (v := 7) hx hb (cx_d dk_182 9 rfl) (by decide) ?_
  refine lv_icmp_eq (tgt := 21) hx hb (cx_d dk_182 10 rfl) (by decide) (fun z => absurd z (by decide)) (fun z => ?_)
  refine lv_iload_n hx hb (cx_d dk_182 11 rfl) rfl (lv_at hl 3 rfl) ?_
  refine lv_iconst (v := 1) hx hb (cx_d dk_182 12 rfl) (by decide) ?_
  refine lv_icmp_gt (tgt := 27) hx hb (cx_d dk_182 13 rfl) (by decide) (fun z => absurd z (by decide)) (fun z => ?_)
  refine lv_iinc (v := nI (c / 6) + (-1)) (lv' := [(2, .int (nI (c / 6) + (-1))), (3, .int (nI (c % 6))), (0, .int (nI c)), (1, .int (0))]) hx hb (cx_d dk_182 14 rfl) hl (k := 1) rfl (by rw [show Int32.ofInt (-1) = (-1) from by decide]) (by decide) rfl (fun ls hl => ?_)
  refine lv_goto (tgt := 40) hx hb (cx_d dk_182 15 rfl) (by decide) ?_
  refine lv_iload_n hx hb (cx_d dk_182 23 rfl) rfl (lv_at hl 3 rfl) ?_
  refine lv_iconst (v := 1) hx hb (cx_d dk_182 24 rfl) (by decide) ?_
  refine lv_icmp_lt (tgt := 56) hx hb (cx_d dk_182 25 rfl) (by decide) (fun z => ?_) (fun z => absurd (by decide) z)
  refine lv_iload_n hx hb (cx_d dk_182 31 rfl) rfl (lv_at hl 3 rfl) ?_
  refine lv_iconst (v := 5) hx hb (cx_d dk_182 32 rfl) (by decide) ?_
  refine lv_icmp_lt (tgt := 64) hx hb (cx_d dk_182 33 rfl) (by decide) (fun z => ?_) (fun z => absurd (by decide) z)
  have hl := lv_sub (l' := [(2, .int (nI (c / 6) + (-1))), (3, .int (nI (c % 6)))]) hl [0, 1] rfl
  rw [of0 (c % 6)] at hl
  exact pt_182 (r := c / 6) (k := c % 6 + 1) E hN hret (by omega) (by omega) (c := c) (h := 0) rfl ls hl H locs hS
set_option maxRecDepth 100000 in
theorem pb_182_1 (c : Nat) (hc : c < 36) : cx_PI 182 1 [.int (nI c), .int 1] (bsI c 1) := by
  have r6 : c / 6 < 6 := by omega
  have k6 : c % 6 < 6 := by omega
  refine cp_enter (ty := .int) (by decide +kernel) (by decide +kernel) (Nat.le_of_ble_eq_true rfl) (by decide +kernel) rfl ?_
  intro l p e s m below meth cc Q E hN hret ls hl H locs hS
  have hx := E.1
  have hb := E.2.1
  have hl : lv_has ls 5 [(0, .int (nI c)), (1, .int 1)] := hl
  refine lv_iload_n hx hb (cx_d dk_182 0 rfl) rfl (lv_at hl 0 rfl) ?_
  refine lv_bipush (v := 6) hx hb (cx_d dk_182 1 rfl) (by decide) ?_
  refine lv_idiv hx hb (cx_d dk_182 2 rfl) (by decide) ?_
  rw [dv6 (by omega)]
  refine lv_istore_n (lv' := [(2, .int (nI (c / 6))), (0, .int (nI c)), (1, .int 1)]) hx hb (cx_d dk_182 3 rfl) rfl hl (by decide) rfl (fun ls hl => ?_)
  refine lv_iload_n hx hb (cx_d dk_182 4 rfl) rfl (lv_at hl 1 rfl) ?_
  refine lv_bipush (v := 6) hx hb (cx_d dk_182 5 rfl) (by decide) ?_
  refine lv_irem hx hb (cx_d dk_182 6 rfl) (by decide) ?_
  rw [rm6 (by omega)]
  refine lv_istore_n (lv' := [(3, .int (nI (c % 6))), (2, .int (nI (c / 6))), (0, .int (nI c)), (1, .int 1)]) hx hb (cx_d dk_182 7 rfl) rfl hl (by decide) rfl (fun ls hl => ?_)
  refine lv_iload_n hx hb (cx_d dk_182 8 rfl) rfl (lv_at hl 3 rfl) ?_
  refine lv_bipush (v := 7) hx hb (cx_d dk_182 9 rfl) (by decide) ?_
  refine lv_icmp_eq (tgt := 21) hx hb (cx_d dk_182 10 rfl) (by decide) (fun z => absurd z (by decide)) (fun z => ?_)
  refine lv_iload_n hx hb (cx_d dk_182 11 rfl) rfl (lv_at hl 3 rfl) ?_
  refine lv_iconst (v := 1) hx hb (cx_d dk_182 12 rfl) (by decide) ?_
  refine lv_icmp_gt (tgt := 27) hx hb (cx_d dk_182 13 rfl) (by decide) (fun z => absurd z (by decide)) (fun z => ?_)
  refine lv_iinc (v := nI (c / 6) + (-1)) (lv' := [(2, .int (nI (c / 6) + (-1))), (3, .int (nI (c % 6))), (0, .int (nI c)), (1, .int (1))]) hx hb (cx_d dk_182 14 rfl) hl (k := 1) rfl (by rw [show Int32.ofInt (-1) = (-1) from by decide]) (by decide) rfl (fun ls hl => ?_)
  refine lv_goto (tgt := 40) hx hb (cx_d dk_182 15 rfl) (by decide) ?_
  refine lv_iload_n hx hb (cx_d dk_182 23 rfl) rfl (lv_at hl 3 rfl) ?_
  refine lv_iconst (v := 1) hx hb (cx_d dk_182 24 rfl) (by decide) ?_
  refine lv_icmp_lt (tgt := 56) hx hb (cx_d dk_182 25 rfl) (by decide) (fun z => absurd z (by decide)) (fun z => ?_)
  refine lv_iload_n hx hb (cx_d dk_182 26 rfl) rfl (lv_at hl 3 rfl) ?_
  refine lv_iconst (v := 3) hx hb (cx_d dk_182 27 rfl) (by decide) ?_
  refine lv_icmp_gt (tgt := 56) hx hb (cx_d dk_182 28 rfl) (by decide) (fun z => absurd z (by decide)) (fun z => ?_)
  refine lv_iinc (v := nI (c % 6) + (1)) (lv' := [(3, .int (nI (c % 6) + (1))), (2, .int (nI (c / 6) + (-1))), (0, .int (nI c)), (1, .int (1))]) hx hb (cx_d dk_182 29 rfl) hl (k := 1) rfl (by rw [show Int32.ofInt (1) = (1) from by decide]) (by decide) rfl (fun ls hl => ?_)
  refine lv_goto (tgt := 64) hx hb (cx_d dk_182 30 rfl) (by decide) ?_
  have hl := lv_sub (l' := [(2, .int (nI (c / 6) + (-1))), (3, .int (nI (c % 6) + (1)))]) hl [1, 0] rfl
  rw [of1 (c % 6)] at hl
  exact pt_182 (r := c / 6) (k := c % 6 + 2) E hN hret (by omega) (by omega) (c := c) (h := 1) rfl ls hl H locs hS
set_option maxRecDepth 100000 in
theorem pb_182_2 (c : Nat) (hc : c < 36) : cx_PI 182 1 [.int (nI c), .int 2] (bsI c 2) := by
  have r6 : c / 6 < 6 := by omega
  have k6 : c % 6 < 6 := by omega
  refine cp_enter (ty := .int) (by decide +kernel) (by decide +kernel) (Nat.le_of_ble_eq_true rfl) (by decide +kernel) rfl ?_
  intro l p e s m below meth cc Q E hN hret ls hl H locs hS
  have hx := E.1
  have hb := E.2.1
  have hl : lv_has ls 5 [(0, .int (nI c)), (1, .int 2)] := hl
  refine lv_iload_n hx hb (cx_d dk_182 0 rfl) rfl (lv_at hl 0 rfl) ?_
  refine lv_bipush (v := 6) hx hb (cx_d dk_182 1 rfl) (by decide) ?_
  refine lv_idiv hx hb (cx_d dk_182 2 rfl) (by decide) ?_
  rw [dv6 (by omega)]
  refine lv_istore_n (lv' := [(2, .int (nI (c / 6))), (0, .int (nI c)), (1, .int 2)]) hx hb (cx_d dk_182 3 rfl) rfl hl (by decide) rfl (fun ls hl => ?_)
  refine lv_iload_n hx hb (cx_d dk_182 4 rfl) rfl (lv_at hl 1 rfl) ?_
  refine lv_bipush (v := 6) hx hb (cx_d dk_182 5 rfl) (by decide) ?_
  refine lv_irem hx hb (cx_d dk_182 6 rfl) (by decide) ?_
  rw [rm6 (by omega)]
  refine lv_istore_n (lv' := [(3, .int (nI (c % 6))), (2, .int (nI (c / 6))), (0, .int (nI c)), (1, .int 2)]) hx hb (cx_d dk_182 7 rfl) rfl hl (by decide) rfl (fun ls hl => ?_)
  refine lv_iload_n hx hb (cx_d dk_182 8 rfl) rfl (lv_at hl 3 rfl) ?_
  refine lv_bipush (v := 7) hx hb (cx_d dk_182 9 rfl) (by decide) ?_
  refine lv_icmp_eq (tgt := 21) hx hb (cx_d dk_182 10 rfl) (by decide) (fun z => absurd z (by decide)) (fun z => ?_)
  refine lv_iload_n hx hb (cx_d dk_182 11 rfl) rfl (lv_at hl 3 rfl) ?_
  refine lv_iconst (v := 1) hx hb (cx_d dk_182 12 rfl) (by decide) ?_
  refine lv_icmp_gt (tgt := 27) hx hb (cx_d dk_182 13 rfl) (by decide) (fun z => ?_) (fun z => absurd (by decide) z)
  refine lv_iload_n hx hb (cx_d dk_182 16 rfl) rfl (lv_at hl 3 rfl) ?_
  refine lv_iconst (v := 3) hx hb (cx_d dk_182 17 rfl) (by decide) ?_
  refine lv_icmp_lt (tgt := 40) hx hb (cx_d dk_182 18 rfl) (by decide) (fun z => ?_) (fun z => absurd (by decide) z)
  refine lv_iload_n hx hb (cx_d dk_182 23 rfl) rfl (lv_at hl 3 rfl) ?_
  refine lv_iconst (v := 1) hx hb (cx_d dk_182 24 rfl) (by decide) ?_
  refine lv_icmp_lt (tgt := 56) hx hb (cx_d dk_182 25 rfl) (by decide) (fun z => absurd z (by decide)) (fun z => ?_)
  refine lv_iload_n hx hb (cx_d dk_182 26 rfl) rfl (lv_at hl 3 rfl) ?_
  refine lv_iconst (v := 3) hx hb (cx_d dk_182 27 rfl) (by decide) ?_
  refine lv_icmp_gt (tgt := 56) hx hb (cx_d dk_182 28 rfl) (by decide) (fun z => absurd z (by decide)) (fun z => ?_)
  refine lv_iinc (v := nI (c % 6) + (1)) (lv' := [(3, .int (nI (c % 6) + (1))), (2, .int (nI (c / 6))), (0, .int (nI c)), (1, .int (2))]) hx hb (cx_d dk_182 29 rfl) hl (k := 0) rfl (by rw [show Int32.ofInt (1) = (1) from by decide]) (by decide) rfl (fun ls hl => ?_)
  refine lv_goto (tgt := 64) hx hb (cx_d dk_182 30 rfl) (by decide) ?_
  have hl := lv_sub (l' := [(2, .int (nI (c / 6))), (3, .int (nI (c % 6) + (1)))]) hl [1, 0] rfl
  rw [of0 (c / 6), of1 (c % 6)] at hl
  exact pt_182 (r := c / 6 + 1) (k := c % 6 + 2) E hN hret (by omega) (by omega) (c := c) (h := 2) rfl ls hl H locs hS
set_option maxRecDepth 100000 in
theorem pb_182_3 (c : Nat) (hc : c < 36) : cx_PI 182 1 [.int (nI c), .int 3] (bsI c 3) := by
  have r6 : c / 6 < 6 := by omega
  have k6 : c % 6 < 6 := by omega
  refine cp_enter (ty := .int) (by decide +kernel) (by decide +kernel) (Nat.le_of_ble_eq_true rfl) (by decide +kernel) rfl ?_
  intro l p e s m below meth cc Q E hN hret ls hl H locs hS
  have hx := E.1
  have hb := E.2.1
  have hl : lv_has ls 5 [(0, .int (nI c)), (1, .int 3)] := hl
  refine lv_iload_n hx hb (cx_d dk_182 0 rfl) rfl (lv_at hl 0 rfl) ?_
  refine lv_bipush (v := 6) hx hb (cx_d dk_182 1 rfl) (by decide) ?_
  refine lv_idiv hx hb (cx_d dk_182 2 rfl) (by decide) ?_
  rw [dv6 (by omega)]
  refine lv_istore_n (lv' := [(2, .int (nI (c / 6))), (0, .int (nI c)), (1, .int 3)]) hx hb (cx_d dk_182 3 rfl) rfl hl (by decide) rfl (fun ls hl => ?_)
  refine lv_iload_n hx hb (cx_d dk_182 4 rfl) rfl (lv_at hl 1 rfl) ?_
  refine lv_bipush (v := 6) hx hb (cx_d dk_182 5 rfl) (by decide) ?_
  refine lv_irem hx hb (cx_d dk_182 6 rfl) (by decide) ?_
  rw [rm6 (by omega)]
  refine lv_istore_n (lv' := [(3, .int (nI (c % 6))), (2, .int (nI (c / 6))), (0, .int (nI c)), (1, .int 3)]) hx hb (cx_d dk_182 7 rfl) rfl hl (by decide) rfl (fun ls hl => ?_)
  refine lv_iload_n hx hb (cx_d dk_182 8 rfl) rfl (lv_at hl 3 rfl) ?_
  refine lv_bipush (v := 7) hx hb (cx_d dk_182 9 rfl) (by decide) ?_
  refine lv_icmp_eq (tgt := 21) hx hb (cx_d dk_182 10 rfl) (by decide) (fun z => absurd z (by decide)) (fun z => ?_)
  refine lv_iload_n hx hb (cx_d dk_182 11 rfl) rfl (lv_at hl 3 rfl) ?_
  refine lv_iconst (v := 1) hx hb (cx_d dk_182 12 rfl) (by decide) ?_
  refine lv_icmp_gt (tgt := 27) hx hb (cx_d dk_182 13 rfl) (by decide) (fun z => ?_) (fun z => absurd (by decide) z)
  refine lv_iload_n hx hb (cx_d dk_182 16 rfl) rfl (lv_at hl 3 rfl) ?_
  refine lv_iconst (v := 3) hx hb (cx_d dk_182 17 rfl) (by decide) ?_
  refine lv_icmp_lt (tgt := 40) hx hb (cx_d dk_182 18 rfl) (by decide) (fun z => absurd z (by decide)) (fun z => ?_)
  refine lv_iload_n hx hb (cx_d dk_182 19 rfl) rfl (lv_at hl 3 rfl) ?_
  refine lv_iconst (v := 5) hx hb (cx_d dk_182 20 rfl) (by decide) ?_
  refine lv_icmp_gt (tgt := 40) hx hb (cx_d dk_182 21 rfl) (by decide) (fun z => absurd z (by decide)) (fun z => ?_)
  refine lv_iinc (v := nI (c / 6) + (1)) (lv' := [(2, .int (nI (c / 6) + (1))), (3, .int (nI (c % 6))), (0, .int (nI c)), (1, .int (3))]) hx hb (cx_d dk_182 22 rfl) hl (k := 1) rfl (by rw [show Int32.ofInt (1) = (1) from by decide]) (by decide) rfl (fun ls hl => ?_)
  refine lv_iload_n hx hb (cx_d dk_182 23 rfl) rfl (lv_at hl 3 rfl) ?_
  refine lv_iconst (v := 1) hx hb (cx_d dk_182 24 rfl) (by decide) ?_
  refine lv_icmp_lt (tgt := 56) hx hb (cx_d dk_182 25 rfl) (by decide) (fun z => absurd z (by decide)) (fun z => ?_)
  refine lv_iload_n hx hb (cx_d dk_182 26 rfl) rfl (lv_at hl 3 rfl) ?_
  refine lv_iconst (v := 3) hx hb (cx_d dk_182 27 rfl) (by decide) ?_
  refine lv_icmp_gt (tgt := 56) hx hb (cx_d dk_182 28 rfl) (by decide) (fun z => absurd z (by decide)) (fun z => ?_)
  refine lv_iinc (v := nI (c % 6) + (1)) (lv' := [(3, .int (nI (c % 6) + (1))), (2, .int (nI (c / 6) + (1))), (0, .int (nI c)), (1, .int (3))]) hx hb (cx_d dk_182 29 rfl) hl (k := 1) rfl (by rw [show Int32.ofInt (1) = (1) from by decide]) (by decide) rfl (fun ls hl => ?_)
  refine lv_goto (tgt := 64) hx hb (cx_d dk_182 30 rfl) (by decide) ?_
  have hl := lv_sub (l' := [(2, .int (nI (c / 6) + (1))), (3, .int (nI (c % 6) + (1)))]) hl [1, 0] rfl
  rw [of1 (c / 6), of1 (c % 6)] at hl
  exact pt_182 (r := c / 6 + 2) (k := c % 6 + 2) E hN hret (by omega) (by omega) (c := c) (h := 3) rfl ls hl H locs hS
set_option maxRecDepth 100000 in
theorem pb_182_4 (c : Nat) (hc : c < 36) : cx_PI 182 1 [.int (nI c), .int 4] (bsI c 4) := by
  have r6 : c / 6 < 6 := by omega
  have k6 : c % 6 < 6 := by omega
  refine cp_enter (ty := .int) (by decide +kernel) (by decide +kernel) (Nat.le_of_ble_eq_true rfl) (by decide +kernel) rfl ?_
  intro l p e s m below meth cc Q E hN hret ls hl H locs hS
  have hx := E.1
  have hb := E.2.1
  have hl : lv_has ls 5 [(0, .int (nI c)), (1, .int 4)] := hl
  refine lv_iload_n hx hb (cx_d dk_182 0 rfl) rfl (lv_at hl 0 rfl) ?_
  refine lv_bipush (v := 6) hx hb (cx_d dk_182 1 rfl) (by decide) ?_
  refine lv_idiv hx hb (cx_d dk_182 2 rfl) (by decide) ?_
  rw [dv6 (by omega)]
  refine lv_istore_n (lv' := [(2, .int (nI (c / 6))), (0, .int (nI c)), (1, .int 4)]) hx hb (cx_d dk_182 3 rfl) rfl hl (by decide) rfl (fun ls hl => ?_)
  refine lv_iload_n hx hb (cx_d dk_182 4 rfl) rfl (lv_at hl 1 rfl) ?_
  refine lv_bipush (v := 6) hx hb (cx_d dk_182 5 rfl) (by decide) ?_
  refine lv_irem hx hb (cx_d dk_182 6 rfl) (by decide) ?_
  rw [rm6 (by omega)]
  refine lv_istore_n (lv' := [(3, .int (nI (c % 6))), (2, .int (nI (c / 6))), (0, .int (nI c)), (1, .int 4)]) hx hb (cx_d dk_182 7 rfl) rfl hl (by decide) rfl (fun ls hl => ?_)
  refine lv_iload_n hx hb (cx_d dk_182 8 rfl) rfl (lv_at hl 3 rfl) ?_
  refine lv_bipush (v := 7) hx hb (cx_d dk_182 9 rfl) (by decide) ?_
  refine lv_icmp_eq (tgt := 21) hx hb (cx_d dk_182 10 rfl) (by decide) (fun z => absurd z (by decide)) (fun z => ?_)
  refine lv_iload_n hx hb (cx_d dk_182 11 rfl) rfl (lv_at hl 3 rfl) ?_
  refine lv_iconst (v := 1) hx hb (cx_d dk_182 12 rfl) (by decide) ?_
  refine lv_icmp_gt (tgt := 27) hx hb (cx_d dk_182 13 rfl) (by decide) (fun z => ?_) (fun z => absurd (by decide) z)
  refine lv_iload_n hx hb (cx_d dk_182 16 rfl) rfl (lv_at hl 3 rfl) ?_
  refine lv_iconst (v := 3) hx hb (cx_d dk_182 17 rfl) (by decide) ?_
  refine lv_icmp_lt (tgt := 40) hx hb (cx_d dk_182 18 rfl) (by decide) (fun z => absurd z (by decide)) (fun z => ?_)
  refine lv_iload_n hx hb (cx_d dk_182 19 rfl) rfl (lv_at hl 3 rfl) ?_
  refine lv_iconst (v := 5) hx hb (cx_d dk_182 20 rfl) (by decide) ?_
  refine lv_icmp_gt (tgt := 40) hx hb (cx_d dk_182 21 rfl) (by decide) (fun z => absurd z (by decide)) (fun z => ?_)
  refine lv_iinc (v := nI (c / 6) + (1)) (lv' := [(2, .int (nI (c / 6) + (1))), (3, .int (nI (c % 6))), (0, .int (nI c)), (1, .int (4))]) hx hb (cx_d dk_182 22 rfl) hl (k := 1) rfl (by rw [show Int32.ofInt (1) = (1) from by decide]) (by decide) rfl (fun ls hl => ?_)
  refine lv_iload_n hx hb (cx_d dk_182 23 rfl) rfl (lv_at hl 3 rfl) ?_
  refine lv_iconst (v := 1) hx hb (cx_d dk_182 24 rfl) (by decide) ?_
  refine lv_icmp_lt (tgt := 56) hx hb (cx_d dk_182 25 rfl) (by decide) (fun z => absurd z (by decide)) (fun z => ?_)
  refine lv_iload_n hx hb (cx_d dk_182 26 rfl) rfl (lv_at hl 3 rfl) ?_
  refine lv_iconst (v := 3) hx hb (cx_d dk_182 27 rfl) (by decide) ?_
  refine lv_icmp_gt (tgt := 56) hx hb (cx_d dk_182 28 rfl) (by decide) (fun z => ?_) (fun z => absurd (by decide) z)
  refine lv_iload_n hx hb (cx_d dk_182 31 rfl) rfl (lv_at hl 3 rfl) ?_
  refine lv_iconst (v := 5) hx hb (cx_d dk_182 32 rfl) (by decide) ?_
  refine lv_icmp_lt (tgt := 64) hx hb (cx_d dk_182 33 rfl) (by decide) (fun z => ?_) (fun z => absurd (by decide) z)
  have hl := lv_sub (l' := [(2, .int (nI (c / 6) + (1))), (3, .int (nI (c % 6)))]) hl [0, 1] rfl
  rw [of1 (c / 6), of0 (c % 6)] at hl
  exact pt_182 (r := c / 6 + 2) (k := c % 6 + 1) E hN hret (by omega) (by omega) (c := c) (h := 4) rfl ls hl H locs hS
set_option maxRecDepth 100000 in
theorem pb_182_5 (c : Nat) (hc : c < 36) : cx_PI 182 1 [.int (nI c), .int 5] (bsI c 5) := by
  have r6 : c / 6 < 6 := by omega
  have k6 : c % 6 < 6 := by omega
  refine cp_enter (ty := .int) (by decide +kernel) (by decide +kernel) (Nat.le_of_ble_eq_true rfl) (by decide +kernel) rfl ?_
  intro l p e s m below meth cc Q E hN hret ls hl H locs hS
  have hx := E.1
  have hb := E.2.1
  have hl : lv_has ls 5 [(0, .int (nI c)), (1, .int 5)] := hl
  refine lv_iload_n hx hb (cx_d dk_182 0 rfl) rfl (lv_at hl 0 rfl) ?_
  refine lv_bipush (v := 6) hx hb (cx_d dk_182 1 rfl) (by decide) ?_
  refine lv_idiv hx hb (cx_d dk_182 2 rfl) (by decide) ?_
  rw [dv6 (by omega)]
  refine lv_istore_n (lv' := [(2, .int (nI (c / 6))), (0, .int (nI c)), (1, .int 5)]) hx hb (cx_d dk_182 3 rfl) rfl hl (by decide) rfl (fun ls hl => ?_)
  refine lv_iload_n hx hb (cx_d dk_182 4 rfl) rfl (lv_at hl 1 rfl) ?_
  refine lv_bipush (v := 6) hx hb (cx_d dk_182 5 rfl) (by decide) ?_
  refine lv_irem hx hb (cx_d dk_182 6 rfl) (by decide) ?_
  rw [rm6 (by omega)]
  refine lv_istore_n (lv' := [(3, .int (nI (c % 6))), (2, .int (nI (c / 6))), (0, .int (nI c)), (1, .int 5)]) hx hb (cx_d dk_182 7 rfl) rfl hl (by decide) rfl (fun ls hl => ?_)
  refine lv_iload_n hx hb (cx_d dk_182 8 rfl) rfl (lv_at hl 3 rfl) ?_
  refine lv_bipush (v := 7) hx hb (cx_d dk_182 9 rfl) (by decide) ?_
  refine lv_icmp_eq (tgt := 21) hx hb (cx_d dk_182 10 rfl) (by decide) (fun z => absurd z (by decide)) (fun z => ?_)
  refine lv_iload_n hx hb (cx_d dk_182 11 rfl) rfl (lv_at hl 3 rfl) ?_
  refine lv_iconst (v := 1) hx hb (cx_d dk_182 12 rfl) (by decide) ?_
  refine lv_icmp_gt (tgt := 27) hx hb (cx_d dk_182 13 rfl) (by decide) (fun z => ?_) (fun z => absurd (by decide) z)
  refine lv_iload_n hx hb (cx_d dk_182 16 rfl) rfl (lv_at hl 3 rfl) ?_
  refine lv_iconst (v := 3) hx hb (cx_d dk_182 17 rfl) (by decide) ?_
  refine lv_icmp_lt (tgt := 40) hx hb (cx_d dk_182 18 rfl) (by decide) (fun z => absurd z (by decide)) (fun z => ?_)
  refine lv_iload_n hx hb (cx_d dk_182 19 rfl) rfl (lv_at hl 3 rfl) ?_
  refine lv_iconst (v := 5) hx hb (cx_d dk_182 20 rfl) (by decide) ?_
  refine lv_icmp_gt (tgt := 40) hx hb (cx_d dk_182 21 rfl) (by decide) (fun z => absurd z (by decide)) (fun z => ?_)
  refine lv_iinc (v := nI (c / 6) + (1)) (lv' := [(2, .int (nI (c / 6) + (1))), (3, .int (nI (c % 6))), (0, .int (nI c)), (1, .int (5))]) hx hb (cx_d dk_182 22 rfl) hl (k := 1) rfl (by rw [show Int32.ofInt (1) = (1) from by decide]) (by decide) rfl (fun ls hl => ?_)
  refine lv_iload_n hx hb (cx_d dk_182 23 rfl) rfl (lv_at hl 3 rfl) ?_
  refine lv_iconst (v := 1) hx hb (cx_d dk_182 24 rfl) (by decide) ?_
  refine lv_icmp_lt (tgt := 56) hx hb (cx_d dk_182 25 rfl) (by decide) (fun z => absurd z (by decide)) (fun z => ?_)
  refine lv_iload_n hx hb (cx_d dk_182 26 rfl) rfl (lv_at hl 3 rfl) ?_
  refine lv_iconst (v := 3) hx hb (cx_d dk_182 27 rfl) (by decide) ?_
  refine lv_icmp_gt (tgt := 56) hx hb (cx_d dk_182 28 rfl) (by decide) (fun z => ?_) (fun z => absurd (by decide) z)
  refine lv_iload_n hx hb (cx_d dk_182 31 rfl) rfl (lv_at hl 3 rfl) ?_
  refine lv_iconst (v := 5) hx hb (cx_d dk_182 32 rfl) (by decide) ?_
  refine lv_icmp_lt (tgt := 64) hx hb (cx_d dk_182 33 rfl) (by decide) (fun z => absurd z (by decide)) (fun z => ?_)
  refine lv_iinc (v := nI (c % 6) + (-1)) (lv' := [(3, .int (nI (c % 6) + (-1))), (2, .int (nI (c / 6) + (1))), (0, .int (nI c)), (1, .int (5))]) hx hb (cx_d dk_182 34 rfl) hl (k := 1) rfl (by rw [show Int32.ofInt (-1) = (-1) from by decide]) (by decide) rfl (fun ls hl => ?_)
  have hl := lv_sub (l' := [(2, .int (nI (c / 6) + (1))), (3, .int (nI (c % 6) + (-1)))]) hl [1, 0] rfl
  rw [of1 (c / 6)] at hl
  exact pt_182 (r := c / 6 + 2) (k := c % 6) E hN hret (by omega) (by omega) (c := c) (h := 5) rfl ls hl H locs hS
set_option maxRecDepth 100000 in
theorem pb_182_6 (c : Nat) (hc : c < 36) : cx_PI 182 1 [.int (nI c), .int 6] (bsI c 6) := by
  have r6 : c / 6 < 6 := by omega
  have k6 : c % 6 < 6 := by omega
  refine cp_enter (ty := .int) (by decide +kernel) (by decide +kernel) (Nat.le_of_ble_eq_true rfl) (by decide +kernel) rfl ?_
  intro l p e s m below meth cc Q E hN hret ls hl H locs hS
  have hx := E.1
  have hb := E.2.1
  have hl : lv_has ls 5 [(0, .int (nI c)), (1, .int 6)] := hl
  refine lv_iload_n hx hb (cx_d dk_182 0 rfl) rfl (lv_at hl 0 rfl) ?_
  refine lv_bipush (v := 6) hx hb (cx_d dk_182 1 rfl) (by decide) ?_
  refine lv_idiv hx hb (cx_d dk_182 2 rfl) (by decide) ?_
  rw [dv6 (by omega)]
  refine lv_istore_n (lv' := [(2, .int (nI (c / 6))), (0, .int (nI c)), (1, .int 6)]) hx hb (cx_d dk_182 3 rfl) rfl hl (by decide) rfl (fun ls hl => ?_)
  refine lv_iload_n hx hb (cx_d dk_182 4 rfl) rfl (lv_at hl 1 rfl) ?_
  refine lv_bipush (v := 6) hx hb (cx_d dk_182 5 rfl) (by decide) ?_
  refine lv_irem hx hb (cx_d dk_182 6 rfl) (by decide) ?_
  rw [rm6 (by omega)]
  refine lv_istore_n (lv' := [(3, .int (nI (c % 6))), (2, .int (nI (c / 6))), (0, .int (nI c)), (1, .int 6)]) hx hb (cx_d dk_182 7 rfl) rfl hl (by decide) rfl (fun ls hl => ?_)
  refine lv_iload_n hx hb (cx_d dk_182 8 rfl) rfl (lv_at hl 3 rfl) ?_
  refine lv_bipush (v := 7) hx hb (cx_d dk_182 9 rfl) (by decide) ?_
  refine lv_icmp_eq (tgt := 21) hx hb (cx_d dk_182 10 rfl) (by decide) (fun z => absurd z (by decide)) (fun z => ?_)
  refine lv_iload_n hx hb (cx_d dk_182 11 rfl) rfl (lv_at hl 3 rfl) ?_
  refine lv_iconst (v := 1) hx hb (cx_d dk_182 12 rfl) (by decide) ?_
  refine lv_icmp_gt (tgt := 27) hx hb (cx_d dk_182 13 rfl) (by decide) (fun z => ?_) (fun z => absurd (by decide) z)
  refine lv_iload_n hx hb (cx_d dk_182 16 rfl) rfl (lv_at hl 3 rfl) ?_
  refine lv_iconst (v := 3) hx hb (cx_d dk_182 17 rfl) (by decide) ?_
  refine lv_icmp_lt (tgt := 40) hx hb (cx_d dk_182 18 rfl) (by decide) (fun z => absurd z (by decide)) (fun z => ?_)
  refine lv_iload_n hx hb (cx_d dk_182 19 rfl) rfl (lv_at hl 3 rfl) ?_
  refine lv_iconst (v := 5) hx hb (cx_d dk_182 20 rfl) (by decide) ?_
  refine lv_icmp_gt (tgt := 40) hx hb (cx_d dk_182 21 rfl) (by decide) (fun z => ?_) (fun z => absurd (by decide) z)
  refine lv_iload_n hx hb (cx_d dk_182 23 rfl) rfl (lv_at hl 3 rfl) ?_
  refine lv_iconst (v := 1) hx hb (cx_d dk_182 24 rfl) (by decide) ?_
  refine lv_icmp_lt (tgt := 56) hx hb (cx_d dk_182 25 rfl) (by decide) (fun z => absurd z (by decide)) (fun z => ?_)
  refine lv_iload_n hx hb (cx_d dk_182 26 rfl) rfl (lv_at hl 3 rfl) ?_
  refine lv_iconst (v := 3) hx hb (cx_d dk_182 27 rfl) (by decide) ?_
  refine lv_icmp_gt (tgt := 56) hx hb (cx_d dk_182 28 rfl) (by decide) (fun z => ?_) (fun z => absurd (by decide) z)
  refine lv_iload_n hx hb (cx_d dk_182 31 rfl) rfl (lv_at hl 3 rfl) ?_
  refine lv_iconst (v := 5) hx hb (cx_d dk_182 32 rfl) (by decide) ?_
  refine lv_icmp_lt (tgt := 64) hx hb (cx_d dk_182 33 rfl) (by decide) (fun z => absurd z (by decide)) (fun z => ?_)
  refine lv_iinc (v := nI (c % 6) + (-1)) (lv' := [(3, .int (nI (c % 6) + (-1))), (2, .int (nI (c / 6))), (0, .int (nI c)), (1, .int (6))]) hx hb (cx_d dk_182 34 rfl) hl (k := 0) rfl (by rw [show Int32.ofInt (-1) = (-1) from by decide]) (by decide) rfl (fun ls hl => ?_)
  have hl := lv_sub (l' := [(2, .int (nI (c / 6))), (3, .int (nI (c % 6) + (-1)))]) hl [1, 0] rfl
  rw [of0 (c / 6)] at hl
  exact pt_182 (r := c / 6 + 1) (k := c % 6) E hN hret (by omega) (by omega) (c := c) (h := 6) rfl ls hl H locs hS
set_option maxRecDepth 100000 in
theorem pb_182_7 (c : Nat) (hc : c < 36) : cx_PI 182 1 [.int (nI c), .int 7] (bsI c 7) := by
  have r6 : c / 6 < 6 := by omega
  have k6 : c % 6 < 6 := by omega
  refine cp_enter (ty := .int) (by decide +kernel) (by decide +kernel) (Nat.le_of_ble_eq_true rfl) (by decide +kernel) rfl ?_
  intro l p e s m below meth cc Q E hN hret ls hl H locs hS
  have hx := E.1
  have hb := E.2.1
  have hl : lv_has ls 5 [(0, .int (nI c)), (1, .int 7)] := hl
  refine lv_iload_n hx hb (cx_d dk_182 0 rfl) rfl (lv_at hl 0 rfl) ?_
  refine lv_bipush (v := 6) hx hb (cx_d dk_182 1 rfl) (by decide) ?_
  refine lv_idiv hx hb (cx_d dk_182 2 rfl) (by decide) ?_
  rw [dv6 (by omega)]
  refine lv_istore_n (lv' := [(2, .int (nI (c / 6))), (0, .int (nI c)), (1, .int 7)]) hx hb (cx_d dk_182 3 rfl) rfl hl (by decide) rfl (fun ls hl => ?_)
  refine lv_iload_n hx hb (cx_d dk_182 4 rfl) rfl (lv_at hl 1 rfl) ?_
  refine lv_bipush (v := 6) hx hb (cx_d dk_182 5 rfl) (by decide) ?_
  refine lv_irem hx hb (cx_d dk_182 6 rfl) (by decide) ?_
  rw [rm6 (by omega)]
  refine lv_istore_n (lv' := [(3, .int (nI (c % 6))), (2, .int (nI (c / 6))), (0, .int (nI c)), (1, .int 7)]) hx hb (cx_d dk_182 7 rfl) rfl hl (by decide) rfl (fun ls hl => ?_)
  refine lv_iload_n hx hb (cx_d dk_182 8 rfl) rfl (lv_at hl 3 rfl) ?_
  refine lv_bipush (v := 7) hx hb (cx_d dk_182 9 rfl) (by decide) ?_
  refine lv_icmp_eq (tgt := 21) hx hb (cx_d dk_182 10 rfl) (by decide) (fun z => ?_) (fun z => absurd (by decide) z)
  refine lv_iinc (v := nI (c / 6) + (-1)) (lv' := [(2, .int (nI (c / 6) + (-1))), (3, .int (nI (c % 6))), (0, .int (nI c)), (1, .int (7))]) hx hb (cx_d dk_182 14 rfl) hl (k := 1) rfl (by rw [show Int32.ofInt (-1) = (-1) from by decide]) (by decide) rfl (fun ls hl => ?_)
  refine lv_goto (tgt := 40) hx hb (cx_d dk_182 15 rfl) (by decide) ?_
  refine lv_iload_n hx hb (cx_d dk_182 23 rfl) rfl (lv_at hl 3 rfl) ?_
  refine lv_iconst (v := 1) hx hb (cx_d dk_182 24 rfl) (by decide) ?_
  refine lv_icmp_lt (tgt := 56) hx hb (cx_d dk_182 25 rfl) (by decide) (fun z => absurd z (by decide)) (fun z => ?_)
  refine lv_iload_n hx hb (cx_d dk_182 26 rfl) rfl (lv_at hl 3 rfl) ?_
  refine lv_iconst (v := 3) hx hb (cx_d dk_182 27 rfl) (by decide) ?_
  refine lv_icmp_gt (tgt := 56) hx hb (cx_d dk_182 28 rfl) (by decide) (fun z => ?_) (fun z => absurd (by decide) z)
  refine lv_iload_n hx hb (cx_d dk_182 31 rfl) rfl (lv_at hl 3 rfl) ?_
  refine lv_iconst (v := 5) hx hb (cx_d dk_182 32 rfl) (by decide) ?_
  refine lv_icmp_lt (tgt := 64) hx hb (cx_d dk_182 33 rfl) (by decide) (fun z => absurd z (by decide)) (fun z => ?_)
  refine lv_iinc (v := nI (c % 6) + (-1)) (lv' := [(3, .int (nI (c % 6) + (-1))), (2, .int (nI (c / 6) + (-1))), (0, .int (nI c)), (1, .int (7))]) hx hb (cx_d dk_182 34 rfl) hl (k := 1) rfl (by rw [show Int32.ofInt (-1) = (-1) from by decide]) (by decide) rfl (fun ls hl => ?_)
  have hl := lv_sub (l' := [(2, .int (nI (c / 6) + (-1))), (3, .int (nI (c % 6) + (-1)))]) hl [1, 0] rfl
  exact pt_182 (r := c / 6) (k := c % 6) E hN hret (by omega) (by omega) (c := c) (h := 7) rfl ls hl H locs hS
theorem pi_182 (c h : Nat) (hc : c < 36) (hh : h < 8) : cx_PI 182 1 [.int (nI c), .int (nI h)] (bsI c h) := by
  have hx : h = 0 ∨ h = 1 ∨ h = 2 ∨ h = 3 ∨ h = 4 ∨ h = 5 ∨ h = 6 ∨ h = 7 := by omega
  rcases hx with rfl | rfl | rfl | rfl | rfl | rfl | rfl | rfl
  · exact pb_182_0 c hc
  · exact pb_182_1 c hc
  · exact pb_182_2 c hc
  · exact pb_182_3 c hc
  · exact pb_182_4 c hc
  · exact pb_182_5 c hc
  · exact pb_182_6 c hc
  · exact pb_182_7 c hc
