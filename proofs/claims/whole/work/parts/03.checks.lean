/-! ===== what the tables say, checked by program against the Statement's words: one pass over the words for each table ===== -/
def wm_T : List Jvm.Cond := lw_tbl.filter goodWord
theorem wm_T_good {w : Jvm.Cond} (h : w ∈ wm_T) : (w.onTables && w.keeps) = true ∨ ∃ ty, w = .arrayClass ty := good_of_word (List.mem_filter.mp h).2
def wm_scan {α : Type} (f : Jvm.Cond → α → Bool) : List Jvm.Cond → Nat → List (Nat × α) → Bool
  | _, _, [] => true
  | [], _, _ :: _ => false
  | w :: ws, i, q :: qs => bif Nat.beq i q.1 then f w q.2 && wm_scan f ws (i + 1) qs else wm_scan f ws (i + 1) (q :: qs)
theorem wm_scan_ok {α : Type} (f : Jvm.Cond → α → Bool) : ∀ (ws : List Jvm.Cond) (i : Nat) (qs : List (Nat × α)), wm_scan f ws i qs = true → ∀ q ∈ qs, ∃ w, w ∈ ws ∧ ws[q.1 - i]? = some w ∧ i ≤ q.1 ∧ f w q.2 = true
  | ws, i, [], _, q, hq => by cases hq
  | [], i, q0 :: qs, h, q, hq => by simp [wm_scan] at h
  | w :: ws, i, q0 :: qs, h, q, hq => by
    unfold wm_scan at h
    cases hb : Nat.beq i q0.1 with
    | true =>
      rw [hb] at h
      simp only [cond_true, Bool.and_eq_true] at h
      have e : i = q0.1 := Nat.eq_of_beq_eq_true hb
      rcases List.mem_cons.mp hq with rfl | hq
      · exact ⟨w, List.mem_cons_self, by rw [← e, Nat.sub_self]; rfl, Nat.le_of_eq e, h.1⟩
      · obtain ⟨w1, h1, h2, h3, h4⟩ := wm_scan_ok f ws (i + 1) qs h.2 q hq
        refine ⟨w1, List.mem_cons_of_mem _ h1, ?_, by omega, h4⟩
        rw [show q.1 - i = (q.1 - (i + 1)) + 1 by omega, List.getElem?_cons_succ]
        exact h2
    | false =>
      rw [hb] at h
      simp only [cond_false] at h
      obtain ⟨w1, h1, h2, h3, h4⟩ := wm_scan_ok f ws (i + 1) (q0 :: qs) h q hq
      refine ⟨w1, List.mem_cons_of_mem _ h1, ?_, by omega, h4⟩
      rw [show q.1 - i = (q.1 - (i + 1)) + 1 by omega, List.getElem?_cons_succ]
      exact h2
theorem wm_scan_T {α : Type} {g : α → Jvm.Cond} {qs : List (Nat × α)} (h : wm_scan (fun w q => decide (w = g q) && goodWord w) lw_tbl 0 qs = true) {q : Nat × α} (hq : q ∈ qs) : g q.2 ∈ wm_T := by
  obtain ⟨w, h1, -, -, h4⟩ := wm_scan_ok _ _ _ _ h q hq
  simp only [Bool.and_eq_true, decide_eq_true_eq] at h4
  rw [← h4.1]
  exact List.mem_filter.mpr ⟨h1, h4.2⟩
def wm_flc (q : Nat × Nat × Nat × Nat) : Jvm.Cond := match wm_cl[q.2.2.1]? with
  | some r => .fieldLink (wm_ow q.1) q.2.1 r.1 (r.2.1 q.2.2.2).2.1 (r.2.1 q.2.2.2).2.2.1
  | none => .fieldLink "" 0 "" "" ""
def wm_slc (q : Nat × Nat × Nat) : Jvm.Cond := match wm_SV[q.2.2]? with
  | some r => .fieldLink (wm_ow q.1) q.2.1 r.1 r.2.1 r.2.2.1
  | none => .fieldLink "" 0 "" "" ""
def wm_mlc (q : Nat × Nat × Nat) : Jvm.Cond := .methodLink (wm_ow q.1) q.2.1 (wm_nm q.2.2)
def wm_nlc (q : Nat × Nat × Nat) : Jvm.Cond := .methodLinkNest (wm_ow q.1) q.2.1 (wm_nm q.2.2) "WindBoat"
def wm_klc (q : Nat × Nat × Int) : Jvm.Cond := .constantLong (wm_ow q.1) q.2.1 (Int64.ofInt q.2.2)
def wm_kic (q : Nat × Nat × Int) : Jvm.Cond := .constant (wm_ow q.1) q.2.1 (Int32.ofInt q.2.2)
def wm_spn (i : Nat) : MethodName := match i with
  | 0 => arraycopyName
  | 1 => Lib.Math.max.name
  | 2 => Lib.Math.min.name
  | 3 => Lib.Math.abs.name
  | 4 => Lib.MathLoose.max_long.x
  | _ => Lib.MathLoose.min_long.x
def wm_plc (q : Nat × Nat × Nat) : Jvm.Cond := .methodLink (wm_ow q.1) q.2.1 (wm_spn q.2.2)
set_option maxRecDepth 100000 in
theorem wm_fl_all : wm_scan (fun w q => decide (w = wm_flc q) && goodWord w) lw_tbl 0 wm_FL = true := by decide +kernel
set_option maxRecDepth 100000 in
theorem wm_sl_all : wm_scan (fun w q => decide (w = wm_slc q) && goodWord w) lw_tbl 0 wm_SL = true := by decide +kernel
set_option maxRecDepth 100000 in
theorem wm_ml_all : wm_scan (fun w q => decide (w = wm_mlc q) && goodWord w) lw_tbl 0 wm_ML = true := by decide +kernel
set_option maxRecDepth 100000 in
theorem wm_nl_all : wm_scan (fun w q => decide (w = wm_nlc q)) lw_tbl 0 wm_NL = true := by decide +kernel
set_option maxRecDepth 100000 in
theorem wm_kl_all : wm_scan (fun w q => decide (w = wm_klc q) && goodWord w) lw_tbl 0 wm_KL = true := by decide +kernel
set_option maxRecDepth 100000 in
theorem wm_ki_all : wm_scan (fun w q => decide (w = wm_kic q) && goodWord w) lw_tbl 0 wm_KI = true := by decide +kernel
set_option maxRecDepth 100000 in
theorem wm_pl_all : wm_scan (fun w q => decide (w = wm_plc q) && goodWord w) lw_tbl 0 wm_PL = true := by decide +kernel
set_option maxRecDepth 100000 in
theorem wm_in_all : wm_scan (fun w q => decide (w = Jvm.Cond.initialized (wm_ow q)) && goodWord w) lw_tbl 0 wm_IN = true := by decide +kernel
set_option maxRecDepth 100000 in
theorem wm_st_all : wm_scan (fun w q => decide (w = Jvm.Cond.static (wm_nm q)) && goodWord w) lw_tbl 0 wm_ST = true := by decide +kernel
set_option maxRecDepth 100000 in
theorem wm_im_all : wm_scan (fun w q => decide (w = Jvm.Cond.instanceMethod (wm_nm q)) && goodWord w) lw_tbl 0 wm_IM = true := by decide +kernel
set_option maxRecDepth 100000 in
theorem wm_se_all : wm_scan (fun w q => decide (w = Jvm.Cond.selects (wm_nm q).cls (wm_nm q) (wm_nm q)) && goodWord w) lw_tbl 0 wm_SE = true := by decide +kernel
def wm_cdk (w : Jvm.Cond) (y : Nat) : Bool := match w with
  | .code n _ m r => decide (n = wm_nm y) && (Nat.beq m (wm_mx y) && decide (r = wm_rt y))
  | _ => false
set_option maxRecDepth 100000 in
theorem wm_cd_all : wm_scan wm_cdk lw_tbl 0 wm_CD = true := by decide +kernel
