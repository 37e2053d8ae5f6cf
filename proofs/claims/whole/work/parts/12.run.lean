/-! ===== a run, a method, a loop's head ===== -/
def wm_al : List Value → List Value
  | [] => []
  | v :: r => bif Nat.beq v.category 2 then v :: .null :: wm_al r else v :: wm_al r
def wm_in (as : List Value) (n : Nat) : List Value := wm_al as ++ List.replicate (n - (wm_al as).length) .null
/-- from a place of the method's code on, with these locals, it ends with Q -/
def wm_Wp (e y : Nat) (pc : Nat) (l : List Value) (μ : wm_M) (Q : Option Value → wm_M → Prop) : Prop := ∀ (l0 : Launch) (G : wm_G) (p : Program) (en : Env) (R : Room) (s : State) (m : MethodId) (args : Array Value) (below : List Frame) (meth : Method) (c : Code), wm_C G y e (wm_oc y) (wm_by y) (wm_mx y) (0, fun _ => 0) p R 0 0 s m args c → meth.sig.returnType = wm_rt y → meth.locks = false → wm_J G (wm_mx y) p l0 en R s m args below meth c 0 0 (MQ below (wm_Qc G Q) args s 0 0 (wm_A G)) pc l [] μ
def wm_go (B : wm_B) (cut : List (Nat × List Bool)) (e y : Nat) (rt : Option FieldType) (Q : Option Value → wm_M → Prop) (n pc : Nat) (l : List Value) (μ : wm_M) : Prop := match wm_lk B pc with
  | some os => wm_run B cut e rt (0, fun _ => 0) Q (fun t l μ => wm_Wp e y t l μ Q) n pc os l [] μ
  | none => False
theorem wm_vc {e y : Nat} {B : wm_B} (hB : wm_okB y (wm_oc y) (wm_by y) B = true) {rt : Option FieldType} (hr : wm_rt y = rt) (cut : List (Nat × List Bool)) (n : Nat) {Q : Option Value → wm_M → Prop} {pc : Nat} {l : List Value} {μ : wm_M} (h : wm_go B cut e y rt Q n pc l μ) : wm_Wp e y pc l μ Q := by
  intro l0 G p en R s m args below meth c C hrt hlocks
  have fin : ∀ n pc ops l st μ, wm_run B cut e rt (0, fun _ => 0) Q (fun t l μ => wm_Wp e y t l μ Q) n pc ops l st μ → wm_okL y (wm_oc y) (wm_by y) pc ops = true → wm_J G (wm_mx y) p l0 en R s m args below meth c 0 0 (MQ below (wm_Qc G Q) args s 0 0 (wm_A G)) pc l st μ := by
    intro n
    induction n with
    | zero => intro pc ops l st μ h _; exact h.elim
    | succ n ih =>
      intro pc ops l st μ h hok
      refine wm_step_ok C hB (k := wm_run B cut e rt (0, fun _ => 0) Q (fun t l μ => wm_Wp e y t l μ Q) n) ih (fun t l μ hK => hK l0 G p en R s m args below meth c C hrt hlocks) ?_ ?_ ?_ ?_ hok h
      · intro pc l x μ hd hq H locs ls hP hD hS hL
        have post : Q (some (.int x)) μ → ∀ t : State, t.heap = H → s.WarmedH t.vm → wm_Qc G Q args s (.returned (some (.int x))) t := fun hq t ht hW => ⟨some (.int x), μ, rfl, hq, by rw [ht]; exact hP, hD, hS.F ht⟩
        unfold wm_ri at hq
        split at hq
        · exact W.iret C.1 C.2.1 (hrt.trans hr) (post hq) hS.2.2 hd hlocks
        · exact W.zret C.1 C.2.1 (hrt.trans hr) (wm_nb hq.1).1 (post hq.2) hS.2.2 hd hlocks
        · exact W.zret C.1 C.2.1 (hrt.trans hr) hq.1 (post hq.2) hS.2.2 hd hlocks
        · exact W.zret C.1 C.2.1 (hrt.trans hr) hq.1 (post hq.2) hS.2.2 hd hlocks
        · exact hq.elim
      · intro pc l x μ hd hq H locs ls hP hD hS hL
        unfold wm_rj at hq
        split at hq
        · exact W.lret C.1 C.2.1 (hrt.trans hr) (fun t ht hW => ⟨some (.long x), μ, rfl, hq, by rw [ht]; exact hP, hD, hS.F ht⟩) hS.2.2 hd hlocks
        · exact hq.elim
      · intro pc l x μ hd hq H locs ls hP hD hS hL
        unfold wm_ra at hq
        split at hq
        · exact W.aret C.1 C.2.1 (hrt.trans hr) (Or.inl ⟨_, rfl⟩) (Or.inr ⟨_, rfl⟩) (fun t ht hW => ⟨some (.ref x), μ, rfl, hq, by rw [ht]; exact hP, hD, hS.F ht⟩) hS.2.2 hd hlocks
        · exact hq.elim
      · intro pc l μ hd hq H locs ls hP hD hS hL
        unfold wm_r0 at hq
        split at hq
        · exact W.vret C.1 C.2.1 (hrt.trans hr) (fun t ht hW => ⟨none, μ, rfl, hq, by rw [ht]; exact hP, hD, hS.F ht⟩) hS.2.2 hd hlocks
        · exact hq.elim
  unfold wm_go at h
  cases hl : wm_lk B pc with
  | none => rw [hl] at h; exact h.elim
  | some os =>
    rw [hl] at h
    exact fin n pc os l [] μ h (List.all_eq_true.mp hB _ (wm_lk_ok hl))
theorem wm_al_len (G : wm_G) : ∀ as : List Value, (lg_sl (as.map (wm_v G))).length = (wm_al as).length
  | [] => rfl
  | v :: r => by
    have ih := wm_al_len G r
    simp only [lg_sl] at ih ⊢
    simp only [List.map_cons, List.flatMap_cons, List.length_append, wm_v_cat, wm_al]
    rw [ih]
    by_cases hc : v.category = 2
    · rw [if_pos hc, hc]; simp; omega
    · have hb : Nat.beq v.category 2 = false := by cases h : Nat.beq v.category 2; rfl; exact absurd (Nat.eq_of_beq_eq_true h) hc
      rw [if_neg hc, hb]; simp; omega
theorem wm_al_at (G : wm_G) : ∀ (as : List Value) (i j : Nat) (v : Value), (wm_al as)[j]? = some v → v ≠ .null → (i + j, wm_v G v) ∈ lv_args i (as.map (wm_v G))
  | [], i, j, v, h, _ => by simp [wm_al] at h
  | w :: r, i, j, v, h, hn => by
    simp only [List.map_cons, lv_args, wm_v_cat]
    by_cases hc : w.category = 2
    · simp only [wm_al, hc, if_pos] at h ⊢
      have h : (w :: .null :: wm_al r)[j]? = some v := h
      cases j with
      | zero => cases h; exact List.mem_cons_self
      | succ j =>
        cases j with
        | zero => cases h; exact absurd rfl hn
        | succ j =>
          have h : (wm_al r)[j]? = some v := h
          have := wm_al_at G r (i + 2) j v h hn
          rw [show i + (j + 1 + 1) = i + 2 + j by omega]
          exact List.mem_cons_of_mem _ this
    · have hb : Nat.beq w.category 2 = false := by cases h : Nat.beq w.category 2; rfl; exact absurd (Nat.eq_of_beq_eq_true h) hc
      simp only [wm_al, hb, cond_false, if_neg hc] at h ⊢
      cases j with
      | zero => cases h; exact List.mem_cons_self
      | succ j =>
        have h : (wm_al r)[j]? = some v := h
        have := wm_al_at G r (i + 1) j v h hn
        rw [show i + (j + 1) = i + 1 + j by omega]
        exact List.mem_cons_of_mem _ this
theorem wm_dr_all : (List.range wm_N).all (fun y => Nat.ble 1 (wm_dr y) && (Nat.beq (wm_oc y) 15 || plainName (wm_nm y).cls)) = true := by decide +kernel
theorem wm_enter {e y : Nat} (hy : Nat.blt y wm_N = true) (hm : Nat.beq (wm_oc y) 15 = false) {as : List Value} (hl : Nat.ble (wm_al as).length (wm_mx y) = true) {μ : wm_M} {Q : Option Value → wm_M → Prop} (h : wm_Wp e y 0 (wm_in as (wm_mx y)) μ Q) : wm_Ok e y as μ Q := by
  intro l G
  have hyN := wm_blt hy
  have hd := List.all_eq_true.mp wm_dr_all y (List.mem_range.mpr hyN)
  simp only [Bool.and_eq_true, hm, Bool.false_or] at hd
  have hmk := wm_mok_of hyN
  obtain ⟨f1, f2, f3, f4, f5, f6⟩ := wm_mok_facts hmk
  have hdr := Nat.le_of_ble_eq_true hd.1
  have hdq : 1 ≤ wm_dq y e := by unfold wm_dq; split <;> omega
  refine Met.ofW (cc := wm_by y) (maxL := wm_mx y) (ret := wm_rt y) hd.2 rfl ?_
  intro p en s m args below meth c s₁ B hml hv
  obtain ⟨rfl, hP, hK, hD, hX⟩ := hv
  have hts := atoms_spec (ws := wm_wo y) B.pre
  have hown : s.vm.findClass (wm_ow (wm_oc y)) = some m.cls := by rw [← f3]; exact findClass_of_methodNamed B.named
  have hlen := Nat.le_of_ble_eq_true hl
  have hle := lv_entry (as.map (wm_v G)) (n := wm_mx y) (by rw [wm_al_len]; exact hlen)
  rw [lg_entry_eq]
  refine h l G p en _ s m _ below meth c ⟨B.exec, B.bytes, hml, hown, fun w hw => hts w (List.mem_cons_of_mem _ hw), hK, hX, ⟨hdq, Nat.le_refl _, Nat.le_refl _⟩, ⟨Nat.zero_le _, Nat.zero_le _⟩, Or.inl rfl⟩ B.returns B.notSynchronized s.heap [] _ hP hD va_S.rf ⟨hle.1, hle.2.1, ?_, fun i v hv hn => ?_⟩
  · simp only [wm_in, List.length_append, List.length_replicate]; omega
  · by_cases hi : i < (wm_al as).length
    · unfold wm_in at hv
      rw [List.getElem?_append_left hi] at hv
      have h9 := hle.2.2 _ (wm_al_at G as 0 i v hv hn)
      rw [Nat.zero_add] at h9
      exact h9
    · unfold wm_in at hv
      rw [List.getElem?_append_right (by omega)] at hv
      exact absurd (List.eq_of_mem_replicate (List.mem_of_getElem? hv)) hn
theorem wm_Ok.mono {e y : Nat} {as : List Value} {μ : wm_M} {Q Q' : Option Value → wm_M → Prop} (h : wm_Ok e y as μ Q) (hq : ∀ v ν, Q v ν → Q' v ν) : wm_Ok e y as μ Q' := fun l G => MetFree.mono (h l G) (fun _ _ z => z) (fun _ _ _ _ _ z => z) (fun a s o s' _ z => ⟨by
  obtain ⟨r, μ', h1, h2, h3⟩ := z.1
  exact ⟨r, μ', h1, hq r μ' h2, h3⟩, z.2⟩)
theorem wm_OkI.mono {e y : Nat} {as : List Value} {μ : wm_M} {Q Q' : Int32 → wm_M → Prop} (h : wm_OkI e y as μ Q) (hq : ∀ v ν, Q v ν → Q' v ν) : wm_OkI e y as μ Q' := wm_Ok.mono h (fun v ν z => by obtain ⟨x, h1, h2⟩ := z; exact ⟨x, h1, hq x ν h2⟩)
theorem wm_OkJ.mono {e y : Nat} {as : List Value} {μ : wm_M} {Q Q' : Int64 → wm_M → Prop} (h : wm_OkJ e y as μ Q) (hq : ∀ v ν, Q v ν → Q' v ν) : wm_OkJ e y as μ Q' := wm_Ok.mono h (fun v ν z => by obtain ⟨x, h1, h2⟩ := z; exact ⟨x, h1, hq x ν h2⟩)
theorem wm_OkV.mono {e y : Nat} {as : List Value} {μ : wm_M} {Q Q' : wm_M → Prop} (h : wm_OkV e y as μ Q) (hq : ∀ ν, Q ν → Q' ν) : wm_OkV e y as μ Q' := wm_Ok.mono h (fun v ν z => ⟨z.1, hq ν z.2⟩)
theorem wm_OkR.mono {e y : Nat} {as : List Value} {μ : wm_M} {Q Q' : wm_M → Prop} (h : wm_OkR e y as μ Q) (hq : ∀ ν, Q ν → Q' ν) : wm_OkR e y as μ Q' := wm_Ok.mono h (fun v ν z => ⟨z.1, hq ν z.2⟩)
