/-! ===== one step ===== -/
theorem wm_pI_ok {st : List Value} {f : Int32 → List Value → Prop} (h : wm_pI st f) : ∃ x r, st = .int x :: r ∧ f x r := by
  cases st with
  | nil => exact h.elim
  | cons v r => cases v <;> first | exact ⟨_, r, rfl, h⟩ | exact h.elim
theorem wm_pJ_ok {st : List Value} {f : Int64 → List Value → Prop} (h : wm_pJ st f) : ∃ x r, st = .long x :: r ∧ f x r := by
  cases st with
  | nil => exact h.elim
  | cons v r => cases v <;> first | exact ⟨_, r, rfl, h⟩ | exact h.elim
theorem wm_pR_ok {st : List Value} {f : Nat → List Value → Prop} (h : wm_pR st f) : ∃ x r, st = .ref x :: r ∧ f x r := by
  cases st with
  | nil => exact h.elim
  | cons v r => cases v <;> first | exact ⟨_, r, rfl, h⟩ | exact h.elim
theorem wm_load_ok {l : List Value} {i : Nat} {f : Value → Prop} (h : wm_load l i f) : ∃ v, l[i]? = some v ∧ f v := by
  unfold wm_load at h
  cases hv : l[i]? with
  | none => rw [hv] at h; exact h.elim
  | some v => rw [hv] at h; exact ⟨v, rfl, h⟩
theorem wm_isI_ok {v : Value} {p : Prop} (h : wm_isI v p) : ∃ x, v = .int x ∧ p := by cases v <;> first | exact ⟨_, rfl, h⟩ | exact h.elim
theorem wm_isJ_ok {v : Value} {p : Prop} (h : wm_isJ v p) : ∃ x, v = .long x ∧ p := by cases v <;> first | exact ⟨_, rfl, h⟩ | exact h.elim
theorem wm_isR_ok {v : Value} {p : Prop} (h : wm_isR v p) : ∃ x, v = .ref x ∧ p := by cases v <;> first | exact ⟨_, rfl, h⟩ | exact h.elim
theorem wm_cond_ok {b : Bool} {p : Prop} (h : bif b then p else False) : b = true ∧ p := by cases b <;> first | exact h.elim | exact ⟨rfl, h⟩
theorem wm_cond_no {b : Bool} {p : Prop} (h : bif b then False else p) : b = false ∧ p := by cases b <;> first | exact h.elim | exact ⟨rfl, h⟩
theorem wm_cat_ok {v : Value} {n : Nat} {p : Prop} (h : wm_cat v n p) : v.category = n ∧ p := ⟨Nat.eq_of_beq_eq_true (wm_cond_ok h).1, (wm_cond_ok h).2⟩
theorem wm_blt {a b : Nat} (h : Nat.blt a b = true) : a < b := Nat.le_of_ble_eq_true h
theorem wm_lk_ok : ∀ {B : wm_B} {t : Nat} {os : List wm_Op}, wm_lk B t = some os → (t, os) ∈ B
  | [], t, os, h => by simp [wm_lk] at h
  | q :: B, t, os, h => by
    simp only [wm_lk] at h
    cases hb : Nat.beq q.1 t with
    | true =>
      rw [hb] at h
      simp only [cond_true, Option.some.injEq] at h
      rw [← h, ← Nat.eq_of_beq_eq_true hb]
      exact List.mem_cons_self
    | false =>
      rw [hb] at h
      exact List.mem_cons_of_mem _ (wm_lk_ok h)
def wm_C (G : wm_G) (y e o : Nat) (cc : ByteArray) (nL : Nat) (X : Nat × (Nat → Int32)) (p : Program) (R : Room) (nc ns : Nat) (s : State) (m : MethodId) (args : Array Value) (c : Code) : Prop :=
  p.tables.exec = Jvm.exec ∧ c.code = cc ∧ c.maxLocals = nL ∧ s.vm.findClass (wm_ow o) = some m.cls ∧ (∀ w ∈ wm_T, w.before args s = true) ∧ va_K G.1 wm_cl (wm_ty G) s ∧ wm_X G s ∧ (1 ≤ wm_dq y e ∧ wm_dq y e ≤ R.frames ∧ 100 * wm_dq y e ≤ R.locals) ∧ (nc ≤ R.cells ∧ ns ≤ R.slots) ∧ (X.1 = 0 ∨ (va_X (G.2.2.1 3000) (X.1 - 1) X.2 s s.heap ∧ G.2.2.1 3000 < s.heap.size ∧ ¬ wm_A G (G.2.2.1 3000)))
def wm_J (G : wm_G) (nL : Nat) (p : Program) (l0 : Launch) (en : Env) (R : Room) (s : State) (m : MethodId) (args : Array Value) (below : List Frame) (meth : Method) (c : Code) (nc ns : Nat) (Qw : State → Prop) (pc : Nat) (l st : List Value) (μ : wm_M) : Prop := ∀ (H : Heap) (locs : List Loc) (ls : Array Slot), va_P G.1 wm_cl (wm_ws G μ) H → va_D (wm_A G) (wm_ws G μ) → va_S (wm_A G) s.heap H locs → wm_L G ls nL l → W p l0 en R s m args below meth c H locs nc ns Qw (F0 m pc ls (st.map (wm_v G)))
section WMS
variable {G : wm_G} {y e o : Nat} {cc : ByteArray} {nL : Nat} {X : Nat × (Nat → Int32)} {p : Program} {l0 : Launch} {en : Env} {R : Room} {s : State} {m : MethodId} {args : Array Value} {below : List Frame} {meth : Method} {c : Code} {nc ns : Nat} {Qw : State → Prop} {pc : Nat} {l st : List Value} {μ : wm_M}
theorem wm_j_ok {B : wm_B} {cut : List (Nat × List Bool)} {k : Nat → List wm_Op → List Value → List Value → wm_M → Prop} {K : Nat → List Value → wm_M → Prop} (hB : wm_okB y o cc B = true)
    (hk : ∀ pc os l st μ, k pc os l st μ → wm_okL y o cc pc os = true → wm_J G nL p l0 en R s m args below meth c nc ns Qw pc l st μ) (hK0 : ∀ t l μ, K t l μ → wm_J G nL p l0 en R s m args below meth c nc ns Qw t l [] μ) {t : Nat} (h : wm_j B cut k K t l st μ) : wm_J G nL p l0 en R s m args below meth c nc ns Qw t l st μ := by
  unfold wm_j at h
  cases hc : wm_cu cut t with
  | some ms =>
    rw [hc] at h
    cases st with
    | nil => exact fun H locs ls hP hD hS hL => hK0 t _ μ h H locs ls hP hD hS (hL.mask ms)
    | cons v r => exact h.elim
  | none =>
    rw [hc] at h
    cases hl : wm_lk B t with
    | none => simp only [hl] at h
    | some os =>
      simp only [hl] at h
      exact hk t os l st μ h (List.all_eq_true.mp hB _ (wm_lk_ok hl))
theorem wm_X.go {s U : State} (hW : s.WarmedH U.vm) (hq : ∀ a : Nat, a < s.heap.size → ¬ wm_A G a → U.heap[a]? = s.heap[a]?) (h : wm_X G s) : wm_X G U := by
  obtain ⟨h1, h2, h3, h4, h5, h6, h7⟩ := h
  exact ⟨fun q hq => va_Nw.warmM hW (h1 q hq), fun q hz => (va_Z.moved hW.alike (h2 q hz)).kept hq, fun q hz => (va_T.moved hW.alike (h3 q hz)).kept hq, (vk_S.moved hW.alike h4).kept hq, vk_R.warm hW h5, vk_R.warm hW h6, (va_Zq.moved hW.alike h7).kept hq⟩
theorem wm_blind (G : wm_G) (as : List Value) (μ : wm_M) : FrameBlind (wm_Pc G as μ) := by
  intro a U g mk q
  obtain ⟨q0, qP, qK, qD, h1, h2, h3, h4, h5, h6, h7⟩ := q
  exact ⟨q0, qP, va_K.moved (u := U) (U := U.calling g mk a) (Vm.Alike.refl U.vm) qK, qD, fun q hq => va_Nw.same rfl (u := U) (U := U.calling g mk a) rfl (h1 q hq), fun q hz => va_Z.moved (u := U) (U := U.calling g mk a) (Vm.Alike.refl U.vm) (h2 q hz), fun q hz => va_T.moved (u := U) (U := U.calling g mk a) (Vm.Alike.refl U.vm) (h3 q hz), vk_S.moved (u := U) (U := U.calling g mk a) (Vm.Alike.refl U.vm) h4, vk_R.same (u := U) (U := U.calling g mk a) rfl h5, vk_R.same (u := U) (U := U.calling g mk a) rfl h6, va_Zq.moved (u := U) (U := U.calling g mk a) (Vm.Alike.refl U.vm) h7⟩
theorem wm_back_ok {H : Heap} {locs : List Loc} {ls : Array Slot} {st0 rest : List Value} {aa : Array Value} {Qf : Option Value → wm_M → Prop}
    (hr : va_Run p l0 en R s m args below meth c H locs nc ns 0 0 (F0 m pc ls st0) rest (wm_Qc G Qf aa) (wm_A G)) (hS : va_S (wm_A G) s.heap H locs)
    (kk : ∀ (r : Option Value) (μ : wm_M) (H1 : Heap) (locs1 : List Loc), Qf r μ → va_P G.1 wm_cl (wm_ws G μ) H1 → va_D (wm_A G) (wm_ws G μ) → va_S (wm_A G) s.heap H1 locs1 → W p l0 en R s m args below meth c H1 locs1 nc ns Qw (F0 m (pc + 3) ls ((r.map (wm_v G)).toList ++ rest))) : W p l0 en R s m args below meth c H locs nc ns Qw (F0 m pc ls st0) := by
  intro T hT X
  obtain ⟨v, st₀, t, T', L, h0, X', hL, e1, e2, ⟨r, μ, hv, hq, hp, hd, hz, hk⟩, st⟩ := hr T hT X
  injection hv with hv
  subst hv
  rw [h0] at hz hk
  obtain ⟨t2, a1, b1⟩ := kk r μ T'.heap (locs ++ L) hq (by rw [e1]; exact hp) hd
    ⟨Nat.le_trans hS.1 (by rw [e1]; exact hz), fun q h1 h2 => by rw [e1, hk q (Nat.lt_of_lt_of_le h1 hS.1) h2]; exact hS.2.1 q h1 h2, fun q hq => by
      rcases List.mem_append.mp hq with h | h
      · exact hS.2.2 q h
      · exact hL q h⟩ T' rfl X'
  exact ⟨t2, st t2 a1, b1⟩
theorem wm_dk_ok {z lv e2 : Nat} (h : wm_dk y z lv = true) (he : (lv = 0 ∧ e2 = 0) ∨ (lv = 1 ∧ e = e2 + 1) ∨ (lv = 2 ∧ e2 = 7) ∨ (lv = 3 ∧ e2 = e)) : wm_dq z e2 + 1 ≤ wm_dq y e := by
  unfold wm_dk at h
  unfold wm_dq
  split at h
  · rename_i h1 h2; rw [h1, h2]; have := wm_blt h; simp only; omega
  · rename_i h1 h2; rw [h1, h2]; have := wm_blt h; simp only; omega
  · rename_i h1 h2; rw [h1, h2]; have := wm_blt h; simp only; omega
  · rename_i h1 h2; rw [h1, h2]; have := wm_blt h; simp only; omega
  · rename_i h1 h2; rw [h1, h2]; have := wm_blt h; simp only; omega
  · rename_i h1 h2; rw [h1, h2]; have := wm_blt h; simp only; omega
  · rename_i h1 h2; rw [h1, h2]; have := wm_blt h; simp only; omega
  · cases h
/-- a call's condition gives a contract at some level, and says what comes back -/
theorem wm_call_ok {z r : Nat} {as : List Value} {f : List Value → wm_M → Prop} (h : wm_call e z r as μ f) : ∃ (e2 : Nat) (Qf : Option Value → wm_M → Prop), wm_Ok e2 z as μ Qf ∧ (((r % 4) = 0 ∧ e2 = 0) ∨ ((r % 4) = 1 ∧ e = e2 + 1) ∨ ((r % 4) = 2 ∧ e2 = 7) ∨ ((r % 4) = 3 ∧ e2 = e)) ∧ ∀ v μ, Qf v μ → f v.toList μ := by
  have key : ∀ e2, wm_back (r / 4) e2 z as μ f → ∃ Qf : Option Value → wm_M → Prop, wm_Ok e2 z as μ Qf ∧ ∀ v μ, Qf v μ → f v.toList μ := by
    intro e2 hb
    unfold wm_back at hb
    split at hb
    · exact ⟨_, hb, fun v μ q => by obtain ⟨rfl, q⟩ := q; exact q⟩
    · exact ⟨_, hb, fun v μ q => by obtain ⟨x, rfl, q⟩ := q; exact q⟩
    · exact ⟨_, hb, fun v μ q => by obtain ⟨x, rfl, q⟩ := q; exact q⟩
    · exact ⟨_, hb, fun v μ q => by obtain ⟨rfl, q⟩ := q; exact q⟩
  unfold wm_call wm_lvl at h
  rcases (show r % 4 = 0 ∨ r % 4 = 1 ∨ r % 4 = 2 ∨ r % 4 = 3 by omega) with e0 | e0 | e0 | e0
  · rw [e0] at h ⊢; obtain ⟨Qf, h1, h2⟩ := key _ h; exact ⟨_, Qf, h1, Or.inl ⟨rfl, rfl⟩, h2⟩
  · rw [e0] at h ⊢
    cases e with
    | zero => exact h.elim
    | succ e' => obtain ⟨Qf, h1, h2⟩ := key _ h; exact ⟨_, Qf, h1, Or.inr (Or.inl ⟨rfl, rfl⟩), h2⟩
  · rw [e0] at h ⊢; obtain ⟨Qf, h1, h2⟩ := key _ h; exact ⟨_, Qf, h1, Or.inr (Or.inr (Or.inl ⟨rfl, rfl⟩)), h2⟩
  · rw [e0] at h ⊢; obtain ⟨Qf, h1, h2⟩ := key _ h; exact ⟨_, Qf, h1, Or.inr (Or.inr (Or.inr ⟨rfl, rfl⟩)), h2⟩
end WMS
