/-! ===== the step's condition is sound ===== -/
theorem wm_v_cat (G : wm_G) (v : Value) : (wm_v G v).category = v.category := by cases v <;> rfl
theorem wm_sum_map (G : wm_G) : ∀ st : List Value, ((st.map (wm_v G)).map fun v => v.category).sum = wm_sum st
  | [] => rfl
  | v :: r => by
    simp only [List.map_cons, List.sum_cons, wm_sum, wm_v_cat]
    rw [wm_sum_map G r]
theorem wm_pp_ok : ∀ (n : Nat) (st acc as r : List Value), wm_pp n st acc = some (as, r) → ∃ bs : List Value, st = bs ++ r ∧ as = bs.reverse ++ acc ∧ bs.length = n
  | 0, st, acc, as, r, h => by
    simp only [wm_pp, Option.some.injEq, Prod.mk.injEq] at h
    exact ⟨[], by simp [h.2], by simp [h.1], rfl⟩
  | n + 1, [], acc, as, r, h => by simp [wm_pp] at h
  | n + 1, v :: st, acc, as, r, h => by
    simp only [wm_pp] at h
    obtain ⟨bs, h1, h2, h3⟩ := wm_pp_ok n st (v :: acc) as r h
    exact ⟨v :: bs, by simp [h1], by simp [h2], by simp [h3]⟩
/-! locals -/
def wm_L (G : wm_G) (ls : Array Slot) (nL : Nat) (l : List Value) : Prop := ls.size = nL ∧ lv_wf ls ∧ l.length ≤ nL ∧ ∀ (i : Nat) (v : Value), l[i]? = some v → v ≠ .null → ls[i]? = some (.val (wm_v G v))
def wm_pq (G : wm_G) (i : Nat) (o : Option Value) : Option (Nat × Value) := match o with
  | some .null => none
  | some v => some (i, wm_v G v)
  | none => none
def wm_ps (G : wm_G) (l : List Value) : List (Nat × Value) := (List.range l.length).filterMap (fun i => wm_pq G i l[i]?)
theorem wm_ps_in {G : wm_G} {l : List Value} {i : Nat} {v : Value} (h : l[i]? = some v) (hn : v ≠ .null) : (i, wm_v G v) ∈ wm_ps G l := by
  refine List.mem_filterMap.mpr ⟨i, List.mem_range.mpr (List.getElem?_eq_some_iff.mp h).1, ?_⟩
  rw [h]
  cases v <;> first | rfl | exact absurd rfl hn
theorem wm_ps_out {G : wm_G} {l : List Value} {q : Nat × Value} (h : q ∈ wm_ps G l) : ∃ v, l[q.1]? = some v ∧ v ≠ .null ∧ q.2 = wm_v G v := by
  obtain ⟨i, -, h2⟩ := List.mem_filterMap.mp h
  cases hv : l[i]? with
  | none => rw [hv] at h2; cases h2
  | some v =>
    rw [hv] at h2
    cases v with
    | null => cases h2
    | int x => cases h2; exact ⟨_, hv, by simp, rfl⟩
    | long x => cases h2; exact ⟨_, hv, by simp, rfl⟩
    | float x => cases h2; exact ⟨_, hv, by simp, rfl⟩
    | double x => cases h2; exact ⟨_, hv, by simp, rfl⟩
    | ref x => cases h2; exact ⟨_, hv, by simp, rfl⟩
    | retAddr x => cases h2; exact ⟨_, hv, by simp, rfl⟩
theorem wm_L.has {G : wm_G} {ls : Array Slot} {nL : Nat} {l : List Value} (h : wm_L G ls nL l) : lv_has ls nL (wm_ps G l) := ⟨h.1, h.2.1, fun q hq => by
  obtain ⟨v, h1, h2, h3⟩ := wm_ps_out hq
  rw [h3]
  exact h.2.2.2 q.1 v h1 h2⟩
theorem wm_nul_at {l : List Value} {i j : Nat} {v : Value} (h : (wm_nul l i)[j]? = some v) (hn : v ≠ .null) : l[j]? = some v ∧ ¬ (j + 1 = i ∧ v.category = 2) := by
  cases i with
  | zero => exact ⟨h, fun z => by omega⟩
  | succ i =>
    simp only [wm_nul] at h
    cases hv : l[i]? with
    | none =>
      rw [hv] at h
      refine ⟨h, fun z => ?_⟩
      have e : j = i := by omega
      subst e
      rw [hv] at h
      cases h
    | some w =>
      rw [hv] at h
      cases hb : Nat.beq w.category 2 with
      | true =>
        simp only [hb, cond_true] at h
        by_cases hj : i = j
        · subst hj
          rw [List.getElem?_set_self (List.getElem?_eq_some_iff.mp hv).1] at h
          exact absurd (Option.some.inj h).symm hn
        · rw [List.getElem?_set_ne hj] at h
          exact ⟨h, fun z => hj (by omega)⟩
      | false =>
        simp only [hb, cond_false] at h
        refine ⟨h, fun z => ?_⟩
        have e : j = i := by omega
        subst e
        rw [hv] at h
        cases h
        rw [z.2] at hb
        cases hb
theorem wm_nul_len (l : List Value) (i : Nat) : (wm_nul l i).length = l.length := by
  cases i with
  | zero => rfl
  | succ i =>
    simp only [wm_nul]
    cases l[i]? with
    | none => rfl
    | some w => cases hb : Nat.beq w.category 2 <;> simp [hb]
theorem wm_L.s1 {G : wm_G} {ls' : Array Slot} {nL i : Nat} {l : List Value} {v : Value} (hlen : l.length ≤ nL) (h : lv_has ls' nL ((i, wm_v G v) :: (wm_ps G l).filter (fun q => !(q.1 == i) && !(q.1 + 1 == i && q.2.category == 2)))) : wm_L G ls' nL (wm_s1 l i v) := by
  refine ⟨h.1, h.2.1, by unfold wm_s1; rw [List.length_set, wm_nul_len]; exact hlen, fun j w hj hw => ?_⟩
  unfold wm_s1 at hj
  by_cases e : i = j
  · subst e
    by_cases hl : i < (wm_nul l i).length
    · rw [List.getElem?_set_self hl] at hj
      cases hj
      exact h.2.2 _ List.mem_cons_self
    · rw [List.getElem?_eq_none (by simpa using Nat.le_of_not_lt hl)] at hj
      cases hj
  · rw [List.getElem?_set_ne e] at hj
    obtain ⟨h1, h2⟩ := wm_nul_at hj hw
    refine h.2.2 (j, wm_v G w) (List.mem_cons_of_mem _ (List.mem_filter.mpr ⟨wm_ps_in h1 hw, ?_⟩))
    have e1 : ¬ j = i := fun z => e z.symm
    simp only [wm_v_cat, Bool.and_eq_true, Bool.not_eq_true', beq_eq_false_iff_ne, ne_eq, e1, not_false_eq_true, Bool.and_eq_false_iff, true_and]
    by_cases z : j + 1 = i
    · exact Or.inr (fun q => h2 ⟨z, q⟩)
    · exact Or.inl z
theorem wm_L.s2 {G : wm_G} {ls' : Array Slot} {nL i : Nat} {l : List Value} {v : Value} (hlen : l.length ≤ nL) (h : lv_has ls' nL ((i, wm_v G v) :: (wm_ps G l).filter (fun q => !(q.1 == i) && (!(q.1 == i + 1) && !(q.1 + 1 == i && q.2.category == 2))))) : wm_L G ls' nL (wm_s2 l i v) := by
  refine ⟨h.1, h.2.1, by unfold wm_s2; rw [List.length_set, List.length_set, wm_nul_len]; exact hlen, fun j w hj hw => ?_⟩
  unfold wm_s2 at hj
  by_cases e2 : i + 1 = j
  · subst e2
    by_cases hl : i + 1 < ((wm_nul l i).set i v).length
    · rw [List.getElem?_set_self hl] at hj
      exact absurd (Option.some.inj hj).symm hw
    · rw [List.getElem?_eq_none (by simpa using Nat.le_of_not_lt hl)] at hj
      cases hj
  · rw [List.getElem?_set_ne e2] at hj
    by_cases e : i = j
    · subst e
      by_cases hl : i < (wm_nul l i).length
      · rw [List.getElem?_set_self hl] at hj
        cases hj
        exact h.2.2 _ List.mem_cons_self
      · rw [List.getElem?_eq_none (by simpa using Nat.le_of_not_lt hl)] at hj
        cases hj
    · rw [List.getElem?_set_ne e] at hj
      obtain ⟨h1, h2⟩ := wm_nul_at hj hw
      refine h.2.2 (j, wm_v G w) (List.mem_cons_of_mem _ (List.mem_filter.mpr ⟨wm_ps_in h1 hw, ?_⟩))
      have e1 : ¬ j = i := fun z => e z.symm
      have e3 : ¬ j = i + 1 := fun z => e2 z.symm
      simp only [wm_v_cat, Bool.and_eq_true, Bool.not_eq_true', beq_eq_false_iff_ne, ne_eq, e1, e3, not_false_eq_true, Bool.and_eq_false_iff, true_and]
      by_cases z : j + 1 = i
      · exact Or.inr (fun q => h2 ⟨z, q⟩)
      · exact Or.inl z
theorem wm_mask_at : ∀ (bs : List Bool) (l : List Value) (i : Nat) (v : Value), (wm_mask bs l)[i]? = some v → v ≠ .null → l[i]? = some v
  | [], l, i, v, h, _ => by simp [wm_mask] at h
  | _ :: _, [], i, v, h, _ => by simp [wm_mask] at h
  | b :: bs, w :: l, 0, v, h, hn => by
    cases b
    · simp only [wm_mask, cond_false, List.getElem?_cons_zero, Option.some.injEq] at h
      exact absurd h.symm hn
    · simpa [wm_mask] using h
  | b :: bs, w :: l, i + 1, v, h, hn => by
    simp only [wm_mask, List.getElem?_cons_succ] at h ⊢
    exact wm_mask_at bs l i v h hn
theorem wm_mask_len : ∀ (bs : List Bool) (l : List Value), (wm_mask bs l).length ≤ l.length
  | [], l => by simp [wm_mask]
  | _ :: _, [] => by simp [wm_mask]
  | b :: bs, w :: l => by
    simp only [wm_mask, List.length_cons]
    exact Nat.succ_le_succ (wm_mask_len bs l)
theorem wm_L.mask {G : wm_G} {ls : Array Slot} {nL : Nat} {l : List Value} (h : wm_L G ls nL l) (bs : List Bool) : wm_L G ls nL (wm_mask bs l) := ⟨h.1, h.2.1, Nat.le_trans (wm_mask_len bs l) h.2.2.1, fun i v hv hn => h.2.2.2 i v (wm_mask_at bs l i v hv hn) hn⟩
/-! memory -/
theorem wm_ws_at (G : wm_G) (μ : wm_M) {c : Nat} (h : c < wm_n) : (wm_ws G μ)[c]? = some (G.2.2.1 c, wm_E G μ c (wm_sh c)) := by
  unfold wm_ws
  rw [List.getElem?_map, List.getElem?_range h]
  rfl
theorem wm_E_congr (G : wm_G) {μ ν : wm_M} {c : Nat} (h1 : ν.1 c = μ.1 c) (h2 : ν.2 c = μ.2 c) (s : Nat × Nat) : wm_E G ν c s = wm_E G μ c s := by
  unfold wm_E
  have e : ∀ k t, wm_fv G ν c k t = wm_fv G μ c k t := fun k t => by unfold wm_fv; rw [h1, h2]
  simp only [e, h1, h2]
theorem wm_ws_set (G : wm_G) {μ ν : wm_M} {c : Nat} {E : va_E} (hE : wm_E G ν c (wm_sh c) = E) (ho : ∀ k, k ≠ c → ν.1 k = μ.1 k ∧ ν.2 k = μ.2 k) : (wm_ws G μ).set c (G.2.2.1 c, E) = wm_ws G ν := by
  refine List.ext_getElem? fun k => ?_
  have hl : (wm_ws G μ).length = wm_n := by simp [wm_ws]
  by_cases hk : k < wm_n
  · rw [wm_ws_at G ν hk]
    by_cases e : c = k
    · subst e
      rw [List.getElem?_set_self (by rw [hl]; exact hk), hE]
    · rw [List.getElem?_set_ne e, wm_ws_at G μ hk]
      obtain ⟨h1, h2⟩ := ho k (fun z => e z.symm)
      rw [wm_E_congr G h1 h2]
  · rw [List.getElem?_eq_none (by rw [List.length_set, hl]; omega), List.getElem?_eq_none (by simp [wm_ws]; omega)]
theorem wm_up_ne {α : Type} {f : Nat → α} {c k : Nat} {v : α} (h : k ≠ c) : va_up f c v k = f k := by simp [va_up, h]
theorem wm_up_eq {α : Type} {f : Nat → α} {c : Nat} {v : α} : va_up f c v c = v := by simp [va_up]
theorem wm_ws_si (G : wm_G) {μ : wm_M} {c i : Nat} {x : Int32} {E : va_E} (hE : wm_E G (wm_si μ c i x) c (wm_sh c) = E) : (wm_ws G μ).set c (G.2.2.1 c, E) = wm_ws G (wm_si μ c i x) := wm_ws_set G hE (fun k hk => ⟨wm_up_ne hk, rfl⟩)
theorem wm_ws_sr (G : wm_G) {μ : wm_M} {c : Nat} {f : Nat → Int32} {E : va_E} (hE : wm_E G (wm_sr μ c f) c (wm_sh c) = E) : (wm_ws G μ).set c (G.2.2.1 c, E) = wm_ws G (wm_sr μ c f) := wm_ws_set G hE (fun k hk => ⟨wm_up_ne hk, rfl⟩)
theorem wm_ws_sl (G : wm_G) {μ : wm_M} {c i : Nat} {x : Int64} {E : va_E} (hE : wm_E G (wm_sl μ c i x) c (wm_sh c) = E) : (wm_ws G μ).set c (G.2.2.1 c, E) = wm_ws G (wm_sl μ c i x) := wm_ws_set G hE (fun k hk => ⟨rfl, wm_up_ne hk⟩)
theorem wm_lt {a : Nat} (h : Nat.ble wm_n a = false) : a < wm_n := Nat.lt_of_not_le fun z => by rw [Nat.ble_eq_true_of_le z] at h; cases h
/-- the fields of an object -/
theorem wm_fs_at (G : wm_G) (μ : wm_M) (a ci : Nat) {k : Nat} (hk : k < wm_nf ci) : ((List.range (wm_nf ci)).map (fun k => wm_fv G μ a k (wm_ft ci k)))[k]? = some (wm_fv G μ a k (wm_ft ci k)) := by
  rw [List.getElem?_map, List.getElem?_range hk]
  rfl
theorem wm_fs_set (G : wm_G) {μ ν : wm_M} {a ci k : Nat} {v : Value} (hv : wm_fv G ν a k (wm_ft ci k) = v) (ho : ∀ j, j ≠ k → wm_fv G ν a j (wm_ft ci j) = wm_fv G μ a j (wm_ft ci j)) : ((List.range (wm_nf ci)).map (fun k => wm_fv G μ a k (wm_ft ci k))).set k v = (List.range (wm_nf ci)).map (fun k => wm_fv G ν a k (wm_ft ci k)) := by
  refine List.ext_getElem? fun j => ?_
  by_cases hj : j < wm_nf ci
  · rw [wm_fs_at G ν a ci hj]
    by_cases e : k = j
    · subst e
      rw [List.getElem?_set_self (by simpa using hj), hv]
    · rw [List.getElem?_set_ne e, wm_fs_at G μ a ci hj, ho j (fun z => e z.symm)]
  · rw [List.getElem?_eq_none (by simp; omega), List.getElem?_eq_none (by simp; omega)]
