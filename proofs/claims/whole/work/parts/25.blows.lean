/-! ===== FROM and FORCE in an hour, FORCE in a cell ===== -/
theorem nI_ne {j : Nat} (h : j < 2 ^ 31) : ¬ nI j = (-1 : Int32) := fun e => by
  have h1 := nI_pos' h
  rw [e] at h1
  exact absurd h1 (by decide)
theorem s_71 (w h : Nat) (hw : w < 7) (hh : h < 12) {μ : wm_M} {Q : Int32 → wm_M → Prop} (hq : Q (lto (ltd (tc_ μ w) h) (fun k => μ.1 5 (w * 12 + k)) 0) μ) : wm_OkI 0 71 [.ref 2, .int (nI w), .int (nI h)] μ Q := by
  refine v_71 _ _ μ _ (s_70 w h hw hh ?_)
  cases e : ltd (tc_ μ w) h with
  | none =>
    rw [e] at hq
    exact ⟨fun _ => ⟨_, rfl, hq⟩, fun z => absurd rfl z⟩
  | some k =>
    have hk := ltd_le _ _ _ e
    rw [e] at hq
    exact ⟨fun z => absurd z (nI_ne (by omega)), fun _ => w_71_16 (nI (w * 12 + k)) μ _ ⟨vp_in_nI (by omega) (by decide), _, rfl, by rw [nI_clamp (by omega)]; exact hq⟩⟩
theorem s_72 (w h : Nat) (hw : w < 7) (hh : h < 12) {μ : wm_M} {Q : Int32 → wm_M → Prop} (hq : Q (lto (ltd (tc_ μ w) h) (fun k => μ.1 6 (w * 12 + k)) 0) μ) : wm_OkI 0 72 [.ref 2, .int (nI w), .int (nI h)] μ Q := by
  refine v_72 _ _ μ _ (s_70 w h hw hh ?_)
  cases e : ltd (tc_ μ w) h with
  | none =>
    rw [e] at hq
    exact ⟨fun _ => ⟨_, rfl, hq⟩, fun z => absurd rfl z⟩
  | some k =>
    have hk := ltd_le _ _ _ e
    rw [e] at hq
    exact ⟨fun z => absurd z (nI_ne (by omega)), fun _ => w_72_16 (nI (w * 12 + k)) μ _ ⟨vp_in_nI (by omega) (by decide), _, rfl, by rw [nI_clamp (by omega)]; exact hq⟩⟩
theorem s_198 (w h : Nat) (hw : w < 7) (hh : h < 12) {μ : wm_M} {Q : Int32 → wm_M → Prop} (hq : Q (lto (ltd (tm_ μ w) h) (fun k => μ.1 91 (72 + 12 * w + k)) 0) μ) : wm_OkI 0 198 [.ref 89, .int (nI w), .int (nI h)] μ Q := by
  refine v_198 _ _ μ _ (s_197 w h hw hh ?_)
  cases e : ltd (tm_ μ w) h with
  | none =>
    rw [e] at hq
    exact ⟨fun z => absurd z (by decide), fun _ => ⟨_, rfl, hq⟩⟩
  | some k =>
    have hk := ltd_le _ _ _ e
    rw [e] at hq
    have e3 : ((72 : Int32) + ((12 : Int32) * nI w)) + nI k = nI (72 + 12 * w + k) := ix3 72 w k
    exact ⟨fun _ => w_198_15 (nI w) (nI k) μ _ ⟨by rw [e3]; exact vp_in_nI (by omega) (by decide), _, rfl, by rw [e3, nI_clamp (by omega)]; exact hq⟩, fun z => absurd (nI_pos' (by omega)) z⟩
theorem s_199 (w h : Nat) (hw : w < 7) (hh : h < 12) {μ : wm_M} {Q : Int32 → wm_M → Prop} (hq : Q (lto (ltd (tm_ μ w) h) (fun k => μ.1 91 (156 + 12 * w + k)) 0) μ) : wm_OkI 0 199 [.ref 89, .int (nI w), .int (nI h)] μ Q := by
  refine v_199 _ _ μ _ (s_197 w h hw hh ?_)
  cases e : ltd (tm_ μ w) h with
  | none =>
    rw [e] at hq
    exact ⟨fun z => absurd z (by decide), fun _ => ⟨_, rfl, hq⟩⟩
  | some k =>
    have hk := ltd_le _ _ _ e
    rw [e] at hq
    have e3 : ((156 : Int32) + ((12 : Int32) * nI w)) + nI k = nI (156 + 12 * w + k) := ix3 156 w k
    exact ⟨fun _ => w_199_15 (nI w) (nI k) μ _ ⟨by rw [e3]; exact vp_in_nI (by omega) (by decide), _, rfl, by rw [e3, nI_clamp (by omega)]; exact hq⟩, fun z => absurd (nI_pos' (by omega)) z⟩
theorem n100 : ¬ (100 : Int32) = 0 := by decide
theorem s_74 (x : Int32) (c : Nat) (hc : c < 36) {μ : wm_M} {Q : Int32 → wm_M → Prop} (hq : Q ((x * (100 - μ.1 4 c)) / 100) μ) : wm_OkI 0 74 [.ref 2, .int x, .int (nI c)] μ Q := v_74 _ _ μ _ ⟨vp_in_nI hc (by decide), n100, _, rfl, by rw [nI_clamp (by omega)]; exact hq⟩
theorem s_73 (w h c : Nat) (hw : w < 7) (hh : h < 12) (hc : c < 36) {μ : wm_M} {Q : Int32 → wm_M → Prop} (hq : Q ((lto (ltd (tc_ μ w) h) (fun k => μ.1 6 (w * 12 + k)) 0 * (100 - μ.1 4 c)) / 100) μ) : wm_OkI 0 73 [.ref 2, .int (nI w), .int (nI h), .int (nI c)] μ Q := v_73 _ _ _ μ _ (s_72 w h hw hh (s_74 _ c hc ⟨_, rfl, hq⟩))
theorem s_200 (w h c : Nat) (hw : w < 7) (hh : h < 12) (hc : c < 36) {μ : wm_M} {Q : Int32 → wm_M → Prop} (hq : Q ((lto (ltd (tm_ μ w) h) (fun k => μ.1 91 (156 + 12 * w + k)) 0 * (100 - μ.1 91 (36 + c))) / 100) μ) : wm_OkI 0 200 [.ref 89, .int (nI w), .int (nI h), .int (nI c)] μ Q := by
  have e4 : (36 : Int32) + nI c = nI (36 + c) := nI_add 36 c
  exact v_200 _ _ _ μ _ (s_199 w h hw hh ⟨by rw [e4]; exact vp_in_nI (by omega) (by decide), n100, _, rfl, by rw [e4, nI_clamp (by omega)]; exact hq⟩)
