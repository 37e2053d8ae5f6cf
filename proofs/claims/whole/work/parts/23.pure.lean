/-! ===== numbers of hours, eighths, states, kinds ===== -/
def hq (t : Nat) : Nat := if t < 120 then t / 10 else 11
theorem n10 : ¬ (10 : Int32) = 0 := by decide
theorem n2 : ¬ (2 : Int32) = 0 := by decide
theorem dv10 {t : Nat} (ht : t < 2 ^ 31) : nI t / (10 : Int32) = nI (t / 10) := pk_div (d := 10) ht (by decide) (by decide)
theorem dv2 {t : Nat} (ht : t < 2 ^ 31) : nI t / (2 : Int32) = nI (t / 2) := pk_div (d := 2) ht (by decide) (by decide)
theorem s_180 (t : Nat) (ht : t < 2 ^ 31) {μ : wm_M} {Q : Int32 → wm_M → Prop} (h : Q (nI (hq t)) μ) : wm_OkI 0 180 [.int (nI t)] μ Q := by
  refine v_180 _ μ _ ⟨fun z => w_180_13 μ _ ⟨_, rfl, ?_⟩, fun z => ⟨n10, _, rfl, ?_⟩⟩
  · have z := (nI_leI (a := 120) (b := t) (by decide) ht).mp z
    rw [show hq t = 11 from if_neg (by omega)] at h; exact h
  · have z : ¬ 120 ≤ t := fun q => z ((nI_leI (a := 120) (b := t) (by decide) ht).mpr q)
    rw [show hq t = t / 10 from if_pos (by omega)] at h; rw [dv10 ht]; exact h
theorem s_192 (t : Nat) (ht : t < 2 ^ 31) {μ : wm_M} {Q : Int32 → wm_M → Prop} (h : Q (nI (hq t)) μ) : wm_OkI 0 192 [.int (nI t)] μ Q := by
  have h10 : t / 10 < 2 ^ 31 := by omega
  refine v_192 _ μ _ ⟨n10, fun z => w_192_16 μ _ ⟨_, rfl, ?_⟩, fun z => ⟨n10, _, rfl, ?_⟩⟩
  · rw [dv10 ht] at z
    have z := (nI_leI (a := 12) (b := t / 10) (by decide) h10).mp z
    rw [show hq t = 11 from if_neg (by omega)] at h; exact h
  · rw [dv10 ht] at z ⊢
    have z : ¬ 12 ≤ t / 10 := fun q => z ((nI_leI (a := 12) (b := t / 10) (by decide) h10).mpr q)
    rw [show hq t = t / 10 from if_pos (by omega)] at h; exact h
/-- eighths that two headings are apart -/
def ap (a b : Nat) : Nat := if (if a ≤ b then b - a else a - b) ≤ 4 then (if a ≤ b then b - a else a - b) else 8 - (if a ≤ b then b - a else a - b)
theorem ap_181 : ∀ a, a < 8 → ∀ b, b < 8 → (if ((8 : Int32) - (if 0 ≤ (nI a - nI b) then (nI a - nI b) else 0 - (nI a - nI b))) < (if 0 ≤ (nI a - nI b) then (nI a - nI b) else 0 - (nI a - nI b)) then ((8 : Int32) - (if 0 ≤ (nI a - nI b) then (nI a - nI b) else 0 - (nI a - nI b))) else (if 0 ≤ (nI a - nI b) then (nI a - nI b) else 0 - (nI a - nI b))) = nI (ap a b) := by decide +kernel
theorem s_181 (a b : Nat) (ha : a < 8) (hb : b < 8) {μ : wm_M} {Q : Int32 → wm_M → Prop} (h : Q (nI (ap a b)) μ) : wm_OkI 0 181 [.int (nI a), .int (nI b)] μ Q := v_181 _ _ μ _ ⟨_, rfl, by rw [ap_181 a ha b hb]; exact h⟩
theorem s_248 (a b : Nat) (ha : a < 8) (hb : b < 8) {μ : wm_M} {Q : Int32 → wm_M → Prop} (h : Q (nI (ap a b)) μ) : wm_OkI 0 248 [.int (nI a), .int (nI b)] μ Q := by
  have key : ∀ n, n < 8 → (nI n ≤ (4 : Int32) ↔ n ≤ 4) := fun n hn => nI_leI (a := n) (b := 4) (by omega) (by decide)
  refine v_248 _ _ μ _ ⟨fun z => w_248_11 _ _ μ _ ⟨fun y => w_248_27 _ μ _ ⟨_, rfl, ?_⟩, fun y => ⟨_, rfl, ?_⟩⟩, fun z => ⟨fun y => w_248_27 _ μ _ ⟨_, rfl, ?_⟩, fun y => ⟨_, rfl, ?_⟩⟩⟩
  · have z := (nI_leI (by omega) (by omega)).mp z
    rw [pk_sub z] at y ⊢
    have y := (key (b - a) (by omega)).mp y
    rw [show ap a b = b - a by unfold ap; rw [if_pos z, if_pos y]] at h; exact h
  · have z := (nI_leI (by omega) (by omega)).mp z
    rw [pk_sub z] at y ⊢
    have y : ¬ b - a ≤ 4 := fun q => y ((key (b - a) (by omega)).mpr q)
    rw [show ap a b = 8 - (b - a) by unfold ap; rw [if_pos z, if_neg y]] at h
    rw [show (8 : Int32) - nI (b - a) = nI (8 - (b - a)) from pk_sub (a := 8) (by omega)]; exact h
  · have z : ¬ a ≤ b := fun q => z ((nI_leI (a := a) (b := b) (by omega) (by omega)).mpr q)
    rw [pk_sub (by omega)] at y ⊢
    have y := (key (a - b) (by omega)).mp y
    rw [show ap a b = a - b by unfold ap; rw [if_neg z, if_pos y]] at h; exact h
  · have z : ¬ a ≤ b := fun q => z ((nI_leI (a := a) (b := b) (by omega) (by omega)).mpr q)
    rw [pk_sub (by omega)] at y ⊢
    have y : ¬ a - b ≤ 4 := fun q => y ((key (a - b) (by omega)).mpr q)
    rw [show ap a b = 8 - (a - b) by unfold ap; rw [if_neg z, if_neg y]] at h
    rw [show (8 : Int32) - nI (a - b) = nI (8 - (a - b)) from pk_sub (a := 8) (by omega)]; exact h
/-- the number of a state -/
def st_ (c h s : Nat) : Nat := 3 * (8 * c + h) + s
theorem s_183 (a b c : Nat) {μ : wm_M} {Q : Int32 → wm_M → Prop} (h : Q (nI (st_ a b c)) μ) : wm_OkI 0 183 [.int (nI a), .int (nI b), .int (nI c)] μ Q := by
  refine v_183 _ _ _ μ _ ⟨_, rfl, ?_⟩
  have e : ((3 : Int32) * (((8 : Int32) * nI a) + nI b)) + nI c = nI (st_ a b c) := by
    show nI 3 * (nI 8 * nI a + nI b) + nI c = _
    rw [pk_mul, nI_add, pk_mul, nI_add]
    rfl
  rw [e]; exact h
/-- what a kind of sail holds -/
def hd_ (k : Nat) : Nat := [24, 28, 39, 20, 16].getD k 0
theorem s_211 (k : Nat) (hk : k < 5) {μ : wm_M} {Q : Int32 → wm_M → Prop} (h : Q (nI (hd_ k)) μ) : wm_OkI 0 211 [.int (nI k)] μ Q := by
  have e : ∀ j, j < 5 → (nI k = nI j ↔ k = j) := fun j hj => nI_eq (by omega) (by omega)
  refine v_211 _ μ _ ⟨fun z => ?_, fun z => w_211_10 _ μ _ ⟨fun y => ?_, fun y => w_211_20 _ μ _ ⟨fun x => ?_, fun x => w_211_30 _ μ _ ⟨fun w => ?_, fun w => w_211_40 μ _ ?_⟩⟩⟩⟩
  · have z := (e 1 (by decide)).mp z; subst z; exact ⟨_, rfl, h⟩
  · have y := (e 2 (by decide)).mp y; subst y; exact ⟨_, rfl, h⟩
  · have x := (e 3 (by decide)).mp x; subst x; exact ⟨_, rfl, h⟩
  · have w := (e 4 (by decide)).mp w; subst w; exact ⟨_, rfl, h⟩
  · have z : ¬ k = 1 := fun q => z ((e 1 (by decide)).mpr q)
    have y : ¬ k = 2 := fun q => y ((e 2 (by decide)).mpr q)
    have x : ¬ k = 3 := fun q => x ((e 3 (by decide)).mpr q)
    have w : ¬ k = 4 := fun q => w ((e 4 (by decide)).mpr q)
    have k0 : k = 0 := by omega
    subst k0; exact ⟨_, rfl, h⟩
