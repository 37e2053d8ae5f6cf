/-! ===== small methods: what they answer ===== -/
def bI (p : Prop) [Decidable p] : Int32 := if p then 1 else 0
theorem bI_t {p : Prop} [Decidable p] (h : p) : bI p = 1 := if_pos h
theorem bI_f {p : Prop} [Decidable p] (h : ¬ p) : bI p = 0 := if_neg h
theorem bI_0 {p : Prop} [Decidable p] : bI p = 0 ↔ ¬ p := by
  by_cases h : p
  · rw [bI_t h]; exact ⟨fun z => absurd z (by decide), fun z => absurd h z⟩
  · rw [bI_f h]; exact ⟨fun _ => h, fun _ => rfl⟩
theorem bI_01 {p : Prop} [Decidable p] : bI p = 0 ∨ bI p = 1 := by
  by_cases h : p
  · exact Or.inr (bI_t h)
  · exact Or.inl (bI_f h)
theorem z01 : (0 : Int32) = 0 ∨ (0 : Int32) = 1 := Or.inl rfl
theorem o01 : (1 : Int32) = 0 ∨ (1 : Int32) = 1 := Or.inr rfl
/-- within, isIn -/
theorem s_178 {a b c : Int32} {μ : wm_M} {Q : Int32 → wm_M → Prop} (h : Q (bI (b ≤ a ∧ a ≤ c)) μ) : wm_OkI 0 178 [.int a, .int b, .int c] μ Q := by
  refine v_178 a b c μ _ ⟨fun z => w_178_14 μ _ ⟨z01, _, rfl, ?_⟩, fun z => ⟨fun y => w_178_14 μ _ ⟨z01, _, rfl, ?_⟩, fun y => ⟨o01, _, rfl, ?_⟩⟩⟩
  · rw [bI_f (fun q => Int32.not_le.mpr z q.1)] at h; exact h
  · rw [bI_f (fun q => Int32.not_le.mpr y q.2)] at h; exact h
  · rw [bI_t ⟨Int32.not_lt.mp z, Int32.not_lt.mp y⟩] at h; exact h
theorem s_184 {a b c : Int32} {μ : wm_M} {Q : Int32 → wm_M → Prop} (h : Q (bI (b ≤ a ∧ a ≤ c)) μ) : wm_OkI 0 184 [.int a, .int b, .int c] μ Q := by
  refine v_184 a b c μ _ ⟨fun z => w_184_14 μ _ ⟨z01, _, rfl, ?_⟩, fun z => ⟨fun y => w_184_14 μ _ ⟨z01, _, rfl, ?_⟩, fun y => ⟨o01, _, rfl, ?_⟩⟩⟩
  · rw [bI_f (fun q => Int32.not_le.mpr z q.1)] at h; exact h
  · rw [bI_f (fun q => Int32.not_le.mpr y q.2)] at h; exact h
  · rw [bI_t ⟨Int32.not_lt.mp z, Int32.not_lt.mp y⟩] at h; exact h
theorem s_167 {a : Int32} {μ : wm_M} {Q : Int32 → wm_M → Prop} (h : Q (bI (0 ≤ a ∧ a ≤ 35)) μ) : wm_OkI 0 167 [.int a] μ Q := v_167 a μ _ (s_178 ⟨bI_01, _, rfl, h⟩)
theorem s_168 {a : Int32} {μ : wm_M} {Q : Int32 → wm_M → Prop} (h : Q (bI (0 ≤ a ∧ a ≤ 7)) μ) : wm_OkI 0 168 [.int a] μ Q := v_168 a μ _ (s_178 ⟨bI_01, _, rfl, h⟩)
theorem s_169 {a : Int32} {μ : wm_M} {Q : Int32 → wm_M → Prop} (h : Q (bI (0 ≤ a ∧ a ≤ 6)) μ) : wm_OkI 0 169 [.int a] μ Q := v_169 a μ _ (s_178 ⟨bI_01, _, rfl, h⟩)
theorem s_170 {a : Int32} {μ : wm_M} {Q : Int32 → wm_M → Prop} (h : Q (bI (0 ≤ a ∧ a ≤ 5)) μ) : wm_OkI 0 170 [.int a] μ Q := v_170 a μ _ (s_178 ⟨bI_01, _, rfl, h⟩)
theorem s_172 {a : Int32} {μ : wm_M} {Q : Int32 → wm_M → Prop} (h : Q (bI (0 ≤ a ∧ a ≤ 4)) μ) : wm_OkI 0 172 [.int a] μ Q := v_172 a μ _ (s_178 ⟨bI_01, _, rfl, h⟩)
theorem s_173 {a : Int32} {μ : wm_M} {Q : Int32 → wm_M → Prop} (h : Q (bI (0 ≤ a ∧ a ≤ 4)) μ) : wm_OkI 0 173 [.int a] μ Q := v_173 a μ _ (s_178 ⟨bI_01, _, rfl, h⟩)
theorem s_174 {a : Int32} {μ : wm_M} {Q : Int32 → wm_M → Prop} (h : Q (bI (0 ≤ a ∧ a ≤ 99)) μ) : wm_OkI 0 174 [.int a] μ Q := v_174 a μ _ (s_178 ⟨bI_01, _, rfl, h⟩)
theorem s_175 {a : Int32} {μ : wm_M} {Q : Int32 → wm_M → Prop} (h : Q (bI (0 ≤ a ∧ a ≤ 120)) μ) : wm_OkI 0 175 [.int a] μ Q := v_175 a μ _ (s_178 ⟨bI_01, _, rfl, h⟩)
theorem s_189 {a : Int32} {μ : wm_M} {Q : Int32 → wm_M → Prop} (h : Q (bI (0 ≤ a ∧ a ≤ 35)) μ) : wm_OkI 0 189 [.int a] μ Q := v_189 a μ _ (s_184 ⟨bI_01, _, rfl, h⟩)
theorem s_190 {a : Int32} {μ : wm_M} {Q : Int32 → wm_M → Prop} (h : Q (bI (0 ≤ a ∧ a ≤ 11)) μ) : wm_OkI 0 190 [.int a] μ Q := v_190 a μ _ (s_184 ⟨bI_01, _, rfl, h⟩)
theorem s_165 {a : Int32} {μ : wm_M} {Q : Int32 → wm_M → Prop} (h : Q (bI (0 ≤ a ∧ a ≤ μ.1 13 10 - 1)) μ) : wm_OkI 0 165 [.ref 0, .int a] μ Q := v_165 a μ _ (s_178 ⟨bI_01, _, rfl, h⟩)
theorem nI_in' {k n : Nat} (h : k < n) (hn : n < 2 ^ 31) : vp_in (nI k) n := vp_in_nI h hn
theorem nn_nI (k : Nat) : -(-(nI k)) = nI k := Int32.neg_neg
/-- the refusals -/
theorem s_161 (k : Nat) (hk : k < 9) {μ : wm_M} {Q : Int32 → wm_M → Prop} (h : Q (-(nI k)) (wm_si μ 88 k (μ.1 88 k + 1))) : wm_OkI 0 161 [.ref 0, .int (-(nI k))] μ Q := by
  have e1 := nI_clamp (n := k) (by omega)
  have e2 : vp_in (-(-(nI k))) 9 := by rw [nn_nI]; exact vp_in_nI hk (by decide)
  exact v_161 _ μ _ ⟨e2, e2, _, rfl, by rw [nn_nI, e1]; exact h⟩
theorem s_162 (k : Nat) (hk : k < 9) {μ : wm_M} {Q : Int32 → wm_M → Prop} (h : Q 0 (wm_si μ 88 k (μ.1 88 k + 1))) : wm_OkI 0 162 [.ref 0, .int (-(nI k))] μ Q := v_162 _ μ _ (s_161 k hk ⟨_, rfl, h⟩)
theorem s_185 (k : Nat) (hk : k < 9) {μ : wm_M} {Q : Int32 → wm_M → Prop} (h : Q (-(nI k)) (wm_si μ 90 k (μ.1 90 k + 1))) : wm_OkI 0 185 [.ref 89, .int (-(nI k))] μ Q := by
  have e1 := nI_clamp (n := k) (by omega)
  have e2 : vp_in (-(-(nI k))) 9 := by rw [nn_nI]; exact vp_in_nI hk (by decide)
  exact v_185 _ μ _ ⟨e2, e2, _, rfl, by rw [nn_nI, e1]; exact h⟩
theorem s_186 (k : Nat) (hk : k < 9) {μ : wm_M} {Q : Int32 → wm_M → Prop} (h : Q 0 (wm_si μ 90 k (μ.1 90 k + 1))) : wm_OkI 0 186 [.ref 89, .int (-(nI k))] μ Q := by
  have e1 := nI_clamp (n := k) (by omega)
  have e2 : vp_in (-(-(nI k))) 9 := by rw [nn_nI]; exact vp_in_nI hk (by decide)
  exact v_186 _ μ _ ⟨e2, e2, _, rfl, by rw [nn_nI, e1]; exact h⟩
/-- g -/
theorem s_188 (k : Nat) (hk : k < 20) {μ : wm_M} {Q : Int32 → wm_M → Prop} (h : Q (μ.1 91 (2040 + k)) μ) : wm_OkI 0 188 [.ref 89, .int (nI k)] μ Q := by
  have e0 : (2040 : Int32) + nI k = nI (2040 + k) := nI_add 2040 k
  have e1 := nI_clamp (n := 2040 + k) (by omega)
  exact v_188 _ μ _ ⟨by rw [e0]; exact vp_in_nI (by omega) (by decide), _, rfl, by rw [e0, e1]; exact h⟩
theorem s_191 {a : Int32} {μ : wm_M} {Q : Int32 → wm_M → Prop} (h : Q (bI (0 ≤ a ∧ a ≤ μ.1 91 2040 - 1)) μ) : wm_OkI 0 191 [.ref 89, .int a] μ Q := v_191 a μ _ (s_188 0 (by decide) (s_184 ⟨bI_01, _, rfl, h⟩))
/-- forget, changing -/
theorem s_16 {μ : wm_M} {Q : wm_M → Prop} (h : Q (wm_si (wm_si μ 62 7 0) 62 8 (-1))) : wm_OkV 0 16 [.ref 62] μ Q := v_16 μ _ ⟨z01, rfl, h⟩
theorem s_27 {μ : wm_M} {Q : wm_M → Prop} (h : Q (wm_si μ 75 6 0)) : wm_OkV 0 27 [.ref 75] μ Q := v_27 μ _ ⟨z01, rfl, h⟩
/-- what changing() makes of the memory -/
def ch_ (μ : wm_M) : wm_M := wm_si (wm_si (wm_si μ 62 7 0) 62 8 (-1)) 75 6 0
theorem s_163 {μ : wm_M} {Q : wm_M → Prop} (h : Q (ch_ μ)) : wm_OkR 0 163 [.ref 0] μ Q := v_163 μ _ (s_16 (s_27 ⟨rfl, h⟩))
/-- flag, isFlag -/
theorem s_177 {a : Int32} {μ : wm_M} {Q : Int32 → wm_M → Prop} (h : Q (bI (¬ a = 0)) μ) : wm_OkI 0 177 [.int a] μ Q := by
  refine v_177 a μ _ ⟨fun z => w_177_8 μ _ ⟨_, rfl, ?_⟩, fun z => ⟨_, rfl, ?_⟩⟩
  · rw [bI_f (fun q => q z)] at h; exact h
  · rw [bI_t z] at h; exact h
theorem s_176 {a : Int32} {μ : wm_M} {Q : Int32 → wm_M → Prop} (h : Q (bI (a = 0 ∨ a = 1)) μ) : wm_OkI 0 176 [.int a] μ Q := by
  refine v_176 a μ _ ⟨fun z => w_176_9 μ _ ⟨o01, _, rfl, ?_⟩, fun z => ⟨fun y => w_176_9 μ _ ⟨o01, _, rfl, ?_⟩, fun y => w_176_13 μ _ ⟨z01, _, rfl, ?_⟩⟩⟩
  · rw [bI_t (Or.inl z)] at h; exact h
  · rw [bI_t (Or.inr y)] at h; exact h
  · rw [bI_f (fun q => q.elim z y)] at h; exact h
