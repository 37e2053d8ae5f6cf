/-! ===== an hour of a wind as one number; what sails hold; whole sails ===== -/
theorem rm10 {t : Nat} (ht : t < 2 ^ 31) : nI t - nI t / (10 : Int32) * (10 : Int32) = nI (t % 10) := pk_rem (d := 10) ht (by decide) (by decide)
theorem s_171 {a : Int32} {μ : wm_M} {Q : Int32 → wm_M → Prop} (h1 : ∀ n : Nat, n < 2 ^ 31 → a = nI n → n / 10 < 12 → n % 10 < 7 → Q 1 μ) (h0 : (∀ n : Nat, n < 2 ^ 31 → a = nI n → ¬ (n / 10 < 12 ∧ n % 10 < 7)) → Q 0 μ) : wm_OkI 0 171 [.int a] μ Q := by
  refine v_171 a μ _ ⟨fun z => w_171_26 μ _ ⟨z01, _, rfl, h0 (fun n hn e => absurd z (by rw [e]; exact nI_pos hn))⟩, fun z => ⟨n10, ?_⟩⟩
  obtain ⟨n, hn, rfl⟩ := nI_of z
  have u : ∀ m, m < 2 ^ 31 → nI n = nI m → n = m := fun m hm e => (nI_eq hn hm).mp e
  rw [rm10 hn, dv10 hn]
  have k1 : ((12 : Int32) ≤ nI (n / 10) ↔ 12 ≤ n / 10) := nI_leI (a := 12) (by decide) (by omega)
  have k2 : ((7 : Int32) ≤ nI (n % 10) ↔ 7 ≤ n % 10) := nI_leI (a := 7) (by decide) (by omega)
  refine ⟨fun y => w_171_26 μ _ ⟨z01, _, rfl, h0 (fun m hm e q => ?_)⟩, fun y => ⟨n10, fun x => w_171_26 μ _ ⟨z01, _, rfl, h0 (fun m hm e q => ?_)⟩, fun x => ⟨o01, _, rfl, ?_⟩⟩⟩
  · have y := k1.mp y; have := u m hm e; subst this; omega
  · have x := k2.mp x; have := u m hm e; subst this; omega
  · have y : ¬ 12 ≤ n / 10 := fun q => y (k1.mpr q)
    have x : ¬ 7 ≤ n % 10 := fun q => x (k2.mpr q)
    exact h1 n hn rfl (by omega) (by omega)
theorem s_194 {a : Int32} {μ : wm_M} {Q : Int32 → wm_M → Prop} (h1 : ∀ n : Nat, n < 2 ^ 31 → a = nI n → n / 10 < 12 → n % 10 < 7 → Q 1 μ) (h0 : (∀ n : Nat, n < 2 ^ 31 → a = nI n → ¬ (n / 10 < 12 ∧ n % 10 < 7)) → Q 0 μ) : wm_OkI 0 194 [.int a] μ Q := by
  refine v_194 a μ _ ⟨fun z => w_194_31 μ _ ⟨z01, _, rfl, h0 (fun n hn e => absurd z (by rw [e]; exact nI_pos hn))⟩, fun z => ⟨n10, ?_⟩⟩
  obtain ⟨n, hn, rfl⟩ := nI_of z
  have u : ∀ m, m < 2 ^ 31 → nI n = nI m → n = m := fun m hm e => (nI_eq hn hm).mp e
  rw [rm10 hn, dv10 hn]
  have k1 : (nI (n / 10) ≤ (11 : Int32) ↔ n / 10 ≤ 11) := nI_leI (b := 11) (by omega) (by decide)
  have k2 : (nI (n % 10) ≤ (6 : Int32) ↔ n % 10 ≤ 6) := nI_leI (b := 6) (by omega) (by decide)
  refine s_184 ⟨fun y => w_194_31 μ _ ⟨z01, _, rfl, h0 (fun m hm e q => ?_)⟩, fun y => ⟨n10, s_190 ⟨fun x => w_194_31 μ _ ⟨z01, _, rfl, h0 (fun m hm e q => ?_)⟩, fun x => ⟨o01, _, rfl, ?_⟩⟩⟩⟩
  · have := u m hm e; subst this
    exact bI_0.mp y ⟨nI_pos' (by omega), k2.mpr (by omega)⟩
  · have := u m hm e; subst this
    exact bI_0.mp x ⟨nI_pos' (by omega), k1.mpr (by omega)⟩
  · have y := k2.mp (nz y).2
    have x := k1.mp (nz x).2
    exact h1 n hn rfl (by omega) (by omega)
theorem s_195 (n : Nat) (hn : n < 2 ^ 31) {μ : wm_M} {Q : Int32 → wm_M → Prop} (h : Q (nI (12 * (n % 10) + n / 10)) μ) : wm_OkI 0 195 [.int (nI n)] μ Q := by
  refine v_195 _ μ _ ⟨n10, n10, _, rfl, ?_⟩
  rw [rm10 hn, dv10 hn, show (12 : Int32) * nI (n % 10) + nI (n / 10) = nI (12 * (n % 10) + n / 10) from by
    show nI 12 * nI (n % 10) + nI (n / 10) = _
    rw [pk_mul, nI_add]]
  exact h
theorem hdI : ∀ k, k < 5 → ([24, 28, 39, 20, 16] : List Int32).getD (nI k).toNatClampNeg 0 = nI (hd_ k) := by decide +kernel
theorem s_6 (i k : Nat) (hi : i < 3) (hk : k < 5) {μ : wm_M} {Q : Int32 → wm_M → Prop} (e : μ.1 14 i = nI k) (h : Q (nI (hd_ k)) μ) : wm_OkI 0 6 [.ref 13, .int (nI i)] μ Q := by
  refine v_6 _ μ _ ⟨vp_in_nI hi (by decide), ?_⟩
  rw [nI_clamp (show i < 2 ^ 31 by omega), e]
  exact ⟨vp_in_nI hk (by decide), _, rfl, by rw [hdI k hk]; exact h⟩
theorem s_212 (i k : Nat) (hi : i < 3) (hk : k < 5) {μ : wm_M} {Q : Int32 → wm_M → Prop} (e : μ.1 91 (449 + i) = nI k) (h : Q (nI (hd_ k)) μ) : wm_OkI 0 212 [.ref 89, .int (nI i)] μ Q := by
  have e4 : (449 : Int32) + nI i = nI (449 + i) := nI_add 449 i
  refine v_212 _ μ _ ⟨by rw [e4]; exact vp_in_nI (by omega) (by decide), ?_⟩
  rw [e4, nI_clamp (show 449 + i < 2 ^ 31 by omega), e]
  exact s_211 k hk ⟨_, rfl, h⟩
