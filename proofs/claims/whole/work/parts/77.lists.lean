/-! ===== class: the lists by tick ===== -/
def Dl (nx bf : Nat → Int32) : Int32 → Int32 → List Nat → Prop
  | _, h, [] => h = -1
  | p, h, a :: L => h = nI a ∧ bf a = p ∧ Dl nx bf (nI a) (nx a) L
def hdL : List Nat → Int32
  | [] => -1
  | a :: _ => nI a
theorem Dl_hd {nx bf : Nat → Int32} {p h : Int32} : ∀ {L : List Nat}, Dl nx bf p h L → h = hdL L
  | [], q => q
  | _ :: _, q => q.1
theorem Dl_congr {nx bf nx' bf' : Nat → Int32} : ∀ (L : List Nat) {p h : Int32}, (∀ a, a ∈ L → nx' a = nx a ∧ bf' a = bf a) → Dl nx bf p h L → Dl nx' bf' p h L
  | [], _, _, _, q => q
  | a :: L, p, h, e, ⟨q1, q2, q3⟩ => by
    have ea := e a List.mem_cons_self
    refine ⟨q1, by rw [ea.2]; exact q2, ?_⟩
    rw [ea.1]
    exact Dl_congr L (fun b hb => e b (List.mem_cons_of_mem _ hb)) q3
theorem Dl_nx {nx bf : Nat → Int32} {a : Nat} {L : List Nat} : ∀ (K : List Nat) {p h : Int32}, Dl nx bf p h (K ++ a :: L) → nx a = hdL L
  | [], _, _, ⟨_, _, q3⟩ => Dl_hd q3
  | _ :: K, _, _, ⟨_, _, q3⟩ => Dl_nx K q3
theorem Dl_bf {nx bf : Nat → Int32} {a b : Nat} {L : List Nat} : ∀ (K : List Nat) {p h : Int32}, Dl nx bf p h (K ++ b :: a :: L) → bf a = nI b
  | [], _, _, ⟨_, _, _, q, _⟩ => q
  | _ :: K, _, _, ⟨_, _, q3⟩ => Dl_bf K q3
/-- the first one's back link changes -/
theorem Dl_first {nx bf : Nat → Int32} {q h : Int32} (p : Int32) {L : List Nat} (hn : L.Nodup) (e : Dl nx bf q h L) {bf' : Nat → Int32} (h1 : ∀ a K, L = a :: K → bf' a = p) (h2 : ∀ b, b ∈ L → (∀ K, L ≠ b :: K) → bf' b = bf b) : Dl nx bf' p h L := by
  cases L with
  | nil => exact e
  | cons a L =>
    obtain ⟨e1, e2, e3⟩ := e
    refine ⟨e1, h1 a L rfl, Dl_congr L (fun b hb => ⟨rfl, h2 b (List.mem_cons_of_mem _ hb) (fun K q => ?_)⟩) e3⟩
    have := (List.nodup_cons.mp hn).1
    injection q with q1 _
    subst q1
    exact this hb
/-- one in the middle goes -/
theorem Dl_mid {nx bf nx' bf' : Nat → Int32} {b s : Nat} {L : List Nat} (e1 : nx' b = nx s) (e2 : bf' b = bf b) (e3 : ∀ a K, L = a :: K → bf' a = nI b) (e4 : ∀ a, a ∈ L → nx' a = nx a ∧ ((∀ K, L ≠ a :: K) → bf' a = bf a)) (hn : L.Nodup) : ∀ (K : List Nat) {p h : Int32}, (∀ a, a ∈ K → nx' a = nx a ∧ bf' a = bf a) → Dl nx bf p h (K ++ b :: s :: L) → Dl nx' bf' p h (K ++ b :: L)
  | [], p, h, _, ⟨q1, q2, q3, q4, q5⟩ => by
    refine ⟨q1, by rw [e2]; exact q2, ?_⟩
    rw [e1]
    have r := Dl_first (nI b) hn q5 (bf' := bf') e3 (fun c hc hk => (e4 c hc).2 hk)
    exact Dl_congr L (fun c hc => ⟨(e4 c hc).1, rfl⟩) r
  | a :: K, p, h, hK, ⟨q1, q2, q3⟩ => by
    have ea := hK a List.mem_cons_self
    refine ⟨q1, by rw [ea.2]; exact q2, ?_⟩
    rw [ea.1]
    exact Dl_mid e1 e2 e3 e4 hn K (fun c hc => hK c (List.mem_cons_of_mem _ hc)) q3
theorem nodup_len : ∀ (n : Nat) (L : List Nat), L.Nodup → (∀ a, a ∈ L → a < n) → L.length ≤ n
  | 0, L, _, h => by
    cases L with
    | nil => exact Nat.le_refl 0
    | cons a L => exact absurd (h a List.mem_cons_self) (Nat.not_lt_zero a)
  | n + 1, L, hn, h => by
    by_cases e : n ∈ L
    · have h1 : (L.erase n).Nodup := hn.erase n
      have h2 := nodup_len n (L.erase n) h1 (fun a ha => by
        have m := (hn.mem_erase_iff).mp ha
        have := h a m.2
        have := m.1
        omega)
      rw [List.length_erase_of_mem e] at h2
      omega
    · have h2 := nodup_len n L hn (fun a ha => by
        have := h a ha
        by_cases q : a = n
        · subst q; exact absurd ha e
        · omega)
      omega
/-- the lists: that of a tick holds the states labelled with it, but for one -/
def LX (P : Nat → Prop) (ℓ : Nat → Nat) (F : Nat → List Nat) (μ : wm_M) : Prop := ∀ t, t ≤ 120 → Dl (μ.1 71) (μ.1 72) (-1) (μ.1 73 t) (F t) ∧ (F t).Nodup ∧ ∀ s, s ∈ F t ↔ (s < 864 ∧ ℓ s = t ∧ P s)
def uL (F : Nat → List Nat) (t : Nat) (L : List Nat) : Nat → List Nat := fun j => if j = t then L else F j
theorem uL_eq (F : Nat → List Nat) (t : Nat) (L : List Nat) : uL F t L t = L := if_pos rfl
theorem uL_ne (F : Nat → List Nat) {t j : Nat} (L : List Nat) (h : j ≠ t) : uL F t L j = F j := if_neg h
theorem nI_n1 {a : Nat} (h : a < 864) : ¬ nI a = (-1 : Int32) := fun q => (nI_eqm (b := 1) (by omega) (by decide) (by decide)).mp q
theorem LX.sm {P : Nat → Prop} {ℓ : Nat → Nat} {F : Nat → List Nat} {μ ν : wm_M} (h : LX P ℓ F μ) (e1 : ν.1 71 = μ.1 71) (e2 : ν.1 72 = μ.1 72) (e3 : ν.1 73 = μ.1 73) : LX P ℓ F ν := by
  unfold LX
  rw [e1, e2, e3]; exact h
theorem hdL_in {L : List Nat} (h : ¬ hdL L = -1) : ∃ a K, L = a :: K := by
  cases L with
  | nil => exact absurd rfl h
  | cons a K => exact ⟨a, K, rfl⟩
/-- unlink -/
theorem c_111 {ℓ : Nat → Nat} {F : Nat → List Nat} (s : Nat) (hs : s < 864) (hl : ℓ s ≤ 120) {μ : wm_M} {Q : wm_M → Prop} (hL : LabC ℓ μ) (hF : LX (fun _ => True) ℓ F μ) (hk : ∀ ν L, LX (fun a => a ≠ s) ℓ (uL F (ℓ s) L) ν → (∀ d, d < 71 ∨ 73 < d → ν.1 d = μ.1 d) → Q ν) : wm_OkV 0 111 [.ref 69, .int (nI s)] μ Q := by
  obtain ⟨f1, f2, f3⟩ := hF (ℓ s) hl
  have ms : s ∈ F (ℓ s) := (f3 s).mpr ⟨hs, rfl, trivial⟩
  obtain ⟨K, L, eF⟩ := List.append_of_mem ms
  have vs : vp_in (nI s) 864 := vp_in_nI hs (by decide)
  have cs : (nI s).toNatClampNeg = s := nI_clamp (by omega)
  rw [eF] at f1 f2
  have hnx : μ.1 71 s = hdL L := Dl_nx K f1
  have inF : ∀ a, a ∈ K ++ s :: L → a < 864 ∧ ℓ a = ℓ s := fun a ha => by
    have := (f3 a).mp (by rw [eF]; exact ha)
    exact ⟨this.1, this.2.1⟩
  have nd := List.nodup_append.mp f2
  have ndL : L.Nodup := (List.nodup_cons.mp nd.2.1).2
  have sL : s ∉ L := (List.nodup_cons.mp nd.2.1).1
  have sK : s ∉ K := fun q => nd.2.2 s q s List.mem_cons_self rfl
  have KL : ∀ a, a ∈ K → a ∉ L := fun a ha hb => nd.2.2 a ha a (List.mem_cons_of_mem _ hb) rfl
  have mem : ∀ t, t ≤ 120 → ∀ a, a ∈ uL F (ℓ s) (K ++ L) t ↔ (a < 864 ∧ ℓ a = t ∧ a ≠ s) := fun t ht a => by
    by_cases e : t = ℓ s
    · subst e
      rw [uL_eq]
      constructor
      · intro q
        have q2 : a ∈ K ++ s :: L := by
          rcases List.mem_append.mp q with r | r
          · exact List.mem_append.mpr (Or.inl r)
          · exact List.mem_append.mpr (Or.inr (List.mem_cons_of_mem _ r))
        refine ⟨(inF a q2).1, (inF a q2).2, fun r => ?_⟩
        subst r
        rcases List.mem_append.mp q with r | r
        · exact sK r
        · exact sL r
      · rintro ⟨q1, q2, q3⟩
        have q4 := (f3 a).mpr ⟨q1, q2, trivial⟩
        rw [eF] at q4
        rcases List.mem_append.mp q4 with r | r
        · exact List.mem_append.mpr (Or.inl r)
        · rcases List.mem_cons.mp r with r | r
          · exact absurd r q3
          · exact List.mem_append.mpr (Or.inr r)
    · rw [uL_ne _ _ e, (hF t ht).2.2 a]
      constructor
      · rintro ⟨q1, q2, q3⟩
        exact ⟨q1, q2, fun r => by subst r; exact e q2.symm⟩
      · rintro ⟨q1, q2, q3⟩
        exact ⟨q1, q2, trivial⟩
  have ndKL : (K ++ L).Nodup := List.nodup_append.mpr ⟨nd.1, ndL, fun a ha b hb e => KL a ha (by rw [e]; exact hb)⟩
  -- the end: the links are as they should be
  have fin : ∀ ν : wm_M, Dl (ν.1 71) (ν.1 72) (-1) (ν.1 73 (ℓ s)) (K ++ L) → (∀ a, a ∉ K ++ s :: L → ν.1 71 a = μ.1 71 a ∧ ν.1 72 a = μ.1 72 a) → (∀ t, t ≠ ℓ s → ν.1 73 t = μ.1 73 t) → LX (fun a => a ≠ s) ℓ (uL F (ℓ s) (K ++ L)) ν := fun ν k1 k2 k3 t ht => by
    by_cases e : t = ℓ s
    · refine ⟨?_, ?_, mem t ht⟩
      · rw [e, uL_eq]; exact k1
      · rw [e, uL_eq]; exact ndKL
    · obtain ⟨g1, g2, g3⟩ := hF t ht
      rw [uL_ne _ _ e]
      refine ⟨?_, g2, fun a => ?_⟩
      · rw [k3 t e]
        refine Dl_congr _ (fun a ha => k2 a (fun q => e ?_)) g1
        rw [← (inF a q).2]
        exact ((g3 a).mp ha).2.1.symm
      · have := mem t ht a
        rw [uL_ne _ _ e] at this
        exact this
  -- the second half
  have tail : ∀ ν : wm_M, ν.1 71 s = hdL L → ν.1 72 = μ.1 72 → (∀ d, d < 71 ∨ 73 < d → ν.1 d = μ.1 d) → (∀ κ : wm_M, κ.1 71 = ν.1 71 → κ.1 73 = ν.1 73 → (∀ a M, L = a :: M → κ.1 72 a = μ.1 72 s) → (∀ a, (∀ M, L ≠ a :: M) → κ.1 72 a = μ.1 72 a) → (∀ d, d < 71 ∨ 73 < d → κ.1 d = μ.1 d) → Q κ) → wm_Wp 0 111 47 [.ref 69, .int (nI s)] ν (fun w κ => w = none ∧ Q κ) := fun ν n1 n2 n3 w => by
    refine w_111_47 _ _ _ ⟨vs, ?_⟩
    rw [cs, n1]
    refine ⟨fun z => w_111_74 _ _ ⟨rfl, w ν rfl rfl (fun a M e => ?_) (fun a _ => by rw [n2]) n3⟩, fun z => ⟨vs, vs, ?_⟩⟩
    · rw [e] at z
      exact absurd z (nI_n1 (inF a (by rw [e]; exact List.mem_append.mpr (Or.inr (List.mem_cons_of_mem _ List.mem_cons_self)))).1)
    · obtain ⟨a, M, e⟩ := hdL_in z
      have ha := (inF a (by rw [e]; exact List.mem_append.mpr (Or.inr (List.mem_cons_of_mem _ List.mem_cons_self)))).1
      rw [e]
      show vp_in (nI a) 864 ∧ _
      rw [show hdL (a :: M) = nI a from rfl, nI_clamp (show a < 2 ^ 31 by omega)]
      refine ⟨vp_in_nI ha (by decide), w_111_74 _ _ ⟨rfl, w _ (si_ne _ _ _ (by decide)) (si_ne _ _ _ (by decide)) (fun a' M' e' => ?_) (fun a' hM => ?_) (fun d hd => by rw [si_ne _ _ _ (by omega)]; exact n3 d hd)⟩⟩
      · rw [e] at e'
        injection e' with e1 _
        subst e1
        rw [si_same, n2]
      · have ne : a' ≠ a := fun q => hM M (by rw [q]; exact e)
        rw [si_other _ _ ne, n2]
  refine v_111 _ _ _ ⟨vs, ?_⟩
  rw [cs, (hL s hs).2, hnx]
  rcases List.eq_nil_or_concat K with eK | ⟨K', b, eK⟩
  · subst eK
    have f1 : Dl (μ.1 71) (μ.1 72) (-1) (μ.1 73 (ℓ s)) (s :: L) := f1
    obtain ⟨g1, g2, g3⟩ := f1
    refine ⟨fun _ => ⟨vs, vs, vp_in_nI (by omega) (by decide), ?_⟩, fun z => absurd g2 z⟩
    rw [nI_clamp (show ℓ s < 2 ^ 31 by omega)]
    refine tail _ (by rw [si_ne _ _ _ (by decide)]; exact hnx) (si_ne _ _ _ (by decide)) (fun d hd => si_ne _ _ _ (by omega)) (fun κ k1 k2 k3 k4 k5 => hk κ ([] ++ L) (fin κ ?_ (fun a ha => ?_) (fun t ht => ?_)) k5)
    · rw [k2, si_same, k1, si_ne _ _ _ (show 71 ≠ 73 by decide), ← hnx]
      exact Dl_first (-1) ndL g3 (fun a M e => (k3 a M e).trans g2) (fun c hc hM => k4 c hM)
    · refine ⟨by rw [k1, si_ne _ _ _ (show 71 ≠ 73 by decide)], k4 a (fun M e => ha ?_)⟩
      rw [e]; exact List.mem_cons_of_mem _ List.mem_cons_self
    · rw [k2, si_other _ _ ht]
  · have eK : K = K' ++ [b] := by rw [eK, List.concat_eq_append]
    subst eK
    have f1 : Dl (μ.1 71) (μ.1 72) (-1) (μ.1 73 (ℓ s)) (K' ++ b :: s :: L) := by
      have : K' ++ [b] ++ s :: L = K' ++ b :: s :: L := by simp
      rw [← this]; exact f1
    have mb : b ∈ K' ++ [b] := List.mem_append.mpr (Or.inr List.mem_cons_self)
    have hb := (inF b (List.mem_append.mpr (Or.inl mb))).1
    have bs := Dl_bf K' f1
    have nb : s ≠ b := fun q => sK (by rw [q]; exact mb)
    rw [bs]
    refine ⟨fun z => absurd z (nI_n1 hb), fun _ => w_111_30 _ _ _ ⟨vs, vs, ?_⟩⟩
    rw [cs, bs, hnx, nI_clamp (show b < 2 ^ 31 by omega)]
    refine ⟨vp_in_nI hb (by decide), tail _ (by rw [si_other _ _ nb]; exact hnx) (si_ne _ _ _ (by decide)) (fun d hd => si_ne _ _ _ (by omega)) (fun κ k1 k2 k3 k4 k5 => hk κ (K' ++ [b] ++ L) (fin κ ?_ (fun a ha => ?_) (fun t ht => by rw [k2, si_ne _ _ _ (by decide)])) k5)⟩
    · rw [k2, si_ne _ _ _ (show 73 ≠ 71 by decide)]
      have e : K' ++ [b] ++ L = K' ++ b :: L := by simp
      rw [e]
      have n1 : ∀ a, a ≠ b → κ.1 71 a = μ.1 71 a := fun a q => by rw [k1, si_other _ _ q]
      have bL : b ∉ L := KL b mb
      have bK' : b ∉ K' := fun q => (List.nodup_append.mp nd.1).2.2 b q b List.mem_cons_self rfl
      refine Dl_mid (by rw [k1, si_same, hnx]) (k4 b (fun M q => bL (by rw [q]; exact List.mem_cons_self))) (fun a M q => (k3 a M q).trans bs) (fun a ha => ⟨n1 a (fun q => bL (by rw [← q]; exact ha)), k4 a⟩) ndL K' (fun a ha => ⟨n1 a (fun q => bK' (by rw [← q]; exact ha)), k4 a (fun M q => ?_)⟩) f1
      exact KL a (List.mem_append.mpr (Or.inl ha)) (by rw [q]; exact List.mem_cons_self)
    · refine ⟨?_, k4 a (fun M q => ha ?_)⟩
      · rw [k1, si_other _ _ (fun q => ha ?_)]
        rw [q]; exact List.mem_append.mpr (Or.inl mb)
      · rw [q]; exact List.mem_append.mpr (Or.inr (List.mem_cons_of_mem _ List.mem_cons_self))
