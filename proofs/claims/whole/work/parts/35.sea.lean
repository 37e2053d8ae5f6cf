/-! ===== winds, speeds, paces, steps, by the state ===== -/
def tdA (A : Nat → Nat) (w : Nat) : Nat → Bool := fun k => !decide (A (240 + 12 * w + k) = 0)
def frA (A : Nat → Nat) (w h : Nat) : Nat := match ltd (tdA A w) h with
  | none => 0
  | some k => A (72 + 12 * w + k)
def foA (A : Nat → Nat) (w h : Nat) : Nat := match ltd (tdA A w) h with
  | none => 0
  | some k => A (156 + 12 * w + k)
def fiA (A : Nat → Nat) (w h c : Nat) : Nat := foA A w h * (100 - A (36 + c)) / 100
def spA (A : Nat → Nat) (tab p : Nat) : Nat := if tab = 1 ∧ 3 ≤ A (349 + p) then A (374 + p) / A (349 + p) else A (324 + p)
def jbA (angle v : Nat) : Nat := if angle < 3 then 11 * v / 10 else 9 * v / 10
def rnA (angle v : Nat) : Nat := if 2 < angle then 12 * v / 10 else v / 2
def pcA (kind angle v : Nat) : Nat := if kind = 1 then jbA angle v else if kind = 2 then jbA angle v / 2 else if kind = 3 then rnA angle v else if kind = 4 then 13 * rnA angle v / 10 else v
/-- the cell beside; 36: none -/
def drA (h : Nat) : Nat := if h = 7 ∨ h < 2 then 0 else if 2 < h ∧ h < 6 then 2 else 1
def dcA (h : Nat) : Nat := if 0 < h ∧ h < 4 then 2 else if 4 < h then 0 else 1
def bsA (c h : Nat) : Nat := if 1 ≤ c / 6 + drA h ∧ c / 6 + drA h ≤ 6 ∧ 1 ≤ c % 6 + dcA h ∧ c % 6 + dcA h ≤ 6 then 6 * (c / 6 + drA h - 1) + (c % 6 + dcA h - 1) else 36
def clA (A : Nat → Nat) (c hr x : Nat) : Bool := decide (A c = 1) || !decide (sayV A 0 (A (449 + x)) c hr = 0)
/-- how many ticks a step takes from a cell in a heading by a sail in an hour; 0: it can't begin -/
def stA (A : Nat → Nat) (w tab c h x hr : Nat) : Nat :=
  if bsA c h = 36 then 0 else if A (452 + x) = 1 ∨ clA A (bsA c h) hr x = true then 0
  else if hd_ (A (449 + x)) < fiA A w hr c ∨ sayV A 1 (A (449 + x)) c hr < nI (fiA A w hr c) then 0
  else if pcA (A (449 + x)) (ap h (frA A w hr)) (spA A tab (5 * ap h (frA A w hr) + fiA A w hr c / 8)) = 0 then 0
  else (10 * (if h % 2 = 0 then 10 else 14) + pcA (A (449 + x)) (ap h (frA A w hr)) (spA A tab (5 * ap h (frA A w hr) + fiA A w hr c / 8)) - 1) / pcA (A (449 + x)) (ap h (frA A w hr)) (spA A tab (5 * ap h (frA A w hr) + fiA A w hr c / 8))
def stF (A : Nat → Nat) (w tab : Nat) : Nat → Nat → Nat := fun p hr => stA A w tab (p / 24) (p / 3 % 8) (p % 3) hr
def whA (A : Nat → Nat) : Nat → Bool := fun x => Nat.blt x (A 2040) && Nat.beq (A (452 + x)) 0
/-! ===== hands ===== -/
def k0A (A : Nat → Nat) : Nat := if 0 < A 2040 then A 449 else 0
def trA (A : Nat → Nat) (least : Int32) : Nat → Nat
  | 0 => 0
  | h + 1 => trA A least h + (if A (463 + h) = 0 ∧ least ≤ nI (A (455 + h)) then 1 else 0)
def toA (A : Nat → Nat) : Nat := trA A (sayV A 2 (k0A A) 0 (hq (A 2050))) (A 2041)
def chA (A : Nat → Nat) : Nat := if awk A (A 2041) = 0 then 9 else 2 + toA A
def bstA (A : Nat → Nat) : Nat := st_ (A 2047) (A 2048) (A 2049)
/-! ===== houses ===== -/
def hitA (A : Nat → Nat) (w h : Nat) : Bool := tdA A w h && tdA A 6 h && Nat.ble (ap (A (72 + 12 * w + h)) (A (72 + 12 * 6 + h))) 1 && Nat.ble (A (156 + 12 * w + h)) (A (156 + 12 * 6 + h) + 4) && Nat.ble (A (156 + 12 * 6 + h)) (A (156 + 12 * w + h) + 4)
def htA (A : Nat → Nat) (w : Nat) : Nat → Nat
  | 0 => 0
  | h + 1 => htA A w h + (if hitA A w h = true then 1 else 0)
def wtA (A : Nat → Nat) (w : Nat) : Nat := 1 + htA A (w / 2 * 2) 12 + htA A (w / 2 * 2 + 1) 12
def tnA (A : Nat → Nat) (w : Nat) : Nat → Nat
  | 0 => 0
  | h + 1 => tnA A w h + (if tdA A w h = true then 1 else 0)
/-! ===== ways: what an act leads to, and the soonest ===== -/
def arcP (f : Nat → Nat → Nat) (wh : Nat → Bool) (ch p τ s t : Nat) : Prop :=
  (p / 24 = s / 24 ∧ p % 3 = s % 3 ∧ p ≠ s ∧ t = τ + ap (s / 3 % 8) (p / 3 % 8)) ∨
  (p / 24 = s / 24 ∧ p / 3 % 8 = s / 3 % 8 ∧ p ≠ s ∧ wh (s % 3) = true ∧ t = τ + ch) ∨
  (bsA (p / 24) (p / 3 % 8) = s / 24 ∧ p / 3 % 8 = s / 3 % 8 ∧ p % 3 = s % 3 ∧ ∃ b, τ ≤ b ∧ b < 120 ∧ 0 < f p (hq b) ∧ t = b + f p (hq b))
/-- states that get their label t, of those with t < k -/
def AtN (f : Nat → Nat → Nat) (wh : Nat → Bool) (ch s0 t0 : Nat) : Nat → Nat → Nat → Prop
  | 0 => fun _ _ => False
  | k + 1 => fun t s => AtN f wh ch s0 t0 k t s ∨ (t = k ∧ s < 864 ∧ ((s = s0 ∧ t = t0) ∨ ((∀ τ, ¬ AtN f wh ch s0 t0 k τ s) ∧ ∃ p τ, AtN f wh ch s0 t0 k τ p ∧ arcP f wh ch p τ s t)))
noncomputable def labF (f : Nat → Nat → Nat) (wh : Nat → Bool) (ch s0 t0 s : Nat) : Nat := @dite Nat (∃ t, AtN f wh ch s0 t0 121 t s) (Classical.propDecidable _) (fun h => h.choose) (fun _ => 999)
/-- the labels: the start's; each other one by an act from an earlier one; none could be less -/
def IsLab (f : Nat → Nat → Nat) (wh : Nat → Bool) (ch s0 t0 : Nat) (ℓ : Nat → Nat) : Prop :=
  ℓ s0 = t0 ∧ (∀ s, s < 864 → ℓ s ≠ 999 → s ≠ s0 → ℓ s ≤ 120 ∧ ∃ p, p < 864 ∧ ℓ p < ℓ s ∧ arcP f wh ch p (ℓ p) s (ℓ s)) ∧
  (∀ p s t, p < 864 → s < 864 → ℓ p ≠ 999 → arcP f wh ch p (ℓ p) s t → t ≤ 120 → ℓ s ≤ t)
def eo (ℓ : Nat → Nat) (c : Nat) : Nat → Option Nat
  | 0 => none
  | i + 1 => if ℓ (24 * c + i) = 999 then eo ℓ c i else match eo ℓ c i with
    | none => some (24 * c + i)
    | some j => if ℓ (24 * c + i) < ℓ j then some (24 * c + i) else some j
/-- soonest in a cell: the state and its label -/
def soA (ℓ : Nat → Nat) (c : Nat) : Option (Nat × Nat) := (eo ℓ c 24).map (fun s => (s, ℓ s))
noncomputable def wyA (A : Nat → Nat) (w tab ch s0 t0 c : Nat) : Option (Nat × Nat) := soA (labF (stF A w tab) (whA A) ch s0 t0) c
noncomputable def sooA (A : Nat → Nat) (w ch : Nat) : Nat := match wyA A w 1 ch (bstA A) (A 2050) (A 2045) with
  | none => 999
  | some r => r.2
noncomputable def cm2A (A : Nat → Nat) (w ch s t q : Nat) : Nat := match wyA A w 1 ch s (max t (A 2043)) (A (2001 + q)) with
  | none => 999
  | some r => (match wyA A w 1 ch r.1 (max r.2 (A 2044)) (A 2045) with
    | none => 999
    | some r => r.2)
noncomputable def cmA (A : Nat → Nat) (w ch c q : Nat) : Nat := match wyA A w 1 ch (bstA A) (A 2050) (A (2001 + c)) with
  | none => 999
  | some r => cm2A A w ch r.1 r.2 q
