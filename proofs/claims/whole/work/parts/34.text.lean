/-! ===== texts: what a RULE is, read as a code ===== -/
def isL (b : Nat) : Bool := Nat.ble 97 b && Nat.ble b 122
def isD (b : Nat) : Bool := Nat.ble 48 b && Nat.ble b 57
def adv (q : Nat → Bool) (T : Nat → Nat) (n : Nat) : Nat → Nat → Nat
  | 0, p => p
  | f + 1, p => if p < n ∧ q (T p) = true then adv q T n f (p + 1) else p
def sk (T : Nat → Nat) (n p : Nat) : Nat := adv (fun b => Nat.beq b 32) T n n p
/-- shut gust tired cell row hour sail shelter hands if or and not -/
def wds : List (List Nat) := [[115, 104, 117, 116], [103, 117, 115, 116], [116, 105, 114, 101, 100], [99, 101, 108, 108], [114, 111, 119], [104, 111, 117, 114], [115, 97, 105, 108], [115, 104, 101, 108, 116, 101, 114], [104, 97, 110, 100, 115], [105, 102], [111, 114], [97, 110, 100], [110, 111, 116]]
def wix (l : List Nat) : Nat → List (List Nat) → Nat
  | _, [] => 130
  | i, w :: r => if l = w then i else wix l (i + 1) r
def sgn : List Nat := [40, 41, 43, 45, 42, 47, 37, 61, 60, 62]
/-- where a token ends that begins at p; which it is; a number's worth -/
def en (T : Nat → Nat) (n p : Nat) : Nat := if n ≤ p then p else if isL (T p) = true then adv isL T n n p else if isD (T p) = true then adv isD T n n p else p + 1
def sl_ (T : Nat → Nat) (p k : Nat) : List Nat := (List.range k).map (fun i => T (p + i))
def tk (T : Nat → Nat) (n p : Nat) : Nat := if n ≤ p then 128 else if isL (T p) = true then wix (sl_ T p (en T n p - p)) 0 wds else if isD (T p) = true then (if 5 < en T n p - p then 130 else 129) else if T p ∈ sgn then T p else 130
def nvF (T : Nat → Nat) (p : Nat) : Nat → Nat
  | 0 => 0
  | k + 1 => nvF T p k * 10 + (T (p + k) - 48)
def nv (T : Nat → Nat) (n p : Nat) : Nat := nvF T p (en T n p - p)
def nx (T : Nat → Nat) (n p : Nat) : Nat := sk T n (en T n p)
/-- a reader: from a token's place and the code so far: whether it could, the place then, the code then -/
abbrev Ps : Type := Nat → List Int32 → Bool × Nat × List Int32
/-- tokens: which stands at a place, the place of the next, a number's worth -/
abbrev Tz : Type := (Nat → Nat) × (Nat → Nat) × (Nat → Nat)
def wk (t : Nat) : Int32 := -(nI (100 + t))
def thn (a k : Ps) : Ps := fun p c => if (a p c).1 = true then k (a p c).2.1 (a p c).2.2 else a p c
def wrt (x : Int32) : Ps := fun p c => (true, p, c ++ [x])
def lpP (Z : Tz) (ops : Nat → Bool) (sub : Ps) : Nat → Ps
  | 0 => fun p c => (true, p, c)
  | f + 1 => fun p c => if ops (Z.1 p) = true then thn sub (thn (wrt (wk (Z.1 p))) (lpP Z ops sub f)) (Z.2.1 p) c else (true, p, c)
def oneP (Z : Tz) (deep : Bool) (E O : Ps) : Ps := fun p c =>
  if Z.1 p = 129 then (true, Z.2.1 p, c ++ [nI (Z.2.2 p)])
  else if 3 ≤ Z.1 p ∧ Z.1 p ≤ 8 then (true, Z.2.1 p, c ++ [-(nI (1 + (Z.1 p - 3)))])
  else if deep = true ∨ (Z.1 p ≠ 45 ∧ Z.1 p ≠ 40) then (false, p, c)
  else if Z.1 p = 45 then thn O (wrt (-(nI 101))) (Z.2.1 p) c
  else thn E (fun q c => if Z.1 q = 41 then (true, Z.2.1 q, c) else (false, q, c)) (Z.2.1 p) c
def termP (Z : Tz) (one : Ps) : Ps := thn one (lpP Z (fun t => Nat.beq t 42 || Nat.beq t 47 || Nat.beq t 37) one 120)
def sumP (Z : Tz) (term : Ps) : Ps := thn term (lpP Z (fun t => Nat.beq t 43 || Nat.beq t 45) term 120)
def cmpP (Z : Tz) (sum : Ps) : Ps := thn sum (fun p c => if Z.1 p = 61 ∨ Z.1 p = 60 ∨ Z.1 p = 62 then thn sum (wrt (wk (Z.1 p))) (Z.2.1 p) c else (true, p, c))
def notP (Z : Tz) (deep : Bool) (cmp N : Ps) : Ps := fun p c => if ¬ Z.1 p = 12 then cmp p c else if deep = true then (false, p, c) else thn N (wrt (wk 12)) (Z.2.1 p) c
def andP (Z : Tz) (not_ : Ps) : Ps := thn not_ (lpP Z (fun t => Nat.beq t 11) not_ 120)
def orP (Z : Tz) (and_ : Ps) : Ps := thn and_ (lpP Z (fun t => Nat.beq t 10) and_ 120)
def noP : Ps := fun p c => (false, p, c)
/-- the readers of one, of NOT and of E, where d more may be opened -/
def mkO (Z : Tz) (deep : Bool) (O N E : Ps) : Ps × Ps × Ps :=
  (oneP Z deep E O, notP Z deep (cmpP Z (sumP Z (termP Z (oneP Z deep E O)))) N,
    orP Z (andP Z (notP Z deep (cmpP Z (sumP Z (termP Z (oneP Z deep E O)))) N)))
def PS (Z : Tz) : Nat → Ps × Ps × Ps
  | 0 => mkO Z true noP noP noP
  | d + 1 => mkO Z false (PS Z d).1 (PS Z d).2.1 (PS Z d).2.2
/-- a whole text: whether it is a RULE; the fault's place; KEY; where the condition's code begins; the code -/
def ruleZ (Z : Tz) (p0 : Nat) : Bool × Nat × Nat × Nat × List Int32 :=
  if 2 < Z.1 p0 then (false, p0, 0, 0, [])
  else if ((PS Z 6).2.2 (Z.2.1 p0) []).1 = false then (false, ((PS Z 6).2.2 (Z.2.1 p0) []).2.1, 0, 0, [])
  else if Z.1 ((PS Z 6).2.2 (Z.2.1 p0) []).2.1 = 9 then
    (if ((PS Z 6).2.2 (Z.2.1 ((PS Z 6).2.2 (Z.2.1 p0) []).2.1) ((PS Z 6).2.2 (Z.2.1 p0) []).2.2).1 = false then (false, ((PS Z 6).2.2 (Z.2.1 ((PS Z 6).2.2 (Z.2.1 p0) []).2.1) ((PS Z 6).2.2 (Z.2.1 p0) []).2.2).2.1, 0, 0, [])
    else if Z.1 ((PS Z 6).2.2 (Z.2.1 ((PS Z 6).2.2 (Z.2.1 p0) []).2.1) ((PS Z 6).2.2 (Z.2.1 p0) []).2.2).2.1 = 128 then (true, 0, Z.1 p0, ((PS Z 6).2.2 (Z.2.1 p0) []).2.2.length, ((PS Z 6).2.2 (Z.2.1 ((PS Z 6).2.2 (Z.2.1 p0) []).2.1) ((PS Z 6).2.2 (Z.2.1 p0) []).2.2).2.2)
    else (false, ((PS Z 6).2.2 (Z.2.1 ((PS Z 6).2.2 (Z.2.1 p0) []).2.1) ((PS Z 6).2.2 (Z.2.1 p0) []).2.2).2.1, 0, 0, []))
  else if Z.1 ((PS Z 6).2.2 (Z.2.1 p0) []).2.1 = 128 then (true, 0, Z.1 p0, ((PS Z 6).2.2 (Z.2.1 p0) []).2.2.length, ((PS Z 6).2.2 (Z.2.1 p0) []).2.2) else (false, ((PS Z 6).2.2 (Z.2.1 p0) []).2.1, 0, 0, [])
def tz (T : Nat → Nat) (n : Nat) : Tz := (tk T n, nx T n, nv T n)
def ruleP (T : Nat → Nat) (n : Nat) : Bool × Nat × Nat × Nat × List Int32 := ruleZ (tz T n) (sk T n 0)
/-- only the bytes before the end count -/
theorem adv_congr (q : Nat → Bool) {T S : Nat → Nat} {n : Nat} (h : ∀ i, i < n → T i = S i) : ∀ f p, adv q T n f p = adv q S n f p
  | 0, p => rfl
  | f + 1, p => by
    unfold adv
    by_cases hp : p < n
    · rw [h p hp, adv_congr q h f (p + 1)]
    · rw [if_neg (fun z => hp z.1), if_neg (fun z => hp z.1)]
theorem adv_le (q : Nat → Bool) (T : Nat → Nat) (n : Nat) : ∀ f p, p ≤ n → adv q T n f p ≤ n
  | 0, p, h => h
  | f + 1, p, h => by
    unfold adv
    by_cases hp : p < n ∧ q (T p) = true
    · rw [if_pos hp]; exact adv_le q T n f (p + 1) hp.1
    · rw [if_neg hp]; exact h
theorem adv_ge (q : Nat → Bool) (T : Nat → Nat) (n : Nat) : ∀ f p, p ≤ adv q T n f p
  | 0, p => Nat.le_refl p
  | f + 1, p => by
    unfold adv
    by_cases hp : p < n ∧ q (T p) = true
    · rw [if_pos hp]; exact Nat.le_of_succ_le (adv_ge q T n f (p + 1))
    · rw [if_neg hp]; exact Nat.le_refl p
theorem en_congr {T S : Nat → Nat} {n : Nat} (h : ∀ i, i < n → T i = S i) (p : Nat) : en T n p = en S n p := by
  unfold en
  by_cases hp : n ≤ p
  · rw [if_pos hp, if_pos hp]
  · rw [h p (by omega), adv_congr isL h, adv_congr isD h]
theorem en_le {T : Nat → Nat} {n p : Nat} (h : p ≤ n) : en T n p ≤ n := by
  unfold en
  by_cases hp : n ≤ p
  · rw [if_pos hp]; exact h
  · rw [if_neg hp]
    split
    · exact adv_le _ _ _ _ _ h
    · split
      · exact adv_le _ _ _ _ _ h
      · omega
theorem sl_congr {T S : Nat → Nat} {n : Nat} (h : ∀ i, i < n → T i = S i) (p k : Nat) (hk : p + k ≤ n) : sl_ T p k = sl_ S p k := by
  unfold sl_
  exact List.map_congr_left (fun i hi => h _ (by have := List.mem_range.mp hi; omega))
theorem nvF_congr {T S : Nat → Nat} {n : Nat} (h : ∀ i, i < n → T i = S i) (p : Nat) : ∀ k, p + k ≤ n → nvF T p k = nvF S p k
  | 0, _ => rfl
  | k + 1, hk => by
    unfold nvF
    rw [nvF_congr h p k (by omega), h (p + k) (by omega)]
theorem tz_congr {T S : Nat → Nat} {n : Nat} (h : ∀ i, i < n → T i = S i) : tz T n = tz S n := by
  have e1 : tk T n = tk S n := by
    funext p
    unfold tk
    by_cases hp : n ≤ p
    · rw [if_pos hp, if_pos hp]
    · have := en_le (T := S) (n := n) (p := p) (by omega)
      have hpe : p ≤ en S n p := by
        unfold en
        rw [if_neg hp]
        split
        · exact adv_ge _ _ _ _ _
        · split
          · exact adv_ge _ _ _ _ _
          · omega
      rw [h p (by omega), en_congr h, sl_congr h p _ (by omega)]
  have e2 : nx T n = nx S n := by
    funext p
    unfold nx sk
    rw [en_congr h, adv_congr _ h]
  have e3 : nv T n = nv S n := by
    funext p
    unfold nv
    by_cases hp : n ≤ p
    · have e : en S n p = p := if_pos hp
      rw [en_congr h, e, Nat.sub_self]; rfl
    · have := en_le (T := S) (n := n) (p := p) (by omega)
      rw [en_congr h]
      by_cases hq : p ≤ en S n p
      · exact nvF_congr h p _ (by omega)
      · rw [show en S n p - p = 0 by omega]; rfl
  unfold tz
  rw [e1, e2, e3]
theorem ruleP_congr {T S : Nat → Nat} {n : Nat} (h : ∀ i, i < n → T i = S i) : ruleP T n = ruleP S n := by
  unfold ruleP sk
  rw [tz_congr h, adv_congr _ h]
/-! ===== the working of a code on a stack ===== -/
def tgr (t l r : Int32) : Int32 :=
  if t = 10 then bI (¬ l = 0 ∨ ¬ r = 0) else if t = 11 then bI (¬ l = 0 ∧ ¬ r = 0) else if t = 61 then bI (l = r) else if t = 60 then bI (l < r) else if t = 62 then bI (r < l)
  else if t = 43 then l + r else if t = 45 then l - r else if t = 42 then l * r else if t = 47 then (if r = 0 then 0 else l / r) else (if r = 0 then 0 else l - l / r * r)
def stp (env : Nat → Int32) (x : Int32) (st : List Int32) : List Int32 :=
  if (-100 : Int32) < x then (if 0 ≤ x then x else env ((-1 : Int32) - x).toNatClampNeg) :: st
  else if x = -112 ∧ st ≠ [] then (match st with
    | [] => []
    | v :: r => bI (v = 0) :: r)
  else if x = -101 ∧ st ≠ [] then (match st with
    | [] => []
    | v :: r => (-v) :: r)
  else (match st with
    | w :: v :: r => tgr ((-100 : Int32) - x) v w :: r
    | _ => st)
def runC (env : Nat → Int32) (c : List Int32) (st : List Int32) : List Int32 := c.foldl (fun st x => stp env x st) st
def evC (env : Nat → Int32) (c : List Int32) : Int32 := (runC env c []).headD 0
/-! ===== what a KEY SAYS, by the state ===== -/
def rT (A : Nat → Nat) (k : Nat) : Nat → Nat := fun i => A (474 + 127 * k + i)
def rN (A : Nat → Nat) (k : Nat) : Nat := A (473 + 127 * k)
def rP (A : Nat → Nat) (k : Nat) : Bool × Nat × Nat × Nat × List Int32 := ruleP (rT A k) (rN A k)
def awk (A : Nat → Nat) : Nat → Nat
  | 0 => 0
  | h + 1 => awk A h + (1 - A (463 + h))
def envA (A : Nat → Nat) (kind cell hour : Nat) : Nat → Int32 := fun i => if i = 0 then nI cell else if i = 1 then nI (cell / 6) else if i = 2 then nI hour else if i = 3 then nI kind else if i = 4 then nI (A (36 + cell)) else nI (awk A (A 2041))
def rHolds (A : Nat → Nat) (key kind cell hour k : Nat) : Bool :=
  Nat.beq (rP A k).2.2.1 key && Nat.ble (A (471 + 127 * k)) hour && Nat.blt hour (A (472 + 127 * k)) && (Nat.beq (rP A k).2.2.2.1 (rP A k).2.2.2.2.length || !decide (evC (envA A kind cell hour) ((rP A k).2.2.2.2.drop (rP A k).2.2.2.1) = 0))
def rulg (A : Nat → Nat) (key kind cell hour : Nat) : Nat → Option Nat
  | 0 => none
  | k + 1 => if rHolds A key kind cell hour k = true then some k else rulg A key kind cell hour k
def dfl (key : Nat) : Int32 := if key = 0 then 0 else if key = 1 then 39 else 40
def sayV (A : Nat → Nat) (key kind cell hour : Nat) : Int32 := match rulg A key kind cell hour (A 2042) with
  | none => dfl key
  | some k => evC (envA A kind cell hour) ((rP A k).2.2.2.2.take (rP A k).2.2.2.1)
