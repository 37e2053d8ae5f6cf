/-! ===== the words: memory, worlds, the step's condition ===== -/
/-- the numbers that the cells hold: ints by (cell, place), longs by (cell, place) -/
abbrev wm_M : Type := (Nat → Nat → Int32) × (Nat → Nat → Int64)
/-- the ghosts: class numbers and slots; the array classes of int, boolean, long; the cells' addresses; the first address that is ours -/
abbrev wm_G : Type := va_G × (ClassId × ClassId × ClassId) × (Nat → Nat) × Nat
abbrev wm_Op : Type := Instr × Nat × Nat × Nat × Nat
abbrev wm_B : Type := List (Nat × List wm_Op)
def wm_A (G : wm_G) : Nat → Prop := fun q => G.2.2.2 ≤ q
def wm_v (G : wm_G) (v : Value) : Value := match v with
  | .ref a => .ref (G.2.2.1 a)
  | .int x => .int x
  | .long x => .long x
  | .float x => .float x
  | .double x => .double x
  | .null => .null
  | .retAddr x => .retAddr x
def wm_fv (G : wm_G) (μ : wm_M) (c k t : Nat) : Value := match t with
  | 3 => .ref (G.2.2.1 (wm_rf c k))
  | 2 => .long (μ.2 c k)
  | _ => .int (μ.1 c k)
def wm_E (G : wm_G) (μ : wm_M) (c : Nat) (s : Nat × Nat) : va_E := match s.1 with
  | 0 => .inr (s.2, (List.range (wm_nf s.2)).map (fun k => wm_fv G μ c k (wm_ft s.2 k)))
  | 1 => .inl (G.2.1.1, s.2, .inl (μ.1 c))
  | 2 => .inl (G.2.1.2.1, s.2, .inl (μ.1 c))
  | _ => .inl (G.2.1.2.2, s.2, .inr (.inl (μ.2 c)))
def wm_ws (G : wm_G) (μ : wm_M) : va_W := (List.range wm_n).map (fun c => (G.2.2.1 c, wm_E G μ c (wm_sh c)))
def wm_ty (G : wm_G) : List (ClassId × FieldType) := [(G.2.1.1, .int), (G.2.1.2.1, .boolean), (G.2.1.2.2, .long)]
/-- one number changes; a whole row changes -/
def wm_si (μ : wm_M) (c i : Nat) (x : Int32) : wm_M := (va_up μ.1 c (upd (μ.1 c) i x), μ.2)
def wm_sl (μ : wm_M) (c i : Nat) (x : Int64) : wm_M := (μ.1, va_up μ.2 c (vp_updL (μ.2 c) i x))
def wm_sr (μ : wm_M) (c : Nat) (f : Nat → Int32) : wm_M := (va_up μ.1 c f, μ.2)
/-- the static rows, and the constants' bytes, that nobody writes -/
def wm_OA : List (Nat × FieldType × Nat × List Int32) := [(1000, .int, 5, [24, 28, 39, 20, 16]), (1001, .int, 5, [-1, 0, 1, 0, 3]), (1002, .int, 3, [0, 39, 40])]
def wm_S1 : List Int32 := [115, 104, 117, 116, 32, 103, 117, 115, 116, 32, 116, 105, 114, 101, 100, 32, 99, 101, 108, 108, 32, 114, 111, 119, 32, 104, 111, 117, 114, 32, 115, 97, 105, 108, 32, 115, 104, 101, 108, 116, 101, 114, 32, 104, 97, 110, 100, 115, 32, 105, 102, 32, 111, 114, 32, 97, 110, 100, 32, 110, 111, 116, 32]
def wm_S2 : List Int32 := [40, 41, 43, 45, 42, 47, 37, 61, 60, 62]
def wm_X (G : wm_G) (U : State) : Prop :=
  (∀ q ∈ wm_NL, va_Nw (wm_nlc q.2) U) ∧
  (∀ q ∈ wm_SV, va_Z q.1 q.2.1 q.2.2.1 (wm_v G q.2.2.2) (wm_A G) U U.heap) ∧
  (∀ q ∈ wm_OA, va_T q.2.1 (G.2.2.1 q.1) q.2.2.1 (fun j => .int (q.2.2.2.getD j 0)) (wm_A G) U U.heap) ∧
  vk_S 2 [63, 10] [wm_S1, wm_S2] (fun i => G.2.2.1 (2000 + i)) (fun i => G.2.2.1 (2010 + i)) (wm_A G) U U.heap ∧
  vk_R "WindBoat$Tape" 67 "shut gust tired cell row hour sail shelter hands if or and not " (G.2.2.1 2000) U ∧
  vk_R "WindBoat$Tape" 59 "()+-*/%=<>" (G.2.2.1 2001) U ∧
  va_Zq "jdk/internal/util/Preconditions" "SIOOBE_FORMATTER" "Ljava/util/function/BiFunction;" (wm_A G) U U.heap
/-- a contract's start and end -/
def wm_Pc (G : wm_G) (as : List Value) (μ : wm_M) : Array Value → State → Prop := va_Pc (as.map (wm_v G)) (fun U => va_P G.1 wm_cl (wm_ws G μ) U.heap ∧ va_K G.1 wm_cl (wm_ty G) U ∧ va_D (wm_A G) (wm_ws G μ) ∧ wm_X G U)
def wm_Qc (G : wm_G) (Q : Option Value → wm_M → Prop) : Array Value → State → Outcome → State → Prop := fun _ st oc t => ∃ (r : Option Value) (μ : wm_M), oc = .returned (r.map (wm_v G)) ∧ Q r μ ∧ va_P G.1 wm_cl (wm_ws G μ) t.heap ∧ va_D (wm_A G) (wm_ws G μ) ∧ va_F (wm_A G) st t
/-- how deep a method may go: e is the level at which texts are read -/
def wm_dq (y e : Nat) : Nat := match wm_dg y with
  | 0 => wm_dr y
  | 1 => 30 + 12 * e + wm_dr y
  | _ => 200 + wm_dr y
def wm_rm (d : Nat) : Room := { frames := d, cells := 0, slots := 0, locals := 100 * d }
def wm_cdp (y : Nat) : Option Jvm.Cond := match wm_CD.find? (fun q => Nat.beq q.2 y) with
  | some q => lw_tbl[q.1]?
  | none => none
def wm_by (y : Nat) : ByteArray := match wm_cdp y with
  | some (.code _ b _ _) => b
  | _ => ⟨#[]⟩
def wm_cdc (y : Nat) : Jvm.Cond := .code (wm_nm y) (wm_by y) (wm_mx y) (wm_rt y)
def wm_wo (y : Nat) : List Jvm.Cond := wm_cdc y :: wm_T
/-- THE CONTRACT of method y at level e: with these arguments and this memory it returns, and Q holds of its answer and the memory then -/
def wm_Ok (e y : Nat) (as : List Value) (μ : wm_M) (Q : Option Value → wm_M → Prop) : Prop := ∀ (l : Launch) (G : wm_G), Met l (wm_nm y) (wm_wo y) (wm_rm (wm_dq y e)) (wm_Pc G as μ) (wm_Qc G Q) 0 0 (wm_A G)
/-! the step's condition -/
def wm_lk : wm_B → Nat → Option (List wm_Op)
  | [], _ => none
  | q :: r, t => bif Nat.beq q.1 t then some q.2 else wm_lk r t
def wm_cu : List (Nat × List Bool) → Nat → Option (List Bool)
  | [], _ => none
  | q :: r, t => bif Nat.beq q.1 t then some q.2 else wm_cu r t
def wm_mask : List Bool → List Value → List Value
  | b :: bs, v :: vs => (bif b then v else .null) :: wm_mask bs vs
  | _, _ => []
def wm_k (n : Int) : Int32 := match n with
  | .ofNat j => Int32.ofNat j
  | .negSucc j => -(Int32.ofNat (j + 1))
def wm_kj (r s : Nat) : Int64 := match s with
  | 0 => Int64.ofNat r
  | _ => -(Int64.ofNat r)
def wm_nul (l : List Value) (i : Nat) : List Value := match i with
  | 0 => l
  | j + 1 => match l[j]? with
    | some v => bif Nat.beq v.category 2 then l.set j .null else l
    | none => l
def wm_s1 (l : List Value) (i : Nat) (v : Value) : List Value := (wm_nul l i).set i v
def wm_s2 (l : List Value) (i : Nat) (v : Value) : List Value := ((wm_nul l i).set i v).set (i + 1) .null
def wm_pp : Nat → List Value → List Value → Option (List Value × List Value)
  | 0, st, acc => some (acc, st)
  | n + 1, v :: st, acc => wm_pp n st (v :: acc)
  | _ + 1, [], _ => none
def wm_pI (st : List Value) (f : Int32 → List Value → Prop) : Prop := match st with
  | .int x :: r => f x r
  | _ => False
def wm_pJ (st : List Value) (f : Int64 → List Value → Prop) : Prop := match st with
  | .long x :: r => f x r
  | _ => False
def wm_pR (st : List Value) (f : Nat → List Value → Prop) : Prop := match st with
  | .ref a :: r => f a r
  | _ => False
/-- the contract by what comes back: nothing, an int, a long, the log that is now -/
def wm_OkV (e y : Nat) (as : List Value) (μ : wm_M) (Q : wm_M → Prop) : Prop := wm_Ok e y as μ (fun v μ => v = none ∧ Q μ)
def wm_OkI (e y : Nat) (as : List Value) (μ : wm_M) (Q : Int32 → wm_M → Prop) : Prop := wm_Ok e y as μ (fun v μ => ∃ x, v = some (.int x) ∧ Q x μ)
def wm_OkJ (e y : Nat) (as : List Value) (μ : wm_M) (Q : Int64 → wm_M → Prop) : Prop := wm_Ok e y as μ (fun v μ => ∃ x, v = some (.long x) ∧ Q x μ)
def wm_OkR (e y : Nat) (as : List Value) (μ : wm_M) (Q : wm_M → Prop) : Prop := wm_Ok e y as μ (fun v μ => v = some (.ref 1) ∧ Q μ)
def wm_lvl (e lv : Nat) (g : Nat → Prop) : Prop := match lv with
  | 0 => g 0
  | 1 => (match e with
    | 0 => False
    | e' + 1 => g e')
  | 2 => g 7
  | _ => g e
def wm_back (rk e y : Nat) (as : List Value) (μ : wm_M) (f : List Value → wm_M → Prop) : Prop := match rk with
  | 0 => wm_OkV e y as μ (fun μ => f [] μ)
  | 1 => wm_OkI e y as μ (fun x μ => f [.int x] μ)
  | 2 => wm_OkJ e y as μ (fun x μ => f [.long x] μ)
  | _ => wm_OkR e y as μ (fun μ => f [.ref 1] μ)
def wm_call (e y r : Nat) (as : List Value) (μ : wm_M) (f : List Value → wm_M → Prop) : Prop := wm_lvl e (r % 4) (fun e => wm_back (r / 4) e y as μ f)
def wm_oa : List (Nat × FieldType × Nat × List Int32) → Nat → Option (FieldType × Nat × List Int32)
  | [], _ => none
  | q :: r, a => bif Nat.beq q.1 a then some q.2 else wm_oa r a
/-- a jump: to a cut, or on -/
def wm_j (B : wm_B) (cut : List (Nat × List Bool)) (k : Nat → List wm_Op → List Value → List Value → wm_M → Prop) (K : Nat → List Value → wm_M → Prop) (t : Nat) (l st : List Value) (μ : wm_M) : Prop := match wm_cu cut t with
  | some ms => (match st with
    | [] => K t (wm_mask ms l) μ
    | _ :: _ => False)
  | none => (match wm_lk B t with
    | some os => k t os l st μ
    | none => False)
def wm_br (c : ClassFile.Cond) (x y : Int32) (T F : Prop) : Prop := match c with
  | .eq => (x = y → T) ∧ (¬ x = y → F)
  | .ne => (x = y → F) ∧ (¬ x = y → T)
  | .lt => (x < y → T) ∧ (¬ x < y → F)
  | .ge => (y ≤ x → T) ∧ (¬ y ≤ x → F)
  | .gt => (y < x → T) ∧ (¬ y < x → F)
  | .le => (x ≤ y → T) ∧ (¬ x ≤ y → F)
def wm_load (l : List Value) (i : Nat) (f : Value → Prop) : Prop := match l[i]? with
  | some v => f v
  | none => False
def wm_isI (v : Value) (p : Prop) : Prop := match v with
  | .int _ => p
  | _ => False
def wm_isJ (v : Value) (p : Prop) : Prop := match v with
  | .long _ => p
  | _ => False
def wm_isR (v : Value) (p : Prop) : Prop := match v with
  | .ref _ => p
  | _ => False
def wm_sw (x : Int) (t : Int → Prop) : Int → List Int → Prop
  | _, [] => True
  | i, o :: os => (x = i → t o) ∧ wm_sw x t (i + 1) os
def wm_lw (x : Int) (t : Int → Prop) : List (Int × Int) → Prop
  | [] => True
  | o :: os => (x = o.1 → t o.2) ∧ wm_lw x t os
def wm_sum (st : List Value) : Nat := match st with
  | [] => 0
  | v :: r => v.category + wm_sum r
/-- what a return asks: by the method's type -/
def wm_ri (rt : Option FieldType) (x : Int32) (q : Prop) : Prop := match rt with
  | some .int => q
  | some .boolean => (x = 0 ∨ x = 1) ∧ q
  | some .char => (narrow .char (.int x) = .int x) ∧ q
  | some .byte => (narrow .byte (.int x) = .int x) ∧ q
  | _ => False
def wm_e0 (r : List Value) (p : Prop) : Prop := match r with
  | [] => p
  | _ :: _ => False
def wm_rj (rt : Option FieldType) (q : Prop) : Prop := match rt with
  | some .long => q
  | _ => False
def wm_ra (rt : Option FieldType) (q : Prop) : Prop := match rt with
  | some (.object _) => q
  | _ => False
def wm_r0 (rt : Option FieldType) (q : Prop) : Prop := match rt with
  | none => q
  | _ => False
def wm_cat (v : Value) (n : Nat) (p : Prop) : Prop := bif Nat.beq v.category n then p else False
/-- an element of a row: ours, a static one, the script -/
def wm_ald (X : Nat × (Nat → Int32)) (μ : wm_M) (a : Nat) (i : Int32) (ty : Nat) (f : Value → Prop) : Prop := bif Nat.ble wm_n a then (bif Nat.beq a 3000 then (bif Nat.beq ty 1 then (¬ X.1 = 0 ∧ vp_in i (X.1 - 1) ∧ f (.int (X.2 i.toNatClampNeg))) else False) else (match wm_oa wm_OA a with
    | some q => (match q.1 with
      | .int => (bif Nat.beq ty 1 then (vp_in i q.2.1 ∧ f (.int (q.2.2.getD i.toNatClampNeg 0))) else False)
      | _ => False)
    | none => False)) else (bif Nat.beq (wm_sh a).1 ty then (vp_in i (wm_sh a).2 ∧ f (match ty with
    | 3 => .long (μ.2 a i.toNatClampNeg)
    | _ => .int (μ.1 a i.toNatClampNeg))) else False)
def wm_alen (X : Nat × (Nat → Int32)) (a : Nat) (f : Value → Prop) : Prop := bif Nat.ble wm_n a then (bif Nat.beq a 3000 then (¬ X.1 = 0 ∧ f (.int (Int32.ofNat (X.1 - 1)))) else False) else (match (wm_sh a).1 with
  | 0 => False
  | 1 => f (.int (Int32.ofNat (wm_sh a).2))
  | 2 => f (.int (Int32.ofNat (wm_sh a).2))
  | 3 => f (.int (Int32.ofNat (wm_sh a).2))
  | _ => False)
def wm_get (μ : wm_M) (a ci k : Nat) (f : Value → Prop) : Prop := bif Nat.ble wm_n a then False else (match (wm_sh a).1 with
  | 0 => (bif Nat.beq (wm_sh a).2 ci then (match wm_ft ci k with
    | 3 => f (.ref (wm_rf a k))
    | 2 => f (.long (μ.2 a k))
    | _ => f (.int (μ.1 a k))) else False)
  | _ => False)
def wm_put (μ : wm_M) (a ci k : Nat) (v : Value) (f : wm_M → Prop) : Prop := bif Nat.ble wm_n a then False else (match (wm_sh a).1 with
  | 0 => (bif Nat.beq (wm_sh a).2 ci then (match wm_ft ci k, v with
    | 0, .int x => f (wm_si μ a k x)
    | 1, .int x => (x = 0 ∨ x = 1) ∧ f (wm_si μ a k x)
    | 2, .long x => f (wm_sl μ a k x)
    | _, _ => False) else False)
  | _ => False)
/-- calls that the machine or the kit does itself -/
def wm_sp (μ : wm_M) (i : Nat) (st : List Value) (f : List Value → wm_M → Prop) : Prop := match i with
  | 0 => wm_pI st (fun n st => wm_pI st (fun dp st => wm_pR st (fun a1 st => wm_pI st (fun sp st => wm_pR st (fun a0 st =>
      bif Nat.ble wm_n a0 then False else bif Nat.ble wm_n a1 then False else bif Nat.beq (wm_sh a0).1 (wm_sh a1).1 then (match (wm_sh a0).1 with
        | 1 => ¬ sp < 0 ∧ ¬ dp < 0 ∧ ¬ n < 0 ∧ sp.toNatClampNeg + n.toNatClampNeg ≤ (wm_sh a0).2 ∧ dp.toNatClampNeg + n.toNatClampNeg ≤ (wm_sh a1).2 ∧ ∀ ν, ν = wm_sr μ a1 (va_cpy (μ.1 a0) (μ.1 a1) sp.toNatClampNeg dp.toNatClampNeg n.toNatClampNeg) → f st ν
        | 2 => ¬ sp < 0 ∧ ¬ dp < 0 ∧ ¬ n < 0 ∧ sp.toNatClampNeg + n.toNatClampNeg ≤ (wm_sh a0).2 ∧ dp.toNatClampNeg + n.toNatClampNeg ≤ (wm_sh a1).2 ∧ (∀ i, i < n.toNatClampNeg → μ.1 a0 (sp.toNatClampNeg + i) = 0 ∨ μ.1 a0 (sp.toNatClampNeg + i) = 1) ∧ ∀ ν, ν = wm_sr μ a1 (va_cpy (μ.1 a0) (μ.1 a1) sp.toNatClampNeg dp.toNatClampNeg n.toNatClampNeg) → f st ν
        | _ => False) else False)))))
  | 1 => wm_pI st (fun y st => wm_pI st (fun x st => f (.int (if x < y then y else x) :: st) μ))
  | 2 => wm_pI st (fun y st => wm_pI st (fun x st => f (.int (if y < x then y else x) :: st) μ))
  | 3 => wm_pI st (fun x st => f (.int (if 0 ≤ x then x else 0 - x) :: st) μ)
  | 4 => wm_pJ st (fun y st => wm_pJ st (fun x st => f (.long (if y < x then x else y) :: st) μ))
  | 5 => wm_pJ st (fun y st => wm_pJ st (fun x st => f (.long (if y < x then y else x) :: st) μ))
  | _ => False
/-- the receiver is a cell of ours of the method's class -/
def wm_rcv (a ci : Nat) (p : Prop) : Prop := bif Nat.ble wm_n a then False else (match (wm_sh a).1 with
  | 0 => (bif Nat.beq (wm_sh a).2 ci then p else False)
  | _ => False)
def wm_step (B : wm_B) (cut : List (Nat × List Bool)) (e : Nat) (rt : Option FieldType) (X : Nat × (Nat → Int32)) (Q : Option Value → wm_M → Prop) (K : Nat → List Value → wm_M → Prop) (k : Nat → List wm_Op → List Value → List Value → wm_M → Prop) (pc : Nat) (ops : List wm_Op) (l st : List Value) (μ : wm_M) : Prop := match ops with
  | [] => wm_j B cut k K pc l st μ
  | o :: os => match o.1 with
    | .iconst n => k (pc + 1) os l (.int (wm_k n) :: st) μ
    | .bipush n => k (pc + 2) os l (.int (wm_k n) :: st) μ
    | .sipush n => k (pc + 3) os l (.int (wm_k n) :: st) μ
    | .lconst n => k (pc + 1) os l (.long (Int64.ofNat n) :: st) μ
    | .ldc2_w _ => k (pc + 3) os l (.long (wm_kj o.2.2.1 o.2.2.2.1) :: st) μ
    | .ldc _ => k (pc + 2) os l (.int (Int32.ofNat o.2.2.1) :: st) μ
    | .ldc_w _ => k (pc + 3) os l (.int (Int32.ofNat o.2.2.1) :: st) μ
    | .iload i => wm_load l i (fun v => wm_isI v (k (pc + 2) os l (v :: st) μ))
    | .iload_n i => wm_load l i (fun v => wm_isI v (k (pc + 1) os l (v :: st) μ))
    | .lload i => wm_load l i (fun v => wm_isJ v (k (pc + 2) os l (v :: st) μ))
    | .lload_n i => wm_load l i (fun v => wm_isJ v (k (pc + 1) os l (v :: st) μ))
    | .aload i => wm_load l i (fun v => wm_isR v (k (pc + 2) os l (v :: st) μ))
    | .aload_n i => wm_load l i (fun v => wm_isR v (k (pc + 1) os l (v :: st) μ))
    | .istore i => wm_pI st (fun x r => bif Nat.blt i l.length then k (pc + 2) os (wm_s1 l i (.int x)) r μ else False)
    | .istore_n i => wm_pI st (fun x r => bif Nat.blt i l.length then k (pc + 1) os (wm_s1 l i (.int x)) r μ else False)
    | .lstore i => wm_pJ st (fun x r => bif Nat.blt (i + 1) l.length then k (pc + 2) os (wm_s2 l i (.long x)) r μ else False)
    | .lstore_n i => wm_pJ st (fun x r => bif Nat.blt (i + 1) l.length then k (pc + 1) os (wm_s2 l i (.long x)) r μ else False)
    | .astore i => wm_pR st (fun x r => bif Nat.blt i l.length then k (pc + 2) os (wm_s1 l i (.ref x)) r μ else False)
    | .astore_n i => wm_pR st (fun x r => bif Nat.blt i l.length then k (pc + 1) os (wm_s1 l i (.ref x)) r μ else False)
    | .iinc i n => wm_load l i (fun v => wm_pI [v] (fun x _ => bif Nat.blt i l.length then k (pc + 3) os (wm_s1 l i (.int (x + wm_k n))) st μ else False))
    | .iadd => wm_pI st (fun y st => wm_pI st (fun x st => k (pc + 1) os l (.int (x + y) :: st) μ))
    | .isub => wm_pI st (fun y st => wm_pI st (fun x st => k (pc + 1) os l (.int (x - y) :: st) μ))
    | .imul => wm_pI st (fun y st => wm_pI st (fun x st => k (pc + 1) os l (.int (x * y) :: st) μ))
    | .idiv => wm_pI st (fun y st => wm_pI st (fun x st => ¬ y = 0 ∧ k (pc + 1) os l (.int (x / y) :: st) μ))
    | .irem => wm_pI st (fun y st => wm_pI st (fun x st => ¬ y = 0 ∧ k (pc + 1) os l (.int (x - x / y * y) :: st) μ))
    | .ineg => wm_pI st (fun x st => k (pc + 1) os l (.int (-x) :: st) μ)
    | .iand => wm_pI st (fun y st => wm_pI st (fun x st => k (pc + 1) os l (.int (x &&& y) :: st) μ))
    | .ior => wm_pI st (fun y st => wm_pI st (fun x st => k (pc + 1) os l (.int (x ||| y) :: st) μ))
    | .ishl => wm_pI st (fun y st => wm_pI st (fun x st => k (pc + 1) os l (.int (x <<< (y &&& 31)) :: st) μ))
    | .ishr => wm_pI st (fun y st => wm_pI st (fun x st => k (pc + 1) os l (.int (x >>> (y &&& 31)) :: st) μ))
    | .iushr => wm_pI st (fun y st => wm_pI st (fun x st => k (pc + 1) os l (.int (x.toUInt32 >>> (y.toUInt32 &&& Int32.toUInt32 31)).toInt32 :: st) μ))
    | .ladd => wm_pJ st (fun y st => wm_pJ st (fun x st => k (pc + 1) os l (.long (x + y) :: st) μ))
    | .lsub => wm_pJ st (fun y st => wm_pJ st (fun x st => k (pc + 1) os l (.long (x - y) :: st) μ))
    | .lmul => wm_pJ st (fun y st => wm_pJ st (fun x st => k (pc + 1) os l (.long (x * y) :: st) μ))
    | .ldiv => wm_pJ st (fun y st => wm_pJ st (fun x st => ¬ y = 0 ∧ k (pc + 1) os l (.long (x / y) :: st) μ))
    | .lneg => wm_pJ st (fun x st => k (pc + 1) os l (.long (-x) :: st) μ)
    | .lxor => wm_pJ st (fun y st => wm_pJ st (fun x st => k (pc + 1) os l (.long (x ^^^ y) :: st) μ))
    | .lcmp => wm_pJ st (fun y st => wm_pJ st (fun x st => k (pc + 1) os l (.int (lg_cmp x y) :: st) μ))
    | .i2l => wm_pI st (fun x st => k (pc + 1) os l (.long x.toInt64 :: st) μ)
    | .l2i => wm_pJ st (fun x st => k (pc + 1) os l (.int x.toInt32 :: st) μ)
    | .i2c => wm_pI st (fun x st => k (pc + 1) os l (.int (x.toUInt32 % 65536).toInt32 :: st) μ)
    | .dup => (match st with
      | v :: r => wm_cat v 1 (k (pc + 1) os l (v :: v :: r) μ)
      | [] => False)
    | .dup2 => (match st with
      | v :: w :: r => wm_cat v 1 (wm_cat w 1 (k (pc + 1) os l (v :: w :: v :: w :: r) μ))
      | _ => False)
    | .pop => (match st with
      | v :: r => wm_cat v 1 (k (pc + 1) os l r μ)
      | [] => False)
    | .ifCond c _ => wm_pI st (fun x st => wm_br c x 0 (wm_j B cut k K o.2.2.1 l st μ) (k (pc + 3) os l st μ))
    | .if_icmp c _ => wm_pI st (fun y st => wm_pI st (fun x st => wm_br c x y (wm_j B cut k K o.2.2.1 l st μ) (k (pc + 3) os l st μ)))
    | .goto _ => wm_j B cut k K o.2.2.1 l st μ
    | .tableswitch d lo hi offs => wm_pI st (fun x st => (x.toInt < lo ∨ hi < x.toInt → wm_j B cut k K ((pc : Int) + d).toNat l st μ) ∧ wm_sw x.toInt (fun f => wm_j B cut k K ((pc : Int) + f).toNat l st μ) lo offs.toList)
    | .lookupswitch d ps => wm_pI st (fun x st => ((∀ q ∈ ps.toList, ¬ x.toInt = q.1) → wm_j B cut k K ((pc : Int) + d).toNat l st μ) ∧ wm_lw x.toInt (fun f => wm_j B cut k K ((pc : Int) + f).toNat l st μ) ps.toList)
    | .ireturn => wm_pI st (fun x r => wm_e0 r (wm_ri rt x (Q (some (.int x)) μ)))
    | .lreturn => wm_pJ st (fun x r => wm_e0 r (wm_rj rt (Q (some (.long x)) μ)))
    | .areturn => wm_pR st (fun x r => wm_e0 r (wm_ra rt (Q (some (.ref x)) μ)))
    | .return_ => wm_e0 st (wm_r0 rt (Q none μ))
    | .getfield _ => wm_pR st (fun a r => wm_get μ a o.2.2.1 o.2.2.2.1 (fun v => k (pc + 3) os l (v :: r) μ))
    | .putfield _ => (match st with
      | v :: r => wm_pR r (fun a r => wm_put μ a o.2.2.1 o.2.2.2.1 v (fun μ => k (pc + 3) os l r μ))
      | [] => False)
    | .getstatic _ => (match wm_SV[o.2.2.1]? with
      | some q => k (pc + 3) os l (q.2.2.2 :: st) μ
      | none => False)
    | .iaload => wm_pI st (fun i r => wm_pR r (fun a r => wm_ald X μ a i 1 (fun v => k (pc + 1) os l (v :: r) μ)))
    | .baload => wm_pI st (fun i r => wm_pR r (fun a r => wm_ald X μ a i 2 (fun v => k (pc + 1) os l (v :: r) μ)))
    | .laload => wm_pI st (fun i r => wm_pR r (fun a r => wm_ald X μ a i 3 (fun v => k (pc + 1) os l (v :: r) μ)))
    | .iastore => wm_pI st (fun x r => wm_pI r (fun i r => wm_pR r (fun a r => bif Nat.ble wm_n a then False else bif Nat.beq (wm_sh a).1 1 then vp_in i (wm_sh a).2 ∧ k (pc + 1) os l r (wm_si μ a i.toNatClampNeg x) else False)))
    | .bastore => wm_pI st (fun x r => wm_pI r (fun i r => wm_pR r (fun a r => bif Nat.ble wm_n a then False else bif Nat.beq (wm_sh a).1 2 then vp_in i (wm_sh a).2 ∧ k (pc + 1) os l r (wm_si μ a i.toNatClampNeg (vp_nar .boolean x)) else False)))
    | .lastore => wm_pJ st (fun x r => wm_pI r (fun i r => wm_pR r (fun a r => bif Nat.ble wm_n a then False else bif Nat.beq (wm_sh a).1 3 then vp_in i (wm_sh a).2 ∧ k (pc + 1) os l r (wm_sl μ a i.toNatClampNeg x) else False)))
    | .arraylength => wm_pR st (fun a r => wm_alen X a (fun v => k (pc + 1) os l (v :: r) μ))
    | .invokevirtual _ => (match wm_pp (o.2.2.2.1 % 16) st [] with
      | some q => wm_pR q.2 (fun a r => bif Nat.ble (wm_sum r) 8 then wm_rcv a (o.2.2.2.1 / 16) (wm_call e o.2.2.1 o.2.2.2.2 (.ref a :: q.1) μ (fun v μ => k (pc + 3) os l (v ++ r) μ)) else False)
      | none => False)
    | .invokestatic _ => bif Nat.ble 20 o.2.2.2.2 then wm_sp μ (o.2.2.2.2 - 20) st (fun r μ => bif Nat.ble (wm_sum r) 10 then k (pc + 3) os l r μ else False) else (match wm_pp o.2.2.2.1 st [] with
      | some q => (bif Nat.ble (wm_sum q.2) 8 then wm_call e o.2.2.1 o.2.2.2.2 q.1 μ (fun v μ => k (pc + 3) os l (v ++ q.2) μ) else False)
      | none => False)
    | _ => False
def wm_run (B : wm_B) (cut : List (Nat × List Bool)) (e : Nat) (rt : Option FieldType) (X : Nat × (Nat → Int32)) (Q : Option Value → wm_M → Prop) (K : Nat → List Value → wm_M → Prop) (n : Nat) : Nat → List wm_Op → List Value → List Value → wm_M → Prop := Nat.rec (fun _ _ _ _ _ => False) (fun _ k => wm_step B cut e rt X Q K k) n
