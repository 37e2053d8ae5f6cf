/-! Constructors: fields, objects, calls. -/
section CXT
variable {D : va_G} {g : ClassId × ClassId × ClassId} {A : Nat → Prop} {y : Nat} {p : Program} {l : Launch} {e : Env} {R : Room} {s : State} {m : MethodId} {args : Array Value} {below : List Frame} {meth : Method} {c : Code} {Q : State → Prop} {pc : Nat} {ls : Array Slot} {st rest : List Value} {ws : va_W} {cells slots : Nat}
theorem cx_link (C : cx_C D g A y p s m args meth c) {i ci k : Nat} (hl : wm_FL.any (fun t => wm_q4 t.2 (wm_oc y) i ci k) = true) {q : vw_C} (hq : wm_cl[ci]? = some q) : (Jvm.Cond.fieldLink (wm_ow (wm_oc y)) i q.1 (q.2.1 k).2.1 (q.2.1 k).2.2.1).before args s = true := by
  obtain ⟨t, ht, h4⟩ := wm_any_q hl
  have e1 := wm_q4_ok h4
  have hw := wm_scan_T (g := wm_flc) wm_fl_all ht
  rw [e1] at hw
  have h5 := C.2.2.2.2.1 _ hw
  simp only [wm_flc, hq] at h5
  exact h5
theorem cx_putF (C : cx_C D g A y p s m args meth c) {i ci k : Nat} (hl : wm_FL.any (fun t => wm_q4 t.2 (wm_oc y) i ci k) = true) {q : vw_C} (hq : wm_cl[ci]? = some q) (hk : k < q.2.2) (hfin : (q.2.1 k).2.2.2 = true) (hdecl : (q.2.1 k).1 = wm_ow (wm_oc y)) {ty : FieldType} {v : Value} (hty : parseFieldDescriptor (q.2.1 k).2.2.1 = some ty) (hn : narrow ty v = v) (hf : fits ty v = true)
    (q0 : Nat) {a : Nat} {fs : List Value} (he : ws[q0]? = some (a, .inr (ci, fs))) (hlen : k < fs.length) (hdg : decode (wm_by y) pc = .ok (.putfield i, 3)) (kk : cx_J D A p l e R s m args below meth c Q (pc + 3) ls rest (ws.set q0 (a, .inr (ci, fs.set k v))) cells slots) :
    cx_J D A p l e R s m args below meth c Q pc ls (v :: .ref a :: rest) ws cells slots := by
  have hlink := cx_link C hl hq (k := k)
  obtain ⟨hx, hb, hml, hown, hts, hK, hin0, hA⟩ := C
  obtain ⟨hnf, hin, hnm, ty0, hty0, hdc, hft⟩ := wm_cls_ok ci q hq
  intro H locs hP hD hS
  exact va_putF (C := q.1) (T := q.2.1) (N := q.2.2) hx hb hts hin ty0 hty0 hnm hown hK hP hD hS q0 he hq k hk hlink (fun x hx' => by rw [hdc k hk] at hx'; exact hx') hfin hin0 hdecl hty hn hf hlen hdg (fun H1 locs1 h1 h2 h3 => kk H1 locs1 h1 h2 h3)
theorem cx_put (C : cx_C D g A y p s m args meth c) {i ci k : Nat} (hl : wm_FL.any (fun t => wm_q4 t.2 (wm_oc y) i ci k) = true) {q : vw_C} (hq : wm_cl[ci]? = some q) (hk : k < q.2.2) (hfin : (q.2.1 k).2.2.2 = false) {ty : FieldType} {v : Value} (hty : parseFieldDescriptor (q.2.1 k).2.2.1 = some ty) (hn : narrow ty v = v) (hf : fits ty v = true)
    (q0 : Nat) {a : Nat} {fs : List Value} (he : ws[q0]? = some (a, .inr (ci, fs))) (hlen : k < fs.length) (hdg : decode (wm_by y) pc = .ok (.putfield i, 3)) (kk : cx_J D A p l e R s m args below meth c Q (pc + 3) ls rest (ws.set q0 (a, .inr (ci, fs.set k v))) cells slots) :
    cx_J D A p l e R s m args below meth c Q pc ls (v :: .ref a :: rest) ws cells slots := by
  have hlink := cx_link C hl hq (k := k)
  obtain ⟨hx, hb, hml, hown, hts, hK, hin0, hA⟩ := C
  obtain ⟨hnf, hin, hnm, ty0, hty0, hdc, hft⟩ := wm_cls_ok ci q hq
  intro H locs hP hD hS
  exact va_put (C := q.1) (T := q.2.1) (N := q.2.2) hx hb hts hin ty0 hty0 hnm hown hK hP hD hS q0 he hq k hk hlink (fun x hx' => by rw [hdc k hk] at hx'; exact hx') hfin hty hn hf hlen hdg (fun H1 locs1 h1 h2 h3 => kk H1 locs1 h1 h2 h3)
theorem cx_get (C : cx_C D g A y p s m args meth c) {i ci k : Nat} (hl : wm_FL.any (fun t => wm_q4 t.2 (wm_oc y) i ci k) = true) {q : vw_C} (hq : wm_cl[ci]? = some q) (hk : k < q.2.2) (q0 : Nat) {a : Nat} {fs : List Value} {v : Value} (he : ws[q0]? = some (a, .inr (ci, fs))) (hv : fs[k]? = some v) (hdg : decode (wm_by y) pc = .ok (.getfield i, 3))
    (kk : cx_J D A p l e R s m args below meth c Q (pc + 3) ls (v :: rest) ws cells slots) : cx_J D A p l e R s m args below meth c Q pc ls (.ref a :: rest) ws cells slots := by
  have hlink := cx_link C hl hq (k := k)
  obtain ⟨hx, hb, hml, hown, hts, hK, hin0, hA⟩ := C
  obtain ⟨hnf, hin, hnm, ty0, hty0, hdc, hft⟩ := wm_cls_ok ci q hq
  intro H locs hP hD hS
  exact va_get (C := q.1) (T := q.2.1) (N := q.2.2) hx hb hts hin hown hK hP q0 he hq k hk hlink (fun x hx' => by rw [hdc k hk] at hx'; exact hx') hv hdg (kk H locs hP hD hS)
theorem cx_al (C : cx_C D g A y p s m args meth c) {k : Fin 4} {i x : Nat} (hdg : decode (wm_by y) pc = .ok (.aload_n k, 1)) (hi : (k : Nat) = i) (hl : ls[i]? = some (.val (.ref x))) (kk : cx_J D A p l e R s m args below meth c Q (pc + 1) ls (.ref x :: rest) ws cells slots) : cx_J D A p l e R s m args below meth c Q pc ls rest ws cells slots :=
  fun H locs hP hD hS => lv_aload_n C.1 C.2.1 hdg hi hl (kk H locs hP hD hS)
theorem cx_dup (C : cx_C D g A y p s m args meth c) {v : Value} (hdg : decode (wm_by y) pc = .ok (.dup, 1)) (hv : v.category = 1) (kk : cx_J D A p l e R s m args below meth c Q (pc + 1) ls (v :: v :: rest) ws cells slots) : cx_J D A p l e R s m args below meth c Q pc ls (v :: rest) ws cells slots :=
  fun H locs hP hD hS => lv_dup C.1 C.2.1 hdg hv (kk H locs hP hD hS)
end CXT
