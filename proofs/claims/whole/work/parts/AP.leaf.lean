/-! Constructors without loops, printed by wip/gen/genctor.py. -/
set_option maxRecDepth 100000 in
theorem dk_0 : cx_dk 0 [(0, .aload_n 0, 1), (1, .invokespecial 3, 3), (4, .aload_n 0, 1), (5, .iconst 3, 1), (6, .newarray .int, 2), (8, .putfield 9, 3), (11, .aload_n 0, 1), (12, .iconst 3, 1), (13, .newarray .boolean, 2), (15, .putfield 15, 3), (18, .aload_n 0, 1), (19, .bipush 8, 2), (21, .newarray .int, 2), (23, .putfield 19, 3), (26, .aload_n 0, 1), (27, .bipush 8, 2), (29, .newarray .boolean, 2), (31, .putfield 22, 3), (34, .return_, 1)] = true := by decide +kernel
def P_0 (g : ClassId × ClassId × ClassId) (h0 : Nat) (u : va_W) : Prop := ∃ (q1 : Nat) (q2 : Nat) (q3 : Nat) (q4 : Nat), u = [(h0, .inr (0, [.int 0, .int 0, .int 0, .int 0, .int 0, .int 0, .int 0, .int 0, .ref q1, .ref q2, .int 0, .ref q3, .ref q4, .int 0, .int 0])), (q1, .inl (g.1, 3, .inl (fun _ => 0))), (q2, .inl (g.2.1, 3, .inl (fun _ => 0))), (q3, .inl (g.1, 8, .inl (fun _ => 0))), (q4, .inl (g.2.1, 8, .inl (fun _ => 0)))]
set_option maxRecDepth 100000 in
set_option maxHeartbeats 4000000 in
theorem k_0 (D : va_G) (g : ClassId × ClassId × ClassId) (h0 : Nat) : cx_Ok D g 0 1 4 22 [.ref h0] [(h0, .inr (0, [.int 0, .int 0, .int 0, .int 0, .int 0, .int 0, .int 0, .int 0, .null, .null, .int 0, .null, .null, .int 0, .int 0]))] (P_0 g h0) := by
  refine cx_enter (by decide +kernel) (by decide +kernel) (Nat.le_of_ble_eq_true rfl) (by decide +kernel) ?_
  intro l A p e s m below meth c Q E hn hN hret ls hl
  have C := E.c (meth := meth) (hn.trans (by decide +kernel))
  have hl : lv_has ls 1 [(0, .ref h0)] := hl
  refine cx_al C (cx_d dk_0 0 rfl) rfl (lv_at hl 0 rfl) ?_
  refine cx_obj C (cx_w 18 rfl) hl.1 (cx_d dk_0 1 rfl) (Nat.le_of_ble_eq_true rfl) (Nat.le_of_ble_eq_true rfl) ?_
  refine cx_al C (cx_d dk_0 2 rfl) rfl (lv_at hl 0 rfl) ?_
  refine cx_ic (v := 3) C (cx_d dk_0 3 rfl) (by decide) ?_
  refine cx_newi (N := 3) C (cx_w 12 rfl) (by decide +kernel) (by decide +kernel) (by decide +kernel) (Nat.le_of_ble_eq_true rfl) (Nat.le_of_ble_eq_true rfl) (cx_d dk_0 4 rfl) (fun q1 => ?_)
  refine cx_w8 (ws' := [(h0, .inr (0, [.int 0, .int 0, .int 0, .int 0, .int 0, .int 0, .int 0, .int 0, .null, .null, .int 0, .null, .null, .int 0, .int 0])), (q1, .inl (g.1, 3, .inl (fun _ => 0)))]) rfl ?_
  refine cx_putF C (by decide +kernel) (q := (RX0, TX0, 15)) rfl (k := 8) (by decide +kernel) rfl (by decide +kernel) (ty := (.array .int)) (by decide +kernel) rfl rfl 0 rfl (Nat.le_of_ble_eq_true rfl) (cx_d dk_0 5 rfl) ?_
  refine cx_w8 (ws' := [(h0, .inr (0, [.int 0, .int 0, .int 0, .int 0, .int 0, .int 0, .int 0, .int 0, .ref q1, .null, .int 0, .null, .null, .int 0, .int 0])), (q1, .inl (g.1, 3, .inl (fun _ => 0)))]) rfl ?_
  refine cx_al C (cx_d dk_0 6 rfl) rfl (lv_at hl 0 rfl) ?_
  refine cx_ic (v := 3) C (cx_d dk_0 7 rfl) (by decide) ?_
  refine cx_newz (N := 3) C (cx_w 11 rfl) (by decide +kernel) (by decide +kernel) (by decide +kernel) (Nat.le_of_ble_eq_true rfl) (Nat.le_of_ble_eq_true rfl) (cx_d dk_0 8 rfl) (fun q2 => ?_)
  refine cx_w8 (ws' := [(h0, .inr (0, [.int 0, .int 0, .int 0, .int 0, .int 0, .int 0, .int 0, .int 0, .ref q1, .null, .int 0, .null, .null, .int 0, .int 0])), (q1, .inl (g.1, 3, .inl (fun _ => 0))), (q2, .inl (g.2.1, 3, .inl (fun _ => 0)))]) rfl ?_
  refine cx_putF C (by decide +kernel) (q := (RX0, TX0, 15)) rfl (k := 9) (by decide +kernel) rfl (by decide +kernel) (ty := (.array .boolean)) (by decide +kernel) rfl rfl 0 rfl (Nat.le_of_ble_eq_true rfl) (cx_d dk_0 9 rfl) ?_
  refine cx_w8 (ws' := [(h0, .inr (0, [.int 0, .int 0, .int 0, .int 0, .int 0, .int 0, .int 0, .int 0, .ref q1, .ref q2, .int 0, .null, .null, .int 0, .int 0])), (q1, .inl (g.1, 3, .inl (fun _ => 0))), (q2, .inl (g.2.1, 3, .inl (fun _ => 0)))]) rfl ?_
  refine cx_al C (cx_d dk_0 10 rfl) rfl (lv_at hl 0 rfl) ?_
  refine cx_bp (v := 8) C (cx_d dk_0 11 rfl) (by decide) ?_
  refine cx_newi (N := 8) C (cx_w 12 rfl) (by decide +kernel) (by decide +kernel) (by decide +kernel) (Nat.le_of_ble_eq_true rfl) (Nat.le_of_ble_eq_true rfl) (cx_d dk_0 12 rfl) (fun q3 => ?_)
  refine cx_w8 (ws' := [(h0, .inr (0, [.int 0, .int 0, .int 0, .int 0, .int 0, .int 0, .int 0, .int 0, .ref q1, .ref q2, .int 0, .null, .null, .int 0, .int 0])), (q1, .inl (g.1, 3, .inl (fun _ => 0))), (q2, .inl (g.2.1, 3, .inl (fun _ => 0))), (q3, .inl (g.1, 8, .inl (fun _ => 0)))]) rfl ?_
  refine cx_putF C (by decide +kernel) (q := (RX0, TX0, 15)) rfl (k := 11) (by decide +kernel) rfl (by decide +kernel) (ty := (.array .int)) (by decide +kernel) rfl rfl 0 rfl (Nat.le_of_ble_eq_true rfl) (cx_d dk_0 13 rfl) ?_
  refine cx_w8 (ws' := [(h0, .inr (0, [.int 0, .int 0, .int 0, .int 0, .int 0, .int 0, .int 0, .int 0, .ref q1, .ref q2, .int 0, .ref q3, .null, .int 0, .int 0])), (q1, .inl (g.1, 3, .inl (fun _ => 0))), (q2, .inl (g.2.1, 3, .inl (fun _ => 0))), (q3, .inl (g.1, 8, .inl (fun _ => 0)))]) rfl ?_
  refine cx_al C (cx_d dk_0 14 rfl) rfl (lv_at hl 0 rfl) ?_
  refine cx_bp (v := 8) C (cx_d dk_0 15 rfl) (by decide) ?_
  refine cx_newz (N := 8) C (cx_w 11 rfl) (by decide +kernel) (by decide +kernel) (by decide +kernel) (Nat.le_of_ble_eq_true rfl) (Nat.le_of_ble_eq_true rfl) (cx_d dk_0 16 rfl) (fun q4 => ?_)
  refine cx_w8 (ws' := [(h0, .inr (0, [.int 0, .int 0, .int 0, .int 0, .int 0, .int 0, .int 0, .int 0, .ref q1, .ref q2, .int 0, .ref q3, .null, .int 0, .int 0])), (q1, .inl (g.1, 3, .inl (fun _ => 0))), (q2, .inl (g.2.1, 3, .inl (fun _ => 0))), (q3, .inl (g.1, 8, .inl (fun _ => 0))), (q4, .inl (g.2.1, 8, .inl (fun _ => 0)))]) rfl ?_
  refine cx_putF C (by decide +kernel) (q := (RX0, TX0, 15)) rfl (k := 12) (by decide +kernel) rfl (by decide +kernel) (ty := (.array .boolean)) (by decide +kernel) rfl rfl 0 rfl (Nat.le_of_ble_eq_true rfl) (cx_d dk_0 17 rfl) ?_
  refine cx_w8 (ws' := [(h0, .inr (0, [.int 0, .int 0, .int 0, .int 0, .int 0, .int 0, .int 0, .int 0, .ref q1, .ref q2, .int 0, .ref q3, .ref q4, .int 0, .int 0])), (q1, .inl (g.1, 3, .inl (fun _ => 0))), (q2, .inl (g.2.1, 3, .inl (fun _ => 0))), (q3, .inl (g.1, 8, .inl (fun _ => 0))), (q4, .inl (g.2.1, 8, .inl (fun _ => 0)))]) rfl ?_
  exact hret _ ⟨q1, q2, q3, q4, rfl⟩ _ ls (cx_d dk_0 18 rfl)
set_option maxRecDepth 100000 in
theorem dk_26 : cx_dk 26 [(0, .aload_n 0, 1), (1, .invokespecial 3, 3), (4, .aload_n 0, 1), (5, .bipush 54, 2), (7, .newarray .int, 2), (9, .putfield 9, 3), (12, .aload_n 0, 1), (13, .bipush 6, 2), (15, .newarray .int, 2), (17, .putfield 15, 3), (20, .aload_n 0, 1), (21, .bipush 6, 2), (23, .newarray .int, 2), (25, .putfield 18, 3), (28, .aload_n 0, 1), (29, .iconst 3, 1), (30, .newarray .int, 2), (32, .putfield 21, 3), (35, .aload_n 0, 1), (36, .iconst 3, 1), (37, .newarray .int, 2), (39, .putfield 24, 3), (42, .aload_n 0, 1), (43, .aload_n 1, 1), (44, .putfield 27, 3), (47, .aload_n 0, 1), (48, .aload_n 2, 1), (49, .putfield 31, 3), (52, .aload_n 0, 1), (53, .aload_n 3, 1), (54, .putfield 35, 3), (57, .return_, 1)] = true := by decide +kernel
def P_26 (g : ClassId × ClassId × ClassId) (h0 x1 x2 x3 : Nat) (u : va_W) : Prop := ∃ (q1 : Nat) (q2 : Nat) (q3 : Nat) (q4 : Nat) (q5 : Nat), u = [(h0, .inr (2, [.ref x1, .ref x2, .ref x3, .ref q1, .ref q2, .ref q3, .int 0, .int 0, .long 0, .ref q4, .ref q5])), (q1, .inl (g.1, 54, .inl (fun _ => 0))), (q2, .inl (g.1, 6, .inl (fun _ => 0))), (q3, .inl (g.1, 6, .inl (fun _ => 0))), (q4, .inl (g.1, 3, .inl (fun _ => 0))), (q5, .inl (g.1, 3, .inl (fun _ => 0)))]
set_option maxRecDepth 100000 in
set_option maxHeartbeats 4000000 in
theorem k_26 (D : va_G) (g : ClassId × ClassId × ClassId) (h0 x1 x2 x3 : Nat) : cx_Ok D g 26 1 5 72 [.ref h0, .ref x1, .ref x2, .ref x3] [(h0, .inr (2, [.null, .null, .null, .null, .null, .null, .int 0, .int 0, .long 0, .null, .null]))] (P_26 g h0 x1 x2 x3) := by
  refine cx_enter (by decide +kernel) (by decide +kernel) (Nat.le_of_ble_eq_true rfl) (by decide +kernel) ?_
  intro l A p e s m below meth c Q E hn hN hret ls hl
  have C := E.c (meth := meth) (hn.trans (by decide +kernel))
  have hl : lv_has ls 4 [(0, .ref h0), (1, .ref x1), (2, .ref x2), (3, .ref x3)] := hl
  refine cx_al C (cx_d dk_26 0 rfl) rfl (lv_at hl 0 rfl) ?_
  refine cx_obj C (cx_w 33 rfl) hl.1 (cx_d dk_26 1 rfl) (Nat.le_of_ble_eq_true rfl) (Nat.le_of_ble_eq_true rfl) ?_
  refine cx_al C (cx_d dk_26 2 rfl) rfl (lv_at hl 0 rfl) ?_
  refine cx_bp (v := 54) C (cx_d dk_26 3 rfl) (by decide) ?_
  refine cx_newi (N := 54) C (cx_w 12 rfl) (by decide +kernel) (by decide +kernel) (by decide +kernel) (Nat.le_of_ble_eq_true rfl) (Nat.le_of_ble_eq_true rfl) (cx_d dk_26 4 rfl) (fun q1 => ?_)
  refine cx_w8 (ws' := [(h0, .inr (2, [.null, .null, .null, .null, .null, .null, .int 0, .int 0, .long 0, .null, .null])), (q1, .inl (g.1, 54, .inl (fun _ => 0)))]) rfl ?_
  refine cx_putF C (by decide +kernel) (q := (RX2, TX2, 11)) rfl (k := 3) (by decide +kernel) rfl (by decide +kernel) (ty := (.array .int)) (by decide +kernel) rfl rfl 0 rfl (Nat.le_of_ble_eq_true rfl) (cx_d dk_26 5 rfl) ?_
  refine cx_w8 (ws' := [(h0, .inr (2, [.null, .null, .null, .ref q1, .null, .null, .int 0, .int 0, .long 0, .null, .null])), (q1, .inl (g.1, 54, .inl (fun _ => 0)))]) rfl ?_
  refine cx_al C (cx_d dk_26 6 rfl) rfl (lv_at hl 0 rfl) ?_
  refine cx_bp (v := 6) C (cx_d dk_26 7 rfl) (by decide) ?_
  refine cx_newi (N := 6) C (cx_w 12 rfl) (by decide +kernel) (by decide +kernel) (by decide +kernel) (Nat.le_of_ble_eq_true rfl) (Nat.le_of_ble_eq_true rfl) (cx_d dk_26 8 rfl) (fun q2 => ?_)
  refine cx_w8 (ws' := [(h0, .inr (2, [.null, .null, .null, .ref q1, .null, .null, .int 0, .int 0, .long 0, .null, .null])), (q1, .inl (g.1, 54, .inl (fun _ => 0))), (q2, .inl (g.1, 6, .inl (fun _ => 0)))]) rfl ?_
  refine cx_putF C (by decide +kernel) (q := (RX2, TX2, 11)) rfl (k := 4) (by decide +kernel) rfl (by decide +kernel) (ty := (.array .int)) (by decide +kernel) rfl rfl 0 rfl (Nat.le_of_ble_eq_true rfl) (cx_d dk_26 9 rfl) ?_
  refine cx_w8 (ws' := [(h0, .inr (2, [.null, .null, .null, .ref q1, .ref q2, .null, .int 0, .int 0, .long 0, .null, .null])), (q1, .inl (g.1, 54, .inl (fun _ => 0))), (q2, .inl (g.1, 6, .inl (fun _ => 0)))]) rfl ?_
  refine cx_al C (cx_d dk_26 10 rfl) rfl (lv_at hl 0 rfl) ?_
  refine cx_bp (v := 6) C (cx_d dk_26 11 rfl) (by decide) ?_
  refine cx_newi (N := 6) C (cx_w 12 rfl) (by decide +kernel) (by decide +kernel) (by decide +kernel) (Nat.le_of_ble_eq_true rfl) (Nat.le_of_ble_eq_true rfl) (cx_d dk_26 12 rfl) (fun q3 => ?_)
  refine cx_w8 (ws' := [(h0, .inr (2, [.null, .null, .null, .ref q1, .ref q2, .null, .int 0, .int 0, .long 0, .null, .null])), (q1, .inl (g.1, 54, .inl (fun _ => 0))), (q2, .inl (g.1, 6, .inl (fun _ => 0))), (q3, .inl (g.1, 6, .inl (fun _ => 0)))]) rfl ?_
  refine cx_putF C (by decide +kernel) (q := (RX2, TX2, 11)) rfl (k := 5) (by decide +kernel) rfl (by decide +kernel) (ty := (.array .int)) (by decide +kernel) rfl rfl 0 rfl (Nat.le_of_ble_eq_true rfl) (cx_d dk_26 13 rfl) ?_
  refine cx_w8 (ws' := [(h0, .inr (2, [.null, .null, .null, .ref q1, .ref q2, .ref q3, .int 0, .int 0, .long 0, .null, .null])), (q1, .inl (g.1, 54, .inl (fun _ => 0))), (q2, .inl (g.1, 6, .inl (fun _ => 0))), (q3, .inl (g.1, 6, .inl (fun _ => 0)))]) rfl ?_
  refine cx_al C (cx_d dk_26 14 rfl) rfl (lv_at hl 0 rfl) ?_
  refine cx_ic (v := 3) C (cx_d dk_26 15 rfl) (by decide) ?_
  refine cx_newi (N := 3) C (cx_w 12 rfl) (by decide +kernel) (by decide +kernel) (by decide +kernel) (Nat.le_of_ble_eq_true rfl) (Nat.le_of_ble_eq_true rfl) (cx_d dk_26 16 rfl) (fun q4 => ?_)
  refine cx_w8 (ws' := [(h0, .inr (2, [.null, .null, .null, .ref q1, .ref q2, .ref q3, .int 0, .int 0, .long 0, .null, .null])), (q1, .inl (g.1, 54, .inl (fun _ => 0))), (q2, .inl (g.1, 6, .inl (fun _ => 0))), (q3, .inl (g.1, 6, .inl (fun _ => 0))), (q4, .inl (g.1, 3, .inl (fun _ => 0)))]) rfl ?_
  refine cx_putF C (by decide +kernel) (q := (RX2, TX2, 11)) rfl (k := 9) (by decide +kernel) rfl (by decide +kernel) (ty := (.array .int)) (by decide +kernel) rfl rfl 0 rfl (Nat.le_of_ble_eq_true rfl) (cx_d dk_26 17 rfl) ?_
  refine cx_w8 (ws' := [(h0, .inr (2, [.null, .null, .null, .ref q1, .ref q2, .ref q3, .int 0, .int 0, .long 0, .ref q4, .null])), (q1, .inl (g.1, 54, .inl (fun _ => 0))), (q2, .inl (g.1, 6, .inl (fun _ => 0))), (q3, .inl (g.1, 6, .inl (fun _ => 0))), (q4, .inl (g.1, 3, .inl (fun _ => 0)))]) rfl ?_
  refine cx_al C (cx_d dk_26 18 rfl) rfl (lv_at hl 0 rfl) ?_
  refine cx_ic (v := 3) C (cx_d dk_26 19 rfl) (by decide) ?_
  refine cx_newi (N := 3) C (cx_w 12 rfl) (by decide +kernel) (by decide +kernel) (by decide +kernel) (Nat.le_of_ble_eq_true rfl) (Nat.le_of_ble_eq_true rfl) (cx_d dk_26 20 rfl) (fun q5 => ?_)
  refine cx_w8 (ws' := [(h0, .inr (2, [.null, .null, .null, .ref q1, .ref q2, .ref q3, .int 0, .int 0, .long 0, .ref q4, .null])), (q1, .inl (g.1, 54, .inl (fun _ => 0))), (q2, .inl (g.1, 6, .inl (fun _ => 0))), (q3, .inl (g.1, 6, .inl (fun _ => 0))), (q4, .inl (g.1, 3, .inl (fun _ => 0))), (q5, .inl (g.1, 3, .inl (fun _ => 0)))]) rfl ?_
  refine cx_putF C (by decide +kernel) (q := (RX2, TX2, 11)) rfl (k := 10) (by decide +kernel) rfl (by decide +kernel) (ty := (.array .int)) (by decide +kernel) rfl rfl 0 rfl (Nat.le_of_ble_eq_true rfl) (cx_d dk_26 21 rfl) ?_
  refine cx_w8 (ws' := [(h0, .inr (2, [.null, .null, .null, .ref q1, .ref q2, .ref q3, .int 0, .int 0, .long 0, .ref q4, .ref q5])), (q1, .inl (g.1, 54, .inl (fun _ => 0))), (q2, .inl (g.1, 6, .inl (fun _ => 0))), (q3, .inl (g.1, 6, .inl (fun _ => 0))), (q4, .inl (g.1, 3, .inl (fun _ => 0))), (q5, .inl (g.1, 3, .inl (fun _ => 0)))]) rfl ?_
  refine cx_al C (cx_d dk_26 22 rfl) rfl (lv_at hl 0 rfl) ?_
  refine cx_al C (cx_d dk_26 23 rfl) rfl (lv_at hl 1 rfl) ?_
  refine cx_putF C (by decide +kernel) (q := (RX2, TX2, 11)) rfl (k := 0) (by decide +kernel) rfl (by decide +kernel) (ty := (.object "WindBoat$Log")) (by decide +kernel) rfl rfl 0 rfl (Nat.le_of_ble_eq_true rfl) (cx_d dk_26 24 rfl) ?_
  refine cx_w8 (ws' := [(h0, .inr (2, [.ref x1, .null, .null, .ref q1, .ref q2, .ref q3, .int 0, .int 0, .long 0, .ref q4, .ref q5])), (q1, .inl (g.1, 54, .inl (fun _ => 0))), (q2, .inl (g.1, 6, .inl (fun _ => 0))), (q3, .inl (g.1, 6, .inl (fun _ => 0))), (q4, .inl (g.1, 3, .inl (fun _ => 0))), (q5, .inl (g.1, 3, .inl (fun _ => 0)))]) rfl ?_
  refine cx_al C (cx_d dk_26 25 rfl) rfl (lv_at hl 0 rfl) ?_
  refine cx_al C (cx_d dk_26 26 rfl) rfl (lv_at hl 2 rfl) ?_
  refine cx_putF C (by decide +kernel) (q := (RX2, TX2, 11)) rfl (k := 1) (by decide +kernel) rfl (by decide +kernel) (ty := (.object "WindBoat$Chart")) (by decide +kernel) rfl rfl 0 rfl (Nat.le_of_ble_eq_true rfl) (cx_d dk_26 27 rfl) ?_
  refine cx_w8 (ws' := [(h0, .inr (2, [.ref x1, .ref x2, .null, .ref q1, .ref q2, .ref q3, .int 0, .int 0, .long 0, .ref q4, .ref q5])), (q1, .inl (g.1, 54, .inl (fun _ => 0))), (q2, .inl (g.1, 6, .inl (fun _ => 0))), (q3, .inl (g.1, 6, .inl (fun _ => 0))), (q4, .inl (g.1, 3, .inl (fun _ => 0))), (q5, .inl (g.1, 3, .inl (fun _ => 0)))]) rfl ?_
  refine cx_al C (cx_d dk_26 28 rfl) rfl (lv_at hl 0 rfl) ?_
  refine cx_al C (cx_d dk_26 29 rfl) rfl (lv_at hl 3 rfl) ?_
  refine cx_putF C (by decide +kernel) (q := (RX2, TX2, 11)) rfl (k := 2) (by decide +kernel) rfl (by decide +kernel) (ty := (.object "WindBoat$Ways")) (by decide +kernel) rfl rfl 0 rfl (Nat.le_of_ble_eq_true rfl) (cx_d dk_26 30 rfl) ?_
  refine cx_w8 (ws' := [(h0, .inr (2, [.ref x1, .ref x2, .ref x3, .ref q1, .ref q2, .ref q3, .int 0, .int 0, .long 0, .ref q4, .ref q5])), (q1, .inl (g.1, 54, .inl (fun _ => 0))), (q2, .inl (g.1, 6, .inl (fun _ => 0))), (q3, .inl (g.1, 6, .inl (fun _ => 0))), (q4, .inl (g.1, 3, .inl (fun _ => 0))), (q5, .inl (g.1, 3, .inl (fun _ => 0)))]) rfl ?_
  exact hret _ ⟨q1, q2, q3, q4, q5, rfl⟩ _ ls (cx_d dk_26 31 rfl)
set_option maxRecDepth 100000 in
theorem dk_37 : cx_dk 37 [(0, .aload_n 0, 1), (1, .invokespecial 1, 3), (4, .aload_n 0, 1), (5, .iconst 3, 1), (6, .newarray .long, 2), (8, .putfield 7, 3), (11, .aload_n 0, 1), (12, .aload_n 1, 1), (13, .putfield 13, 3), (16, .return_, 1)] = true := by decide +kernel
def P_37 (g : ClassId × ClassId × ClassId) (h0 x1 : Nat) (u : va_W) : Prop := ∃ (q1 : Nat), u = [(h0, .inr (3, [.ref x1, .ref q1, .int 0, .long 0])), (q1, .inl (g.2.2, 3, .inr (.inl (fun _ => 0))))]
set_option maxRecDepth 100000 in
set_option maxHeartbeats 4000000 in
theorem k_37 (D : va_G) (g : ClassId × ClassId × ClassId) (h0 x1 : Nat) : cx_Ok D g 37 1 1 3 [.ref h0, .ref x1] [(h0, .inr (3, [.null, .null, .int 0, .long 0]))] (P_37 g h0 x1) := by
  refine cx_enter (by decide +kernel) (by decide +kernel) (Nat.le_of_ble_eq_true rfl) (by decide +kernel) ?_
  intro l A p e s m below meth c Q E hn hN hret ls hl
  have C := E.c (meth := meth) (hn.trans (by decide +kernel))
  have hl : lv_has ls 2 [(0, .ref h0), (1, .ref x1)] := hl
  refine cx_al C (cx_d dk_37 0 rfl) rfl (lv_at hl 0 rfl) ?_
  refine cx_obj C (cx_w 39 rfl) hl.1 (cx_d dk_37 1 rfl) (Nat.le_of_ble_eq_true rfl) (Nat.le_of_ble_eq_true rfl) ?_
  refine cx_al C (cx_d dk_37 2 rfl) rfl (lv_at hl 0 rfl) ?_
  refine cx_ic (v := 3) C (cx_d dk_37 3 rfl) (by decide) ?_
  refine cx_newj (N := 3) C (cx_w 40 rfl) (by decide +kernel) (by decide +kernel) (by decide +kernel) (Nat.le_of_ble_eq_true rfl) (Nat.le_of_ble_eq_true rfl) (cx_d dk_37 4 rfl) (fun q1 => ?_)
  refine cx_w8 (ws' := [(h0, .inr (3, [.null, .null, .int 0, .long 0])), (q1, .inl (g.2.2, 3, .inr (.inl (fun _ => 0))))]) rfl ?_
  refine cx_putF C (by decide +kernel) (q := (RX3, TX3, 4)) rfl (k := 1) (by decide +kernel) rfl (by decide +kernel) (ty := (.array .long)) (by decide +kernel) rfl rfl 0 rfl (Nat.le_of_ble_eq_true rfl) (cx_d dk_37 5 rfl) ?_
  refine cx_w8 (ws' := [(h0, .inr (3, [.null, .ref q1, .int 0, .long 0])), (q1, .inl (g.2.2, 3, .inr (.inl (fun _ => 0))))]) rfl ?_
  refine cx_al C (cx_d dk_37 6 rfl) rfl (lv_at hl 0 rfl) ?_
  refine cx_al C (cx_d dk_37 7 rfl) rfl (lv_at hl 1 rfl) ?_
  refine cx_putF C (by decide +kernel) (q := (RX3, TX3, 4)) rfl (k := 0) (by decide +kernel) rfl (by decide +kernel) (ty := (.array .int)) (by decide +kernel) rfl rfl 0 rfl (Nat.le_of_ble_eq_true rfl) (cx_d dk_37 8 rfl) ?_
  refine cx_w8 (ws' := [(h0, .inr (3, [.ref x1, .ref q1, .int 0, .long 0])), (q1, .inl (g.2.2, 3, .inr (.inl (fun _ => 0))))]) rfl ?_
  exact hret _ ⟨q1, rfl⟩ _ ls (cx_d dk_37 9 rfl)
set_option maxRecDepth 100000 in
theorem dk_54 : cx_dk 54 [(0, .aload_n 0, 1), (1, .invokespecial 3, 3), (4, .aload_n 0, 1), (5, .sipush 968, 3), (8, .newarray .int, 2), (10, .putfield 11, 3), (13, .aload_n 0, 1), (14, .bipush 8, 2), (16, .newarray .int, 2), (18, .putfield 15, 3), (21, .aload_n 0, 1), (22, .bipush 8, 2), (24, .newarray .int, 2), (26, .putfield 18, 3), (29, .aload_n 0, 1), (30, .aload_n 1, 1), (31, .putfield 21, 3), (34, .aload_n 0, 1), (35, .aload_n 2, 1), (36, .putfield 25, 3), (39, .aload_n 0, 1), (40, .aload_n 3, 1), (41, .putfield 29, 3), (44, .return_, 1)] = true := by decide +kernel
def P_54 (g : ClassId × ClassId × ClassId) (h0 x1 x2 x3 : Nat) (u : va_W) : Prop := ∃ (q1 : Nat) (q2 : Nat) (q3 : Nat), u = [(h0, .inr (5, [.ref x1, .ref x2, .ref x3, .ref q1, .ref q2, .ref q3])), (q1, .inl (g.1, 968, .inl (fun _ => 0))), (q2, .inl (g.1, 8, .inl (fun _ => 0))), (q3, .inl (g.1, 8, .inl (fun _ => 0)))]
set_option maxRecDepth 100000 in
set_option maxHeartbeats 4000000 in
theorem k_54 (D : va_G) (g : ClassId × ClassId × ClassId) (h0 x1 x2 x3 : Nat) : cx_Ok D g 54 1 3 984 [.ref h0, .ref x1, .ref x2, .ref x3] [(h0, .inr (5, [.null, .null, .null, .null, .null, .null]))] (P_54 g h0 x1 x2 x3) := by
  refine cx_enter (by decide +kernel) (by decide +kernel) (Nat.le_of_ble_eq_true rfl) (by decide +kernel) ?_
  intro l A p e s m below meth c Q E hn hN hret ls hl
  have C := E.c (meth := meth) (hn.trans (by decide +kernel))
  have hl : lv_has ls 4 [(0, .ref h0), (1, .ref x1), (2, .ref x2), (3, .ref x3)] := hl
  refine cx_al C (cx_d dk_54 0 rfl) rfl (lv_at hl 0 rfl) ?_
  refine cx_obj C (cx_w 36 rfl) hl.1 (cx_d dk_54 1 rfl) (Nat.le_of_ble_eq_true rfl) (Nat.le_of_ble_eq_true rfl) ?_
  refine cx_al C (cx_d dk_54 2 rfl) rfl (lv_at hl 0 rfl) ?_
  refine cx_sp (v := 968) C (cx_d dk_54 3 rfl) (by decide) ?_
  refine cx_newi (N := 968) C (cx_w 12 rfl) (by decide +kernel) (by decide +kernel) (by decide +kernel) (Nat.le_of_ble_eq_true rfl) (Nat.le_of_ble_eq_true rfl) (cx_d dk_54 4 rfl) (fun q1 => ?_)
  refine cx_w8 (ws' := [(h0, .inr (5, [.null, .null, .null, .null, .null, .null])), (q1, .inl (g.1, 968, .inl (fun _ => 0)))]) rfl ?_
  refine cx_putF C (by decide +kernel) (q := (RX5, TX5, 6)) rfl (k := 3) (by decide +kernel) rfl (by decide +kernel) (ty := (.array .int)) (by decide +kernel) rfl rfl 0 rfl (Nat.le_of_ble_eq_true rfl) (cx_d dk_54 5 rfl) ?_
  refine cx_w8 (ws' := [(h0, .inr (5, [.null, .null, .null, .ref q1, .null, .null])), (q1, .inl (g.1, 968, .inl (fun _ => 0)))]) rfl ?_
  refine cx_al C (cx_d dk_54 6 rfl) rfl (lv_at hl 0 rfl) ?_
  refine cx_bp (v := 8) C (cx_d dk_54 7 rfl) (by decide) ?_
  refine cx_newi (N := 8) C (cx_w 12 rfl) (by decide +kernel) (by decide +kernel) (by decide +kernel) (Nat.le_of_ble_eq_true rfl) (Nat.le_of_ble_eq_true rfl) (cx_d dk_54 8 rfl) (fun q2 => ?_)
  refine cx_w8 (ws' := [(h0, .inr (5, [.null, .null, .null, .ref q1, .null, .null])), (q1, .inl (g.1, 968, .inl (fun _ => 0))), (q2, .inl (g.1, 8, .inl (fun _ => 0)))]) rfl ?_
  refine cx_putF C (by decide +kernel) (q := (RX5, TX5, 6)) rfl (k := 4) (by decide +kernel) rfl (by decide +kernel) (ty := (.array .int)) (by decide +kernel) rfl rfl 0 rfl (Nat.le_of_ble_eq_true rfl) (cx_d dk_54 9 rfl) ?_
  refine cx_w8 (ws' := [(h0, .inr (5, [.null, .null, .null, .ref q1, .ref q2, .null])), (q1, .inl (g.1, 968, .inl (fun _ => 0))), (q2, .inl (g.1, 8, .inl (fun _ => 0)))]) rfl ?_
  refine cx_al C (cx_d dk_54 10 rfl) rfl (lv_at hl 0 rfl) ?_
  refine cx_bp (v := 8) C (cx_d dk_54 11 rfl) (by decide) ?_
  refine cx_newi (N := 8) C (cx_w 12 rfl) (by decide +kernel) (by decide +kernel) (by decide +kernel) (Nat.le_of_ble_eq_true rfl) (Nat.le_of_ble_eq_true rfl) (cx_d dk_54 12 rfl) (fun q3 => ?_)
  refine cx_w8 (ws' := [(h0, .inr (5, [.null, .null, .null, .ref q1, .ref q2, .null])), (q1, .inl (g.1, 968, .inl (fun _ => 0))), (q2, .inl (g.1, 8, .inl (fun _ => 0))), (q3, .inl (g.1, 8, .inl (fun _ => 0)))]) rfl ?_
  refine cx_putF C (by decide +kernel) (q := (RX5, TX5, 6)) rfl (k := 5) (by decide +kernel) rfl (by decide +kernel) (ty := (.array .int)) (by decide +kernel) rfl rfl 0 rfl (Nat.le_of_ble_eq_true rfl) (cx_d dk_54 13 rfl) ?_
  refine cx_w8 (ws' := [(h0, .inr (5, [.null, .null, .null, .ref q1, .ref q2, .ref q3])), (q1, .inl (g.1, 968, .inl (fun _ => 0))), (q2, .inl (g.1, 8, .inl (fun _ => 0))), (q3, .inl (g.1, 8, .inl (fun _ => 0)))]) rfl ?_
  refine cx_al C (cx_d dk_54 14 rfl) rfl (lv_at hl 0 rfl) ?_
  refine cx_al C (cx_d dk_54 15 rfl) rfl (lv_at hl 1 rfl) ?_
  refine cx_putF C (by decide +kernel) (q := (RX5, TX5, 6)) rfl (k := 0) (by decide +kernel) rfl (by decide +kernel) (ty := (.object "WindBoat$Log")) (by decide +kernel) rfl rfl 0 rfl (Nat.le_of_ble_eq_true rfl) (cx_d dk_54 16 rfl) ?_
  refine cx_w8 (ws' := [(h0, .inr (5, [.ref x1, .null, .null, .ref q1, .ref q2, .ref q3])), (q1, .inl (g.1, 968, .inl (fun _ => 0))), (q2, .inl (g.1, 8, .inl (fun _ => 0))), (q3, .inl (g.1, 8, .inl (fun _ => 0)))]) rfl ?_
  refine cx_al C (cx_d dk_54 17 rfl) rfl (lv_at hl 0 rfl) ?_
  refine cx_al C (cx_d dk_54 18 rfl) rfl (lv_at hl 2 rfl) ?_
  refine cx_putF C (by decide +kernel) (q := (RX5, TX5, 6)) rfl (k := 1) (by decide +kernel) rfl (by decide +kernel) (ty := (.object "WindBoat$Chart")) (by decide +kernel) rfl rfl 0 rfl (Nat.le_of_ble_eq_true rfl) (cx_d dk_54 19 rfl) ?_
  refine cx_w8 (ws' := [(h0, .inr (5, [.ref x1, .ref x2, .null, .ref q1, .ref q2, .ref q3])), (q1, .inl (g.1, 968, .inl (fun _ => 0))), (q2, .inl (g.1, 8, .inl (fun _ => 0))), (q3, .inl (g.1, 8, .inl (fun _ => 0)))]) rfl ?_
  refine cx_al C (cx_d dk_54 20 rfl) rfl (lv_at hl 0 rfl) ?_
  refine cx_al C (cx_d dk_54 21 rfl) rfl (lv_at hl 3 rfl) ?_
  refine cx_putF C (by decide +kernel) (q := (RX5, TX5, 6)) rfl (k := 2) (by decide +kernel) rfl (by decide +kernel) (ty := (.object "WindBoat$Ways")) (by decide +kernel) rfl rfl 0 rfl (Nat.le_of_ble_eq_true rfl) (cx_d dk_54 22 rfl) ?_
  refine cx_w8 (ws' := [(h0, .inr (5, [.ref x1, .ref x2, .ref x3, .ref q1, .ref q2, .ref q3])), (q1, .inl (g.1, 968, .inl (fun _ => 0))), (q2, .inl (g.1, 8, .inl (fun _ => 0))), (q3, .inl (g.1, 8, .inl (fun _ => 0)))]) rfl ?_
  exact hret _ ⟨q1, q2, q3, rfl⟩ _ ls (cx_d dk_54 23 rfl)
set_option maxRecDepth 100000 in
theorem dk_59 : cx_dk 59 [(0, .aload_n 0, 1), (1, .invokespecial 5, 3), (4, .aload_n 0, 1), (5, .bipush 12, 2), (7, .newarray .int, 2), (9, .putfield 11, 3), (12, .aload_n 0, 1), (13, .bipush 12, 2), (15, .newarray .int, 2), (17, .putfield 17, 3), (20, .aload_n 0, 1), (21, .bipush 12, 2), (23, .newarray .int, 2), (25, .putfield 20, 3), (28, .aload_n 0, 1), (29, .bipush 12, 2), (31, .newarray .int, 2), (33, .putfield 23, 3), (36, .aload_n 0, 1), (37, .bipush 12, 2), (39, .newarray .int, 2), (41, .putfield 26, 3), (44, .aload_n 0, 1), (45, .sipush 1440, 3), (48, .newarray .int, 2), (50, .putfield 29, 3), (53, .aload_n 0, 1), (54, .bipush 6, 2), (56, .newarray .int, 2), (58, .putfield 32, 3), (61, .aload_n 0, 1), (62, .bipush 120, 2), (64, .newarray .int, 2), (66, .putfield 35, 3), (69, .return_, 1)] = true := by decide +kernel
def P_59 (g : ClassId × ClassId × ClassId) (h0 : Nat) (u : va_W) : Prop := ∃ (q1 : Nat) (q2 : Nat) (q3 : Nat) (q4 : Nat) (q5 : Nat) (q6 : Nat) (q7 : Nat) (q8 : Nat), u = [(h0, .inr (6, [.ref q1, .ref q2, .ref q3, .ref q4, .ref q5, .ref q6, .int 0, .ref q7, .ref q8])), (q1, .inl (g.1, 12, .inl (fun _ => 0))), (q2, .inl (g.1, 12, .inl (fun _ => 0))), (q3, .inl (g.1, 12, .inl (fun _ => 0))), (q4, .inl (g.1, 12, .inl (fun _ => 0))), (q5, .inl (g.1, 12, .inl (fun _ => 0))), (q6, .inl (g.1, 1440, .inl (fun _ => 0))), (q7, .inl (g.1, 6, .inl (fun _ => 0))), (q8, .inl (g.1, 120, .inl (fun _ => 0)))]
set_option maxRecDepth 100000 in
set_option maxHeartbeats 4000000 in
theorem k_59 (D : va_G) (g : ClassId × ClassId × ClassId) (h0 : Nat) : cx_Ok D g 59 1 8 1626 [.ref h0] [(h0, .inr (6, [.null, .null, .null, .null, .null, .null, .int 0, .null, .null]))] (P_59 g h0) := by
  refine cx_enter (by decide +kernel) (by decide +kernel) (Nat.le_of_ble_eq_true rfl) (by decide +kernel) ?_
  intro l A p e s m below meth c Q E hn hN hret ls hl
  have C := E.c (meth := meth) (hn.trans (by decide +kernel))
  have hl : lv_has ls 1 [(0, .ref h0)] := hl
  refine cx_al C (cx_d dk_59 0 rfl) rfl (lv_at hl 0 rfl) ?_
  refine cx_obj C (cx_w 21 rfl) hl.1 (cx_d dk_59 1 rfl) (Nat.le_of_ble_eq_true rfl) (Nat.le_of_ble_eq_true rfl) ?_
  refine cx_al C (cx_d dk_59 2 rfl) rfl (lv_at hl 0 rfl) ?_
  refine cx_bp (v := 12) C (cx_d dk_59 3 rfl) (by decide) ?_
  refine cx_newi (N := 12) C (cx_w 12 rfl) (by decide +kernel) (by decide +kernel) (by decide +kernel) (Nat.le_of_ble_eq_true rfl) (Nat.le_of_ble_eq_true rfl) (cx_d dk_59 4 rfl) (fun q1 => ?_)
  refine cx_w8 (ws' := [(h0, .inr (6, [.null, .null, .null, .null, .null, .null, .int 0, .null, .null])), (q1, .inl (g.1, 12, .inl (fun _ => 0)))]) rfl ?_
  refine cx_putF C (by decide +kernel) (q := (RX6, TX6, 9)) rfl (k := 0) (by decide +kernel) rfl (by decide +kernel) (ty := (.array .int)) (by decide +kernel) rfl rfl 0 rfl (Nat.le_of_ble_eq_true rfl) (cx_d dk_59 5 rfl) ?_
  refine cx_w8 (ws' := [(h0, .inr (6, [.ref q1, .null, .null, .null, .null, .null, .int 0, .null, .null])), (q1, .inl (g.1, 12, .inl (fun _ => 0)))]) rfl ?_
  refine cx_al C (cx_d dk_59 6 rfl) rfl (lv_at hl 0 rfl) ?_
  refine cx_bp (v := 12) C (cx_d dk_59 7 rfl) (by decide) ?_
  refine cx_newi (N := 12) C (cx_w 12 rfl) (by decide +kernel) (by decide +kernel) (by decide +kernel) (Nat.le_of_ble_eq_true rfl) (Nat.le_of_ble_eq_true rfl) (cx_d dk_59 8 rfl) (fun q2 => ?_)
  refine cx_w8 (ws' := [(h0, .inr (6, [.ref q1, .null, .null, .null, .null, .null, .int 0, .null, .null])), (q1, .inl (g.1, 12, .inl (fun _ => 0))), (q2, .inl (g.1, 12, .inl (fun _ => 0)))]) rfl ?_
  refine cx_putF C (by decide +kernel) (q := (RX6, TX6, 9)) rfl (k := 1) (by decide +kernel) rfl (by decide +kernel) (ty := (.array .int)) (by decide +kernel) rfl rfl 0 rfl (Nat.le_of_ble_eq_true rfl) (cx_d dk_59 9 rfl) ?_
  refine cx_w8 (ws' := [(h0, .inr (6, [.ref q1, .ref q2, .null, .null, .null, .null, .int 0, .null, .null])), (q1, .inl (g.1, 12, .inl (fun _ => 0))), (q2, .inl (g.1, 12, .inl (fun _ => 0)))]) rfl ?_
  refine cx_al C (cx_d dk_59 10 rfl) rfl (lv_at hl 0 rfl) ?_
  refine cx_bp (v := 12) C (cx_d dk_59 11 rfl) (by decide) ?_
  refine cx_newi (N := 12) C (cx_w 12 rfl) (by decide +kernel) (by decide +kernel) (by decide +kernel) (Nat.le_of_ble_eq_true rfl) (Nat.le_of_ble_eq_true rfl) (cx_d dk_59 12 rfl) (fun q3 => ?_)
  refine cx_w8 (ws' := [(h0, .inr (6, [.ref q1, .ref q2, .null, .null, .null, .null, .int 0, .null, .null])), (q1, .inl (g.1, 12, .inl (fun _ => 0))), (q2, .inl (g.1, 12, .inl (fun _ => 0))), (q3, .inl (g.1, 12, .inl (fun _ => 0)))]) rfl ?_
  refine cx_putF C (by decide +kernel) (q := (RX6, TX6, 9)) rfl (k := 2) (by decide +kernel) rfl (by decide +kernel) (ty := (.array .int)) (by decide +kernel) rfl rfl 0 rfl (Nat.le_of_ble_eq_true rfl) (cx_d dk_59 13 rfl) ?_
  refine cx_w8 (ws' := [(h0, .inr (6, [.ref q1, .ref q2, .ref q3, .null, .null, .null, .int 0, .null, .null])), (q1, .inl (g.1, 12, .inl (fun _ => 0))), (q2, .inl (g.1, 12, .inl (fun _ => 0))), (q3, .inl (g.1, 12, .inl (fun _ => 0)))]) rfl ?_
  refine cx_al C (cx_d dk_59 14 rfl) rfl (lv_at hl 0 rfl) ?_
  refine cx_bp (v := 12) C (cx_d dk_59 15 rfl) (by decide) ?_
  refine cx_newi (N := 12) C (cx_w 12 rfl) (by decide +kernel) (by decide +kernel) (by decide +kernel) (Nat.le_of_ble_eq_true rfl) (Nat.le_of_ble_eq_true rfl) (cx_d dk_59 16 rfl) (fun q4 => ?_)
  refine cx_w8 (ws' := [(h0, .inr (6, [.ref q1, .ref q2, .ref q3, .null, .null, .null, .int 0, .null, .null])), (q1, .inl (g.1, 12, .inl (fun _ => 0))), (q2, .inl (g.1, 12, .inl (fun _ => 0))), (q3, .inl (g.1, 12, .inl (fun _ => 0))), (q4, .inl (g.1, 12, .inl (fun _ => 0)))]) rfl ?_
  refine cx_putF C (by decide +kernel) (q := (RX6, TX6, 9)) rfl (k := 3) (by decide +kernel) rfl (by decide +kernel) (ty := (.array .int)) (by decide +kernel) rfl rfl 0 rfl (Nat.le_of_ble_eq_true rfl) (cx_d dk_59 17 rfl) ?_
  refine cx_w8 (ws' := [(h0, .inr (6, [.ref q1, .ref q2, .ref q3, .ref q4, .null, .null, .int 0, .null, .null])), (q1, .inl (g.1, 12, .inl (fun _ => 0))), (q2, .inl (g.1, 12, .inl (fun _ => 0))), (q3, .inl (g.1, 12, .inl (fun _ => 0))), (q4, .inl (g.1, 12, .inl (fun _ => 0)))]) rfl ?_
  refine cx_al C (cx_d dk_59 18 rfl) rfl (lv_at hl 0 rfl) ?_
  refine cx_bp (v := 12) C (cx_d dk_59 19 rfl) (by decide) ?_
  refine cx_newi (N := 12) C (cx_w 12 rfl) (by decide +kernel) (by decide +kernel) (by decide +kernel) (Nat.le_of_ble_eq_true rfl) (Nat.le_of_ble_eq_true rfl) (cx_d dk_59 20 rfl) (fun q5 => ?_)
  refine cx_w8 (ws' := [(h0, .inr (6, [.ref q1, .ref q2, .ref q3, .ref q4, .null, .null, .int 0, .null, .null])), (q1, .inl (g.1, 12, .inl (fun _ => 0))), (q2, .inl (g.1, 12, .inl (fun _ => 0))), (q3, .inl (g.1, 12, .inl (fun _ => 0))), (q4, .inl (g.1, 12, .inl (fun _ => 0))), (q5, .inl (g.1, 12, .inl (fun _ => 0)))]) rfl ?_
  refine cx_putF C (by decide +kernel) (q := (RX6, TX6, 9)) rfl (k := 4) (by decide +kernel) rfl (by decide +kernel) (ty := (.array .int)) (by decide +kernel) rfl rfl 0 rfl (Nat.le_of_ble_eq_true rfl) (cx_d dk_59 21 rfl) ?_
  refine cx_w8 (ws' := [(h0, .inr (6, [.ref q1, .ref q2, .ref q3, .ref q4, .ref q5, .null, .int 0, .null, .null])), (q1, .inl (g.1, 12, .inl (fun _ => 0))), (q2, .inl (g.1, 12, .inl (fun _ => 0))), (q3, .inl (g.1, 12, .inl (fun _ => 0))), (q4, .inl (g.1, 12, .inl (fun _ => 0))), (q5, .inl (g.1, 12, .inl (fun _ => 0)))]) rfl ?_
  refine cx_al C (cx_d dk_59 22 rfl) rfl (lv_at hl 0 rfl) ?_
  refine cx_sp (v := 1440) C (cx_d dk_59 23 rfl) (by decide) ?_
  refine cx_newi (N := 1440) C (cx_w 12 rfl) (by decide +kernel) (by decide +kernel) (by decide +kernel) (Nat.le_of_ble_eq_true rfl) (Nat.le_of_ble_eq_true rfl) (cx_d dk_59 24 rfl) (fun q6 => ?_)
  refine cx_w8 (ws' := [(h0, .inr (6, [.ref q1, .ref q2, .ref q3, .ref q4, .ref q5, .null, .int 0, .null, .null])), (q1, .inl (g.1, 12, .inl (fun _ => 0))), (q2, .inl (g.1, 12, .inl (fun _ => 0))), (q3, .inl (g.1, 12, .inl (fun _ => 0))), (q4, .inl (g.1, 12, .inl (fun _ => 0))), (q5, .inl (g.1, 12, .inl (fun _ => 0))), (q6, .inl (g.1, 1440, .inl (fun _ => 0)))]) rfl ?_
  refine cx_putF C (by decide +kernel) (q := (RX6, TX6, 9)) rfl (k := 5) (by decide +kernel) rfl (by decide +kernel) (ty := (.array .int)) (by decide +kernel) rfl rfl 0 rfl (Nat.le_of_ble_eq_true rfl) (cx_d dk_59 25 rfl) ?_
  refine cx_w8 (ws' := [(h0, .inr (6, [.ref q1, .ref q2, .ref q3, .ref q4, .ref q5, .ref q6, .int 0, .null, .null])), (q1, .inl (g.1, 12, .inl (fun _ => 0))), (q2, .inl (g.1, 12, .inl (fun _ => 0))), (q3, .inl (g.1, 12, .inl (fun _ => 0))), (q4, .inl (g.1, 12, .inl (fun _ => 0))), (q5, .inl (g.1, 12, .inl (fun _ => 0))), (q6, .inl (g.1, 1440, .inl (fun _ => 0)))]) rfl ?_
  refine cx_al C (cx_d dk_59 26 rfl) rfl (lv_at hl 0 rfl) ?_
  refine cx_bp (v := 6) C (cx_d dk_59 27 rfl) (by decide) ?_
  refine cx_newi (N := 6) C (cx_w 12 rfl) (by decide +kernel) (by decide +kernel) (by decide +kernel) (Nat.le_of_ble_eq_true rfl) (Nat.le_of_ble_eq_true rfl) (cx_d dk_59 28 rfl) (fun q7 => ?_)
  refine cx_w8 (ws' := [(h0, .inr (6, [.ref q1, .ref q2, .ref q3, .ref q4, .ref q5, .ref q6, .int 0, .null, .null])), (q1, .inl (g.1, 12, .inl (fun _ => 0))), (q2, .inl (g.1, 12, .inl (fun _ => 0))), (q3, .inl (g.1, 12, .inl (fun _ => 0))), (q4, .inl (g.1, 12, .inl (fun _ => 0))), (q5, .inl (g.1, 12, .inl (fun _ => 0))), (q6, .inl (g.1, 1440, .inl (fun _ => 0))), (q7, .inl (g.1, 6, .inl (fun _ => 0)))]) rfl ?_
  refine cx_putF C (by decide +kernel) (q := (RX6, TX6, 9)) rfl (k := 7) (by decide +kernel) rfl (by decide +kernel) (ty := (.array .int)) (by decide +kernel) rfl rfl 0 rfl (Nat.le_of_ble_eq_true rfl) (cx_d dk_59 29 rfl) ?_
  refine cx_w8 (ws' := [(h0, .inr (6, [.ref q1, .ref q2, .ref q3, .ref q4, .ref q5, .ref q6, .int 0, .ref q7, .null])), (q1, .inl (g.1, 12, .inl (fun _ => 0))), (q2, .inl (g.1, 12, .inl (fun _ => 0))), (q3, .inl (g.1, 12, .inl (fun _ => 0))), (q4, .inl (g.1, 12, .inl (fun _ => 0))), (q5, .inl (g.1, 12, .inl (fun _ => 0))), (q6, .inl (g.1, 1440, .inl (fun _ => 0))), (q7, .inl (g.1, 6, .inl (fun _ => 0)))]) rfl ?_
  refine cx_al C (cx_d dk_59 30 rfl) rfl (lv_at hl 0 rfl) ?_
  refine cx_bp (v := 120) C (cx_d dk_59 31 rfl) (by decide) ?_
  refine cx_newi (N := 120) C (cx_w 12 rfl) (by decide +kernel) (by decide +kernel) (by decide +kernel) (Nat.le_of_ble_eq_true rfl) (Nat.le_of_ble_eq_true rfl) (cx_d dk_59 32 rfl) (fun q8 => ?_)
  refine cx_w8 (ws' := [(h0, .inr (6, [.ref q1, .ref q2, .ref q3, .ref q4, .ref q5, .ref q6, .int 0, .ref q7, .null])), (q1, .inl (g.1, 12, .inl (fun _ => 0))), (q2, .inl (g.1, 12, .inl (fun _ => 0))), (q3, .inl (g.1, 12, .inl (fun _ => 0))), (q4, .inl (g.1, 12, .inl (fun _ => 0))), (q5, .inl (g.1, 12, .inl (fun _ => 0))), (q6, .inl (g.1, 1440, .inl (fun _ => 0))), (q7, .inl (g.1, 6, .inl (fun _ => 0))), (q8, .inl (g.1, 120, .inl (fun _ => 0)))]) rfl ?_
  refine cx_putF C (by decide +kernel) (q := (RX6, TX6, 9)) rfl (k := 8) (by decide +kernel) rfl (by decide +kernel) (ty := (.array .int)) (by decide +kernel) rfl rfl 0 rfl (Nat.le_of_ble_eq_true rfl) (cx_d dk_59 33 rfl) ?_
  refine cx_w8 (ws' := [(h0, .inr (6, [.ref q1, .ref q2, .ref q3, .ref q4, .ref q5, .ref q6, .int 0, .ref q7, .ref q8])), (q1, .inl (g.1, 12, .inl (fun _ => 0))), (q2, .inl (g.1, 12, .inl (fun _ => 0))), (q3, .inl (g.1, 12, .inl (fun _ => 0))), (q4, .inl (g.1, 12, .inl (fun _ => 0))), (q5, .inl (g.1, 12, .inl (fun _ => 0))), (q6, .inl (g.1, 1440, .inl (fun _ => 0))), (q7, .inl (g.1, 6, .inl (fun _ => 0))), (q8, .inl (g.1, 120, .inl (fun _ => 0)))]) rfl ?_
  exact hret _ ⟨q1, q2, q3, q4, q5, q6, q7, q8, rfl⟩ _ ls (cx_d dk_59 34 rfl)
set_option maxRecDepth 100000 in
theorem dk_67 : cx_dk 67 [(0, .aload_n 0, 1), (1, .invokespecial 3, 3), (4, .aload_n 0, 1), (5, .bipush 36, 2), (7, .newarray .boolean, 2), (9, .putfield 9, 3), (12, .aload_n 0, 1), (13, .bipush 36, 2), (15, .newarray .int, 2), (17, .putfield 15, 3), (20, .aload_n 0, 1), (21, .bipush 84, 2), (23, .newarray .int, 2), (25, .putfield 19, 3), (28, .aload_n 0, 1), (29, .bipush 84, 2), (31, .newarray .int, 2), (33, .putfield 22, 3), (36, .aload_n 0, 1), (37, .bipush 35, 2), (39, .putfield 25, 3), (42, .aload_n 0, 1), (43, .getfield 22, 3), (46, .iconst (-1), 1), (47, .invokestatic 29, 3), (50, .return_, 1)] = true := by decide +kernel
def P_67 (g : ClassId × ClassId × ClassId) (h0 : Nat) (u : va_W) : Prop := ∃ (q1 : Nat) (q2 : Nat) (q3 : Nat) (q4 : Nat) (f5 : Nat → Int32), (∀ j, j < 84 → f5 j = (-1)) ∧ u = [(h0, .inr (7, [.ref q1, .ref q2, .ref q3, .ref q4, .int 35])), (q1, .inl (g.2.1, 36, .inl (fun _ => 0))), (q2, .inl (g.1, 36, .inl (fun _ => 0))), (q3, .inl (g.1, 84, .inl (fun _ => 0))), (q4, .inl (g.1, 84, .inl f5))]
set_option maxRecDepth 100000 in
set_option maxHeartbeats 4000000 in
theorem k_67 (D : va_G) (g : ClassId × ClassId × ClassId) (h0 : Nat) : cx_Ok D g 67 1 4 240 [.ref h0] [(h0, .inr (7, [.null, .null, .null, .null, .int 0]))] (P_67 g h0) := by
  refine cx_enter (by decide +kernel) (by decide +kernel) (Nat.le_of_ble_eq_true rfl) (by decide +kernel) ?_
  intro l A p e s m below meth c Q E hn hN hret ls hl
  have C := E.c (meth := meth) (hn.trans (by decide +kernel))
  have hl : lv_has ls 1 [(0, .ref h0)] := hl
  refine cx_al C (cx_d dk_67 0 rfl) rfl (lv_at hl 0 rfl) ?_
  refine cx_obj C (cx_w 10 rfl) hl.1 (cx_d dk_67 1 rfl) (Nat.le_of_ble_eq_true rfl) (Nat.le_of_ble_eq_true rfl) ?_
  refine cx_al C (cx_d dk_67 2 rfl) rfl (lv_at hl 0 rfl) ?_
  refine cx_bp (v := 36) C (cx_d dk_67 3 rfl) (by decide) ?_
  refine cx_newz (N := 36) C (cx_w 11 rfl) (by decide +kernel) (by decide +kernel) (by decide +kernel) (Nat.le_of_ble_eq_true rfl) (Nat.le_of_ble_eq_true rfl) (cx_d dk_67 4 rfl) (fun q1 => ?_)
  refine cx_w8 (ws' := [(h0, .inr (7, [.null, .null, .null, .null, .int 0])), (q1, .inl (g.2.1, 36, .inl (fun _ => 0)))]) rfl ?_
  refine cx_putF C (by decide +kernel) (q := (RX7, TX7, 5)) rfl (k := 0) (by decide +kernel) rfl (by decide +kernel) (ty := (.array .boolean)) (by decide +kernel) rfl rfl 0 rfl (Nat.le_of_ble_eq_true rfl) (cx_d dk_67 5 rfl) ?_
  refine cx_w8 (ws' := [(h0, .inr (7, [.ref q1, .null, .null, .null, .int 0])), (q1, .inl (g.2.1, 36, .inl (fun _ => 0)))]) rfl ?_
  refine cx_al C (cx_d dk_67 6 rfl) rfl (lv_at hl 0 rfl) ?_
  refine cx_bp (v := 36) C (cx_d dk_67 7 rfl) (by decide) ?_
  refine cx_newi (N := 36) C (cx_w 12 rfl) (by decide +kernel) (by decide +kernel) (by decide +kernel) (Nat.le_of_ble_eq_true rfl) (Nat.le_of_ble_eq_true rfl) (cx_d dk_67 8 rfl) (fun q2 => ?_)
  refine cx_w8 (ws' := [(h0, .inr (7, [.ref q1, .null, .null, .null, .int 0])), (q1, .inl (g.2.1, 36, .inl (fun _ => 0))), (q2, .inl (g.1, 36, .inl (fun _ => 0)))]) rfl ?_
  refine cx_putF C (by decide +kernel) (q := (RX7, TX7, 5)) rfl (k := 1) (by decide +kernel) rfl (by decide +kernel) (ty := (.array .int)) (by decide +kernel) rfl rfl 0 rfl (Nat.le_of_ble_eq_true rfl) (cx_d dk_67 9 rfl) ?_
  refine cx_w8 (ws' := [(h0, .inr (7, [.ref q1, .ref q2, .null, .null, .int 0])), (q1, .inl (g.2.1, 36, .inl (fun _ => 0))), (q2, .inl (g.1, 36, .inl (fun _ => 0)))]) rfl ?_
  refine cx_al C (cx_d dk_67 10 rfl) rfl (lv_at hl 0 rfl) ?_
  refine cx_bp (v := 84) C (cx_d dk_67 11 rfl) (by decide) ?_
  refine cx_newi (N := 84) C (cx_w 12 rfl) (by decide +kernel) (by decide +kernel) (by decide +kernel) (Nat.le_of_ble_eq_true rfl) (Nat.le_of_ble_eq_true rfl) (cx_d dk_67 12 rfl) (fun q3 => ?_)
  refine cx_w8 (ws' := [(h0, .inr (7, [.ref q1, .ref q2, .null, .null, .int 0])), (q1, .inl (g.2.1, 36, .inl (fun _ => 0))), (q2, .inl (g.1, 36, .inl (fun _ => 0))), (q3, .inl (g.1, 84, .inl (fun _ => 0)))]) rfl ?_
  refine cx_putF C (by decide +kernel) (q := (RX7, TX7, 5)) rfl (k := 2) (by decide +kernel) rfl (by decide +kernel) (ty := (.array .int)) (by decide +kernel) rfl rfl 0 rfl (Nat.le_of_ble_eq_true rfl) (cx_d dk_67 13 rfl) ?_
  refine cx_w8 (ws' := [(h0, .inr (7, [.ref q1, .ref q2, .ref q3, .null, .int 0])), (q1, .inl (g.2.1, 36, .inl (fun _ => 0))), (q2, .inl (g.1, 36, .inl (fun _ => 0))), (q3, .inl (g.1, 84, .inl (fun _ => 0)))]) rfl ?_
  refine cx_al C (cx_d dk_67 14 rfl) rfl (lv_at hl 0 rfl) ?_
  refine cx_bp (v := 84) C (cx_d dk_67 15 rfl) (by decide) ?_
  refine cx_newi (N := 84) C (cx_w 12 rfl) (by decide +kernel) (by decide +kernel) (by decide +kernel) (Nat.le_of_ble_eq_true rfl) (Nat.le_of_ble_eq_true rfl) (cx_d dk_67 16 rfl) (fun q4 => ?_)
  refine cx_w8 (ws' := [(h0, .inr (7, [.ref q1, .ref q2, .ref q3, .null, .int 0])), (q1, .inl (g.2.1, 36, .inl (fun _ => 0))), (q2, .inl (g.1, 36, .inl (fun _ => 0))), (q3, .inl (g.1, 84, .inl (fun _ => 0))), (q4, .inl (g.1, 84, .inl (fun _ => 0)))]) rfl ?_
  refine cx_putF C (by decide +kernel) (q := (RX7, TX7, 5)) rfl (k := 3) (by decide +kernel) rfl (by decide +kernel) (ty := (.array .int)) (by decide +kernel) rfl rfl 0 rfl (Nat.le_of_ble_eq_true rfl) (cx_d dk_67 17 rfl) ?_
  refine cx_w8 (ws' := [(h0, .inr (7, [.ref q1, .ref q2, .ref q3, .ref q4, .int 0])), (q1, .inl (g.2.1, 36, .inl (fun _ => 0))), (q2, .inl (g.1, 36, .inl (fun _ => 0))), (q3, .inl (g.1, 84, .inl (fun _ => 0))), (q4, .inl (g.1, 84, .inl (fun _ => 0)))]) rfl ?_
  refine cx_al C (cx_d dk_67 18 rfl) rfl (lv_at hl 0 rfl) ?_
  refine cx_bp (v := 35) C (cx_d dk_67 19 rfl) (by decide) ?_
  refine cx_put C (by decide +kernel) (q := (RX7, TX7, 5)) rfl (k := 4) (by decide +kernel) rfl (ty := .int) (by decide +kernel) rfl rfl 0 rfl (Nat.le_of_ble_eq_true rfl) (cx_d dk_67 20 rfl) ?_
  refine cx_w8 (ws' := [(h0, .inr (7, [.ref q1, .ref q2, .ref q3, .ref q4, .int 35])), (q1, .inl (g.2.1, 36, .inl (fun _ => 0))), (q2, .inl (g.1, 36, .inl (fun _ => 0))), (q3, .inl (g.1, 84, .inl (fun _ => 0))), (q4, .inl (g.1, 84, .inl (fun _ => 0)))]) rfl ?_
  refine cx_al C (cx_d dk_67 21 rfl) rfl (lv_at hl 0 rfl) ?_
  refine cx_get C (by decide +kernel) (q := (RX7, TX7, 5)) rfl (k := 3) (by decide +kernel) 0 rfl rfl (cx_d dk_67 22 rfl) ?_
  refine cx_ic (v := (-1)) C (cx_d dk_67 23 rfl) (by decide) ?_
  refine cx_fl C hN (by decide +kernel) 4 rfl (by decide) ⟨(Nat.le_of_ble_eq_true rfl), (Nat.le_of_ble_eq_true rfl)⟩ hl.1 (Nat.le_of_ble_eq_true rfl) (Nat.le_of_ble_eq_true rfl) (Nat.le_of_ble_eq_true rfl) (cx_d dk_67 24 rfl) (fun f5 hf5 => ?_)
  refine cx_w8 (ws' := [(h0, .inr (7, [.ref q1, .ref q2, .ref q3, .ref q4, .int 35])), (q1, .inl (g.2.1, 36, .inl (fun _ => 0))), (q2, .inl (g.1, 36, .inl (fun _ => 0))), (q3, .inl (g.1, 84, .inl (fun _ => 0))), (q4, .inl (g.1, 84, .inl f5))]) rfl ?_
  exact hret _ ⟨q1, q2, q3, q4, f5, hf5, rfl⟩ _ ls (cx_d dk_67 25 rfl)
set_option maxRecDepth 100000 in
theorem dk_82 : cx_dk 82 [(0, .aload_n 0, 1), (1, .invokespecial 3, 3), (4, .aload_n 0, 1), (5, .bipush 25, 2), (7, .newarray .int, 2), (9, .putfield 11, 3), (12, .aload_n 0, 1), (13, .bipush 25, 2), (15, .newarray .int, 2), (17, .putfield 15, 3), (20, .aload_n 0, 1), (21, .bipush 25, 2), (23, .newarray .int, 2), (25, .putfield 18, 3), (28, .aload_n 0, 1), (29, .bipush 25, 2), (31, .newarray .int, 2), (33, .putfield 21, 3), (36, .aload_n 0, 1), (37, .bipush 25, 2), (39, .newarray .int, 2), (41, .putfield 24, 3), (44, .aload_n 0, 1), (45, .getfield 21, 3), (48, .iconst (-1), 1), (49, .invokestatic 27, 3), (52, .aload_n 0, 1), (53, .getfield 24, 3), (56, .iconst (-1), 1), (57, .invokestatic 27, 3), (60, .return_, 1)] = true := by decide +kernel
def P_82 (g : ClassId × ClassId × ClassId) (h0 : Nat) (u : va_W) : Prop := ∃ (q1 : Nat) (q2 : Nat) (q3 : Nat) (q4 : Nat) (q5 : Nat) (f6 : Nat → Int32) (f7 : Nat → Int32), (∀ j, j < 25 → f6 j = (-1)) ∧ (∀ j, j < 25 → f7 j = (-1)) ∧ u = [(h0, .inr (8, [.ref q1, .ref q2, .ref q3, .ref q4, .ref q5])), (q1, .inl (g.1, 25, .inl (fun _ => 0))), (q2, .inl (g.1, 25, .inl (fun _ => 0))), (q3, .inl (g.1, 25, .inl (fun _ => 0))), (q4, .inl (g.1, 25, .inl f6)), (q5, .inl (g.1, 25, .inl f7))]
set_option maxRecDepth 100000 in
set_option maxHeartbeats 4000000 in
theorem k_82 (D : va_G) (g : ClassId × ClassId × ClassId) (h0 : Nat) : cx_Ok D g 82 1 5 125 [.ref h0] [(h0, .inr (8, [.null, .null, .null, .null, .null]))] (P_82 g h0) := by
  refine cx_enter (by decide +kernel) (by decide +kernel) (Nat.le_of_ble_eq_true rfl) (by decide +kernel) ?_
  intro l A p e s m below meth c Q E hn hN hret ls hl
  have C := E.c (meth := meth) (hn.trans (by decide +kernel))
  have hl : lv_has ls 1 [(0, .ref h0)] := hl
  refine cx_al C (cx_d dk_82 0 rfl) rfl (lv_at hl 0 rfl) ?_
  refine cx_obj C (cx_w 15 rfl) hl.1 (cx_d dk_82 1 rfl) (Nat.le_of_ble_eq_true rfl) (Nat.le_of_ble_eq_true rfl) ?_
  refine cx_al C (cx_d dk_82 2 rfl) rfl (lv_at hl 0 rfl) ?_
  refine cx_bp (v := 25) C (cx_d dk_82 3 rfl) (by decide) ?_
  refine cx_newi (N := 25) C (cx_w 12 rfl) (by decide +kernel) (by decide +kernel) (by decide +kernel) (Nat.le_of_ble_eq_true rfl) (Nat.le_of_ble_eq_true rfl) (cx_d dk_82 4 rfl) (fun q1 => ?_)
  refine cx_w8 (ws' := [(h0, .inr (8, [.null, .null, .null, .null, .null])), (q1, .inl (g.1, 25, .inl (fun _ => 0)))]) rfl ?_
  refine cx_putF C (by decide +kernel) (q := (RX8, TX8, 5)) rfl (k := 0) (by decide +kernel) rfl (by decide +kernel) (ty := (.array .int)) (by decide +kernel) rfl rfl 0 rfl (Nat.le_of_ble_eq_true rfl) (cx_d dk_82 5 rfl) ?_
  refine cx_w8 (ws' := [(h0, .inr (8, [.ref q1, .null, .null, .null, .null])), (q1, .inl (g.1, 25, .inl (fun _ => 0)))]) rfl ?_
  refine cx_al C (cx_d dk_82 6 rfl) rfl (lv_at hl 0 rfl) ?_
  refine cx_bp (v := 25) C (cx_d dk_82 7 rfl) (by decide) ?_
  refine cx_newi (N := 25) C (cx_w 12 rfl) (by decide +kernel) (by decide +kernel) (by decide +kernel) (Nat.le_of_ble_eq_true rfl) (Nat.le_of_ble_eq_true rfl) (cx_d dk_82 8 rfl) (fun q2 => ?_)
  refine cx_w8 (ws' := [(h0, .inr (8, [.ref q1, .null, .null, .null, .null])), (q1, .inl (g.1, 25, .inl (fun _ => 0))), (q2, .inl (g.1, 25, .inl (fun _ => 0)))]) rfl ?_
  refine cx_putF C (by decide +kernel) (q := (RX8, TX8, 5)) rfl (k := 1) (by decide +kernel) rfl (by decide +kernel) (ty := (.array .int)) (by decide +kernel) rfl rfl 0 rfl (Nat.le_of_ble_eq_true rfl) (cx_d dk_82 9 rfl) ?_
  refine cx_w8 (ws' := [(h0, .inr (8, [.ref q1, .ref q2, .null, .null, .null])), (q1, .inl (g.1, 25, .inl (fun _ => 0))), (q2, .inl (g.1, 25, .inl (fun _ => 0)))]) rfl ?_
  refine cx_al C (cx_d dk_82 10 rfl) rfl (lv_at hl 0 rfl) ?_
  refine cx_bp (v := 25) C (cx_d dk_82 11 rfl) (by decide) ?_
  refine cx_newi (N := 25) C (cx_w 12 rfl) (by decide +kernel) (by decide +kernel) (by decide +kernel) (Nat.le_of_ble_eq_true rfl) (Nat.le_of_ble_eq_true rfl) (cx_d dk_82 12 rfl) (fun q3 => ?_)
  refine cx_w8 (ws' := [(h0, .inr (8, [.ref q1, .ref q2, .null, .null, .null])), (q1, .inl (g.1, 25, .inl (fun _ => 0))), (q2, .inl (g.1, 25, .inl (fun _ => 0))), (q3, .inl (g.1, 25, .inl (fun _ => 0)))]) rfl ?_
  refine cx_putF C (by decide +kernel) (q := (RX8, TX8, 5)) rfl (k := 2) (by decide +kernel) rfl (by decide +kernel) (ty := (.array .int)) (by decide +kernel) rfl rfl 0 rfl (Nat.le_of_ble_eq_true rfl) (cx_d dk_82 13 rfl) ?_
  refine cx_w8 (ws' := [(h0, .inr (8, [.ref q1, .ref q2, .ref q3, .null, .null])), (q1, .inl (g.1, 25, .inl (fun _ => 0))), (q2, .inl (g.1, 25, .inl (fun _ => 0))), (q3, .inl (g.1, 25, .inl (fun _ => 0)))]) rfl ?_
  refine cx_al C (cx_d dk_82 14 rfl) rfl (lv_at hl 0 rfl) ?_
  refine cx_bp (v := 25) C (cx_d dk_82 15 rfl) (by decide) ?_
  refine cx_newi (N := 25) C (cx_w 12 rfl) (by decide +kernel) (by decide +kernel) (by decide +kernel) (Nat.le_of_ble_eq_true rfl) (Nat.le_of_ble_eq_true rfl) (cx_d dk_82 16 rfl) (fun q4 => ?_)
  refine cx_w8 (ws' := [(h0, .inr (8, [.ref q1, .ref q2, .ref q3, .null, .null])), (q1, .inl (g.1, 25, .inl (fun _ => 0))), (q2, .inl (g.1, 25, .inl (fun _ => 0))), (q3, .inl (g.1, 25, .inl (fun _ => 0))), (q4, .inl (g.1, 25, .inl (fun _ => 0)))]) rfl ?_
  refine cx_putF C (by decide +kernel) (q := (RX8, TX8, 5)) rfl (k := 3) (by decide +kernel) rfl (by decide +kernel) (ty := (.array .int)) (by decide +kernel) rfl rfl 0 rfl (Nat.le_of_ble_eq_true rfl) (cx_d dk_82 17 rfl) ?_
  refine cx_w8 (ws' := [(h0, .inr (8, [.ref q1, .ref q2, .ref q3, .ref q4, .null])), (q1, .inl (g.1, 25, .inl (fun _ => 0))), (q2, .inl (g.1, 25, .inl (fun _ => 0))), (q3, .inl (g.1, 25, .inl (fun _ => 0))), (q4, .inl (g.1, 25, .inl (fun _ => 0)))]) rfl ?_
  refine cx_al C (cx_d dk_82 18 rfl) rfl (lv_at hl 0 rfl) ?_
  refine cx_bp (v := 25) C (cx_d dk_82 19 rfl) (by decide) ?_
  refine cx_newi (N := 25) C (cx_w 12 rfl) (by decide +kernel) (by decide +kernel) (by decide +kernel) (Nat.le_of_ble_eq_true rfl) (Nat.le_of_ble_eq_true rfl) (cx_d dk_82 20 rfl) (fun q5 => ?_)
  refine cx_w8 (ws' := [(h0, .inr (8, [.ref q1, .ref q2, .ref q3, .ref q4, .null])), (q1, .inl (g.1, 25, .inl (fun _ => 0))), (q2, .inl (g.1, 25, .inl (fun _ => 0))), (q3, .inl (g.1, 25, .inl (fun _ => 0))), (q4, .inl (g.1, 25, .inl (fun _ => 0))), (q5, .inl (g.1, 25, .inl (fun _ => 0)))]) rfl ?_
  refine cx_putF C (by decide +kernel) (q := (RX8, TX8, 5)) rfl (k := 4) (by decide +kernel) rfl (by decide +kernel) (ty := (.array .int)) (by decide +kernel) rfl rfl 0 rfl (Nat.le_of_ble_eq_true rfl) (cx_d dk_82 21 rfl) ?_
  refine cx_w8 (ws' := [(h0, .inr (8, [.ref q1, .ref q2, .ref q3, .ref q4, .ref q5])), (q1, .inl (g.1, 25, .inl (fun _ => 0))), (q2, .inl (g.1, 25, .inl (fun _ => 0))), (q3, .inl (g.1, 25, .inl (fun _ => 0))), (q4, .inl (g.1, 25, .inl (fun _ => 0))), (q5, .inl (g.1, 25, .inl (fun _ => 0)))]) rfl ?_
  refine cx_al C (cx_d dk_82 22 rfl) rfl (lv_at hl 0 rfl) ?_
  refine cx_get C (by decide +kernel) (q := (RX8, TX8, 5)) rfl (k := 3) (by decide +kernel) 0 rfl rfl (cx_d dk_82 23 rfl) ?_
  refine cx_ic (v := (-1)) C (cx_d dk_82 24 rfl) (by decide) ?_
  refine cx_fl C hN (by decide +kernel) 4 rfl (by decide) ⟨(Nat.le_of_ble_eq_true rfl), (Nat.le_of_ble_eq_true rfl)⟩ hl.1 (Nat.le_of_ble_eq_true rfl) (Nat.le_of_ble_eq_true rfl) (Nat.le_of_ble_eq_true rfl) (cx_d dk_82 25 rfl) (fun f6 hf6 => ?_)
  refine cx_w8 (ws' := [(h0, .inr (8, [.ref q1, .ref q2, .ref q3, .ref q4, .ref q5])), (q1, .inl (g.1, 25, .inl (fun _ => 0))), (q2, .inl (g.1, 25, .inl (fun _ => 0))), (q3, .inl (g.1, 25, .inl (fun _ => 0))), (q4, .inl (g.1, 25, .inl f6)), (q5, .inl (g.1, 25, .inl (fun _ => 0)))]) rfl ?_
  refine cx_al C (cx_d dk_82 26 rfl) rfl (lv_at hl 0 rfl) ?_
  refine cx_get C (by decide +kernel) (q := (RX8, TX8, 5)) rfl (k := 4) (by decide +kernel) 0 rfl rfl (cx_d dk_82 27 rfl) ?_
  refine cx_ic (v := (-1)) C (cx_d dk_82 28 rfl) (by decide) ?_
  refine cx_fl C hN (by decide +kernel) 5 rfl (by decide) ⟨(Nat.le_of_ble_eq_true rfl), (Nat.le_of_ble_eq_true rfl)⟩ hl.1 (Nat.le_of_ble_eq_true rfl) (Nat.le_of_ble_eq_true rfl) (Nat.le_of_ble_eq_true rfl) (cx_d dk_82 29 rfl) (fun f7 hf7 => ?_)
  refine cx_w8 (ws' := [(h0, .inr (8, [.ref q1, .ref q2, .ref q3, .ref q4, .ref q5])), (q1, .inl (g.1, 25, .inl (fun _ => 0))), (q2, .inl (g.1, 25, .inl (fun _ => 0))), (q3, .inl (g.1, 25, .inl (fun _ => 0))), (q4, .inl (g.1, 25, .inl f6)), (q5, .inl (g.1, 25, .inl f7))]) rfl ?_
  exact hret _ ⟨q1, q2, q3, q4, q5, f6, f7, hf6, hf7, rfl⟩ _ ls (cx_d dk_82 30 rfl)
set_option maxRecDepth 100000 in
theorem dk_87 : cx_dk 87 [(0, .aload_n 0, 1), (1, .invokespecial 3, 3), (4, .aload_n 0, 1), (5, .bipush 120, 2), (7, .newarray .int, 2), (9, .putfield 9, 3), (12, .aload_n 0, 1), (13, .bipush 120, 2), (15, .newarray .int, 2), (17, .putfield 15, 3), (20, .return_, 1)] = true := by decide +kernel
def P_87 (g : ClassId × ClassId × ClassId) (h0 : Nat) (u : va_W) : Prop := ∃ (q1 : Nat) (q2 : Nat), u = [(h0, .inr (9, [.ref q1, .int 0, .ref q2, .int 0, .int 0, .int 0, .int 0, .int 0, .int 0, .int 0])), (q1, .inl (g.1, 120, .inl (fun _ => 0))), (q2, .inl (g.1, 120, .inl (fun _ => 0)))]
set_option maxRecDepth 100000 in
set_option maxHeartbeats 4000000 in
theorem k_87 (D : va_G) (g : ClassId × ClassId × ClassId) (h0 : Nat) : cx_Ok D g 87 1 2 240 [.ref h0] [(h0, .inr (9, [.null, .int 0, .null, .int 0, .int 0, .int 0, .int 0, .int 0, .int 0, .int 0]))] (P_87 g h0) := by
  refine cx_enter (by decide +kernel) (by decide +kernel) (Nat.le_of_ble_eq_true rfl) (by decide +kernel) ?_
  intro l A p e s m below meth c Q E hn hN hret ls hl
  have C := E.c (meth := meth) (hn.trans (by decide +kernel))
  have hl : lv_has ls 1 [(0, .ref h0)] := hl
  refine cx_al C (cx_d dk_87 0 rfl) rfl (lv_at hl 0 rfl) ?_
  refine cx_obj C (cx_w 24 rfl) hl.1 (cx_d dk_87 1 rfl) (Nat.le_of_ble_eq_true rfl) (Nat.le_of_ble_eq_true rfl) ?_
  refine cx_al C (cx_d dk_87 2 rfl) rfl (lv_at hl 0 rfl) ?_
  refine cx_bp (v := 120) C (cx_d dk_87 3 rfl) (by decide) ?_
  refine cx_newi (N := 120) C (cx_w 12 rfl) (by decide +kernel) (by decide +kernel) (by decide +kernel) (Nat.le_of_ble_eq_true rfl) (Nat.le_of_ble_eq_true rfl) (cx_d dk_87 4 rfl) (fun q1 => ?_)
  refine cx_w8 (ws' := [(h0, .inr (9, [.null, .int 0, .null, .int 0, .int 0, .int 0, .int 0, .int 0, .int 0, .int 0])), (q1, .inl (g.1, 120, .inl (fun _ => 0)))]) rfl ?_
  refine cx_putF C (by decide +kernel) (q := (RX9, TX9, 10)) rfl (k := 0) (by decide +kernel) rfl (by decide +kernel) (ty := (.array .int)) (by decide +kernel) rfl rfl 0 rfl (Nat.le_of_ble_eq_true rfl) (cx_d dk_87 5 rfl) ?_
  refine cx_w8 (ws' := [(h0, .inr (9, [.ref q1, .int 0, .null, .int 0, .int 0, .int 0, .int 0, .int 0, .int 0, .int 0])), (q1, .inl (g.1, 120, .inl (fun _ => 0)))]) rfl ?_
  refine cx_al C (cx_d dk_87 6 rfl) rfl (lv_at hl 0 rfl) ?_
  refine cx_bp (v := 120) C (cx_d dk_87 7 rfl) (by decide) ?_
  refine cx_newi (N := 120) C (cx_w 12 rfl) (by decide +kernel) (by decide +kernel) (by decide +kernel) (Nat.le_of_ble_eq_true rfl) (Nat.le_of_ble_eq_true rfl) (cx_d dk_87 8 rfl) (fun q2 => ?_)
  refine cx_w8 (ws' := [(h0, .inr (9, [.ref q1, .int 0, .null, .int 0, .int 0, .int 0, .int 0, .int 0, .int 0, .int 0])), (q1, .inl (g.1, 120, .inl (fun _ => 0))), (q2, .inl (g.1, 120, .inl (fun _ => 0)))]) rfl ?_
  refine cx_putF C (by decide +kernel) (q := (RX9, TX9, 10)) rfl (k := 2) (by decide +kernel) rfl (by decide +kernel) (ty := (.array .int)) (by decide +kernel) rfl rfl 0 rfl (Nat.le_of_ble_eq_true rfl) (cx_d dk_87 9 rfl) ?_
  refine cx_w8 (ws' := [(h0, .inr (9, [.ref q1, .int 0, .ref q2, .int 0, .int 0, .int 0, .int 0, .int 0, .int 0, .int 0])), (q1, .inl (g.1, 120, .inl (fun _ => 0))), (q2, .inl (g.1, 120, .inl (fun _ => 0)))]) rfl ?_
  exact hret _ ⟨q1, q2, rfl⟩ _ ls (cx_d dk_87 10 rfl)
set_option maxRecDepth 100000 in
theorem dk_106 : cx_dk 106 [(0, .aload_n 0, 1), (1, .invokespecial 3, 3), (4, .aload_n 0, 1), (5, .sipush 864, 3), (8, .newarray .int, 2), (10, .putfield 9, 3), (13, .aload_n 0, 1), (14, .sipush 864, 3), (17, .newarray .int, 2), (19, .putfield 15, 3), (22, .aload_n 0, 1), (23, .sipush 864, 3), (26, .newarray .int, 2), (28, .putfield 18, 3), (31, .aload_n 0, 1), (32, .bipush 121, 2), (34, .newarray .int, 2), (36, .putfield 21, 3), (39, .aload_n 0, 1), (40, .bipush 121, 2), (42, .newarray .int, 2), (44, .putfield 24, 3), (47, .aload_n 0, 1), (48, .aload_n 1, 1), (49, .putfield 27, 3), (52, .aload_n 0, 1), (53, .aload_n 2, 1), (54, .putfield 31, 3), (57, .return_, 1)] = true := by decide +kernel
def P_106 (g : ClassId × ClassId × ClassId) (h0 x1 x2 : Nat) (u : va_W) : Prop := ∃ (q1 : Nat) (q2 : Nat) (q3 : Nat) (q4 : Nat) (q5 : Nat), u = [(h0, .inr (10, [.ref x1, .ref x2, .ref q1, .ref q2, .ref q3, .ref q4, .ref q5, .int 0])), (q1, .inl (g.1, 864, .inl (fun _ => 0))), (q2, .inl (g.1, 864, .inl (fun _ => 0))), (q3, .inl (g.1, 864, .inl (fun _ => 0))), (q4, .inl (g.1, 121, .inl (fun _ => 0))), (q5, .inl (g.1, 121, .inl (fun _ => 0)))]
set_option maxRecDepth 100000 in
set_option maxHeartbeats 4000000 in
theorem k_106 (D : va_G) (g : ClassId × ClassId × ClassId) (h0 x1 x2 : Nat) : cx_Ok D g 106 1 5 2834 [.ref h0, .ref x1, .ref x2] [(h0, .inr (10, [.null, .null, .null, .null, .null, .null, .null, .int 0]))] (P_106 g h0 x1 x2) := by
  refine cx_enter (by decide +kernel) (by decide +kernel) (Nat.le_of_ble_eq_true rfl) (by decide +kernel) ?_
  intro l A p e s m below meth c Q E hn hN hret ls hl
  have C := E.c (meth := meth) (hn.trans (by decide +kernel))
  have hl : lv_has ls 3 [(0, .ref h0), (1, .ref x1), (2, .ref x2)] := hl
  refine cx_al C (cx_d dk_106 0 rfl) rfl (lv_at hl 0 rfl) ?_
  refine cx_obj C (cx_w 30 rfl) hl.1 (cx_d dk_106 1 rfl) (Nat.le_of_ble_eq_true rfl) (Nat.le_of_ble_eq_true rfl) ?_
  refine cx_al C (cx_d dk_106 2 rfl) rfl (lv_at hl 0 rfl) ?_
  refine cx_sp (v := 864) C (cx_d dk_106 3 rfl) (by decide) ?_
  refine cx_newi (N := 864) C (cx_w 12 rfl) (by decide +kernel) (by decide +kernel) (by decide +kernel) (Nat.le_of_ble_eq_true rfl) (Nat.le_of_ble_eq_true rfl) (cx_d dk_106 4 rfl) (fun q1 => ?_)
  refine cx_w8 (ws' := [(h0, .inr (10, [.null, .null, .null, .null, .null, .null, .null, .int 0])), (q1, .inl (g.1, 864, .inl (fun _ => 0)))]) rfl ?_
  refine cx_putF C (by decide +kernel) (q := (RX10, TX10, 8)) rfl (k := 2) (by decide +kernel) rfl (by decide +kernel) (ty := (.array .int)) (by decide +kernel) rfl rfl 0 rfl (Nat.le_of_ble_eq_true rfl) (cx_d dk_106 5 rfl) ?_
  refine cx_w8 (ws' := [(h0, .inr (10, [.null, .null, .ref q1, .null, .null, .null, .null, .int 0])), (q1, .inl (g.1, 864, .inl (fun _ => 0)))]) rfl ?_
  refine cx_al C (cx_d dk_106 6 rfl) rfl (lv_at hl 0 rfl) ?_
  refine cx_sp (v := 864) C (cx_d dk_106 7 rfl) (by decide) ?_
  refine cx_newi (N := 864) C (cx_w 12 rfl) (by decide +kernel) (by decide +kernel) (by decide +kernel) (Nat.le_of_ble_eq_true rfl) (Nat.le_of_ble_eq_true rfl) (cx_d dk_106 8 rfl) (fun q2 => ?_)
  refine cx_w8 (ws' := [(h0, .inr (10, [.null, .null, .ref q1, .null, .null, .null, .null, .int 0])), (q1, .inl (g.1, 864, .inl (fun _ => 0))), (q2, .inl (g.1, 864, .inl (fun _ => 0)))]) rfl ?_
  refine cx_putF C (by decide +kernel) (q := (RX10, TX10, 8)) rfl (k := 3) (by decide +kernel) rfl (by decide +kernel) (ty := (.array .int)) (by decide +kernel) rfl rfl 0 rfl (Nat.le_of_ble_eq_true rfl) (cx_d dk_106 9 rfl) ?_
  refine cx_w8 (ws' := [(h0, .inr (10, [.null, .null, .ref q1, .ref q2, .null, .null, .null, .int 0])), (q1, .inl (g.1, 864, .inl (fun _ => 0))), (q2, .inl (g.1, 864, .inl (fun _ => 0)))]) rfl ?_
  refine cx_al C (cx_d dk_106 10 rfl) rfl (lv_at hl 0 rfl) ?_
  refine cx_sp (v := 864) C (cx_d dk_106 11 rfl) (by decide) ?_
  refine cx_newi (N := 864) C (cx_w 12 rfl) (by decide +kernel) (by decide +kernel) (by decide +kernel) (Nat.le_of_ble_eq_true rfl) (Nat.le_of_ble_eq_true rfl) (cx_d dk_106 12 rfl) (fun q3 => ?_)
  refine cx_w8 (ws' := [(h0, .inr (10, [.null, .null, .ref q1, .ref q2, .null, .null, .null, .int 0])), (q1, .inl (g.1, 864, .inl (fun _ => 0))), (q2, .inl (g.1, 864, .inl (fun _ => 0))), (q3, .inl (g.1, 864, .inl (fun _ => 0)))]) rfl ?_
  refine cx_putF C (by decide +kernel) (q := (RX10, TX10, 8)) rfl (k := 4) (by decide +kernel) rfl (by decide +kernel) (ty := (.array .int)) (by decide +kernel) rfl rfl 0 rfl (Nat.le_of_ble_eq_true rfl) (cx_d dk_106 13 rfl) ?_
  refine cx_w8 (ws' := [(h0, .inr (10, [.null, .null, .ref q1, .ref q2, .ref q3, .null, .null, .int 0])), (q1, .inl (g.1, 864, .inl (fun _ => 0))), (q2, .inl (g.1, 864, .inl (fun _ => 0))), (q3, .inl (g.1, 864, .inl (fun _ => 0)))]) rfl ?_
  refine cx_al C (cx_d dk_106 14 rfl) rfl (lv_at hl 0 rfl) ?_
  refine cx_bp (v := 121) C (cx_d dk_106 15 rfl) (by decide) ?_
  refine cx_newi (N := 121) C (cx_w 12 rfl) (by decide +kernel) (by decide +kernel) (by decide +kernel) (Nat.le_of_ble_eq_true rfl) (Nat.le_of_ble_eq_true rfl) (cx_d dk_106 16 rfl) (fun q4 => ?_)
  refine cx_w8 (ws' := [(h0, .inr (10, [.null, .null, .ref q1, .ref q2, .ref q3, .null, .null, .int 0])), (q1, .inl (g.1, 864, .inl (fun _ => 0))), (q2, .inl (g.1, 864, .inl (fun _ => 0))), (q3, .inl (g.1, 864, .inl (fun _ => 0))), (q4, .inl (g.1, 121, .inl (fun _ => 0)))]) rfl ?_
  refine cx_putF C (by decide +kernel) (q := (RX10, TX10, 8)) rfl (k := 5) (by decide +kernel) rfl (by decide +kernel) (ty := (.array .int)) (by decide +kernel) rfl rfl 0 rfl (Nat.le_of_ble_eq_true rfl) (cx_d dk_106 17 rfl) ?_
  refine cx_w8 (ws' := [(h0, .inr (10, [.null, .null, .ref q1, .ref q2, .ref q3, .ref q4, .null, .int 0])), (q1, .inl (g.1, 864, .inl (fun _ => 0))), (q2, .inl (g.1, 864, .inl (fun _ => 0))), (q3, .inl (g.1, 864, .inl (fun _ => 0))), (q4, .inl (g.1, 121, .inl (fun _ => 0)))]) rfl ?_
  refine cx_al C (cx_d dk_106 18 rfl) rfl (lv_at hl 0 rfl) ?_
  refine cx_bp (v := 121) C (cx_d dk_106 19 rfl) (by decide) ?_
  refine cx_newi (N := 121) C (cx_w 12 rfl) (by decide +kernel) (by decide +kernel) (by decide +kernel) (Nat.le_of_ble_eq_true rfl) (Nat.le_of_ble_eq_true rfl) (cx_d dk_106 20 rfl) (fun q5 => ?_)
  refine cx_w8 (ws' := [(h0, .inr (10, [.null, .null, .ref q1, .ref q2, .ref q3, .ref q4, .null, .int 0])), (q1, .inl (g.1, 864, .inl (fun _ => 0))), (q2, .inl (g.1, 864, .inl (fun _ => 0))), (q3, .inl (g.1, 864, .inl (fun _ => 0))), (q4, .inl (g.1, 121, .inl (fun _ => 0))), (q5, .inl (g.1, 121, .inl (fun _ => 0)))]) rfl ?_
  refine cx_putF C (by decide +kernel) (q := (RX10, TX10, 8)) rfl (k := 6) (by decide +kernel) rfl (by decide +kernel) (ty := (.array .int)) (by decide +kernel) rfl rfl 0 rfl (Nat.le_of_ble_eq_true rfl) (cx_d dk_106 21 rfl) ?_
  refine cx_w8 (ws' := [(h0, .inr (10, [.null, .null, .ref q1, .ref q2, .ref q3, .ref q4, .ref q5, .int 0])), (q1, .inl (g.1, 864, .inl (fun _ => 0))), (q2, .inl (g.1, 864, .inl (fun _ => 0))), (q3, .inl (g.1, 864, .inl (fun _ => 0))), (q4, .inl (g.1, 121, .inl (fun _ => 0))), (q5, .inl (g.1, 121, .inl (fun _ => 0)))]) rfl ?_
  refine cx_al C (cx_d dk_106 22 rfl) rfl (lv_at hl 0 rfl) ?_
  refine cx_al C (cx_d dk_106 23 rfl) rfl (lv_at hl 1 rfl) ?_
  refine cx_putF C (by decide +kernel) (q := (RX10, TX10, 8)) rfl (k := 0) (by decide +kernel) rfl (by decide +kernel) (ty := (.object "WindBoat$Log")) (by decide +kernel) rfl rfl 0 rfl (Nat.le_of_ble_eq_true rfl) (cx_d dk_106 24 rfl) ?_
  refine cx_w8 (ws' := [(h0, .inr (10, [.ref x1, .null, .ref q1, .ref q2, .ref q3, .ref q4, .ref q5, .int 0])), (q1, .inl (g.1, 864, .inl (fun _ => 0))), (q2, .inl (g.1, 864, .inl (fun _ => 0))), (q3, .inl (g.1, 864, .inl (fun _ => 0))), (q4, .inl (g.1, 121, .inl (fun _ => 0))), (q5, .inl (g.1, 121, .inl (fun _ => 0)))]) rfl ?_
  refine cx_al C (cx_d dk_106 25 rfl) rfl (lv_at hl 0 rfl) ?_
  refine cx_al C (cx_d dk_106 26 rfl) rfl (lv_at hl 2 rfl) ?_
  refine cx_putF C (by decide +kernel) (q := (RX10, TX10, 8)) rfl (k := 1) (by decide +kernel) rfl (by decide +kernel) (ty := (.object "WindBoat$Chart")) (by decide +kernel) rfl rfl 0 rfl (Nat.le_of_ble_eq_true rfl) (cx_d dk_106 27 rfl) ?_
  refine cx_w8 (ws' := [(h0, .inr (10, [.ref x1, .ref x2, .ref q1, .ref q2, .ref q3, .ref q4, .ref q5, .int 0])), (q1, .inl (g.1, 864, .inl (fun _ => 0))), (q2, .inl (g.1, 864, .inl (fun _ => 0))), (q3, .inl (g.1, 864, .inl (fun _ => 0))), (q4, .inl (g.1, 121, .inl (fun _ => 0))), (q5, .inl (g.1, 121, .inl (fun _ => 0)))]) rfl ?_
  exact hret _ ⟨q1, q2, q3, q4, q5, rfl⟩ _ ls (cx_d dk_106 28 rfl)
