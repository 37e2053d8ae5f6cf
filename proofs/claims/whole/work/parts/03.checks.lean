set_option maxRecDepth 100000 in
theorem ck_1 : (List.range wm_N).all (fun y => match wm_MP[y]? with | some q => decide (lw_tbl[q.2.1]? = some (.initialized (wm_nm y).cls)) | none => false) = true := by decide +kernel
set_option maxRecDepth 100000 in
theorem ck_2 : (List.range wm_N).all (fun y => match wm_MP[y]? with | some q => (bif wm_sc y then decide (lw_tbl[q.2.2.1]? = some (.static (wm_nm y))) else decide (lw_tbl[q.2.2.1]? = some (.instanceMethod (wm_nm y)))) | none => false) = true := by decide +kernel
set_option maxRecDepth 100000 in
theorem ck_3 : (List.range wm_N).all (fun y => match wm_MP[y]? with | some q => ((wm_nm y).name == "<init>" || wm_sc y || decide (lw_tbl[q.2.2.2]? = some (.selects (wm_nm y).cls (wm_nm y) (wm_nm y)))) | none => false) = true := by decide +kernel
set_option maxRecDepth 100000 in
theorem ck_4 : (List.range wm_N).all (fun y => !((wm_nm y).cls == "java/lang/invoke/MethodHandle") && !((wm_nm y).cls == "java/lang/invoke/VarHandle") ) = true := by decide +kernel
set_option maxRecDepth 100000 in
theorem ck_5 : (List.range wm_N).all (fun y => decide ((parseMethodDescriptor (wm_nm y).desc).map (fun d => d.parameters.length) = some (wm_np y))) = true := by decide +kernel
set_option maxRecDepth 100000 in
theorem ck_6 : (List.range wm_N).all (fun y => plainName (wm_nm y).cls && (wm_nm y).cls == wm_ow (wm_oc y)) = true := by decide +kernel
set_option maxRecDepth 100000 in
theorem ck_7 : (List.range wm_N).all (fun y => Nat.ble (wm_mx y) 60) = true := by decide +kernel
set_option maxRecDepth 100000 in
theorem ck_8 : (List.range wm_N).all (fun y => match wm_MP[y]? with | some q => (match lw_tbl[q.1]? with | some (.code n _ m r) => decide (n = wm_nm y) && decide (m = wm_mx y) && decide (r = wm_rt y) | _ => false) | none => false) = true := by decide +kernel
