def wX2 (_ : Nat → ClassId) (a : Nat → Nat) : va_W := [(a 0, eO 2 [.int 0, .int 0, .int 0, .int 1, .int 0, .int 0])]
abbrev rm_X2_init : Room := { frames := 1, cells := 0, slots := 0, locals := 12 }
set_option maxHeartbeats 4000000 in
set_option maxRecDepth 100000 in
theorem k_X2_init (l : Launch) (D : va_G) (cA : Nat → ClassId) (h0 : Nat) : NV l yX2_init wsX2_init rm_X2_init D cA h0 [(h0, eO 2 [.int 0, .int 0, .int 0, .int 0, .int 0, .int 0])] (wX2 cA) 0 0 := by
  refine NV_of (own := RX2) (cc := cX2_init) (maxL := 1) (by decide) rfl rfl rfl (Nat.le_of_ble_eq_true rfl) ?_
  intro p e s m args below meth c B hin hr hk
  refine c_aload_n B dX2_init_0 0 rfl rfl ?_
  refine c_obj B (List.mem_of_getElem? (i := 1) rfl) (List.mem_of_getElem? (i := 2) rfl) (List.mem_of_getElem? (i := 3) rfl) (Nat.le_of_ble_eq_true rfl) (Nat.le_of_ble_eq_true rfl) dX2_init_1 ?_
  refine c_aload_n B dX2_init_4 0 rfl rfl ?_
  refine c_iconst (v := 0) B dX2_init_5 (by decide) ?_
  refine c_put B in_X2_init_X2 tyX2_ok nmX2 0 rfl rfl 0 (by decide) (List.mem_of_getElem? (i := 4) rfl) rfl rfl rfl rfl (Nat.le_of_ble_eq_true rfl) dX2_init_6 ?_
  refine c_w (w1 := [(h0, eO 2 [.int 0, .int 0, .int 0, .int 0, .int 0, .int 0])]) (cells1 := 0) (slots1 := 0) rfl rfl rfl ?_
  refine c_aload_n B dX2_init_9 0 rfl rfl ?_
  refine c_iconst (v := 0) B dX2_init_10 (by decide) ?_
  refine c_put B in_X2_init_X2 tyX2_ok nmX2 0 rfl rfl 1 (by decide) (List.mem_of_getElem? (i := 5) rfl) rfl rfl rfl rfl (Nat.le_of_ble_eq_true rfl) dX2_init_11 ?_
  refine c_w (w1 := [(h0, eO 2 [.int 0, .int 0, .int 0, .int 0, .int 0, .int 0])]) (cells1 := 0) (slots1 := 0) rfl rfl rfl ?_
  refine c_aload_n B dX2_init_14 0 rfl rfl ?_
  refine c_iconst (v := 0) B dX2_init_15 (by decide) ?_
  refine c_put B in_X2_init_X2 tyX2_ok nmX2 0 rfl rfl 2 (by decide) (List.mem_of_getElem? (i := 6) rfl) rfl rfl rfl rfl (Nat.le_of_ble_eq_true rfl) dX2_init_16 ?_
  refine c_w (w1 := [(h0, eO 2 [.int 0, .int 0, .int 0, .int 0, .int 0, .int 0])]) (cells1 := 0) (slots1 := 0) rfl rfl rfl ?_
  refine c_aload_n B dX2_init_19 0 rfl rfl ?_
  refine c_iconst (v := 1) B dX2_init_20 (by decide) ?_
  refine c_put B in_X2_init_X2 tyX2_ok nmX2 0 rfl rfl 3 (by decide) (List.mem_of_getElem? (i := 7) rfl) rfl rfl rfl rfl (Nat.le_of_ble_eq_true rfl) dX2_init_21 ?_
  refine c_w (w1 := [(h0, eO 2 [.int 0, .int 0, .int 0, .int 1, .int 0, .int 0])]) (cells1 := 0) (slots1 := 0) rfl rfl rfl ?_
  refine c_aload_n B dX2_init_24 0 rfl rfl ?_
  refine c_iconst (v := 0) B dX2_init_25 (by decide) ?_
  refine c_put B in_X2_init_X2 tyX2_ok nmX2 0 rfl rfl 4 (by decide) (List.mem_of_getElem? (i := 8) rfl) rfl rfl rfl rfl (Nat.le_of_ble_eq_true rfl) dX2_init_26 ?_
  refine c_w (w1 := [(h0, eO 2 [.int 0, .int 0, .int 0, .int 1, .int 0, .int 0])]) (cells1 := 0) (slots1 := 0) rfl rfl rfl ?_
  refine c_aload_n B dX2_init_29 0 rfl rfl ?_
  refine c_iconst (v := 0) B dX2_init_30 (by decide) ?_
  refine c_put B in_X2_init_X2 tyX2_ok nmX2 0 rfl rfl 5 (by decide) (List.mem_of_getElem? (i := 9) rfl) rfl rfl rfl rfl (Nat.le_of_ble_eq_true rfl) dX2_init_31 ?_
  refine c_w (w1 := [(h0, eO 2 [.int 0, .int 0, .int 0, .int 1, .int 0, .int 0])]) (cells1 := 0) (slots1 := 0) rfl rfl rfl ?_
  exact c_ret B hr hk dX2_init_34 (fun k => [h0].getD k 0) rfl rfl

def wX6 (cA : Nat → ClassId) (a : Nat → Nat) : va_W := [(a 0, eO 6 [.ref (a 1), .ref (a 2), .ref (a 3), .int 0]), (a 1, eI cA 36 z0), (a 2, eI cA 36 z0), (a 3, eI cA 6 z0)]
abbrev rm_X6_init : Room := { frames := 1, cells := 3, slots := 78, locals := 12 }
set_option maxHeartbeats 4000000 in
set_option maxRecDepth 100000 in
theorem k_X6_init (l : Launch) (D : va_G) (cA : Nat → ClassId) (h0 : Nat) : NV l yX6_init wsX6_init rm_X6_init D cA h0 [(h0, eO 6 [.null, .null, .null, .int 0])] (wX6 cA) 3 78 := by
  refine NV_of (own := RX6) (cc := cX6_init) (maxL := 1) (by decide) rfl rfl rfl (Nat.le_of_ble_eq_true rfl) ?_
  intro p e s m args below meth c B hin hr hk
  refine c_aload_n B dX6_init_0 0 rfl rfl ?_
  refine c_obj B (List.mem_of_getElem? (i := 1) rfl) (List.mem_of_getElem? (i := 2) rfl) (List.mem_of_getElem? (i := 3) rfl) (Nat.le_of_ble_eq_true rfl) (Nat.le_of_ble_eq_true rfl) dX6_init_1 ?_
  refine c_aload_n B dX6_init_4 0 rfl rfl ?_
  refine c_bipush (v := 36) B dX6_init_5 (by decide) ?_
  refine c_newI (N := 36) B (List.mem_of_getElem? (i := 4) rfl) (by decide) (by decide) (Nat.le_of_ble_eq_true rfl) (Nat.le_of_ble_eq_true rfl) (Nat.le_of_ble_eq_true rfl) dX6_init_7 (fun q1 => ?_)
  refine c_w (w1 := [(h0, eO 6 [.null, .null, .null, .int 0]), (q1, eI cA 36 z0)]) (cells1 := 1) (slots1 := 36) rfl rfl rfl ?_
  refine c_putF B hin in_X6_init_X6 tyX6_ok nmX6 0 rfl rfl 0 (by decide) (List.mem_of_getElem? (i := 5) rfl) rfl rfl rfl rfl rfl (Nat.le_of_ble_eq_true rfl) dX6_init_9 ?_
  refine c_w (w1 := [(h0, eO 6 [.ref q1, .null, .null, .int 0]), (q1, eI cA 36 z0)]) (cells1 := 1) (slots1 := 36) rfl rfl rfl ?_
  refine c_aload_n B dX6_init_12 0 rfl rfl ?_
  refine c_bipush (v := 36) B dX6_init_13 (by decide) ?_
  refine c_newI (N := 36) B (List.mem_of_getElem? (i := 4) rfl) (by decide) (by decide) (Nat.le_of_ble_eq_true rfl) (Nat.le_of_ble_eq_true rfl) (Nat.le_of_ble_eq_true rfl) dX6_init_15 (fun q2 => ?_)
  refine c_w (w1 := [(h0, eO 6 [.ref q1, .null, .null, .int 0]), (q1, eI cA 36 z0), (q2, eI cA 36 z0)]) (cells1 := 2) (slots1 := 72) rfl rfl rfl ?_
  refine c_putF B hin in_X6_init_X6 tyX6_ok nmX6 0 rfl rfl 1 (by decide) (List.mem_of_getElem? (i := 6) rfl) rfl rfl rfl rfl rfl (Nat.le_of_ble_eq_true rfl) dX6_init_17 ?_
  refine c_w (w1 := [(h0, eO 6 [.ref q1, .ref q2, .null, .int 0]), (q1, eI cA 36 z0), (q2, eI cA 36 z0)]) (cells1 := 2) (slots1 := 72) rfl rfl rfl ?_
  refine c_aload_n B dX6_init_20 0 rfl rfl ?_
  refine c_bipush (v := 6) B dX6_init_21 (by decide) ?_
  refine c_newI (N := 6) B (List.mem_of_getElem? (i := 4) rfl) (by decide) (by decide) (Nat.le_of_ble_eq_true rfl) (Nat.le_of_ble_eq_true rfl) (Nat.le_of_ble_eq_true rfl) dX6_init_23 (fun q3 => ?_)
  refine c_w (w1 := [(h0, eO 6 [.ref q1, .ref q2, .null, .int 0]), (q1, eI cA 36 z0), (q2, eI cA 36 z0), (q3, eI cA 6 z0)]) (cells1 := 3) (slots1 := 78) rfl rfl rfl ?_
  refine c_putF B hin in_X6_init_X6 tyX6_ok nmX6 0 rfl rfl 2 (by decide) (List.mem_of_getElem? (i := 7) rfl) rfl rfl rfl rfl rfl (Nat.le_of_ble_eq_true rfl) dX6_init_25 ?_
  refine c_w (w1 := [(h0, eO 6 [.ref q1, .ref q2, .ref q3, .int 0]), (q1, eI cA 36 z0), (q2, eI cA 36 z0), (q3, eI cA 6 z0)]) (cells1 := 3) (slots1 := 78) rfl rfl rfl ?_
  refine c_aload_n B dX6_init_28 0 rfl rfl ?_
  refine c_iconst (v := 0) B dX6_init_29 (by decide) ?_
  refine c_put B in_X6_init_X6 tyX6_ok nmX6 0 rfl rfl 3 (by decide) (List.mem_of_getElem? (i := 8) rfl) rfl rfl rfl rfl (Nat.le_of_ble_eq_true rfl) dX6_init_30 ?_
  refine c_w (w1 := [(h0, eO 6 [.ref q1, .ref q2, .ref q3, .int 0]), (q1, eI cA 36 z0), (q2, eI cA 36 z0), (q3, eI cA 6 z0)]) (cells1 := 3) (slots1 := 78) rfl rfl rfl ?_
  exact c_ret B hr hk dX6_init_33 (fun k => [h0, q1, q2, q3].getD k 0) rfl rfl

def wX1 (cA : Nat → ClassId) (a : Nat → Nat) : va_W := [(a 0, eO 1 [.ref (a 1)]), (a 1, eI cA 64 z0)]
abbrev rm_X1_init : Room := { frames := 1, cells := 1, slots := 64, locals := 12 }
set_option maxHeartbeats 4000000 in
set_option maxRecDepth 100000 in
theorem k_X1_init (l : Launch) (D : va_G) (cA : Nat → ClassId) (h0 : Nat) : NV l yX1_init wsX1_init rm_X1_init D cA h0 [(h0, eO 1 [.null])] (wX1 cA) 1 64 := by
  refine NV_of (own := RX1) (cc := cX1_init) (maxL := 1) (by decide) rfl rfl rfl (Nat.le_of_ble_eq_true rfl) ?_
  intro p e s m args below meth c B hin hr hk
  refine c_aload_n B dX1_init_0 0 rfl rfl ?_
  refine c_obj B (List.mem_of_getElem? (i := 1) rfl) (List.mem_of_getElem? (i := 2) rfl) (List.mem_of_getElem? (i := 3) rfl) (Nat.le_of_ble_eq_true rfl) (Nat.le_of_ble_eq_true rfl) dX1_init_1 ?_
  refine c_aload_n B dX1_init_4 0 rfl rfl ?_
  refine c_bipush (v := 64) B dX1_init_5 (by decide) ?_
  refine c_newI (N := 64) B (List.mem_of_getElem? (i := 4) rfl) (by decide) (by decide) (Nat.le_of_ble_eq_true rfl) (Nat.le_of_ble_eq_true rfl) (Nat.le_of_ble_eq_true rfl) dX1_init_7 (fun q1 => ?_)
  refine c_w (w1 := [(h0, eO 1 [.null]), (q1, eI cA 64 z0)]) (cells1 := 1) (slots1 := 64) rfl rfl rfl ?_
  refine c_putF B hin in_X1_init_X1 tyX1_ok nmX1 0 rfl rfl 0 (by decide) (List.mem_of_getElem? (i := 5) rfl) rfl rfl rfl rfl rfl (Nat.le_of_ble_eq_true rfl) dX1_init_9 ?_
  refine c_w (w1 := [(h0, eO 1 [.ref q1]), (q1, eI cA 64 z0)]) (cells1 := 1) (slots1 := 64) rfl rfl rfl ?_
  exact c_ret B hr hk dX1_init_12 (fun k => [h0, q1].getD k 0) rfl rfl

def wX3 (cA : Nat → ClassId) (a : Nat → Nat) : va_W := [(a 0, eO 3 [.ref (a 1), .ref (a 2), .ref (a 3), .int 0]), (a 1, eI cA 8 z0), (a 2, eI cA 8 z0), (a 3, eI cA 8 z0)]
abbrev rm_X3_init : Room := { frames := 1, cells := 3, slots := 24, locals := 12 }
set_option maxHeartbeats 4000000 in
set_option maxRecDepth 100000 in
theorem k_X3_init (l : Launch) (D : va_G) (cA : Nat → ClassId) (h0 : Nat) : NV l yX3_init wsX3_init rm_X3_init D cA h0 [(h0, eO 3 [.null, .null, .null, .int 0])] (wX3 cA) 3 24 := by
  refine NV_of (own := RX3) (cc := cX3_init) (maxL := 1) (by decide) rfl rfl rfl (Nat.le_of_ble_eq_true rfl) ?_
  intro p e s m args below meth c B hin hr hk
  refine c_aload_n B dX3_init_0 0 rfl rfl ?_
  refine c_obj B (List.mem_of_getElem? (i := 1) rfl) (List.mem_of_getElem? (i := 2) rfl) (List.mem_of_getElem? (i := 3) rfl) (Nat.le_of_ble_eq_true rfl) (Nat.le_of_ble_eq_true rfl) dX3_init_1 ?_
  refine c_aload_n B dX3_init_4 0 rfl rfl ?_
  refine c_bipush (v := 8) B dX3_init_5 (by decide) ?_
  refine c_newI (N := 8) B (List.mem_of_getElem? (i := 4) rfl) (by decide) (by decide) (Nat.le_of_ble_eq_true rfl) (Nat.le_of_ble_eq_true rfl) (Nat.le_of_ble_eq_true rfl) dX3_init_7 (fun q1 => ?_)
  refine c_w (w1 := [(h0, eO 3 [.null, .null, .null, .int 0]), (q1, eI cA 8 z0)]) (cells1 := 1) (slots1 := 8) rfl rfl rfl ?_
  refine c_putF B hin in_X3_init_X3 tyX3_ok nmX3 0 rfl rfl 0 (by decide) (List.mem_of_getElem? (i := 5) rfl) rfl rfl rfl rfl rfl (Nat.le_of_ble_eq_true rfl) dX3_init_9 ?_
  refine c_w (w1 := [(h0, eO 3 [.ref q1, .null, .null, .int 0]), (q1, eI cA 8 z0)]) (cells1 := 1) (slots1 := 8) rfl rfl rfl ?_
  refine c_aload_n B dX3_init_12 0 rfl rfl ?_
  refine c_bipush (v := 8) B dX3_init_13 (by decide) ?_
  refine c_newI (N := 8) B (List.mem_of_getElem? (i := 4) rfl) (by decide) (by decide) (Nat.le_of_ble_eq_true rfl) (Nat.le_of_ble_eq_true rfl) (Nat.le_of_ble_eq_true rfl) dX3_init_15 (fun q2 => ?_)
  refine c_w (w1 := [(h0, eO 3 [.ref q1, .null, .null, .int 0]), (q1, eI cA 8 z0), (q2, eI cA 8 z0)]) (cells1 := 2) (slots1 := 16) rfl rfl rfl ?_
  refine c_putF B hin in_X3_init_X3 tyX3_ok nmX3 0 rfl rfl 1 (by decide) (List.mem_of_getElem? (i := 6) rfl) rfl rfl rfl rfl rfl (Nat.le_of_ble_eq_true rfl) dX3_init_17 ?_
  refine c_w (w1 := [(h0, eO 3 [.ref q1, .ref q2, .null, .int 0]), (q1, eI cA 8 z0), (q2, eI cA 8 z0)]) (cells1 := 2) (slots1 := 16) rfl rfl rfl ?_
  refine c_aload_n B dX3_init_20 0 rfl rfl ?_
  refine c_bipush (v := 8) B dX3_init_21 (by decide) ?_
  refine c_newI (N := 8) B (List.mem_of_getElem? (i := 4) rfl) (by decide) (by decide) (Nat.le_of_ble_eq_true rfl) (Nat.le_of_ble_eq_true rfl) (Nat.le_of_ble_eq_true rfl) dX3_init_23 (fun q3 => ?_)
  refine c_w (w1 := [(h0, eO 3 [.ref q1, .ref q2, .null, .int 0]), (q1, eI cA 8 z0), (q2, eI cA 8 z0), (q3, eI cA 8 z0)]) (cells1 := 3) (slots1 := 24) rfl rfl rfl ?_
  refine c_putF B hin in_X3_init_X3 tyX3_ok nmX3 0 rfl rfl 2 (by decide) (List.mem_of_getElem? (i := 7) rfl) rfl rfl rfl rfl rfl (Nat.le_of_ble_eq_true rfl) dX3_init_25 ?_
  refine c_w (w1 := [(h0, eO 3 [.ref q1, .ref q2, .ref q3, .int 0]), (q1, eI cA 8 z0), (q2, eI cA 8 z0), (q3, eI cA 8 z0)]) (cells1 := 3) (slots1 := 24) rfl rfl rfl ?_
  refine c_aload_n B dX3_init_28 0 rfl rfl ?_
  refine c_iconst (v := 0) B dX3_init_29 (by decide) ?_
  refine c_put B in_X3_init_X3 tyX3_ok nmX3 0 rfl rfl 3 (by decide) (List.mem_of_getElem? (i := 8) rfl) rfl rfl rfl rfl (Nat.le_of_ble_eq_true rfl) dX3_init_30 ?_
  refine c_w (w1 := [(h0, eO 3 [.ref q1, .ref q2, .ref q3, .int 0]), (q1, eI cA 8 z0), (q2, eI cA 8 z0), (q3, eI cA 8 z0)]) (cells1 := 3) (slots1 := 24) rfl rfl rfl ?_
  exact c_ret B hr hk dX3_init_33 (fun k => [h0, q1, q2, q3].getD k 0) rfl rfl

def wX5 (cA : Nat → ClassId) (a : Nat → Nat) : va_W := [(a 0, eO 5 [.ref (a 1), .int (-9), .int 0]), (a 1, eI cA 60 z0)]
abbrev rm_X5_init : Room := { frames := 1, cells := 1, slots := 60, locals := 12 }
set_option maxHeartbeats 4000000 in
set_option maxRecDepth 100000 in
theorem k_X5_init (l : Launch) (D : va_G) (cA : Nat → ClassId) (h0 : Nat) : NV l yX5_init wsX5_init rm_X5_init D cA h0 [(h0, eO 5 [.null, .int 0, .int 0])] (wX5 cA) 1 60 := by
  refine NV_of (own := RX5) (cc := cX5_init) (maxL := 1) (by decide) rfl rfl rfl (Nat.le_of_ble_eq_true rfl) ?_
  intro p e s m args below meth c B hin hr hk
  refine c_aload_n B dX5_init_0 0 rfl rfl ?_
  refine c_obj B (List.mem_of_getElem? (i := 1) rfl) (List.mem_of_getElem? (i := 2) rfl) (List.mem_of_getElem? (i := 3) rfl) (Nat.le_of_ble_eq_true rfl) (Nat.le_of_ble_eq_true rfl) dX5_init_1 ?_
  refine c_aload_n B dX5_init_4 0 rfl rfl ?_
  refine c_bipush (v := 60) B dX5_init_5 (by decide) ?_
  refine c_newI (N := 60) B (List.mem_of_getElem? (i := 4) rfl) (by decide) (by decide) (Nat.le_of_ble_eq_true rfl) (Nat.le_of_ble_eq_true rfl) (Nat.le_of_ble_eq_true rfl) dX5_init_7 (fun q1 => ?_)
  refine c_w (w1 := [(h0, eO 5 [.null, .int 0, .int 0]), (q1, eI cA 60 z0)]) (cells1 := 1) (slots1 := 60) rfl rfl rfl ?_
  refine c_putF B hin in_X5_init_X5 tyX5_ok nmX5 0 rfl rfl 0 (by decide) (List.mem_of_getElem? (i := 5) rfl) rfl rfl rfl rfl rfl (Nat.le_of_ble_eq_true rfl) dX5_init_9 ?_
  refine c_w (w1 := [(h0, eO 5 [.ref q1, .int 0, .int 0]), (q1, eI cA 60 z0)]) (cells1 := 1) (slots1 := 60) rfl rfl rfl ?_
  refine c_aload_n B dX5_init_12 0 rfl rfl ?_
  refine c_bipush (v := -9) B dX5_init_13 (by decide) ?_
  refine c_put B in_X5_init_X5 tyX5_ok nmX5 0 rfl rfl 1 (by decide) (List.mem_of_getElem? (i := 6) rfl) rfl rfl rfl rfl (Nat.le_of_ble_eq_true rfl) dX5_init_15 ?_
  refine c_w (w1 := [(h0, eO 5 [.ref q1, .int (-9), .int 0]), (q1, eI cA 60 z0)]) (cells1 := 1) (slots1 := 60) rfl rfl rfl ?_
  refine c_aload_n B dX5_init_18 0 rfl rfl ?_
  refine c_iconst (v := 0) B dX5_init_19 (by decide) ?_
  refine c_put B in_X5_init_X5 tyX5_ok nmX5 0 rfl rfl 2 (by decide) (List.mem_of_getElem? (i := 7) rfl) rfl rfl rfl rfl (Nat.le_of_ble_eq_true rfl) dX5_init_20 ?_
  refine c_w (w1 := [(h0, eO 5 [.ref q1, .int (-9), .int 0]), (q1, eI cA 60 z0)]) (cells1 := 1) (slots1 := 60) rfl rfl rfl ?_
  exact c_ret B hr hk dX5_init_23 (fun k => [h0, q1].getD k 0) rfl rfl

def wX0 (cA : Nat → ClassId) (a : Nat → Nat) : va_W := [(a 0, eO 0 [.ref (a 1), .int 0]), (a 1, eR cA 1 6 (rowR a 6 (fun j => 2 + j))), (a 2, eO 2 [.int 0, .int 0, .int 0, .int 1, .int 0, .int 0]), (a 3, eO 2 [.int 0, .int 0, .int 0, .int 1, .int 0, .int 0]), (a 4, eO 2 [.int 0, .int 0, .int 0, .int 1, .int 0, .int 0]), (a 5, eO 2 [.int 0, .int 0, .int 0, .int 1, .int 0, .int 0]), (a 6, eO 2 [.int 0, .int 0, .int 0, .int 1, .int 0, .int 0]), (a 7, eO 2 [.int 0, .int 0, .int 0, .int 1, .int 0, .int 0])]
abbrev rm_X0_init : Room := { frames := 2, cells := 7, slots := 42, locals := 32 }
set_option maxHeartbeats 4000000 in
set_option maxRecDepth 100000 in
theorem k_X0_init (l : Launch) (D : va_G) (cA : Nat → ClassId) (h0 : Nat) : NV l yX0_init wsX0_init rm_X0_init D cA h0 [(h0, eO 0 [.null, .int 0])] (wX0 cA) 7 42 := by
  refine NV_of (own := RX0) (cc := cX0_init) (maxL := 2) (by decide) rfl rfl rfl (Nat.le_of_ble_eq_true rfl) ?_
  intro p e s m args below meth c B hin hr hk
  refine c_aload_n B dX0_init_0 0 rfl rfl ?_
  refine c_obj B (List.mem_of_getElem? (i := 1) rfl) (List.mem_of_getElem? (i := 2) rfl) (List.mem_of_getElem? (i := 3) rfl) (Nat.le_of_ble_eq_true rfl) (Nat.le_of_ble_eq_true rfl) dX0_init_1 ?_
  refine c_aload_n B dX0_init_4 0 rfl rfl ?_
  refine c_bipush (v := 6) B dX0_init_5 (by decide) ?_
  refine c_newQ (N := 6) B 1 rfl B.2.2.2.2.2.2.2.1.1 (List.mem_of_getElem? (i := 4) rfl) (by decide) (by decide) (Nat.le_of_ble_eq_true rfl) (Nat.le_of_ble_eq_true rfl) (Nat.le_of_ble_eq_true rfl) dX0_init_7 (fun q1 => ?_)
  refine c_w (w1 := [(h0, eO 0 [.null, .int 0]), (q1, eR cA 1 6 (fun _ => none))]) (cells1 := 1) (slots1 := 6) rfl rfl rfl ?_
  refine c_putF B hin in_X0_init_X0 tyX0_ok nmX0 0 rfl rfl 0 (by decide) (List.mem_of_getElem? (i := 5) rfl) rfl rfl rfl rfl rfl (Nat.le_of_ble_eq_true rfl) dX0_init_10 ?_
  refine c_w (w1 := [(h0, eO 0 [.ref q1, .int 0]), (q1, eR cA 1 6 (fun _ => none))]) (cells1 := 1) (slots1 := 6) rfl rfl rfl ?_
  refine c_aload_n B dX0_init_13 0 rfl rfl ?_
  refine c_iconst (v := 0) B dX0_init_14 (by decide) ?_
  refine c_put B in_X0_init_X0 tyX0_ok nmX0 0 rfl rfl 1 (by decide) (List.mem_of_getElem? (i := 6) rfl) rfl rfl rfl rfl (Nat.le_of_ble_eq_true rfl) dX0_init_15 ?_
  refine c_w (w1 := [(h0, eO 0 [.ref q1, .int 0]), (q1, eR cA 1 6 (fun _ => none))]) (cells1 := 1) (slots1 := 6) rfl rfl rfl ?_
  refine c_iconst (v := 0) B dX0_init_18 (by decide) ?_
  refine c_istore_n (lv1 := [(1, .int 0), (0, .ref h0)]) B dX0_init_19 rfl (by decide) rfl ?_
  refine c_iload_n B dX0_init_20 0 rfl rfl ?_
  refine c_bipush (v := 6) B dX0_init_21 (by decide) ?_
  refine c_icmp_ge_f (tgt := 45) B dX0_init_23 (by decide) (by decide) ?_
  refine c_aload_n B dX0_init_26 1 rfl rfl ?_
  refine c_get B in_X0_init_X0 0 rfl rfl 0 (by decide) (List.mem_of_getElem? (i := 5) rfl) rfl rfl dX0_init_27 ?_
  refine c_iload_n B dX0_init_30 0 rfl rfl ?_
  refine c_new (ci := 2) (fs := [.int 0, .int 0, .int 0, .int 0, .int 0, .int 0]) B in_X0_init_X2 tyX2_ok (List.mem_of_getElem? (i := 4) rfl) (List.mem_of_getElem? (i := 7) rfl) (List.mem_of_getElem? (i := 8) rfl) rfl (fun j hj => by rcases (show j = 0 ∨ j = 1 ∨ j = 2 ∨ j = 3 ∨ j = 4 ∨ j = 5 by omega) with rfl | rfl | rfl | rfl | rfl | rfl <;> rfl) (Nat.le_of_ble_eq_true rfl) (Nat.le_of_ble_eq_true rfl) dX0_init_31 (fun q2 => ?_)
  refine c_w (w1 := [(h0, eO 0 [.ref q1, .int 0]), (q1, eR cA 1 6 (fun _ => none)), (q2, eO 2 [.int 0, .int 0, .int 0, .int 0, .int 0, .int 0])]) (cells1 := 2) (slots1 := 12) rfl rfl rfl ?_
  refine c_dup B dX0_init_34 rfl ?_
  refine c_callN (wr := [(h0, eO 0 [.ref q1, .int 0]), (q1, eR cA 1 6 (fun _ => none))]) B (k_X2_init l D cA q2) ⟨va_cnB (host := "PromiseWalk") 0 B.2.2.2.2.1 gX0_init_X2_init_n21 rfl rfl rfl (B.2.2.2.2.2.2.1.m 1 rfl) (B.2.2.2.2.1 _ (List.mem_of_getElem? (i := 8) rfl)) (by decide +kernel) ⟨Nat.le_of_ble_eq_true rfl, Nat.le_of_ble_eq_true rfl⟩, rfl, B.2.2.2.2.1 _ (List.mem_of_getElem? (i := 9) rfl)⟩ [2] [0, 1] rfl rfl (by decide) (by decide) (by decide) (Nat.le_of_ble_eq_true rfl) dX0_init_35 (Nat.le_of_ble_eq_true rfl) (Nat.le_of_ble_eq_true rfl) (fun a3 h3 => ?_)
  subst h3
  refine c_w (w1 := [(h0, eO 0 [.ref q1, .int 0]), (q1, eR cA 1 6 (fun _ => none)), (a3 0, eO 2 [.int 0, .int 0, .int 0, .int 1, .int 0, .int 0])]) (cells1 := 2) (slots1 := 12) rfl rfl rfl ?_
  refine c_aast (j := 0) B 1 1 2 rfl rfl rfl rfl (vp_in_iff.mpr ⟨by decide, by decide⟩) (by decide) dX0_init_38 ?_
  refine c_w (w1 := [(h0, eO 0 [.ref q1, .int 0]), (q1, eR cA 1 6 (va_up (fun _ => none) 0 (some (a3 0)))), (a3 0, eO 2 [.int 0, .int 0, .int 0, .int 1, .int 0, .int 0])]) (cells1 := 2) (slots1 := 12) rfl rfl rfl ?_
  refine c_iinc (v := 1) (lv1 := [(1, .int 1), (0, .ref h0)]) B dX0_init_39 0 rfl (by decide) (by decide) rfl ?_
  refine c_goto (tgt := 20) B dX0_init_42 (by decide) ?_
  refine c_iload_n B dX0_init_20 0 rfl rfl ?_
  refine c_bipush (v := 6) B dX0_init_21 (by decide) ?_
  refine c_icmp_ge_f (tgt := 45) B dX0_init_23 (by decide) (by decide) ?_
  refine c_aload_n B dX0_init_26 1 rfl rfl ?_
  refine c_get B in_X0_init_X0 0 rfl rfl 0 (by decide) (List.mem_of_getElem? (i := 5) rfl) rfl rfl dX0_init_27 ?_
  refine c_iload_n B dX0_init_30 0 rfl rfl ?_
  refine c_new (ci := 2) (fs := [.int 0, .int 0, .int 0, .int 0, .int 0, .int 0]) B in_X0_init_X2 tyX2_ok (List.mem_of_getElem? (i := 4) rfl) (List.mem_of_getElem? (i := 7) rfl) (List.mem_of_getElem? (i := 8) rfl) rfl (fun j hj => by rcases (show j = 0 ∨ j = 1 ∨ j = 2 ∨ j = 3 ∨ j = 4 ∨ j = 5 by omega) with rfl | rfl | rfl | rfl | rfl | rfl <;> rfl) (Nat.le_of_ble_eq_true rfl) (Nat.le_of_ble_eq_true rfl) dX0_init_31 (fun q4 => ?_)
  refine c_w (w1 := [(h0, eO 0 [.ref q1, .int 0]), (q1, eR cA 1 6 (va_up (fun _ => none) 0 (some (a3 0)))), (a3 0, eO 2 [.int 0, .int 0, .int 0, .int 1, .int 0, .int 0]), (q4, eO 2 [.int 0, .int 0, .int 0, .int 0, .int 0, .int 0])]) (cells1 := 3) (slots1 := 18) rfl rfl rfl ?_
  refine c_dup B dX0_init_34 rfl ?_
  refine c_callN (wr := [(h0, eO 0 [.ref q1, .int 0]), (q1, eR cA 1 6 (va_up (fun _ => none) 0 (some (a3 0)))), (a3 0, eO 2 [.int 0, .int 0, .int 0, .int 1, .int 0, .int 0])]) B (k_X2_init l D cA q4) ⟨va_cnB (host := "PromiseWalk") 0 B.2.2.2.2.1 gX0_init_X2_init_n21 rfl rfl rfl (B.2.2.2.2.2.2.1.m 1 rfl) (B.2.2.2.2.1 _ (List.mem_of_getElem? (i := 8) rfl)) (by decide +kernel) ⟨Nat.le_of_ble_eq_true rfl, Nat.le_of_ble_eq_true rfl⟩, rfl, B.2.2.2.2.1 _ (List.mem_of_getElem? (i := 9) rfl)⟩ [3] [0, 1, 2] rfl rfl (by decide) (by decide) (by decide) (Nat.le_of_ble_eq_true rfl) dX0_init_35 (Nat.le_of_ble_eq_true rfl) (Nat.le_of_ble_eq_true rfl) (fun a5 h5 => ?_)
  subst h5
  refine c_w (w1 := [(h0, eO 0 [.ref q1, .int 0]), (q1, eR cA 1 6 (va_up (fun _ => none) 0 (some (a3 0)))), (a3 0, eO 2 [.int 0, .int 0, .int 0, .int 1, .int 0, .int 0]), (a5 0, eO 2 [.int 0, .int 0, .int 0, .int 1, .int 0, .int 0])]) (cells1 := 3) (slots1 := 18) rfl rfl rfl ?_
  refine c_aast (j := 1) B 1 1 3 rfl rfl rfl rfl (vp_in_iff.mpr ⟨by decide, by decide⟩) (by decide) dX0_init_38 ?_
  refine c_w (w1 := [(h0, eO 0 [.ref q1, .int 0]), (q1, eR cA 1 6 (va_up (va_up (fun _ => none) 0 (some (a3 0))) 1 (some (a5 0)))), (a3 0, eO 2 [.int 0, .int 0, .int 0, .int 1, .int 0, .int 0]), (a5 0, eO 2 [.int 0, .int 0, .int 0, .int 1, .int 0, .int 0])]) (cells1 := 3) (slots1 := 18) rfl rfl rfl ?_
  refine c_iinc (v := 2) (lv1 := [(1, .int 2), (0, .ref h0)]) B dX0_init_39 0 rfl (by decide) (by decide) rfl ?_
  refine c_goto (tgt := 20) B dX0_init_42 (by decide) ?_
  refine c_iload_n B dX0_init_20 0 rfl rfl ?_
  refine c_bipush (v := 6) B dX0_init_21 (by decide) ?_
  refine c_icmp_ge_f (tgt := 45) B dX0_init_23 (by decide) (by decide) ?_
  refine c_aload_n B dX0_init_26 1 rfl rfl ?_
  refine c_get B in_X0_init_X0 0 rfl rfl 0 (by decide) (List.mem_of_getElem? (i := 5) rfl) rfl rfl dX0_init_27 ?_
  refine c_iload_n B dX0_init_30 0 rfl rfl ?_
  refine c_new (ci := 2) (fs := [.int 0, .int 0, .int 0, .int 0, .int 0, .int 0]) B in_X0_init_X2 tyX2_ok (List.mem_of_getElem? (i := 4) rfl) (List.mem_of_getElem? (i := 7) rfl) (List.mem_of_getElem? (i := 8) rfl) rfl (fun j hj => by rcases (show j = 0 ∨ j = 1 ∨ j = 2 ∨ j = 3 ∨ j = 4 ∨ j = 5 by omega) with rfl | rfl | rfl | rfl | rfl | rfl <;> rfl) (Nat.le_of_ble_eq_true rfl) (Nat.le_of_ble_eq_true rfl) dX0_init_31 (fun q6 => ?_)
  refine c_w (w1 := [(h0, eO 0 [.ref q1, .int 0]), (q1, eR cA 1 6 (va_up (va_up (fun _ => none) 0 (some (a3 0))) 1 (some (a5 0)))), (a3 0, eO 2 [.int 0, .int 0, .int 0, .int 1, .int 0, .int 0]), (a5 0, eO 2 [.int 0, .int 0, .int 0, .int 1, .int 0, .int 0]), (q6, eO 2 [.int 0, .int 0, .int 0, .int 0, .int 0, .int 0])]) (cells1 := 4) (slots1 := 24) rfl rfl rfl ?_
  refine c_dup B dX0_init_34 rfl ?_
  refine c_callN (wr := [(h0, eO 0 [.ref q1, .int 0]), (q1, eR cA 1 6 (va_up (va_up (fun _ => none) 0 (some (a3 0))) 1 (some (a5 0)))), (a3 0, eO 2 [.int 0, .int 0, .int 0, .int 1, .int 0, .int 0]), (a5 0, eO 2 [.int 0, .int 0, .int 0, .int 1, .int 0, .int 0])]) B (k_X2_init l D cA q6) ⟨va_cnB (host := "PromiseWalk") 0 B.2.2.2.2.1 gX0_init_X2_init_n21 rfl rfl rfl (B.2.2.2.2.2.2.1.m 1 rfl) (B.2.2.2.2.1 _ (List.mem_of_getElem? (i := 8) rfl)) (by decide +kernel) ⟨Nat.le_of_ble_eq_true rfl, Nat.le_of_ble_eq_true rfl⟩, rfl, B.2.2.2.2.1 _ (List.mem_of_getElem? (i := 9) rfl)⟩ [4] [0, 1, 2, 3] rfl rfl (by decide) (by decide) (by decide) (Nat.le_of_ble_eq_true rfl) dX0_init_35 (Nat.le_of_ble_eq_true rfl) (Nat.le_of_ble_eq_true rfl) (fun a7 h7 => ?_)
  subst h7
  refine c_w (w1 := [(h0, eO 0 [.ref q1, .int 0]), (q1, eR cA 1 6 (va_up (va_up (fun _ => none) 0 (some (a3 0))) 1 (some (a5 0)))), (a3 0, eO 2 [.int 0, .int 0, .int 0, .int 1, .int 0, .int 0]), (a5 0, eO 2 [.int 0, .int 0, .int 0, .int 1, .int 0, .int 0]), (a7 0, eO 2 [.int 0, .int 0, .int 0, .int 1, .int 0, .int 0])]) (cells1 := 4) (slots1 := 24) rfl rfl rfl ?_
  refine c_aast (j := 2) B 1 1 4 rfl rfl rfl rfl (vp_in_iff.mpr ⟨by decide, by decide⟩) (by decide) dX0_init_38 ?_
  refine c_w (w1 := [(h0, eO 0 [.ref q1, .int 0]), (q1, eR cA 1 6 (va_up (va_up (va_up (fun _ => none) 0 (some (a3 0))) 1 (some (a5 0))) 2 (some (a7 0)))), (a3 0, eO 2 [.int 0, .int 0, .int 0, .int 1, .int 0, .int 0]), (a5 0, eO 2 [.int 0, .int 0, .int 0, .int 1, .int 0, .int 0]), (a7 0, eO 2 [.int 0, .int 0, .int 0, .int 1, .int 0, .int 0])]) (cells1 := 4) (slots1 := 24) rfl rfl rfl ?_
  refine c_iinc (v := 3) (lv1 := [(1, .int 3), (0, .ref h0)]) B dX0_init_39 0 rfl (by decide) (by decide) rfl ?_
  refine c_goto (tgt := 20) B dX0_init_42 (by decide) ?_
  refine c_iload_n B dX0_init_20 0 rfl rfl ?_
  refine c_bipush (v := 6) B dX0_init_21 (by decide) ?_
  refine c_icmp_ge_f (tgt := 45) B dX0_init_23 (by decide) (by decide) ?_
  refine c_aload_n B dX0_init_26 1 rfl rfl ?_
  refine c_get B in_X0_init_X0 0 rfl rfl 0 (by decide) (List.mem_of_getElem? (i := 5) rfl) rfl rfl dX0_init_27 ?_
  refine c_iload_n B dX0_init_30 0 rfl rfl ?_
  refine c_new (ci := 2) (fs := [.int 0, .int 0, .int 0, .int 0, .int 0, .int 0]) B in_X0_init_X2 tyX2_ok (List.mem_of_getElem? (i := 4) rfl) (List.mem_of_getElem? (i := 7) rfl) (List.mem_of_getElem? (i := 8) rfl) rfl (fun j hj => by rcases (show j = 0 ∨ j = 1 ∨ j = 2 ∨ j = 3 ∨ j = 4 ∨ j = 5 by omega) with rfl | rfl | rfl | rfl | rfl | rfl <;> rfl) (Nat.le_of_ble_eq_true rfl) (Nat.le_of_ble_eq_true rfl) dX0_init_31 (fun q8 => ?_)
  refine c_w (w1 := [(h0, eO 0 [.ref q1, .int 0]), (q1, eR cA 1 6 (va_up (va_up (va_up (fun _ => none) 0 (some (a3 0))) 1 (some (a5 0))) 2 (some (a7 0)))), (a3 0, eO 2 [.int 0, .int 0, .int 0, .int 1, .int 0, .int 0]), (a5 0, eO 2 [.int 0, .int 0, .int 0, .int 1, .int 0, .int 0]), (a7 0, eO 2 [.int 0, .int 0, .int 0, .int 1, .int 0, .int 0]), (q8, eO 2 [.int 0, .int 0, .int 0, .int 0, .int 0, .int 0])]) (cells1 := 5) (slots1 := 30) rfl rfl rfl ?_
  refine c_dup B dX0_init_34 rfl ?_
  refine c_callN (wr := [(h0, eO 0 [.ref q1, .int 0]), (q1, eR cA 1 6 (va_up (va_up (va_up (fun _ => none) 0 (some (a3 0))) 1 (some (a5 0))) 2 (some (a7 0)))), (a3 0, eO 2 [.int 0, .int 0, .int 0, .int 1, .int 0, .int 0]), (a5 0, eO 2 [.int 0, .int 0, .int 0, .int 1, .int 0, .int 0]), (a7 0, eO 2 [.int 0, .int 0, .int 0, .int 1, .int 0, .int 0])]) B (k_X2_init l D cA q8) ⟨va_cnB (host := "PromiseWalk") 0 B.2.2.2.2.1 gX0_init_X2_init_n21 rfl rfl rfl (B.2.2.2.2.2.2.1.m 1 rfl) (B.2.2.2.2.1 _ (List.mem_of_getElem? (i := 8) rfl)) (by decide +kernel) ⟨Nat.le_of_ble_eq_true rfl, Nat.le_of_ble_eq_true rfl⟩, rfl, B.2.2.2.2.1 _ (List.mem_of_getElem? (i := 9) rfl)⟩ [5] [0, 1, 2, 3, 4] rfl rfl (by decide) (by decide) (by decide) (Nat.le_of_ble_eq_true rfl) dX0_init_35 (Nat.le_of_ble_eq_true rfl) (Nat.le_of_ble_eq_true rfl) (fun a9 h9 => ?_)
  subst h9
  refine c_w (w1 := [(h0, eO 0 [.ref q1, .int 0]), (q1, eR cA 1 6 (va_up (va_up (va_up (fun _ => none) 0 (some (a3 0))) 1 (some (a5 0))) 2 (some (a7 0)))), (a3 0, eO 2 [.int 0, .int 0, .int 0, .int 1, .int 0, .int 0]), (a5 0, eO 2 [.int 0, .int 0, .int 0, .int 1, .int 0, .int 0]), (a7 0, eO 2 [.int 0, .int 0, .int 0, .int 1, .int 0, .int 0]), (a9 0, eO 2 [.int 0, .int 0, .int 0, .int 1, .int 0, .int 0])]) (cells1 := 5) (slots1 := 30) rfl rfl rfl ?_
  refine c_aast (j := 3) B 1 1 5 rfl rfl rfl rfl (vp_in_iff.mpr ⟨by decide, by decide⟩) (by decide) dX0_init_38 ?_
  refine c_w (w1 := [(h0, eO 0 [.ref q1, .int 0]), (q1, eR cA 1 6 (va_up (va_up (va_up (va_up (fun _ => none) 0 (some (a3 0))) 1 (some (a5 0))) 2 (some (a7 0))) 3 (some (a9 0)))), (a3 0, eO 2 [.int 0, .int 0, .int 0, .int 1, .int 0, .int 0]), (a5 0, eO 2 [.int 0, .int 0, .int 0, .int 1, .int 0, .int 0]), (a7 0, eO 2 [.int 0, .int 0, .int 0, .int 1, .int 0, .int 0]), (a9 0, eO 2 [.int 0, .int 0, .int 0, .int 1, .int 0, .int 0])]) (cells1 := 5) (slots1 := 30) rfl rfl rfl ?_
  refine c_iinc (v := 4) (lv1 := [(1, .int 4), (0, .ref h0)]) B dX0_init_39 0 rfl (by decide) (by decide) rfl ?_
  refine c_goto (tgt := 20) B dX0_init_42 (by decide) ?_
  refine c_iload_n B dX0_init_20 0 rfl rfl ?_
  refine c_bipush (v := 6) B dX0_init_21 (by decide) ?_
  refine c_icmp_ge_f (tgt := 45) B dX0_init_23 (by decide) (by decide) ?_
  refine c_aload_n B dX0_init_26 1 rfl rfl ?_
  refine c_get B in_X0_init_X0 0 rfl rfl 0 (by decide) (List.mem_of_getElem? (i := 5) rfl) rfl rfl dX0_init_27 ?_
  refine c_iload_n B dX0_init_30 0 rfl rfl ?_
  refine c_new (ci := 2) (fs := [.int 0, .int 0, .int 0, .int 0, .int 0, .int 0]) B in_X0_init_X2 tyX2_ok (List.mem_of_getElem? (i := 4) rfl) (List.mem_of_getElem? (i := 7) rfl) (List.mem_of_getElem? (i := 8) rfl) rfl (fun j hj => by rcases (show j = 0 ∨ j = 1 ∨ j = 2 ∨ j = 3 ∨ j = 4 ∨ j = 5 by omega) with rfl | rfl | rfl | rfl | rfl | rfl <;> rfl) (Nat.le_of_ble_eq_true rfl) (Nat.le_of_ble_eq_true rfl) dX0_init_31 (fun q10 => ?_)
  refine c_w (w1 := [(h0, eO 0 [.ref q1, .int 0]), (q1, eR cA 1 6 (va_up (va_up (va_up (va_up (fun _ => none) 0 (some (a3 0))) 1 (some (a5 0))) 2 (some (a7 0))) 3 (some (a9 0)))), (a3 0, eO 2 [.int 0, .int 0, .int 0, .int 1, .int 0, .int 0]), (a5 0, eO 2 [.int 0, .int 0, .int 0, .int 1, .int 0, .int 0]), (a7 0, eO 2 [.int 0, .int 0, .int 0, .int 1, .int 0, .int 0]), (a9 0, eO 2 [.int 0, .int 0, .int 0, .int 1, .int 0, .int 0]), (q10, eO 2 [.int 0, .int 0, .int 0, .int 0, .int 0, .int 0])]) (cells1 := 6) (slots1 := 36) rfl rfl rfl ?_
  refine c_dup B dX0_init_34 rfl ?_
  refine c_callN (wr := [(h0, eO 0 [.ref q1, .int 0]), (q1, eR cA 1 6 (va_up (va_up (va_up (va_up (fun _ => none) 0 (some (a3 0))) 1 (some (a5 0))) 2 (some (a7 0))) 3 (some (a9 0)))), (a3 0, eO 2 [.int 0, .int 0, .int 0, .int 1, .int 0, .int 0]), (a5 0, eO 2 [.int 0, .int 0, .int 0, .int 1, .int 0, .int 0]), (a7 0, eO 2 [.int 0, .int 0, .int 0, .int 1, .int 0, .int 0]), (a9 0, eO 2 [.int 0, .int 0, .int 0, .int 1, .int 0, .int 0])]) B (k_X2_init l D cA q10) ⟨va_cnB (host := "PromiseWalk") 0 B.2.2.2.2.1 gX0_init_X2_init_n21 rfl rfl rfl (B.2.2.2.2.2.2.1.m 1 rfl) (B.2.2.2.2.1 _ (List.mem_of_getElem? (i := 8) rfl)) (by decide +kernel) ⟨Nat.le_of_ble_eq_true rfl, Nat.le_of_ble_eq_true rfl⟩, rfl, B.2.2.2.2.1 _ (List.mem_of_getElem? (i := 9) rfl)⟩ [6] [0, 1, 2, 3, 4, 5] rfl rfl (by decide) (by decide) (by decide) (Nat.le_of_ble_eq_true rfl) dX0_init_35 (Nat.le_of_ble_eq_true rfl) (Nat.le_of_ble_eq_true rfl) (fun a11 h11 => ?_)
  subst h11
  refine c_w (w1 := [(h0, eO 0 [.ref q1, .int 0]), (q1, eR cA 1 6 (va_up (va_up (va_up (va_up (fun _ => none) 0 (some (a3 0))) 1 (some (a5 0))) 2 (some (a7 0))) 3 (some (a9 0)))), (a3 0, eO 2 [.int 0, .int 0, .int 0, .int 1, .int 0, .int 0]), (a5 0, eO 2 [.int 0, .int 0, .int 0, .int 1, .int 0, .int 0]), (a7 0, eO 2 [.int 0, .int 0, .int 0, .int 1, .int 0, .int 0]), (a9 0, eO 2 [.int 0, .int 0, .int 0, .int 1, .int 0, .int 0]), (a11 0, eO 2 [.int 0, .int 0, .int 0, .int 1, .int 0, .int 0])]) (cells1 := 6) (slots1 := 36) rfl rfl rfl ?_
  refine c_aast (j := 4) B 1 1 6 rfl rfl rfl rfl (vp_in_iff.mpr ⟨by decide, by decide⟩) (by decide) dX0_init_38 ?_
  refine c_w (w1 := [(h0, eO 0 [.ref q1, .int 0]), (q1, eR cA 1 6 (va_up (va_up (va_up (va_up (va_up (fun _ => none) 0 (some (a3 0))) 1 (some (a5 0))) 2 (some (a7 0))) 3 (some (a9 0))) 4 (some (a11 0)))), (a3 0, eO 2 [.int 0, .int 0, .int 0, .int 1, .int 0, .int 0]), (a5 0, eO 2 [.int 0, .int 0, .int 0, .int 1, .int 0, .int 0]), (a7 0, eO 2 [.int 0, .int 0, .int 0, .int 1, .int 0, .int 0]), (a9 0, eO 2 [.int 0, .int 0, .int 0, .int 1, .int 0, .int 0]), (a11 0, eO 2 [.int 0, .int 0, .int 0, .int 1, .int 0, .int 0])]) (cells1 := 6) (slots1 := 36) rfl rfl rfl ?_
  refine c_iinc (v := 5) (lv1 := [(1, .int 5), (0, .ref h0)]) B dX0_init_39 0 rfl (by decide) (by decide) rfl ?_
  refine c_goto (tgt := 20) B dX0_init_42 (by decide) ?_
  refine c_iload_n B dX0_init_20 0 rfl rfl ?_
  refine c_bipush (v := 6) B dX0_init_21 (by decide) ?_
  refine c_icmp_ge_f (tgt := 45) B dX0_init_23 (by decide) (by decide) ?_
  refine c_aload_n B dX0_init_26 1 rfl rfl ?_
  refine c_get B in_X0_init_X0 0 rfl rfl 0 (by decide) (List.mem_of_getElem? (i := 5) rfl) rfl rfl dX0_init_27 ?_
  refine c_iload_n B dX0_init_30 0 rfl rfl ?_
  refine c_new (ci := 2) (fs := [.int 0, .int 0, .int 0, .int 0, .int 0, .int 0]) B in_X0_init_X2 tyX2_ok (List.mem_of_getElem? (i := 4) rfl) (List.mem_of_getElem? (i := 7) rfl) (List.mem_of_getElem? (i := 8) rfl) rfl (fun j hj => by rcases (show j = 0 ∨ j = 1 ∨ j = 2 ∨ j = 3 ∨ j = 4 ∨ j = 5 by omega) with rfl | rfl | rfl | rfl | rfl | rfl <;> rfl) (Nat.le_of_ble_eq_true rfl) (Nat.le_of_ble_eq_true rfl) dX0_init_31 (fun q12 => ?_)
  refine c_w (w1 := [(h0, eO 0 [.ref q1, .int 0]), (q1, eR cA 1 6 (va_up (va_up (va_up (va_up (va_up (fun _ => none) 0 (some (a3 0))) 1 (some (a5 0))) 2 (some (a7 0))) 3 (some (a9 0))) 4 (some (a11 0)))), (a3 0, eO 2 [.int 0, .int 0, .int 0, .int 1, .int 0, .int 0]), (a5 0, eO 2 [.int 0, .int 0, .int 0, .int 1, .int 0, .int 0]), (a7 0, eO 2 [.int 0, .int 0, .int 0, .int 1, .int 0, .int 0]), (a9 0, eO 2 [.int 0, .int 0, .int 0, .int 1, .int 0, .int 0]), (a11 0, eO 2 [.int 0, .int 0, .int 0, .int 1, .int 0, .int 0]), (q12, eO 2 [.int 0, .int 0, .int 0, .int 0, .int 0, .int 0])]) (cells1 := 7) (slots1 := 42) rfl rfl rfl ?_
  refine c_dup B dX0_init_34 rfl ?_
  refine c_callN (wr := [(h0, eO 0 [.ref q1, .int 0]), (q1, eR cA 1 6 (va_up (va_up (va_up (va_up (va_up (fun _ => none) 0 (some (a3 0))) 1 (some (a5 0))) 2 (some (a7 0))) 3 (some (a9 0))) 4 (some (a11 0)))), (a3 0, eO 2 [.int 0, .int 0, .int 0, .int 1, .int 0, .int 0]), (a5 0, eO 2 [.int 0, .int 0, .int 0, .int 1, .int 0, .int 0]), (a7 0, eO 2 [.int 0, .int 0, .int 0, .int 1, .int 0, .int 0]), (a9 0, eO 2 [.int 0, .int 0, .int 0, .int 1, .int 0, .int 0]), (a11 0, eO 2 [.int 0, .int 0, .int 0, .int 1, .int 0, .int 0])]) B (k_X2_init l D cA q12) ⟨va_cnB (host := "PromiseWalk") 0 B.2.2.2.2.1 gX0_init_X2_init_n21 rfl rfl rfl (B.2.2.2.2.2.2.1.m 1 rfl) (B.2.2.2.2.1 _ (List.mem_of_getElem? (i := 8) rfl)) (by decide +kernel) ⟨Nat.le_of_ble_eq_true rfl, Nat.le_of_ble_eq_true rfl⟩, rfl, B.2.2.2.2.1 _ (List.mem_of_getElem? (i := 9) rfl)⟩ [7] [0, 1, 2, 3, 4, 5, 6] rfl rfl (by decide) (by decide) (by decide) (Nat.le_of_ble_eq_true rfl) dX0_init_35 (Nat.le_of_ble_eq_true rfl) (Nat.le_of_ble_eq_true rfl) (fun a13 h13 => ?_)
  subst h13
  refine c_w (w1 := [(h0, eO 0 [.ref q1, .int 0]), (q1, eR cA 1 6 (va_up (va_up (va_up (va_up (va_up (fun _ => none) 0 (some (a3 0))) 1 (some (a5 0))) 2 (some (a7 0))) 3 (some (a9 0))) 4 (some (a11 0)))), (a3 0, eO 2 [.int 0, .int 0, .int 0, .int 1, .int 0, .int 0]), (a5 0, eO 2 [.int 0, .int 0, .int 0, .int 1, .int 0, .int 0]), (a7 0, eO 2 [.int 0, .int 0, .int 0, .int 1, .int 0, .int 0]), (a9 0, eO 2 [.int 0, .int 0, .int 0, .int 1, .int 0, .int 0]), (a11 0, eO 2 [.int 0, .int 0, .int 0, .int 1, .int 0, .int 0]), (a13 0, eO 2 [.int 0, .int 0, .int 0, .int 1, .int 0, .int 0])]) (cells1 := 7) (slots1 := 42) rfl rfl rfl ?_
  refine c_aast (j := 5) B 1 1 7 rfl rfl rfl rfl (vp_in_iff.mpr ⟨by decide, by decide⟩) (by decide) dX0_init_38 ?_
  refine c_w (w1 := [(h0, eO 0 [.ref q1, .int 0]), (q1, eR cA 1 6 (va_up (va_up (va_up (va_up (va_up (va_up (fun _ => none) 0 (some (a3 0))) 1 (some (a5 0))) 2 (some (a7 0))) 3 (some (a9 0))) 4 (some (a11 0))) 5 (some (a13 0)))), (a3 0, eO 2 [.int 0, .int 0, .int 0, .int 1, .int 0, .int 0]), (a5 0, eO 2 [.int 0, .int 0, .int 0, .int 1, .int 0, .int 0]), (a7 0, eO 2 [.int 0, .int 0, .int 0, .int 1, .int 0, .int 0]), (a9 0, eO 2 [.int 0, .int 0, .int 0, .int 1, .int 0, .int 0]), (a11 0, eO 2 [.int 0, .int 0, .int 0, .int 1, .int 0, .int 0]), (a13 0, eO 2 [.int 0, .int 0, .int 0, .int 1, .int 0, .int 0])]) (cells1 := 7) (slots1 := 42) rfl rfl rfl ?_
  refine c_iinc (v := 6) (lv1 := [(1, .int 6), (0, .ref h0)]) B dX0_init_39 0 rfl (by decide) (by decide) rfl ?_
  refine c_goto (tgt := 20) B dX0_init_42 (by decide) ?_
  refine c_iload_n B dX0_init_20 0 rfl rfl ?_
  refine c_bipush (v := 6) B dX0_init_21 (by decide) ?_
  refine c_icmp_ge_t (tgt := 45) B dX0_init_23 (by decide) (by decide) ?_
  refine c_ret B hr hk dX0_init_45 (fun k => [h0, q1, a3 0, a5 0, a7 0, a9 0, a11 0, a13 0].getD k 0) rfl ?_
  exact congrArg (fun r => ([(h0, eO 0 [.ref q1, .int 0]), (q1, eR cA 1 6 r), (a3 0, eO 2 [.int 0, .int 0, .int 0, .int 1, .int 0, .int 0]), (a5 0, eO 2 [.int 0, .int 0, .int 0, .int 1, .int 0, .int 0]), (a7 0, eO 2 [.int 0, .int 0, .int 0, .int 1, .int 0, .int 0]), (a9 0, eO 2 [.int 0, .int 0, .int 0, .int 1, .int 0, .int 0]), (a11 0, eO 2 [.int 0, .int 0, .int 0, .int 1, .int 0, .int 0]), (a13 0, eO 2 [.int 0, .int 0, .int 0, .int 1, .int 0, .int 0])] : va_W)) (row6 rfl rfl rfl rfl rfl rfl)

def wX4 (cA : Nat → ClassId) (a : Nat → Nat) : va_W := [(a 0, eO 4 [.ref (a 1), .int (-9), .int 0, .int (-9), .int 0]), (a 1, eO 0 [.ref (a 2), .int 0]), (a 2, eR cA 1 6 (rowR a 6 (fun j => 3 + j))), (a 3, eO 2 [.int 0, .int 0, .int 0, .int 1, .int 0, .int 0]), (a 4, eO 2 [.int 0, .int 0, .int 0, .int 1, .int 0, .int 0]), (a 5, eO 2 [.int 0, .int 0, .int 0, .int 1, .int 0, .int 0]), (a 6, eO 2 [.int 0, .int 0, .int 0, .int 1, .int 0, .int 0]), (a 7, eO 2 [.int 0, .int 0, .int 0, .int 1, .int 0, .int 0]), (a 8, eO 2 [.int 0, .int 0, .int 0, .int 1, .int 0, .int 0])]
abbrev rm_X4_init : Room := { frames := 3, cells := 8, slots := 44, locals := 53 }
set_option maxHeartbeats 4000000 in
set_option maxRecDepth 100000 in
theorem k_X4_init (l : Launch) (D : va_G) (cA : Nat → ClassId) (h0 : Nat) : NV l yX4_init wsX4_init rm_X4_init D cA h0 [(h0, eO 4 [.null, .int 0, .int 0, .int 0, .int 0])] (wX4 cA) 8 44 := by
  refine NV_of (own := RX4) (cc := cX4_init) (maxL := 1) (by decide) rfl rfl rfl (Nat.le_of_ble_eq_true rfl) ?_
  intro p e s m args below meth c B hin hr hk
  refine c_aload_n B dX4_init_0 0 rfl rfl ?_
  refine c_obj B (List.mem_of_getElem? (i := 1) rfl) (List.mem_of_getElem? (i := 2) rfl) (List.mem_of_getElem? (i := 3) rfl) (Nat.le_of_ble_eq_true rfl) (Nat.le_of_ble_eq_true rfl) dX4_init_1 ?_
  refine c_aload_n B dX4_init_4 0 rfl rfl ?_
  refine c_new (ci := 0) (fs := [.null, .int 0]) B in_X4_init_X0 tyX0_ok (List.mem_of_getElem? (i := 4) rfl) (List.mem_of_getElem? (i := 5) rfl) (List.mem_of_getElem? (i := 6) rfl) rfl (fun j hj => by rcases (show j = 0 ∨ j = 1 by omega) with rfl | rfl <;> rfl) (Nat.le_of_ble_eq_true rfl) (Nat.le_of_ble_eq_true rfl) dX4_init_5 (fun q1 => ?_)
  refine c_w (w1 := [(h0, eO 4 [.null, .int 0, .int 0, .int 0, .int 0]), (q1, eO 0 [.null, .int 0])]) (cells1 := 1) (slots1 := 2) rfl rfl rfl ?_
  refine c_dup B dX4_init_8 rfl ?_
  refine c_callI (wr := [(h0, eO 4 [.null, .int 0, .int 0, .int 0, .int 0])]) B (k_X0_init l D cA q1) (cwI 0 B.2.2.2.2.1 gX4_init_X0_init rfl rfl rfl (B.2.2.2.2.1 _ (List.mem_of_getElem? (i := 6) rfl)) (B.2.2.2.2.1 _ (List.mem_of_getElem? (i := 12) rfl)) (B.2.2.2.2.1 _ (List.mem_of_getElem? (i := 13) rfl)) rfl (by decide +kernel) ⟨Nat.le_of_ble_eq_true rfl, Nat.le_of_ble_eq_true rfl⟩) [1] [0] rfl rfl (by decide) (by decide) (by decide) (Nat.le_of_ble_eq_true rfl) dX4_init_9 (Nat.le_of_ble_eq_true rfl) (Nat.le_of_ble_eq_true rfl) (fun a2 h2 => ?_)
  subst h2
  refine c_w (w1 := [(h0, eO 4 [.null, .int 0, .int 0, .int 0, .int 0]), (a2 0, eO 0 [.ref (a2 1), .int 0]), (a2 1, eR cA 1 6 (rowR a2 6 (fun j => 2 + j))), (a2 2, eO 2 [.int 0, .int 0, .int 0, .int 1, .int 0, .int 0]), (a2 3, eO 2 [.int 0, .int 0, .int 0, .int 1, .int 0, .int 0]), (a2 4, eO 2 [.int 0, .int 0, .int 0, .int 1, .int 0, .int 0]), (a2 5, eO 2 [.int 0, .int 0, .int 0, .int 1, .int 0, .int 0]), (a2 6, eO 2 [.int 0, .int 0, .int 0, .int 1, .int 0, .int 0]), (a2 7, eO 2 [.int 0, .int 0, .int 0, .int 1, .int 0, .int 0])]) (cells1 := 8) (slots1 := 44) rfl rfl rfl ?_
  refine c_putF B hin in_X4_init_X4 tyX4_ok nmX4 0 rfl rfl 0 (by decide) (List.mem_of_getElem? (i := 7) rfl) rfl rfl rfl rfl rfl (Nat.le_of_ble_eq_true rfl) dX4_init_12 ?_
  refine c_w (w1 := [(h0, eO 4 [.ref (a2 0), .int 0, .int 0, .int 0, .int 0]), (a2 0, eO 0 [.ref (a2 1), .int 0]), (a2 1, eR cA 1 6 (rowR a2 6 (fun j => 2 + j))), (a2 2, eO 2 [.int 0, .int 0, .int 0, .int 1, .int 0, .int 0]), (a2 3, eO 2 [.int 0, .int 0, .int 0, .int 1, .int 0, .int 0]), (a2 4, eO 2 [.int 0, .int 0, .int 0, .int 1, .int 0, .int 0]), (a2 5, eO 2 [.int 0, .int 0, .int 0, .int 1, .int 0, .int 0]), (a2 6, eO 2 [.int 0, .int 0, .int 0, .int 1, .int 0, .int 0]), (a2 7, eO 2 [.int 0, .int 0, .int 0, .int 1, .int 0, .int 0])]) (cells1 := 8) (slots1 := 44) rfl rfl rfl ?_
  refine c_aload_n B dX4_init_15 0 rfl rfl ?_
  refine c_bipush (v := -9) B dX4_init_16 (by decide) ?_
  refine c_put B in_X4_init_X4 tyX4_ok nmX4 0 rfl rfl 1 (by decide) (List.mem_of_getElem? (i := 8) rfl) rfl rfl rfl rfl (Nat.le_of_ble_eq_true rfl) dX4_init_18 ?_
  refine c_w (w1 := [(h0, eO 4 [.ref (a2 0), .int (-9), .int 0, .int 0, .int 0]), (a2 0, eO 0 [.ref (a2 1), .int 0]), (a2 1, eR cA 1 6 (rowR a2 6 (fun j => 2 + j))), (a2 2, eO 2 [.int 0, .int 0, .int 0, .int 1, .int 0, .int 0]), (a2 3, eO 2 [.int 0, .int 0, .int 0, .int 1, .int 0, .int 0]), (a2 4, eO 2 [.int 0, .int 0, .int 0, .int 1, .int 0, .int 0]), (a2 5, eO 2 [.int 0, .int 0, .int 0, .int 1, .int 0, .int 0]), (a2 6, eO 2 [.int 0, .int 0, .int 0, .int 1, .int 0, .int 0]), (a2 7, eO 2 [.int 0, .int 0, .int 0, .int 1, .int 0, .int 0])]) (cells1 := 8) (slots1 := 44) rfl rfl rfl ?_
  refine c_aload_n B dX4_init_21 0 rfl rfl ?_
  refine c_iconst (v := 0) B dX4_init_22 (by decide) ?_
  refine c_put B in_X4_init_X4 tyX4_ok nmX4 0 rfl rfl 2 (by decide) (List.mem_of_getElem? (i := 9) rfl) rfl rfl rfl rfl (Nat.le_of_ble_eq_true rfl) dX4_init_23 ?_
  refine c_w (w1 := [(h0, eO 4 [.ref (a2 0), .int (-9), .int 0, .int 0, .int 0]), (a2 0, eO 0 [.ref (a2 1), .int 0]), (a2 1, eR cA 1 6 (rowR a2 6 (fun j => 2 + j))), (a2 2, eO 2 [.int 0, .int 0, .int 0, .int 1, .int 0, .int 0]), (a2 3, eO 2 [.int 0, .int 0, .int 0, .int 1, .int 0, .int 0]), (a2 4, eO 2 [.int 0, .int 0, .int 0, .int 1, .int 0, .int 0]), (a2 5, eO 2 [.int 0, .int 0, .int 0, .int 1, .int 0, .int 0]), (a2 6, eO 2 [.int 0, .int 0, .int 0, .int 1, .int 0, .int 0]), (a2 7, eO 2 [.int 0, .int 0, .int 0, .int 1, .int 0, .int 0])]) (cells1 := 8) (slots1 := 44) rfl rfl rfl ?_
  refine c_aload_n B dX4_init_26 0 rfl rfl ?_
  refine c_bipush (v := -9) B dX4_init_27 (by decide) ?_
  refine c_put B in_X4_init_X4 tyX4_ok nmX4 0 rfl rfl 3 (by decide) (List.mem_of_getElem? (i := 10) rfl) rfl rfl rfl rfl (Nat.le_of_ble_eq_true rfl) dX4_init_29 ?_
  refine c_w (w1 := [(h0, eO 4 [.ref (a2 0), .int (-9), .int 0, .int (-9), .int 0]), (a2 0, eO 0 [.ref (a2 1), .int 0]), (a2 1, eR cA 1 6 (rowR a2 6 (fun j => 2 + j))), (a2 2, eO 2 [.int 0, .int 0, .int 0, .int 1, .int 0, .int 0]), (a2 3, eO 2 [.int 0, .int 0, .int 0, .int 1, .int 0, .int 0]), (a2 4, eO 2 [.int 0, .int 0, .int 0, .int 1, .int 0, .int 0]), (a2 5, eO 2 [.int 0, .int 0, .int 0, .int 1, .int 0, .int 0]), (a2 6, eO 2 [.int 0, .int 0, .int 0, .int 1, .int 0, .int 0]), (a2 7, eO 2 [.int 0, .int 0, .int 0, .int 1, .int 0, .int 0])]) (cells1 := 8) (slots1 := 44) rfl rfl rfl ?_
  refine c_aload_n B dX4_init_32 0 rfl rfl ?_
  refine c_iconst (v := 0) B dX4_init_33 (by decide) ?_
  refine c_put B in_X4_init_X4 tyX4_ok nmX4 0 rfl rfl 4 (by decide) (List.mem_of_getElem? (i := 11) rfl) rfl rfl rfl rfl (Nat.le_of_ble_eq_true rfl) dX4_init_34 ?_
  refine c_w (w1 := [(h0, eO 4 [.ref (a2 0), .int (-9), .int 0, .int (-9), .int 0]), (a2 0, eO 0 [.ref (a2 1), .int 0]), (a2 1, eR cA 1 6 (rowR a2 6 (fun j => 2 + j))), (a2 2, eO 2 [.int 0, .int 0, .int 0, .int 1, .int 0, .int 0]), (a2 3, eO 2 [.int 0, .int 0, .int 0, .int 1, .int 0, .int 0]), (a2 4, eO 2 [.int 0, .int 0, .int 0, .int 1, .int 0, .int 0]), (a2 5, eO 2 [.int 0, .int 0, .int 0, .int 1, .int 0, .int 0]), (a2 6, eO 2 [.int 0, .int 0, .int 0, .int 1, .int 0, .int 0]), (a2 7, eO 2 [.int 0, .int 0, .int 0, .int 1, .int 0, .int 0])]) (cells1 := 8) (slots1 := 44) rfl rfl rfl ?_
  refine c_ret B hr hk dX4_init_37 (fun k => match k with | 0 => h0 | k + 1 => a2 k) rfl ?_
  exact congrArg (fun r => ([(h0, eO 4 [.ref (a2 0), .int (-9), .int 0, .int (-9), .int 0]), (a2 0, eO 0 [.ref (a2 1), .int 0]), (a2 1, eR cA 1 6 r), (a2 2, eO 2 [.int 0, .int 0, .int 0, .int 1, .int 0, .int 0]), (a2 3, eO 2 [.int 0, .int 0, .int 0, .int 1, .int 0, .int 0]), (a2 4, eO 2 [.int 0, .int 0, .int 0, .int 1, .int 0, .int 0]), (a2 5, eO 2 [.int 0, .int 0, .int 0, .int 1, .int 0, .int 0]), (a2 6, eO 2 [.int 0, .int 0, .int 0, .int 1, .int 0, .int 0]), (a2 7, eO 2 [.int 0, .int 0, .int 0, .int 1, .int 0, .int 0])] : va_W)) (rowR_g (a := fun k => match k with | 0 => h0 | k + 1 => a2 k) (b := a2) (f := fun j => 3 + j) (g := fun j => 2 + j) (fun j _ => by show (match 3 + j with | 0 => h0 | k + 1 => a2 k) = a2 (2 + j); rw [show 3 + j = (2 + j) + 1 by omega]))
