abbrev rm_X9_back : Room := { frames := 1, cells := 0, slots := 0, locals := 25 }
set_option maxHeartbeats 4000000 in
set_option maxRecDepth 100000 in
theorem k_X9_back (l : Launch) (D : va_G) (cA : Nat → ClassId) (ad : Nat → Nat) (had : adOK ad 25) (v1 : Int32) (M : Mem) : CI l yX9_back wsX9_back rm_X9_back D cA ad (shM ad cA) 25 [.ref (ad 0), .int v1] M (d_X9_back v1 M) := by
  refine CI_of (own := RX9) (cc := cX9_back) (maxL := 2) (rt := .int) had (by decide) rfl rfl (Nat.le_of_ble_eq_true rfl) ?_
  intro p e s m args below meth c R0 B hr hk
  unfold d_X9_back
  show GG p l e (headSpec wsX9_back rm_X9_back).room s m args below meth c D ad (shM ad cA) 25 2 (MQ below (QI D ad (shM ad cA) 25 s.heap.size R0) args s 0 0 (AX ad 25 s.heap.size)) R0 M 0 [(0, .ref (ad 0)), (1, .int v1)] [] _
  refine g_iload_n B dX9_back_0 1 rfl rfl ?_
  refine g_i2l B dX9_back_1 ?_
  refine g_lconst (v := 0) B dX9_back_2 (by decide) ?_
  refine g_aload_n B dX9_back_3 0 rfl rfl ?_
  refine g_get (v := .int (M 0 30)) B shM_o (by decide) in_X9_back_X9 rfl 30 (by decide) (List.mem_of_getElem? (i := 1) rfl) rfl rfl dX9_back_4 ?_
  refine g_i2l B dX9_back_7 ?_
  refine g_callSIp (As := [.long v1.toInt64, .long (0 : Int64), .long ((M 0 30).toInt64)]) (st := []) B (k_X9_in l D cA ad B.2.2.2.2.2.2.1 v1.toInt64 (0 : Int64) ((M 0 30).toInt64) M) (va_cwS 3 B.2.2.2.2.1 gX9_back_X9_in rfl rfl rfl (by decide +kernel) ⟨Nat.le_of_ble_eq_true rfl, Nat.le_of_ble_eq_true rfl⟩) rfl rfl (Nat.le_of_ble_eq_true rfl) dX9_back_8 (fun r1 _ => ?_)
  refine g_if_ne (tgt := 17) B dX9_back_11 (by decide) (fun c2 => ?_) (fun c2 => ?_)
  · refine g_bipush (v := -2) B dX9_back_14 (by decide) ?_
    exact g_iret B hr hk dX9_back_16
  · refine g_aload_n B dX9_back_17 0 rfl rfl ?_
    refine g_dup B dX9_back_18 rfl ?_
    refine g_get (v := .int (M 0 30)) B shM_o (by decide) in_X9_back_X9 rfl 30 (by decide) (List.mem_of_getElem? (i := 1) rfl) rfl rfl dX9_back_19 ?_
    refine g_iload_n B dX9_back_22 1 rfl rfl ?_
    refine g_isub B dX9_back_23 ?_
    refine g_put (ty := .int) B shM_o (by decide) in_X9_back_X9 tyX9_ok nmX9 rfl 30 (by decide) (List.mem_of_getElem? (i := 1) rfl) rfl rfl (by decide +kernel) rfl rfl (fun _ => Nat.le_of_ble_eq_true rfl) (fun _ _ => rfl) dX9_back_24 (g_lmM (fun M3 => ?_))
    refine g_aload_n B dX9_back_27 0 rfl rfl ?_
    refine g_get (v := .int (M3 0 30)) B shM_o (by decide) in_X9_back_X9 rfl 30 (by decide) (List.mem_of_getElem? (i := 1) rfl) rfl rfl dX9_back_28 ?_
    exact g_iret B hr hk dX9_back_31

abbrev rm_X9_areSo : Room := { frames := 1, cells := 0, slots := 0, locals := 22 }
set_option maxHeartbeats 4000000 in
set_option maxRecDepth 100000 in
theorem k_X9_areSo (l : Launch) (D : va_G) (cA : Nat → ClassId) (ad : Nat → Nat) (had : adOK ad 25)  (M : Mem) : CI l yX9_areSo wsX9_areSo rm_X9_areSo D cA ad (shM ad cA) 25 [.ref (ad 0)] M (wM M (d_X9_areSo  M)) := by
  refine CI_ofp (own := RX9) (cc := cX9_areSo) (maxL := 3) (rt := .boolean) had (by decide) rfl rfl (Nat.le_of_ble_eq_true rfl) ?_
  intro p e s m args below meth c R0 B hr hk
  have hJ46 : ∀ (rec4 : Int32 → Int32 → Option Int32) (v2 : Int32)     (hrec4 : ∀ (w1 : Int32) (w2 : Int32), GG p l e (headSpec wsX9_areSo rm_X9_areSo).room s m args below meth c D ad (shM ad cA) 25 3 (MQ below (QI D ad (shM ad cA) 25 s.heap.size (R0, M)) args s 0 0 (AX ad 25 s.heap.size)) R0 M 4 [(0, .ref (ad 0)), (1, .int w1), (2, .int w2)] [] (rec4 w1 w2)), GG p l e (headSpec wsX9_areSo rm_X9_areSo).room s m args below meth c D ad (shM ad cA) 25 3 (MQ below (QI D ad (shM ad cA) 25 s.heap.size (R0, M)) args s 0 0 (AX ad 25 s.heap.size)) R0 M 46 [(0, .ref (ad 0)), (2, .int v2)] [] (dX9_areSo_46j rec4 v2  M) := by
    intro rec4 v2 hrec4
    unfold dX9_areSo_46j
    refine g_iconst (v := 0) B dX9_areSo_46 (by decide) ?_
    refine g_istore_n B dX9_areSo_47 rfl (by decide) (lv1 := [(1, .int (0 : Int32)), (0, .ref (ad 0)), (2, .int v2)]) rfl ?_
    refine g_iinc B dX9_areSo_48 2 (v := v2 + (1 : Int32)) rfl rfl (by decide) (lv1 := [(2, .int (v2 + (1 : Int32))), (1, .int (0 : Int32)), (0, .ref (ad 0))]) rfl ?_
    refine g_goto (tgt := 4) B dX9_areSo_51 (by decide) ?_
    exact g_lv [2, 1, 0] rfl (hrec4 _ _)
  have hL4 : ∀ (f : Nat) (v1 : Int32) (v2 : Int32), GG p l e (headSpec wsX9_areSo rm_X9_areSo).room s m args below meth c D ad (shM ad cA) 25 3 (MQ below (QI D ad (shM ad cA) 25 s.heap.size (R0, M)) args s 0 0 (AX ad 25 s.heap.size)) R0 M 4 [(0, .ref (ad 0)), (1, .int v1), (2, .int v2)] [] (dX9_areSo_4l  M  f v1 v2 ) := by
    intro f
    induction f with
    | zero =>
      intro v1 v2
      exact g_none
    | succ f ih =>
      intro v1 v2
      rw [dX9_areSo_4l]
      refine g_iload_n B dX9_areSo_4 2 rfl rfl ?_
      refine g_aload_n B dX9_areSo_5 0 rfl rfl ?_
      refine g_get (v := .int (M 0 30)) B shM_o (by decide) in_X9_areSo_X9 rfl 30 (by decide) (List.mem_of_getElem? (i := 1) rfl) rfl rfl dX9_areSo_6 ?_
      refine g_icmp_ge (tgt := 54) B dX9_areSo_9 (by decide) (fun c1 => ?_) (fun c1 => ?_)
      · refine g_iload_n B dX9_areSo_54 1 rfl rfl ?_
        refine g_gd (fun z2 => ?_)
        exact g_zretp B hr hk (nz z2) dX9_areSo_55
      · refine g_iload_n B dX9_areSo_12 1 rfl rfl ?_
        refine g_if_eq (tgt := 46) B dX9_areSo_13 (by decide) (fun c3 => ?_) (fun c3 => ?_)
        · exact g_lv [0, 2] rfl (hJ46 _ _   ih)
        · refine g_aload_n B dX9_areSo_16 0 rfl rfl ?_
          refine g_get (v := .ref (ad 19)) B shM_o (by decide) in_X9_areSo_X9 rfl 32 (by decide) (List.mem_of_getElem? (i := 2) rfl) rfl rfl dX9_areSo_17 ?_
          refine g_iload_n B dX9_areSo_20 2 rfl rfl ?_
          refine g_iald B shM_a19 (by decide) dX9_areSo_21 ?_
          refine g_aload_n B dX9_areSo_22 0 rfl rfl ?_
          refine g_aload_n B dX9_areSo_23 0 rfl rfl ?_
          refine g_get (v := .ref (ad 18)) B shM_o (by decide) in_X9_areSo_X9 rfl 31 (by decide) (List.mem_of_getElem? (i := 3) rfl) rfl rfl dX9_areSo_24 ?_
          refine g_iload_n B dX9_areSo_27 2 rfl rfl ?_
          refine g_iald B shM_a18 (by decide) dX9_areSo_28 ?_
          refine g_callVIp (q := (RX9, TX9, 39)) (As := [.int (M 18 v2.toNatClampNeg)]) (st := [.int (M 19 v2.toNatClampNeg)]) B (k_X9_paceOf l D cA ad B.2.2.2.2.2.2.1 (M 18 v2.toNatClampNeg) M) (cwV 1 B.2.2.2.2.1 gX9_areSo_X9_paceOf rfl rfl rfl (by decide +kernel) ⟨Nat.le_of_ble_eq_true rfl, Nat.le_of_ble_eq_true rfl⟩) shM_o (by decide) rfl rfl rfl (Nat.le_of_ble_eq_true rfl) dX9_areSo_29 (fun r4 _ => ?_)
          refine g_imul B dX9_areSo_32 ?_
          refine g_aload_n B dX9_areSo_33 0 rfl rfl ?_
          refine g_get (v := .ref (ad 20)) B shM_o (by decide) in_X9_areSo_X9 rfl 33 (by decide) (List.mem_of_getElem? (i := 4) rfl) rfl rfl dX9_areSo_34 ?_
          refine g_iload_n B dX9_areSo_37 2 rfl rfl ?_
          refine g_iald B shM_a20 (by decide) dX9_areSo_38 ?_
          refine g_icmp_ne (tgt := 46) B dX9_areSo_39 (by decide) (fun c5 => ?_) (fun c5 => ?_)
          · refine g_iconst (v := 1) B dX9_areSo_42 (by decide) ?_
            refine g_goto (tgt := 47) B dX9_areSo_43 (by decide) ?_
            refine g_istore_n B dX9_areSo_47 rfl (by decide) (lv1 := [(1, .int (1 : Int32)), (0, .ref (ad 0)), (2, .int v2)]) rfl ?_
            refine g_iinc B dX9_areSo_48 2 (v := v2 + (1 : Int32)) rfl rfl (by decide) (lv1 := [(2, .int (v2 + (1 : Int32))), (1, .int (1 : Int32)), (0, .ref (ad 0))]) rfl ?_
            refine g_goto (tgt := 4) B dX9_areSo_51 (by decide) ?_
            exact g_lv [2, 1, 0] rfl (ih _ _)
          · exact g_lv [0, 2] rfl (hJ46 _ _   ih)
  unfold d_X9_areSo
  show GG p l e (headSpec wsX9_areSo rm_X9_areSo).room s m args below meth c D ad (shM ad cA) 25 3 (MQ below (QI D ad (shM ad cA) 25 s.heap.size (R0, M)) args s 0 0 (AX ad 25 s.heap.size)) R0 M 0 [(0, .ref (ad 0))] [] _
  refine g_iconst (v := 1) B dX9_areSo_0 (by decide) ?_
  refine g_istore_n B dX9_areSo_1 rfl (by decide) (lv1 := [(1, .int (1 : Int32)), (0, .ref (ad 0))]) rfl ?_
  refine g_iconst (v := 0) B dX9_areSo_2 (by decide) ?_
  refine g_istore_n B dX9_areSo_3 rfl (by decide) (lv1 := [(2, .int (0 : Int32)), (1, .int (1 : Int32)), (0, .ref (ad 0))]) rfl ?_
  refine g_lv [2, 1, 0] rfl (hL4    FU _ _)

abbrev rm_X9_calves : Room := { frames := 2, cells := 0, slots := 0, locals := 46 }
set_option maxHeartbeats 4000000 in
set_option maxRecDepth 100000 in
theorem k_X9_calves (l : Launch) (D : va_G) (cA : Nat → ClassId) (ad : Nat → Nat) (had : adOK ad 25) (v1 : Int32) (M : Mem) : CI l yX9_calves wsX9_calves rm_X9_calves D cA ad (shM ad cA) 25 [.ref (ad 0), .int v1] M (d_X9_calves v1 M) := by
  refine CI_of (own := RX9) (cc := cX9_calves) (maxL := 5) (rt := .int) had (by decide) rfl rfl (Nat.le_of_ble_eq_true rfl) ?_
  intro p e s m args below meth c R0 B hr hk
  have hL22 : ∀ (v1 : Int32) (v2 : Int32)  (k22_61 : Int32 → Mem → Option (Int32 × Mem))  (hk22_61 : ∀ (w3 : Int32) (M1 : Mem), GG p l e (headSpec wsX9_calves rm_X9_calves).room s m args below meth c D ad (shM ad cA) 25 5 (MQ below (QI D ad (shM ad cA) 25 s.heap.size R0) args s 0 0 (AX ad 25 s.heap.size)) R0 M1 61 [(0, .ref (ad 0)), (1, .int v1), (2, .int v2), (3, .int w3)] [] (k22_61 w3 M1)), ∀ (f : Nat) (v3 : Int32) (v4 : Int32) (M : Mem), GG p l e (headSpec wsX9_calves rm_X9_calves).room s m args below meth c D ad (shM ad cA) 25 5 (MQ below (QI D ad (shM ad cA) 25 s.heap.size R0) args s 0 0 (AX ad 25 s.heap.size)) R0 M 22 [(0, .ref (ad 0)), (1, .int v1), (2, .int v2), (3, .int v3), (4, .int v4)] [] (dX9_calves_22l v1 v2  k22_61 f v3 v4 M) := by
    intro v1 v2 k22_61 hk22_61
    intro f
    induction f with
    | zero =>
      intro v3 v4 M
      exact g_none
    | succ f ih =>
      intro v3 v4 M
      rw [dX9_calves_22l]
      refine g_iload B dX9_calves_22 4 rfl ?_
      refine g_bipush (v := 10) B dX9_calves_24 (by decide) ?_
      refine g_icmp_ge (tgt := 61) B dX9_calves_26 (by decide) (fun c4 => ?_) (fun c4 => ?_)
      · exact g_lv [0, 1, 2, 3] rfl (hk22_61 _ _)
      · refine g_aload_n B dX9_calves_29 0 rfl rfl ?_
        refine g_get (v := .ref (ad 6)) B shM_o (by decide) in_X9_calves_X9 rfl 10 (by decide) (List.mem_of_getElem? (i := 1) rfl) rfl rfl dX9_calves_30 ?_
        refine g_iload_n B dX9_calves_33 1 rfl rfl ?_
        refine g_iload B dX9_calves_34 4 rfl ?_
        refine g_iast B shM_a6 (by decide) dX9_calves_36 (g_lmM (fun M5 => ?_))
        refine g_iload_n B dX9_calves_37 3 rfl rfl ?_
        refine g_aload_n B dX9_calves_38 0 rfl rfl ?_
        refine g_callVIp (q := (RX9, TX9, 39)) (As := []) (st := [.int v3]) B (k_X9_areSo l D cA ad B.2.2.2.2.2.2.1  M5) (cwV 0 B.2.2.2.2.1 gX9_calves_X9_areSo rfl rfl rfl (by decide +kernel) ⟨Nat.le_of_ble_eq_true rfl, Nat.le_of_ble_eq_true rfl⟩) shM_o (by decide) rfl rfl rfl (Nat.le_of_ble_eq_true rfl) dX9_calves_39 (fun r6 _ => ?_)
        refine g_if_eq (tgt := 52) B dX9_calves_42 (by decide) (fun c7 => ?_) (fun c7 => ?_)
        · refine g_iconst (v := 0) B dX9_calves_52 (by decide) ?_
          refine g_ior B dX9_calves_53 ?_
          refine g_lmI (fun x8 => ?_)
          refine g_istore_n B dX9_calves_54 rfl (by decide) (lv1 := [(3, .int x8), (0, .ref (ad 0)), (1, .int v1), (2, .int v2), (4, .int v4)]) rfl ?_
          refine g_iinc B dX9_calves_55 4 (v := v4 + (1 : Int32)) rfl rfl (by decide) (lv1 := [(4, .int (v4 + (1 : Int32))), (3, .int x8), (0, .ref (ad 0)), (1, .int v1), (2, .int v2)]) rfl ?_
          refine g_goto (tgt := 22) B dX9_calves_58 (by decide) ?_
          exact g_lv [2, 3, 4, 1, 0] rfl (ih _ _ _)
        · refine g_iconst (v := 1) B dX9_calves_45 (by decide) ?_
          refine g_iload B dX9_calves_46 4 rfl ?_
          refine g_ishl B dX9_calves_48 ?_
          refine g_goto (tgt := 53) B dX9_calves_49 (by decide) ?_
          refine g_ior B dX9_calves_53 ?_
          refine g_lmI (fun x9 => ?_)
          refine g_istore_n B dX9_calves_54 rfl (by decide) (lv1 := [(3, .int x9), (0, .ref (ad 0)), (1, .int v1), (2, .int v2), (4, .int v4)]) rfl ?_
          refine g_iinc B dX9_calves_55 4 (v := v4 + (1 : Int32)) rfl rfl (by decide) (lv1 := [(4, .int (v4 + (1 : Int32))), (3, .int x9), (0, .ref (ad 0)), (1, .int v1), (2, .int v2)]) rfl ?_
          refine g_goto (tgt := 22) B dX9_calves_58 (by decide) ?_
          exact g_lv [2, 3, 4, 1, 0] rfl (ih _ _ _)
  unfold d_X9_calves
  show GG p l e (headSpec wsX9_calves rm_X9_calves).room s m args below meth c D ad (shM ad cA) 25 5 (MQ below (QI D ad (shM ad cA) 25 s.heap.size R0) args s 0 0 (AX ad 25 s.heap.size)) R0 M 0 [(0, .ref (ad 0)), (1, .int v1)] [] _
  refine g_aload_n B dX9_calves_0 0 rfl rfl ?_
  refine g_iload_n B dX9_calves_1 1 rfl rfl ?_
  refine g_callVIp (q := (RX9, TX9, 39)) (As := [.int v1]) (st := []) B (k_X9_noFootman l D cA ad B.2.2.2.2.2.2.1 v1 M) (cwV 1 B.2.2.2.2.1 gX9_calves_X9_noFootman rfl rfl rfl (by decide +kernel) ⟨Nat.le_of_ble_eq_true rfl, Nat.le_of_ble_eq_true rfl⟩) shM_o (by decide) rfl rfl rfl (Nat.le_of_ble_eq_true rfl) dX9_calves_2 (fun r1 _ => ?_)
  refine g_if_eq (tgt := 10) B dX9_calves_5 (by decide) (fun c2 => ?_) (fun c2 => ?_)
  · refine g_aload_n B dX9_calves_10 0 rfl rfl ?_
    refine g_get (v := .ref (ad 6)) B shM_o (by decide) in_X9_calves_X9 rfl 10 (by decide) (List.mem_of_getElem? (i := 1) rfl) rfl rfl dX9_calves_11 ?_
    refine g_iload_n B dX9_calves_14 1 rfl rfl ?_
    refine g_iald B shM_a6 (by decide) dX9_calves_15 ?_
    refine g_lmI (fun x3 => ?_)
    refine g_istore_n B dX9_calves_16 rfl (by decide) (lv1 := [(2, .int x3), (0, .ref (ad 0)), (1, .int v1)]) rfl ?_
    refine g_iconst (v := 0) B dX9_calves_17 (by decide) ?_
    refine g_istore_n B dX9_calves_18 rfl (by decide) (lv1 := [(3, .int (0 : Int32)), (2, .int x3), (0, .ref (ad 0)), (1, .int v1)]) rfl ?_
    refine g_iconst (v := 1) B dX9_calves_19 (by decide) ?_
    refine g_istore B dX9_calves_20 (by decide) (lv1 := [(4, .int (1 : Int32)), (3, .int (0 : Int32)), (2, .int x3), (0, .ref (ad 0)), (1, .int v1)]) rfl ?_
    refine g_lv [3, 4, 2, 1, 0] rfl (hL22 _ _ _  ?_ FU _ _ _)
    · intro w10 M11
      refine g_aload_n B dX9_calves_61 0 rfl rfl ?_
      refine g_get (v := .ref (ad 6)) B shM_o (by decide) in_X9_calves_X9 rfl 10 (by decide) (List.mem_of_getElem? (i := 1) rfl) rfl rfl dX9_calves_62 ?_
      refine g_iload_n B dX9_calves_65 1 rfl rfl ?_
      refine g_iload_n B dX9_calves_66 2 rfl rfl ?_
      refine g_iast B shM_a6 (by decide) dX9_calves_67 (g_lmM (fun M12 => ?_))
      refine g_iload_n B dX9_calves_68 3 rfl rfl ?_
      exact g_iret B hr hk dX9_calves_69
  · refine g_iconst (v := -1) B dX9_calves_8 (by decide) ?_
    exact g_iret B hr hk dX9_calves_9

abbrev rm_X9_kinds : Room := { frames := 2, cells := 0, slots := 0, locals := 46 }
set_option maxHeartbeats 4000000 in
set_option maxRecDepth 100000 in
theorem k_X9_kinds (l : Launch) (D : va_G) (cA : Nat → ClassId) (ad : Nat → Nat) (had : adOK ad 25) (v1 : Int32) (M : Mem) : CI l yX9_kinds wsX9_kinds rm_X9_kinds D cA ad (shM ad cA) 25 [.ref (ad 0), .int v1] M (d_X9_kinds v1 M) := by
  refine CI_of (own := RX9) (cc := cX9_kinds) (maxL := 5) (rt := .int) had (by decide) rfl rfl (Nat.le_of_ble_eq_true rfl) ?_
  intro p e s m args below meth c R0 B hr hk
  have hL22 : ∀ (v1 : Int32) (v2 : Int32)  (k22_60 : Int32 → Mem → Option (Int32 × Mem))  (hk22_60 : ∀ (w3 : Int32) (M1 : Mem), GG p l e (headSpec wsX9_kinds rm_X9_kinds).room s m args below meth c D ad (shM ad cA) 25 5 (MQ below (QI D ad (shM ad cA) 25 s.heap.size R0) args s 0 0 (AX ad 25 s.heap.size)) R0 M1 60 [(0, .ref (ad 0)), (1, .int v1), (2, .int v2), (3, .int w3)] [] (k22_60 w3 M1)), ∀ (f : Nat) (v3 : Int32) (v4 : Int32) (M : Mem), GG p l e (headSpec wsX9_kinds rm_X9_kinds).room s m args below meth c D ad (shM ad cA) 25 5 (MQ below (QI D ad (shM ad cA) 25 s.heap.size R0) args s 0 0 (AX ad 25 s.heap.size)) R0 M 22 [(0, .ref (ad 0)), (1, .int v1), (2, .int v2), (3, .int v3), (4, .int v4)] [] (dX9_kinds_22l v1 v2  k22_60 f v3 v4 M) := by
    intro v1 v2 k22_60 hk22_60
    intro f
    induction f with
    | zero =>
      intro v3 v4 M
      exact g_none
    | succ f ih =>
      intro v3 v4 M
      rw [dX9_kinds_22l]
      refine g_iload B dX9_kinds_22 4 rfl ?_
      refine g_iconst (v := 3) B dX9_kinds_24 (by decide) ?_
      refine g_icmp_ge (tgt := 60) B dX9_kinds_25 (by decide) (fun c4 => ?_) (fun c4 => ?_)
      · exact g_lv [0, 1, 2, 3] rfl (hk22_60 _ _)
      · refine g_aload_n B dX9_kinds_28 0 rfl rfl ?_
        refine g_get (v := .ref (ad 3)) B shM_o (by decide) in_X9_kinds_X9 rfl 7 (by decide) (List.mem_of_getElem? (i := 1) rfl) rfl rfl dX9_kinds_29 ?_
        refine g_iload_n B dX9_kinds_32 1 rfl rfl ?_
        refine g_iload B dX9_kinds_33 4 rfl ?_
        refine g_iast B shM_a3 (by decide) dX9_kinds_35 (g_lmM (fun M5 => ?_))
        refine g_iload_n B dX9_kinds_36 3 rfl rfl ?_
        refine g_aload_n B dX9_kinds_37 0 rfl rfl ?_
        refine g_callVIp (q := (RX9, TX9, 39)) (As := []) (st := [.int v3]) B (k_X9_areSo l D cA ad B.2.2.2.2.2.2.1  M5) (cwV 0 B.2.2.2.2.1 gX9_kinds_X9_areSo rfl rfl rfl (by decide +kernel) ⟨Nat.le_of_ble_eq_true rfl, Nat.le_of_ble_eq_true rfl⟩) shM_o (by decide) rfl rfl rfl (Nat.le_of_ble_eq_true rfl) dX9_kinds_38 (fun r6 _ => ?_)
        refine g_if_eq (tgt := 51) B dX9_kinds_41 (by decide) (fun c7 => ?_) (fun c7 => ?_)
        · refine g_iconst (v := 0) B dX9_kinds_51 (by decide) ?_
          refine g_ior B dX9_kinds_52 ?_
          refine g_lmI (fun x8 => ?_)
          refine g_istore_n B dX9_kinds_53 rfl (by decide) (lv1 := [(3, .int x8), (0, .ref (ad 0)), (1, .int v1), (2, .int v2), (4, .int v4)]) rfl ?_
          refine g_iinc B dX9_kinds_54 4 (v := v4 + (1 : Int32)) rfl rfl (by decide) (lv1 := [(4, .int (v4 + (1 : Int32))), (3, .int x8), (0, .ref (ad 0)), (1, .int v1), (2, .int v2)]) rfl ?_
          refine g_goto (tgt := 22) B dX9_kinds_57 (by decide) ?_
          exact g_lv [2, 3, 4, 1, 0] rfl (ih _ _ _)
        · refine g_iconst (v := 1) B dX9_kinds_44 (by decide) ?_
          refine g_iload B dX9_kinds_45 4 rfl ?_
          refine g_ishl B dX9_kinds_47 ?_
          refine g_goto (tgt := 52) B dX9_kinds_48 (by decide) ?_
          refine g_ior B dX9_kinds_52 ?_
          refine g_lmI (fun x9 => ?_)
          refine g_istore_n B dX9_kinds_53 rfl (by decide) (lv1 := [(3, .int x9), (0, .ref (ad 0)), (1, .int v1), (2, .int v2), (4, .int v4)]) rfl ?_
          refine g_iinc B dX9_kinds_54 4 (v := v4 + (1 : Int32)) rfl rfl (by decide) (lv1 := [(4, .int (v4 + (1 : Int32))), (3, .int x9), (0, .ref (ad 0)), (1, .int v1), (2, .int v2)]) rfl ?_
          refine g_goto (tgt := 22) B dX9_kinds_57 (by decide) ?_
          exact g_lv [2, 3, 4, 1, 0] rfl (ih _ _ _)
  unfold d_X9_kinds
  show GG p l e (headSpec wsX9_kinds rm_X9_kinds).room s m args below meth c D ad (shM ad cA) 25 5 (MQ below (QI D ad (shM ad cA) 25 s.heap.size R0) args s 0 0 (AX ad 25 s.heap.size)) R0 M 0 [(0, .ref (ad 0)), (1, .int v1)] [] _
  refine g_aload_n B dX9_kinds_0 0 rfl rfl ?_
  refine g_iload_n B dX9_kinds_1 1 rfl rfl ?_
  refine g_callVIp (q := (RX9, TX9, 39)) (As := [.int v1]) (st := []) B (k_X9_noFootman l D cA ad B.2.2.2.2.2.2.1 v1 M) (cwV 1 B.2.2.2.2.1 gX9_kinds_X9_noFootman rfl rfl rfl (by decide +kernel) ⟨Nat.le_of_ble_eq_true rfl, Nat.le_of_ble_eq_true rfl⟩) shM_o (by decide) rfl rfl rfl (Nat.le_of_ble_eq_true rfl) dX9_kinds_2 (fun r1 _ => ?_)
  refine g_if_eq (tgt := 10) B dX9_kinds_5 (by decide) (fun c2 => ?_) (fun c2 => ?_)
  · refine g_aload_n B dX9_kinds_10 0 rfl rfl ?_
    refine g_get (v := .ref (ad 3)) B shM_o (by decide) in_X9_kinds_X9 rfl 7 (by decide) (List.mem_of_getElem? (i := 1) rfl) rfl rfl dX9_kinds_11 ?_
    refine g_iload_n B dX9_kinds_14 1 rfl rfl ?_
    refine g_iald B shM_a3 (by decide) dX9_kinds_15 ?_
    refine g_lmI (fun x3 => ?_)
    refine g_istore_n B dX9_kinds_16 rfl (by decide) (lv1 := [(2, .int x3), (0, .ref (ad 0)), (1, .int v1)]) rfl ?_
    refine g_iconst (v := 0) B dX9_kinds_17 (by decide) ?_
    refine g_istore_n B dX9_kinds_18 rfl (by decide) (lv1 := [(3, .int (0 : Int32)), (2, .int x3), (0, .ref (ad 0)), (1, .int v1)]) rfl ?_
    refine g_iconst (v := 0) B dX9_kinds_19 (by decide) ?_
    refine g_istore B dX9_kinds_20 (by decide) (lv1 := [(4, .int (0 : Int32)), (3, .int (0 : Int32)), (2, .int x3), (0, .ref (ad 0)), (1, .int v1)]) rfl ?_
    refine g_lv [3, 4, 2, 1, 0] rfl (hL22 _ _ _  ?_ FU _ _ _)
    · intro w10 M11
      refine g_aload_n B dX9_kinds_60 0 rfl rfl ?_
      refine g_get (v := .ref (ad 3)) B shM_o (by decide) in_X9_kinds_X9 rfl 7 (by decide) (List.mem_of_getElem? (i := 1) rfl) rfl rfl dX9_kinds_61 ?_
      refine g_iload_n B dX9_kinds_64 1 rfl rfl ?_
      refine g_iload_n B dX9_kinds_65 2 rfl rfl ?_
      refine g_iast B shM_a3 (by decide) dX9_kinds_66 (g_lmM (fun M12 => ?_))
      refine g_iload_n B dX9_kinds_67 3 rfl rfl ?_
      exact g_iret B hr hk dX9_kinds_68
  · refine g_iconst (v := -1) B dX9_kinds_8 (by decide) ?_
    exact g_iret B hr hk dX9_kinds_9

abbrev rm_X9_odds : Room := { frames := 2, cells := 0, slots := 0, locals := 46 }
set_option maxHeartbeats 4000000 in
set_option maxRecDepth 100000 in
theorem k_X9_odds (l : Launch) (D : va_G) (cA : Nat → ClassId) (ad : Nat → Nat) (had : adOK ad 25) (v1 : Int32) (v2 : Int32) (v3 : Int32) (M : Mem) : CL l yX9_odds wsX9_odds rm_X9_odds D cA ad (shM ad cA) 25 [.ref (ad 0), .int v1, .int v2, .int v3] M (wM M (d_X9_odds v1 v2 v3 M)) := by
  refine CL_ofp (own := RX9) (cc := cX9_odds) (maxL := 8) (rt := .long) had (by decide) rfl rfl (Nat.le_of_ble_eq_true rfl) ?_
  intro p e s m args below meth c R0 B hr hk
  have hJ30 : GG p l e (headSpec wsX9_odds rm_X9_odds).room s m args below meth c D ad (shM ad cA) 25 8 (MQ below (QL D ad (shM ad cA) 25 s.heap.size (R0, M)) args s 0 0 (AX ad 25 s.heap.size)) R0 M 30 [] [] (dX9_odds_30j    M) := by
    unfold dX9_odds_30j
    refine g_callSLp (As := []) (st := []) B (k_X9_lost l D cA ad B.2.2.2.2.2.2.1  M) (va_cwS 0 B.2.2.2.2.1 gX9_odds_X9_lost rfl rfl rfl (by decide +kernel) ⟨Nat.le_of_ble_eq_true rfl, Nat.le_of_ble_eq_true rfl⟩) rfl rfl (Nat.le_of_ble_eq_true rfl) dX9_odds_30 (fun r3 _ => ?_)
    exact g_lretp B hr hk dX9_odds_33
  have hJ97 : ∀ (rec40 : Int64 → Int32 → Option Int64) (v1 : Int32) (v2 : Int32) (v3 : Int32) (v6 : Int32) (s0 : Int64)    (hrec40 : ∀ (w4 : Int64) (w6 : Int32), GG p l e (headSpec wsX9_odds rm_X9_odds).room s m args below meth c D ad (shM ad cA) 25 8 (MQ below (QL D ad (shM ad cA) 25 s.heap.size (R0, M)) args s 0 0 (AX ad 25 s.heap.size)) R0 M 40 [(0, .ref (ad 0)), (1, .int v1), (2, .int v2), (3, .int v3), (4, .long w4), (6, .int w6)] [] (rec40 w4 w6)), GG p l e (headSpec wsX9_odds rm_X9_odds).room s m args below meth c D ad (shM ad cA) 25 8 (MQ below (QL D ad (shM ad cA) 25 s.heap.size (R0, M)) args s 0 0 (AX ad 25 s.heap.size)) R0 M 97 [(0, .ref (ad 0)), (1, .int v1), (2, .int v2), (3, .int v3), (6, .int v6)] [.long s0] (dX9_odds_97j rec40 v1 v2 v3 v6 s0 M) := by
    intro rec40 v1 v2 v3 v6 s0 hrec40
    unfold dX9_odds_97j
    refine g_lconst (v := 0) B dX9_odds_97 (by decide) ?_
    refine g_ladd B dX9_odds_98 ?_
    refine g_lmL (fun x11 => ?_)
    refine g_lstore B dX9_odds_99 (by decide) (lv1 := [(4, .long x11), (0, .ref (ad 0)), (1, .int v1), (2, .int v2), (3, .int v3), (6, .int v6)]) rfl ?_
    refine g_iinc B dX9_odds_101 5 (v := v6 + (1 : Int32)) rfl rfl (by decide) (lv1 := [(6, .int (v6 + (1 : Int32))), (4, .long x11), (0, .ref (ad 0)), (1, .int v1), (2, .int v2), (3, .int v3)]) rfl ?_
    refine g_goto (tgt := 40) B dX9_odds_104 (by decide) ?_
    exact g_lv [2, 3, 4, 5, 1, 0] rfl (hrec40 _ _)
  have hL40 : ∀ (v1 : Int32) (v2 : Int32) (v3 : Int32)  (k40_107 : Int64 → Option Int64)  (hk40_107 : ∀ (w4 : Int64), GG p l e (headSpec wsX9_odds rm_X9_odds).room s m args below meth c D ad (shM ad cA) 25 8 (MQ below (QL D ad (shM ad cA) 25 s.heap.size (R0, M)) args s 0 0 (AX ad 25 s.heap.size)) R0 M 107 [(0, .ref (ad 0)), (3, .int v3), (4, .long w4)] [] (k40_107 w4)), ∀ (f : Nat) (v4 : Int64) (v6 : Int32), GG p l e (headSpec wsX9_odds rm_X9_odds).room s m args below meth c D ad (shM ad cA) 25 8 (MQ below (QL D ad (shM ad cA) 25 s.heap.size (R0, M)) args s 0 0 (AX ad 25 s.heap.size)) R0 M 40 [(0, .ref (ad 0)), (1, .int v1), (2, .int v2), (3, .int v3), (4, .long v4), (6, .int v6)] [] (dX9_odds_40l v1 v2 v3 M k40_107 f v4 v6 ) := by
    intro v1 v2 v3 k40_107 hk40_107
    intro f
    induction f with
    | zero =>
      intro v4 v6
      exact g_none
    | succ f ih =>
      intro v4 v6
      rw [dX9_odds_40l]
      refine g_iload B dX9_odds_40 5 rfl ?_
      refine g_aload_n B dX9_odds_42 0 rfl rfl ?_
      refine g_get (v := .int (M 0 1)) B shM_o (by decide) in_X9_odds_X9 rfl 1 (by decide) (List.mem_of_getElem? (i := 2) rfl) rfl rfl dX9_odds_43 ?_
      refine g_icmp_ge (tgt := 107) B dX9_odds_46 (by decide) (fun c8 => ?_) (fun c8 => ?_)
      · exact g_lv [0, 3, 4] rfl (hk40_107 _)
      · refine g_aload_n B dX9_odds_49 0 rfl rfl ?_
        refine g_aload_n B dX9_odds_50 0 rfl rfl ?_
        refine g_get (v := .ref (ad 4)) B shM_o (by decide) in_X9_odds_X9 rfl 8 (by decide) (List.mem_of_getElem? (i := 3) rfl) rfl rfl dX9_odds_51 ?_
        refine g_iload_n B dX9_odds_54 1 rfl rfl ?_
        refine g_iald B shM_a4 (by decide) dX9_odds_55 ?_
        refine g_iload B dX9_odds_56 5 rfl ?_
        refine g_callVIp (q := (RX9, TX9, 39)) (As := [.int (M 4 v1.toNatClampNeg), .int v6]) (st := []) B (k_X9_farFrom l D cA ad B.2.2.2.2.2.2.1 (M 4 v1.toNatClampNeg) v6 M) (cwV 2 B.2.2.2.2.1 gX9_odds_X9_farFrom rfl rfl rfl (by decide +kernel) ⟨Nat.le_of_ble_eq_true rfl, Nat.le_of_ble_eq_true rfl⟩) shM_o (by decide) rfl rfl rfl (Nat.le_of_ble_eq_true rfl) dX9_odds_58 (fun r9 _ => ?_)
        refine g_istore B dX9_odds_61 (by decide) (lv1 := [(7, .int r9), (0, .ref (ad 0)), (1, .int v1), (2, .int v2), (3, .int v3), (4, .long v4), (6, .int v6)]) rfl ?_
        refine g_lload B dX9_odds_63 5 rfl ?_
        refine g_iload B dX9_odds_65 6 rfl ?_
        refine g_aload_n B dX9_odds_67 1 rfl rfl ?_
        refine g_get (v := .ref (ad 4)) B shM_o (by decide) in_X9_odds_X9 rfl 8 (by decide) (List.mem_of_getElem? (i := 3) rfl) rfl rfl dX9_odds_68 ?_
        refine g_iload_n B dX9_odds_71 2 rfl rfl ?_
        refine g_iald B shM_a4 (by decide) dX9_odds_72 ?_
        refine g_icmp_eq (tgt := 97) B dX9_odds_73 (by decide) (fun c10 => ?_) (fun c10 => ?_)
        · exact g_lv [1, 2, 3, 4, 6] rfl (hJ97 _ _ _ _ _ _   ih)
        · refine g_iload B dX9_odds_76 0 rfl ?_
          refine g_if_lt (tgt := 97) B dX9_odds_78 (by decide) (fun c12 => ?_) (fun c12 => ?_)
          · exact g_lv [1, 2, 3, 4, 6] rfl (hJ97 _ _ _ _ _ _   ih)
          · refine g_iload B dX9_odds_81 0 rfl ?_
            refine g_iload_n B dX9_odds_83 3 rfl rfl ?_
            refine g_aload_n B dX9_odds_84 1 rfl rfl ?_
            refine g_iload_n B dX9_odds_85 2 rfl rfl ?_
            refine g_callVIp (q := (RX9, TX9, 39)) (As := [.int v1]) (st := [.int v2, .int r9, .long v4]) B (k_X9_paceOf l D cA ad B.2.2.2.2.2.2.1 v1 M) (cwV 1 B.2.2.2.2.1 gX9_odds_X9_paceOf rfl rfl rfl (by decide +kernel) ⟨Nat.le_of_ble_eq_true rfl, Nat.le_of_ble_eq_true rfl⟩) shM_o (by decide) rfl rfl rfl (Nat.le_of_ble_eq_true rfl) dX9_odds_86 (fun r13 _ => ?_)
            refine g_imul B dX9_odds_89 ?_
            refine g_icmp_gt (tgt := 97) B dX9_odds_90 (by decide) (fun c14 => ?_) (fun c14 => ?_)
            · exact g_lv [1, 2, 3, 4, 6] rfl (hJ97 _ _ _ _ _ _   ih)
            · refine g_lconst (v := 1) B dX9_odds_93 (by decide) ?_
              refine g_goto (tgt := 98) B dX9_odds_94 (by decide) ?_
              refine g_ladd B dX9_odds_98 ?_
              refine g_lmL (fun x15 => ?_)
              refine g_lstore B dX9_odds_99 (by decide) (lv1 := [(4, .long x15), (7, .int r9), (0, .ref (ad 0)), (1, .int v1), (2, .int v2), (3, .int v3), (6, .int v6)]) rfl ?_
              refine g_iinc B dX9_odds_101 6 (v := v6 + (1 : Int32)) rfl rfl (by decide) (lv1 := [(6, .int (v6 + (1 : Int32))), (4, .long x15), (7, .int r9), (0, .ref (ad 0)), (1, .int v1), (2, .int v2), (3, .int v3)]) rfl ?_
              refine g_goto (tgt := 40) B dX9_odds_104 (by decide) ?_
              exact g_lv [3, 4, 5, 6, 1, 0] rfl (ih _ _)
  unfold d_X9_odds
  show GG p l e (headSpec wsX9_odds rm_X9_odds).room s m args below meth c D ad (shM ad cA) 25 8 (MQ below (QL D ad (shM ad cA) 25 s.heap.size (R0, M)) args s 0 0 (AX ad 25 s.heap.size)) R0 M 0 [(0, .ref (ad 0)), (1, .int v1), (2, .int v2), (3, .int v3)] [] _
  refine g_aload_n B dX9_odds_0 0 rfl rfl ?_
  refine g_iload_n B dX9_odds_1 1 rfl rfl ?_
  refine g_callVIp (q := (RX9, TX9, 39)) (As := [.int v1]) (st := []) B (k_X9_noFootman l D cA ad B.2.2.2.2.2.2.1 v1 M) (cwV 1 B.2.2.2.2.1 gX9_odds_X9_noFootman rfl rfl rfl (by decide +kernel) ⟨Nat.le_of_ble_eq_true rfl, Nat.le_of_ble_eq_true rfl⟩) shM_o (by decide) rfl rfl rfl (Nat.le_of_ble_eq_true rfl) dX9_odds_2 (fun r1 _ => ?_)
  refine g_if_ne (tgt := 30) B dX9_odds_5 (by decide) (fun c2 => ?_) (fun c2 => ?_)
  · refine g_iload_n B dX9_odds_8 2 rfl rfl ?_
    refine g_i2l B dX9_odds_9 ?_
    refine g_lconst (v := 0) B dX9_odds_10 (by decide) ?_
    refine g_ldc2 (v := 99) B dX9_odds_11 (List.mem_of_getElem? (i := 1) rfl) ?_
    refine g_callSIp (As := [.long v2.toInt64, .long (0 : Int64), .long (99 : Int64)]) (st := []) B (k_X9_in l D cA ad B.2.2.2.2.2.2.1 v2.toInt64 (0 : Int64) (99 : Int64) M) (va_cwS 3 B.2.2.2.2.1 gX9_odds_X9_in rfl rfl rfl (by decide +kernel) ⟨Nat.le_of_ble_eq_true rfl, Nat.le_of_ble_eq_true rfl⟩) rfl rfl (Nat.le_of_ble_eq_true rfl) dX9_odds_14 (fun r4 _ => ?_)
    refine g_if_eq (tgt := 30) B dX9_odds_17 (by decide) (fun c5 => ?_) (fun c5 => ?_)
    · exact g_lv [] rfl (hJ30    )
    · refine g_iload_n B dX9_odds_20 3 rfl rfl ?_
      refine g_i2l B dX9_odds_21 ?_
      refine g_lconst (v := 0) B dX9_odds_22 (by decide) ?_
      refine g_lconst (v := 1) B dX9_odds_23 (by decide) ?_
      refine g_callSIp (As := [.long v3.toInt64, .long (0 : Int64), .long (1 : Int64)]) (st := []) B (k_X9_in l D cA ad B.2.2.2.2.2.2.1 v3.toInt64 (0 : Int64) (1 : Int64) M) (va_cwS 3 B.2.2.2.2.1 gX9_odds_X9_in rfl rfl rfl (by decide +kernel) ⟨Nat.le_of_ble_eq_true rfl, Nat.le_of_ble_eq_true rfl⟩) rfl rfl (Nat.le_of_ble_eq_true rfl) dX9_odds_24 (fun r6 _ => ?_)
      refine g_if_ne (tgt := 34) B dX9_odds_27 (by decide) (fun c7 => ?_) (fun c7 => ?_)
      · exact g_lv [] rfl (hJ30    )
      · refine g_lconst (v := 0) B dX9_odds_34 (by decide) ?_
        refine g_lstore B dX9_odds_35 (by decide) (lv1 := [(4, .long (0 : Int64)), (0, .ref (ad 0)), (1, .int v1), (2, .int v2), (3, .int v3)]) rfl ?_
        refine g_iconst (v := 0) B dX9_odds_37 (by decide) ?_
        refine g_istore B dX9_odds_38 (by decide) (lv1 := [(6, .int (0 : Int32)), (4, .long (0 : Int64)), (0, .ref (ad 0)), (1, .int v1), (2, .int v2), (3, .int v3)]) rfl ?_
        refine g_lv [2, 3, 4, 5, 1, 0] rfl (hL40 _ _ _ _  ?_ FU _ _)
        · intro w16
          refine g_lload B dX9_odds_107 2 rfl ?_
          refine g_aload_n B dX9_odds_109 0 rfl rfl ?_
          refine g_get (v := .int (M 0 1)) B shM_o (by decide) in_X9_odds_X9 rfl 1 (by decide) (List.mem_of_getElem? (i := 2) rfl) rfl rfl dX9_odds_110 ?_
          refine g_i2l B dX9_odds_113 ?_
          refine g_lconst (v := 1) B dX9_odds_114 (by decide) ?_
          refine g_lsub B dX9_odds_115 ?_
          refine g_iload_n B dX9_odds_116 1 rfl rfl ?_
          refine g_callSLp (As := [.long w16, .long (((M 0 1).toInt64) - (1 : Int64)), .int v3]) (st := []) B (k_X9_share l D cA ad B.2.2.2.2.2.2.1 w16 (((M 0 1).toInt64) - (1 : Int64)) v3 M) (va_cwS 3 B.2.2.2.2.1 gX9_odds_X9_share rfl rfl rfl (by decide +kernel) ⟨Nat.le_of_ble_eq_true rfl, Nat.le_of_ble_eq_true rfl⟩) rfl rfl (Nat.le_of_ble_eq_true rfl) dX9_odds_117 (fun r17 _ => ?_)
          exact g_lretp B hr hk dX9_odds_120
  · exact g_lv [] rfl (hJ30    )

abbrev rm_X9_sheet : Room := { frames := 2, cells := 0, slots := 0, locals := 45 }
set_option maxHeartbeats 4000000 in
set_option maxRecDepth 100000 in
theorem k_X9_sheet (l : Launch) (D : va_G) (cA : Nat → ClassId) (ad : Nat → Nat) (had : adOK ad 25) (v1 : Int32) (v2 : Int32) (v3 : Int32) (M : Mem) : CI l yX9_sheet wsX9_sheet rm_X9_sheet D cA ad (shM ad cA) 25 [.ref (ad 0), .int v1, .int v2, .int v3] M (d_X9_sheet v1 v2 v3 M) := by
  refine CI_of (own := RX9) (cc := cX9_sheet) (maxL := 5) (rt := .int) had (by decide) rfl rfl (Nat.le_of_ble_eq_true rfl) ?_
  intro p e s m args below meth c R0 B hr hk
  have hJ31 : ∀    (M : Mem)   , GG p l e (headSpec wsX9_sheet rm_X9_sheet).room s m args below meth c D ad (shM ad cA) 25 5 (MQ below (QI D ad (shM ad cA) 25 s.heap.size R0) args s 0 0 (AX ad 25 s.heap.size)) R0 M 31 [(0, .ref (ad 0))] [] (dX9_sheet_31j    M) := by
    intro M
    unfold dX9_sheet_31j
    refine g_aload_n B dX9_sheet_31 0 rfl rfl ?_
    refine g_bipush (v := -2) B dX9_sheet_32 (by decide) ?_
    refine g_callVIe (q := (RX9, TX9, 39)) (As := [.int (-2 : Int32)]) (st := []) B (k_X9_refused l D cA ad B.2.2.2.2.2.2.1 (-2 : Int32) M) (cwV 1 B.2.2.2.2.1 gX9_sheet_X9_refused rfl rfl rfl (by decide +kernel) ⟨Nat.le_of_ble_eq_true rfl, Nat.le_of_ble_eq_true rfl⟩) shM_o (by decide) rfl rfl rfl (Nat.le_of_ble_eq_true rfl) dX9_sheet_34 (fun r5 M6 _ => ?_)
    exact g_iret B hr hk dX9_sheet_37
  have hL65 : ∀ (v1 : Int32) (v3 : Int32)  (k65_90 : Mem → Option (Int32 × Mem))  (hk65_90 : ∀  (M1 : Mem), GG p l e (headSpec wsX9_sheet rm_X9_sheet).room s m args below meth c D ad (shM ad cA) 25 5 (MQ below (QI D ad (shM ad cA) 25 s.heap.size R0) args s 0 0 (AX ad 25 s.heap.size)) R0 M1 90 [(0, .ref (ad 0))] [] (k65_90  M1)), ∀ (f : Nat) (v4 : Int32) (M : Mem), GG p l e (headSpec wsX9_sheet rm_X9_sheet).room s m args below meth c D ad (shM ad cA) 25 5 (MQ below (QI D ad (shM ad cA) 25 s.heap.size R0) args s 0 0 (AX ad 25 s.heap.size)) R0 M 65 [(0, .ref (ad 0)), (1, .int v1), (3, .int v3), (4, .int v4)] [] (dX9_sheet_65l v1 v3  k65_90 f v4 M) := by
    intro v1 v3 k65_90 hk65_90
    intro f
    induction f with
    | zero =>
      intro v4 M
      exact g_none
    | succ f ih =>
      intro v4 M
      rw [dX9_sheet_65l]
      refine g_iload B dX9_sheet_65 3 rfl ?_
      refine g_iload_n B dX9_sheet_67 2 rfl rfl ?_
      refine g_icmp_ge (tgt := 90) B dX9_sheet_68 (by decide) (fun c11 => ?_) (fun c11 => ?_)
      · exact g_lv [0] rfl (hk65_90  _)
      · refine g_aload_n B dX9_sheet_71 0 rfl rfl ?_
        refine g_get (v := .ref (ad 23)) B shM_o (by decide) in_X9_sheet_X9 rfl 36 (by decide) (List.mem_of_getElem? (i := 4) rfl) rfl rfl dX9_sheet_72 ?_
        refine g_bipush (v := 60) B dX9_sheet_75 (by decide) ?_
        refine g_iload_n B dX9_sheet_77 1 rfl rfl ?_
        refine g_imul B dX9_sheet_78 ?_
        refine g_iload B dX9_sheet_79 3 rfl ?_
        refine g_iadd B dX9_sheet_81 ?_
        refine g_iconst (v := 0) B dX9_sheet_82 (by decide) ?_
        refine g_iast B shM_a23 (by decide) dX9_sheet_83 (g_lmM (fun M12 => ?_))
        refine g_iinc B dX9_sheet_84 3 (v := v4 + (1 : Int32)) rfl rfl (by decide) (lv1 := [(4, .int (v4 + (1 : Int32))), (0, .ref (ad 0)), (1, .int v1), (3, .int v3)]) rfl ?_
        refine g_goto (tgt := 65) B dX9_sheet_87 (by decide) ?_
        exact g_lv [1, 2, 3, 0] rfl (ih _ _)
  unfold d_X9_sheet
  show GG p l e (headSpec wsX9_sheet rm_X9_sheet).room s m args below meth c D ad (shM ad cA) 25 5 (MQ below (QI D ad (shM ad cA) 25 s.heap.size R0) args s 0 0 (AX ad 25 s.heap.size)) R0 M 0 [(0, .ref (ad 0)), (1, .int v1), (2, .int v2), (3, .int v3)] [] _
  refine g_iload_n B dX9_sheet_0 1 rfl rfl ?_
  refine g_callSIp (As := [.int v1]) (st := []) B (k_X9_noSheet l D cA ad B.2.2.2.2.2.2.1 v1 M) (va_cwS 1 B.2.2.2.2.1 gX9_sheet_X9_noSheet rfl rfl rfl (by decide +kernel) ⟨Nat.le_of_ble_eq_true rfl, Nat.le_of_ble_eq_true rfl⟩) rfl rfl (Nat.le_of_ble_eq_true rfl) dX9_sheet_1 (fun r1 _ => ?_)
  refine g_if_eq (tgt := 13) B dX9_sheet_4 (by decide) (fun c2 => ?_) (fun c2 => ?_)
  · refine g_iload_n B dX9_sheet_13 2 rfl rfl ?_
    refine g_i2l B dX9_sheet_14 ?_
    refine g_lconst (v := 0) B dX9_sheet_15 (by decide) ?_
    refine g_ldc2 (v := 2) B dX9_sheet_16 (List.mem_of_getElem? (i := 1) rfl) ?_
    refine g_callSIp (As := [.long v2.toInt64, .long (0 : Int64), .long (2 : Int64)]) (st := []) B (k_X9_in l D cA ad B.2.2.2.2.2.2.1 v2.toInt64 (0 : Int64) (2 : Int64) M) (va_cwS 3 B.2.2.2.2.1 gX9_sheet_X9_in rfl rfl rfl (by decide +kernel) ⟨Nat.le_of_ble_eq_true rfl, Nat.le_of_ble_eq_true rfl⟩) rfl rfl (Nat.le_of_ble_eq_true rfl) dX9_sheet_19 (fun r3 _ => ?_)
    refine g_if_eq (tgt := 31) B dX9_sheet_22 (by decide) (fun c4 => ?_) (fun c4 => ?_)
    · exact g_lv [0] rfl (hJ31 _   )
    · refine g_iload_n B dX9_sheet_25 3 rfl rfl ?_
      refine g_bipush (v := 60) B dX9_sheet_26 (by decide) ?_
      refine g_icmp_le (tgt := 38) B dX9_sheet_28 (by decide) (fun c7 => ?_) (fun c7 => ?_)
      · refine g_iload_n B dX9_sheet_38 3 rfl rfl ?_
        refine g_if_ge (tgt := 48) B dX9_sheet_39 (by decide) (fun c8 => ?_) (fun c8 => ?_)
        · refine g_aload_n B dX9_sheet_48 0 rfl rfl ?_
          refine g_get (v := .ref (ad 21)) B shM_o (by decide) in_X9_sheet_X9 rfl 34 (by decide) (List.mem_of_getElem? (i := 2) rfl) rfl rfl dX9_sheet_49 ?_
          refine g_iload_n B dX9_sheet_52 1 rfl rfl ?_
          refine g_iload_n B dX9_sheet_53 3 rfl rfl ?_
          refine g_iast B shM_a21 (by decide) dX9_sheet_54 (g_lmM (fun M9 => ?_))
          refine g_aload_n B dX9_sheet_55 0 rfl rfl ?_
          refine g_get (v := .ref (ad 22)) B shM_o (by decide) in_X9_sheet_X9 rfl 35 (by decide) (List.mem_of_getElem? (i := 3) rfl) rfl rfl dX9_sheet_56 ?_
          refine g_iload_n B dX9_sheet_59 1 rfl rfl ?_
          refine g_iload_n B dX9_sheet_60 2 rfl rfl ?_
          refine g_iast B shM_a22 (by decide) dX9_sheet_61 (g_lmM (fun M10 => ?_))
          refine g_iconst (v := 0) B dX9_sheet_62 (by decide) ?_
          refine g_istore B dX9_sheet_63 (by decide) (lv1 := [(4, .int (0 : Int32)), (0, .ref (ad 0)), (1, .int v1), (2, .int v2), (3, .int v3)]) rfl ?_
          refine g_lv [1, 2, 4, 0] rfl (hL65 _ _ _  ?_ FU _ _)
          · intro M13
            refine g_aload_n B dX9_sheet_90 0 rfl rfl ?_
            refine g_iconst (v := 1) B dX9_sheet_91 (by decide) ?_
            refine g_callVIe (q := (RX9, TX9, 39)) (As := [.int (1 : Int32)]) (st := []) B (k_X9_refused l D cA ad B.2.2.2.2.2.2.1 (1 : Int32) M13) (cwV 1 B.2.2.2.2.1 gX9_sheet_X9_refused rfl rfl rfl (by decide +kernel) ⟨Nat.le_of_ble_eq_true rfl, Nat.le_of_ble_eq_true rfl⟩) shM_o (by decide) rfl rfl rfl (Nat.le_of_ble_eq_true rfl) dX9_sheet_92 (fun r14 M15 _ => ?_)
            exact g_iret B hr hk dX9_sheet_95
        · refine g_aload_n B dX9_sheet_42 0 rfl rfl ?_
          refine g_iconst (v := 4) B dX9_sheet_43 (by decide) ?_
          refine g_callVIe (q := (RX9, TX9, 39)) (As := [.int (4 : Int32)]) (st := []) B (k_X9_failed l D cA ad B.2.2.2.2.2.2.1 (4 : Int32) M) (cwV 1 B.2.2.2.2.1 gX9_sheet_X9_failed rfl rfl rfl (by decide +kernel) ⟨Nat.le_of_ble_eq_true rfl, Nat.le_of_ble_eq_true rfl⟩) shM_o (by decide) rfl rfl rfl (Nat.le_of_ble_eq_true rfl) dX9_sheet_44 (fun r16 M17 _ => ?_)
          exact g_iret B hr hk dX9_sheet_47
      · exact g_lv [0] rfl (hJ31 _   )
  · refine g_aload_n B dX9_sheet_7 0 rfl rfl ?_
    refine g_iconst (v := -1) B dX9_sheet_8 (by decide) ?_
    refine g_callVIe (q := (RX9, TX9, 39)) (As := [.int (-1 : Int32)]) (st := []) B (k_X9_refused l D cA ad B.2.2.2.2.2.2.1 (-1 : Int32) M) (cwV 1 B.2.2.2.2.1 gX9_sheet_X9_refused rfl rfl rfl (by decide +kernel) ⟨Nat.le_of_ble_eq_true rfl, Nat.le_of_ble_eq_true rfl⟩) shM_o (by decide) rfl rfl rfl (Nat.le_of_ble_eq_true rfl) dX9_sheet_9 (fun r18 M19 _ => ?_)
    exact g_iret B hr hk dX9_sheet_12

abbrev rm_X9_lose : Room := { frames := 2, cells := 0, slots := 0, locals := 45 }
set_option maxHeartbeats 4000000 in
set_option maxRecDepth 100000 in
theorem k_X9_lose (l : Launch) (D : va_G) (cA : Nat → ClassId) (ad : Nat → Nat) (had : adOK ad 25) (v1 : Int32) (M : Mem) : CI l yX9_lose wsX9_lose rm_X9_lose D cA ad (shM ad cA) 25 [.ref (ad 0), .int v1] M (d_X9_lose v1 M) := by
  refine CI_of (own := RX9) (cc := cX9_lose) (maxL := 3) (rt := .int) had (by decide) rfl rfl (Nat.le_of_ble_eq_true rfl) ?_
  intro p e s m args below meth c R0 B hr hk
  have hJ23 : ∀  (v1 : Int32) (s0 : Int32) (M : Mem)   , GG p l e (headSpec wsX9_lose rm_X9_lose).room s m args below meth c D ad (shM ad cA) 25 3 (MQ below (QI D ad (shM ad cA) 25 s.heap.size R0) args s 0 0 (AX ad 25 s.heap.size)) R0 M 23 [(0, .ref (ad 0)), (1, .int v1)] [.int s0] (dX9_lose_23j  v1 s0 M) := by
    intro v1 s0 M
    unfold dX9_lose_23j
    refine g_istore_n B dX9_lose_23 rfl (by decide) (lv1 := [(2, .int s0), (0, .ref (ad 0)), (1, .int v1)]) rfl ?_
    refine g_aload_n B dX9_lose_24 1 rfl rfl ?_
    refine g_get (v := .ref (ad 21)) B shM_o (by decide) in_X9_lose_X9 rfl 34 (by decide) (List.mem_of_getElem? (i := 1) rfl) rfl rfl dX9_lose_25 ?_
    refine g_iload_n B dX9_lose_28 2 rfl rfl ?_
    refine g_iconst (v := -1) B dX9_lose_29 (by decide) ?_
    refine g_iast B shM_a21 (by decide) dX9_lose_30 (g_lmM (fun M4 => ?_))
    refine g_iload_n B dX9_lose_31 0 rfl rfl ?_
    exact g_iret B hr hk dX9_lose_32
  unfold d_X9_lose
  show GG p l e (headSpec wsX9_lose rm_X9_lose).room s m args below meth c D ad (shM ad cA) 25 3 (MQ below (QI D ad (shM ad cA) 25 s.heap.size R0) args s 0 0 (AX ad 25 s.heap.size)) R0 M 0 [(0, .ref (ad 0)), (1, .int v1)] [] _
  refine g_iload_n B dX9_lose_0 1 rfl rfl ?_
  refine g_callSIp (As := [.int v1]) (st := []) B (k_X9_noSheet l D cA ad B.2.2.2.2.2.2.1 v1 M) (va_cwS 1 B.2.2.2.2.1 gX9_lose_X9_noSheet rfl rfl rfl (by decide +kernel) ⟨Nat.le_of_ble_eq_true rfl, Nat.le_of_ble_eq_true rfl⟩) rfl rfl (Nat.le_of_ble_eq_true rfl) dX9_lose_1 (fun r1 _ => ?_)
  refine g_if_eq (tgt := 9) B dX9_lose_4 (by decide) (fun c2 => ?_) (fun c2 => ?_)
  · refine g_aload_n B dX9_lose_9 0 rfl rfl ?_
    refine g_get (v := .ref (ad 21)) B shM_o (by decide) in_X9_lose_X9 rfl 34 (by decide) (List.mem_of_getElem? (i := 1) rfl) rfl rfl dX9_lose_10 ?_
    refine g_iload_n B dX9_lose_13 1 rfl rfl ?_
    refine g_iald B shM_a21 (by decide) dX9_lose_14 ?_
    refine g_if_ge (tgt := 22) B dX9_lose_15 (by decide) (fun c3 => ?_) (fun c3 => ?_)
    · refine g_iconst (v := 1) B dX9_lose_22 (by decide) ?_
      exact g_lv [0, 1] rfl (hJ23 _ _ _   )
    · refine g_iconst (v := 0) B dX9_lose_18 (by decide) ?_
      refine g_goto (tgt := 23) B dX9_lose_19 (by decide) ?_
      exact g_lv [0, 1] rfl (hJ23 _ _ _   )
  · refine g_iconst (v := -1) B dX9_lose_7 (by decide) ?_
    exact g_iret B hr hk dX9_lose_8

abbrev rm_X9_noCell : Room := { frames := 1, cells := 0, slots := 0, locals := 25 }
set_option maxHeartbeats 4000000 in
set_option maxRecDepth 100000 in
theorem k_X9_noCell (l : Launch) (D : va_G) (cA : Nat → ClassId) (ad : Nat → Nat) (had : adOK ad 25) (v1 : Int32) (v2 : Int32) (M : Mem) : CI l yX9_noCell wsX9_noCell rm_X9_noCell D cA ad (shM ad cA) 25 [.ref (ad 0), .int v1, .int v2] M (wM M (d_X9_noCell v1 v2 M)) := by
  refine CI_ofp (own := RX9) (cc := cX9_noCell) (maxL := 3) (rt := .int) had (by decide) rfl rfl (Nat.le_of_ble_eq_true rfl) ?_
  intro p e s m args below meth c R0 B hr hk
  unfold d_X9_noCell
  show GG p l e (headSpec wsX9_noCell rm_X9_noCell).room s m args below meth c D ad (shM ad cA) 25 3 (MQ below (QI D ad (shM ad cA) 25 s.heap.size (R0, M)) args s 0 0 (AX ad 25 s.heap.size)) R0 M 0 [(0, .ref (ad 0)), (1, .int v1), (2, .int v2)] [] _
  refine g_aload_n B dX9_noCell_0 0 rfl rfl ?_
  refine g_get (v := .ref (ad 21)) B shM_o (by decide) in_X9_noCell_X9 rfl 34 (by decide) (List.mem_of_getElem? (i := 1) rfl) rfl rfl dX9_noCell_1 ?_
  refine g_iload_n B dX9_noCell_4 1 rfl rfl ?_
  refine g_iald B shM_a21 (by decide) dX9_noCell_5 ?_
  refine g_if_ge (tgt := 13) B dX9_noCell_6 (by decide) (fun c1 => ?_) (fun c1 => ?_)
  · refine g_iload_n B dX9_noCell_13 2 rfl rfl ?_
    refine g_i2l B dX9_noCell_14 ?_
    refine g_lconst (v := 0) B dX9_noCell_15 (by decide) ?_
    refine g_aload_n B dX9_noCell_16 0 rfl rfl ?_
    refine g_get (v := .ref (ad 21)) B shM_o (by decide) in_X9_noCell_X9 rfl 34 (by decide) (List.mem_of_getElem? (i := 1) rfl) rfl rfl dX9_noCell_17 ?_
    refine g_iload_n B dX9_noCell_20 1 rfl rfl ?_
    refine g_iald B shM_a21 (by decide) dX9_noCell_21 ?_
    refine g_i2l B dX9_noCell_22 ?_
    refine g_lconst (v := 1) B dX9_noCell_23 (by decide) ?_
    refine g_lsub B dX9_noCell_24 ?_
    refine g_callSIp (As := [.long v2.toInt64, .long (0 : Int64), .long (((M 21 v1.toNatClampNeg).toInt64) - (1 : Int64))]) (st := []) B (k_X9_in l D cA ad B.2.2.2.2.2.2.1 v2.toInt64 (0 : Int64) (((M 21 v1.toNatClampNeg).toInt64) - (1 : Int64)) M) (va_cwS 3 B.2.2.2.2.1 gX9_noCell_X9_in rfl rfl rfl (by decide +kernel) ⟨Nat.le_of_ble_eq_true rfl, Nat.le_of_ble_eq_true rfl⟩) rfl rfl (Nat.le_of_ble_eq_true rfl) dX9_noCell_25 (fun r2 _ => ?_)
    refine g_if_eq (tgt := 35) B dX9_noCell_28 (by decide) (fun c3 => ?_) (fun c3 => ?_)
    · refine g_iconst (v := 3) B dX9_noCell_35 (by decide) ?_
      exact g_iretp B hr hk dX9_noCell_36
    · refine g_iconst (v := 0) B dX9_noCell_31 (by decide) ?_
      refine g_goto (tgt := 36) B dX9_noCell_32 (by decide) ?_
      exact g_iretp B hr hk dX9_noCell_36
  · refine g_iconst (v := 1) B dX9_noCell_9 (by decide) ?_
    refine g_goto (tgt := 36) B dX9_noCell_10 (by decide) ?_
    exact g_iretp B hr hk dX9_noCell_36

abbrev rm_X9_put : Room := { frames := 2, cells := 0, slots := 0, locals := 47 }
set_option maxHeartbeats 4000000 in
set_option maxRecDepth 100000 in
theorem k_X9_put (l : Launch) (D : va_G) (cA : Nat → ClassId) (ad : Nat → Nat) (had : adOK ad 25) (v1 : Int32) (v2 : Int32) (v3 : Int32) (M : Mem) : CI l yX9_put wsX9_put rm_X9_put D cA ad (shM ad cA) 25 [.ref (ad 0), .int v1, .int v2, .int v3] M (d_X9_put v1 v2 v3 M) := by
  refine CI_of (own := RX9) (cc := cX9_put) (maxL := 4) (rt := .int) had (by decide) rfl rfl (Nat.le_of_ble_eq_true rfl) ?_
  intro p e s m args below meth c R0 B hr hk
  have hJ73 : ∀   (s0 : Int32) (s1 : Int32) (M : Mem)   , GG p l e (headSpec wsX9_put rm_X9_put).room s m args below meth c D ad (shM ad cA) 25 4 (MQ below (QI D ad (shM ad cA) 25 s.heap.size R0) args s 0 0 (AX ad 25 s.heap.size)) R0 M 73 [(0, .ref (ad 0))] [.int s0, .int s1, .ref (ad 23)] (dX9_put_73j   s0 s1 M) := by
    intro s0 s1 M
    unfold dX9_put_73j
    refine g_iast B shM_a23 (by decide) dX9_put_73 (g_lmM (fun M7 => ?_))
    refine g_aload_n B dX9_put_74 0 rfl rfl ?_
    refine g_iconst (v := 1) B dX9_put_75 (by decide) ?_
    refine g_callVIe (q := (RX9, TX9, 39)) (As := [.int (1 : Int32)]) (st := []) B (k_X9_refused l D cA ad B.2.2.2.2.2.2.1 (1 : Int32) M7) (cwV 1 B.2.2.2.2.1 gX9_put_X9_refused rfl rfl rfl (by decide +kernel) ⟨Nat.le_of_ble_eq_true rfl, Nat.le_of_ble_eq_true rfl⟩) shM_o (by decide) rfl rfl rfl (Nat.le_of_ble_eq_true rfl) dX9_put_76 (fun r8 M9 _ => ?_)
    exact g_iret B hr hk dX9_put_79
  unfold d_X9_put
  show GG p l e (headSpec wsX9_put rm_X9_put).room s m args below meth c D ad (shM ad cA) 25 4 (MQ below (QI D ad (shM ad cA) 25 s.heap.size R0) args s 0 0 (AX ad 25 s.heap.size)) R0 M 0 [(0, .ref (ad 0)), (1, .int v1), (2, .int v2), (3, .int v3)] [] _
  refine g_iload_n B dX9_put_0 1 rfl rfl ?_
  refine g_callSIp (As := [.int v1]) (st := []) B (k_X9_noSheet l D cA ad B.2.2.2.2.2.2.1 v1 M) (va_cwS 1 B.2.2.2.2.1 gX9_put_X9_noSheet rfl rfl rfl (by decide +kernel) ⟨Nat.le_of_ble_eq_true rfl, Nat.le_of_ble_eq_true rfl⟩) rfl rfl (Nat.le_of_ble_eq_true rfl) dX9_put_1 (fun r1 _ => ?_)
  refine g_if_eq (tgt := 13) B dX9_put_4 (by decide) (fun c2 => ?_) (fun c2 => ?_)
  · refine g_aload_n B dX9_put_13 0 rfl rfl ?_
    refine g_iload_n B dX9_put_14 1 rfl rfl ?_
    refine g_iload_n B dX9_put_15 2 rfl rfl ?_
    refine g_callVIp (q := (RX9, TX9, 39)) (As := [.int v1, .int v2]) (st := []) B (k_X9_noCell l D cA ad B.2.2.2.2.2.2.1 v1 v2 M) (cwV 2 B.2.2.2.2.1 gX9_put_X9_noCell rfl rfl rfl (by decide +kernel) ⟨Nat.le_of_ble_eq_true rfl, Nat.le_of_ble_eq_true rfl⟩) shM_o (by decide) rfl rfl rfl (Nat.le_of_ble_eq_true rfl) dX9_put_16 (fun r3 _ => ?_)
    refine g_if_le (tgt := 33) B dX9_put_19 (by decide) (fun c4 => ?_) (fun c4 => ?_)
    · refine g_aload_n B dX9_put_33 0 rfl rfl ?_
      refine g_get (v := .ref (ad 23)) B shM_o (by decide) in_X9_put_X9 rfl 36 (by decide) (List.mem_of_getElem? (i := 1) rfl) rfl rfl dX9_put_34 ?_
      refine g_bipush (v := 60) B dX9_put_37 (by decide) ?_
      refine g_iload_n B dX9_put_39 1 rfl rfl ?_
      refine g_imul B dX9_put_40 ?_
      refine g_iload_n B dX9_put_41 2 rfl rfl ?_
      refine g_iadd B dX9_put_42 ?_
      refine g_aload_n B dX9_put_43 0 rfl rfl ?_
      refine g_get (v := .ref (ad 22)) B shM_o (by decide) in_X9_put_X9 rfl 35 (by decide) (List.mem_of_getElem? (i := 2) rfl) rfl rfl dX9_put_44 ?_
      refine g_iload_n B dX9_put_47 1 rfl rfl ?_
      refine g_iald B shM_a22 (by decide) dX9_put_48 ?_
      refine g_if_ne (tgt := 57) B dX9_put_49 (by decide) (fun c5 => ?_) (fun c5 => ?_)
      · refine g_iload_n B dX9_put_52 3 rfl rfl ?_
        refine g_i2b B dX9_put_53 ?_
        refine g_goto (tgt := 73) B dX9_put_54 (by decide) ?_
        exact g_lv [0] rfl (hJ73 _ _ _   )
      · refine g_aload_n B dX9_put_57 0 rfl rfl ?_
        refine g_get (v := .ref (ad 22)) B shM_o (by decide) in_X9_put_X9 rfl 35 (by decide) (List.mem_of_getElem? (i := 2) rfl) rfl rfl dX9_put_58 ?_
        refine g_iload_n B dX9_put_61 1 rfl rfl ?_
        refine g_iald B shM_a22 (by decide) dX9_put_62 ?_
        refine g_iconst (v := 1) B dX9_put_63 (by decide) ?_
        refine g_icmp_ne (tgt := 72) B dX9_put_64 (by decide) (fun c6 => ?_) (fun c6 => ?_)
        · refine g_iload_n B dX9_put_67 3 rfl rfl ?_
          refine g_i2s B dX9_put_68 ?_
          refine g_goto (tgt := 73) B dX9_put_69 (by decide) ?_
          exact g_lv [0] rfl (hJ73 _ _ _   )
        · refine g_iload_n B dX9_put_72 3 rfl rfl ?_
          exact g_lv [0] rfl (hJ73 _ _ _   )
    · refine g_aload_n B dX9_put_22 0 rfl rfl ?_
      refine g_aload_n B dX9_put_23 0 rfl rfl ?_
      refine g_iload_n B dX9_put_24 1 rfl rfl ?_
      refine g_iload_n B dX9_put_25 2 rfl rfl ?_
      refine g_callVIp (q := (RX9, TX9, 39)) (As := [.int v1, .int v2]) (st := [.ref (ad 0)]) B (k_X9_noCell l D cA ad B.2.2.2.2.2.2.1 v1 v2 M) (cwV 2 B.2.2.2.2.1 gX9_put_X9_noCell rfl rfl rfl (by decide +kernel) ⟨Nat.le_of_ble_eq_true rfl, Nat.le_of_ble_eq_true rfl⟩) shM_o (by decide) rfl rfl rfl (Nat.le_of_ble_eq_true rfl) dX9_put_26 (fun r10 _ => ?_)
      refine g_callVIe (q := (RX9, TX9, 39)) (As := [.int r10]) (st := []) B (k_X9_failed l D cA ad B.2.2.2.2.2.2.1 r10 M) (cwV 1 B.2.2.2.2.1 gX9_put_X9_failed rfl rfl rfl (by decide +kernel) ⟨Nat.le_of_ble_eq_true rfl, Nat.le_of_ble_eq_true rfl⟩) shM_o (by decide) rfl rfl rfl (Nat.le_of_ble_eq_true rfl) dX9_put_29 (fun r11 M12 _ => ?_)
      exact g_iret B hr hk dX9_put_32
  · refine g_aload_n B dX9_put_7 0 rfl rfl ?_
    refine g_iconst (v := -1) B dX9_put_8 (by decide) ?_
    refine g_callVIe (q := (RX9, TX9, 39)) (As := [.int (-1 : Int32)]) (st := []) B (k_X9_refused l D cA ad B.2.2.2.2.2.2.1 (-1 : Int32) M) (cwV 1 B.2.2.2.2.1 gX9_put_X9_refused rfl rfl rfl (by decide +kernel) ⟨Nat.le_of_ble_eq_true rfl, Nat.le_of_ble_eq_true rfl⟩) shM_o (by decide) rfl rfl rfl (Nat.le_of_ble_eq_true rfl) dX9_put_9 (fun r13 M14 _ => ?_)
    exact g_iret B hr hk dX9_put_12

abbrev rm_X9_cell : Room := { frames := 2, cells := 0, slots := 0, locals := 47 }
set_option maxHeartbeats 4000000 in
set_option maxRecDepth 100000 in
theorem k_X9_cell (l : Launch) (D : va_G) (cA : Nat → ClassId) (ad : Nat → Nat) (had : adOK ad 25) (v1 : Int32) (v2 : Int32) (v3 : Int32) (M : Mem) : CL l yX9_cell wsX9_cell rm_X9_cell D cA ad (shM ad cA) 25 [.ref (ad 0), .int v1, .int v2, .int v3] M (d_X9_cell v1 v2 v3 M) := by
  refine CL_of (own := RX9) (cc := cX9_cell) (maxL := 4) (rt := .long) had (by decide) rfl rfl (Nat.le_of_ble_eq_true rfl) ?_
  intro p e s m args below meth c R0 B hr hk
  have hJ24 : ∀    (M : Mem)   , GG p l e (headSpec wsX9_cell rm_X9_cell).room s m args below meth c D ad (shM ad cA) 25 4 (MQ below (QL D ad (shM ad cA) 25 s.heap.size R0) args s 0 0 (AX ad 25 s.heap.size)) R0 M 24 [] [] (dX9_cell_24j    M) := by
    intro M
    unfold dX9_cell_24j
    refine g_callSLp (As := []) (st := []) B (k_X9_lost l D cA ad B.2.2.2.2.2.2.1  M) (va_cwS 0 B.2.2.2.2.1 gX9_cell_X9_lost rfl rfl rfl (by decide +kernel) ⟨Nat.le_of_ble_eq_true rfl, Nat.le_of_ble_eq_true rfl⟩) rfl rfl (Nat.le_of_ble_eq_true rfl) dX9_cell_24 (fun r4 _ => ?_)
    exact g_lret B hr hk dX9_cell_27
  have hJ53 : ∀  (v1 : Int32) (v2 : Int32)  (M : Mem)   , GG p l e (headSpec wsX9_cell rm_X9_cell).room s m args below meth c D ad (shM ad cA) 25 4 (MQ below (QL D ad (shM ad cA) 25 s.heap.size R0) args s 0 0 (AX ad 25 s.heap.size)) R0 M 53 [(0, .ref (ad 0)), (1, .int v1), (2, .int v2)] [] (dX9_cell_53j  v1 v2  M) := by
    intro v1 v2 M
    unfold dX9_cell_53j
    refine g_aload_n B dX9_cell_53 0 rfl rfl ?_
    refine g_iload_n B dX9_cell_54 1 rfl rfl ?_
    refine g_iload_n B dX9_cell_55 2 rfl rfl ?_
    refine g_callVIp (q := (RX9, TX9, 39)) (As := [.int v1, .int v2]) (st := []) B (k_X9_noCell l D cA ad B.2.2.2.2.2.2.1 v1 v2 M) (cwV 2 B.2.2.2.2.1 gX9_cell_X9_noCell rfl rfl rfl (by decide +kernel) ⟨Nat.le_of_ble_eq_true rfl, Nat.le_of_ble_eq_true rfl⟩) shM_o (by decide) rfl rfl rfl (Nat.le_of_ble_eq_true rfl) dX9_cell_56 (fun r8 _ => ?_)
    refine g_if_le (tgt := 75) B dX9_cell_59 (by decide) (fun c9 => ?_) (fun c9 => ?_)
    · refine g_aload_n B dX9_cell_75 0 rfl rfl ?_
      refine g_get (v := .ref (ad 23)) B shM_o (by decide) in_X9_cell_X9 rfl 36 (by decide) (List.mem_of_getElem? (i := 5) rfl) rfl rfl dX9_cell_76 ?_
      refine g_bipush (v := 60) B dX9_cell_79 (by decide) ?_
      refine g_iload_n B dX9_cell_81 1 rfl rfl ?_
      refine g_imul B dX9_cell_82 ?_
      refine g_iload_n B dX9_cell_83 2 rfl rfl ?_
      refine g_iadd B dX9_cell_84 ?_
      refine g_iald B shM_a23 (by decide) dX9_cell_85 ?_
      refine g_i2l B dX9_cell_86 ?_
      exact g_lret B hr hk dX9_cell_87
    · refine g_aload_n B dX9_cell_62 0 rfl rfl ?_
      refine g_aload_n B dX9_cell_63 0 rfl rfl ?_
      refine g_iload_n B dX9_cell_64 1 rfl rfl ?_
      refine g_iload_n B dX9_cell_65 2 rfl rfl ?_
      refine g_callVIp (q := (RX9, TX9, 39)) (As := [.int v1, .int v2]) (st := [.ref (ad 0)]) B (k_X9_noCell l D cA ad B.2.2.2.2.2.2.1 v1 v2 M) (cwV 2 B.2.2.2.2.1 gX9_cell_X9_noCell rfl rfl rfl (by decide +kernel) ⟨Nat.le_of_ble_eq_true rfl, Nat.le_of_ble_eq_true rfl⟩) shM_o (by decide) rfl rfl rfl (Nat.le_of_ble_eq_true rfl) dX9_cell_66 (fun r10 _ => ?_)
      refine g_callVLe (q := (RX9, TX9, 39)) (As := [.int r10]) (st := []) B (k_X9_failedLong l D cA ad B.2.2.2.2.2.2.1 r10 M) (cwV 1 B.2.2.2.2.1 gX9_cell_X9_failedLong rfl rfl rfl (by decide +kernel) ⟨Nat.le_of_ble_eq_true rfl, Nat.le_of_ble_eq_true rfl⟩) shM_o (by decide) rfl rfl rfl (Nat.le_of_ble_eq_true rfl) dX9_cell_69 (fun r11 M12 _ => ?_)
      refine g_goto (tgt := 87) B dX9_cell_72 (by decide) ?_
      exact g_lret B hr hk dX9_cell_87
  unfold d_X9_cell
  show GG p l e (headSpec wsX9_cell rm_X9_cell).room s m args below meth c D ad (shM ad cA) 25 4 (MQ below (QL D ad (shM ad cA) 25 s.heap.size R0) args s 0 0 (AX ad 25 s.heap.size)) R0 M 0 [(0, .ref (ad 0)), (1, .int v1), (2, .int v2), (3, .int v3)] [] _
  refine g_aload_n B dX9_cell_0 0 rfl rfl ?_
  refine g_iconst (v := 0) B dX9_cell_1 (by decide) ?_
  refine g_put (ty := .int) B shM_o (by decide) in_X9_cell_X9 tyX9_ok nmX9 rfl 0 (by decide) (List.mem_of_getElem? (i := 1) rfl) rfl rfl (by decide +kernel) rfl rfl (fun _ => Nat.le_of_ble_eq_true rfl) (fun _ _ => rfl) dX9_cell_2 (g_lmM (fun M1 => ?_))
  refine g_iload_n B dX9_cell_5 1 rfl rfl ?_
  refine g_callSIp (As := [.int v1]) (st := []) B (k_X9_noSheet l D cA ad B.2.2.2.2.2.2.1 v1 M1) (va_cwS 1 B.2.2.2.2.1 gX9_cell_X9_noSheet rfl rfl rfl (by decide +kernel) ⟨Nat.le_of_ble_eq_true rfl, Nat.le_of_ble_eq_true rfl⟩) rfl rfl (Nat.le_of_ble_eq_true rfl) dX9_cell_6 (fun r2 _ => ?_)
  refine g_if_ne (tgt := 24) B dX9_cell_9 (by decide) (fun c3 => ?_) (fun c3 => ?_)
  · refine g_iload_n B dX9_cell_12 3 rfl rfl ?_
    refine g_i2l B dX9_cell_13 ?_
    refine g_lconst (v := 0) B dX9_cell_14 (by decide) ?_
    refine g_ldc2 (v := 2) B dX9_cell_15 (List.mem_of_getElem? (i := 2) rfl) ?_
    refine g_callSIp (As := [.long v3.toInt64, .long (0 : Int64), .long (2 : Int64)]) (st := []) B (k_X9_in l D cA ad B.2.2.2.2.2.2.1 v3.toInt64 (0 : Int64) (2 : Int64) M1) (va_cwS 3 B.2.2.2.2.1 gX9_cell_X9_in rfl rfl rfl (by decide +kernel) ⟨Nat.le_of_ble_eq_true rfl, Nat.le_of_ble_eq_true rfl⟩) rfl rfl (Nat.le_of_ble_eq_true rfl) dX9_cell_18 (fun r5 _ => ?_)
    refine g_if_ne (tgt := 28) B dX9_cell_21 (by decide) (fun c6 => ?_) (fun c6 => ?_)
    · exact g_lv [] rfl (hJ24 _   )
    · refine g_aload_n B dX9_cell_28 0 rfl rfl ?_
      refine g_get (v := .ref (ad 21)) B shM_o (by decide) in_X9_cell_X9 rfl 34 (by decide) (List.mem_of_getElem? (i := 3) rfl) rfl rfl dX9_cell_29 ?_
      refine g_iload_n B dX9_cell_32 1 rfl rfl ?_
      refine g_iald B shM_a21 (by decide) dX9_cell_33 ?_
      refine g_if_lt (tgt := 53) B dX9_cell_34 (by decide) (fun c7 => ?_) (fun c7 => ?_)
      · exact g_lv [0, 1, 2] rfl (hJ53 _ _ _   )
      · refine g_aload_n B dX9_cell_37 0 rfl rfl ?_
        refine g_get (v := .ref (ad 22)) B shM_o (by decide) in_X9_cell_X9 rfl 35 (by decide) (List.mem_of_getElem? (i := 4) rfl) rfl rfl dX9_cell_38 ?_
        refine g_iload_n B dX9_cell_41 1 rfl rfl ?_
        refine g_iald B shM_a22 (by decide) dX9_cell_42 ?_
        refine g_iload_n B dX9_cell_43 3 rfl rfl ?_
        refine g_icmp_eq (tgt := 53) B dX9_cell_44 (by decide) (fun c13 => ?_) (fun c13 => ?_)
        · exact g_lv [0, 1, 2] rfl (hJ53 _ _ _   )
        · refine g_aload_n B dX9_cell_47 0 rfl rfl ?_
          refine g_iconst (v := 2) B dX9_cell_48 (by decide) ?_
          refine g_callVLe (q := (RX9, TX9, 39)) (As := [.int (2 : Int32)]) (st := []) B (k_X9_failedLong l D cA ad B.2.2.2.2.2.2.1 (2 : Int32) M1) (cwV 1 B.2.2.2.2.1 gX9_cell_X9_failedLong rfl rfl rfl (by decide +kernel) ⟨Nat.le_of_ble_eq_true rfl, Nat.le_of_ble_eq_true rfl⟩) shM_o (by decide) rfl rfl rfl (Nat.le_of_ble_eq_true rfl) dX9_cell_49 (fun r14 M15 _ => ?_)
          exact g_lret B hr hk dX9_cell_52
  · exact g_lv [] rfl (hJ24 _   )

abbrev rm_X9_copy : Room := { frames := 2, cells := 0, slots := 0, locals := 45 }
set_option maxHeartbeats 4000000 in
set_option maxRecDepth 100000 in
theorem k_X9_copy (l : Launch) (D : va_G) (cA : Nat → ClassId) (ad : Nat → Nat) (had : adOK ad 25) (v1 : Int32) (v2 : Int32) (v3 : Int32) (v4 : Int32) (v5 : Int32) (M : Mem) : CI l yX9_copy wsX9_copy rm_X9_copy D cA ad (shM ad cA) 25 [.ref (ad 0), .int v1, .int v2, .int v3, .int v4, .int v5] M (d_X9_copy v1 v2 v3 v4 v5 M) := by
  refine CI_of (own := RX9) (cc := cX9_copy) (maxL := 7) (rt := .int) had (by decide) rfl rfl (Nat.le_of_ble_eq_true rfl) ?_
  intro p e s m args below meth c R0 B hr hk
  have hJ14 : ∀    (M : Mem)   , GG p l e (headSpec wsX9_copy rm_X9_copy).room s m args below meth c D ad (shM ad cA) 25 7 (MQ below (QI D ad (shM ad cA) 25 s.heap.size R0) args s 0 0 (AX ad 25 s.heap.size)) R0 M 14 [(0, .ref (ad 0))] [] (dX9_copy_14j    M) := by
    intro M
    unfold dX9_copy_14j
    refine g_aload_n B dX9_copy_14 0 rfl rfl ?_
    refine g_iconst (v := -1) B dX9_copy_15 (by decide) ?_
    refine g_callVIe (q := (RX9, TX9, 39)) (As := [.int (-1 : Int32)]) (st := []) B (k_X9_refused l D cA ad B.2.2.2.2.2.2.1 (-1 : Int32) M) (cwV 1 B.2.2.2.2.1 gX9_copy_X9_refused rfl rfl rfl (by decide +kernel) ⟨Nat.le_of_ble_eq_true rfl, Nat.le_of_ble_eq_true rfl⟩) shM_o (by decide) rfl rfl rfl (Nat.le_of_ble_eq_true rfl) dX9_copy_16 (fun r3 M4 _ => ?_)
    exact g_iret B hr hk dX9_copy_19
  have hJ38 : ∀    (M : Mem)   , GG p l e (headSpec wsX9_copy rm_X9_copy).room s m args below meth c D ad (shM ad cA) 25 7 (MQ below (QI D ad (shM ad cA) 25 s.heap.size R0) args s 0 0 (AX ad 25 s.heap.size)) R0 M 38 [(0, .ref (ad 0))] [] (dX9_copy_38j    M) := by
    intro M
    unfold dX9_copy_38j
    refine g_aload_n B dX9_copy_38 0 rfl rfl ?_
    refine g_iconst (v := 1) B dX9_copy_39 (by decide) ?_
    refine g_callVIe (q := (RX9, TX9, 39)) (As := [.int (1 : Int32)]) (st := []) B (k_X9_failed l D cA ad B.2.2.2.2.2.2.1 (1 : Int32) M) (cwV 1 B.2.2.2.2.1 gX9_copy_X9_failed rfl rfl rfl (by decide +kernel) ⟨Nat.le_of_ble_eq_true rfl, Nat.le_of_ble_eq_true rfl⟩) shM_o (by decide) rfl rfl rfl (Nat.le_of_ble_eq_true rfl) dX9_copy_40 (fun r8 M9 _ => ?_)
    exact g_iret B hr hk dX9_copy_43
  have hJ98 : ∀    (M : Mem)   , GG p l e (headSpec wsX9_copy rm_X9_copy).room s m args below meth c D ad (shM ad cA) 25 7 (MQ below (QI D ad (shM ad cA) 25 s.heap.size R0) args s 0 0 (AX ad 25 s.heap.size)) R0 M 98 [(0, .ref (ad 0))] [] (dX9_copy_98j    M) := by
    intro M
    unfold dX9_copy_98j
    refine g_aload_n B dX9_copy_98 0 rfl rfl ?_
    refine g_iconst (v := 3) B dX9_copy_99 (by decide) ?_
    refine g_callVIe (q := (RX9, TX9, 39)) (As := [.int (3 : Int32)]) (st := []) B (k_X9_failed l D cA ad B.2.2.2.2.2.2.1 (3 : Int32) M) (cwV 1 B.2.2.2.2.1 gX9_copy_X9_failed rfl rfl rfl (by decide +kernel) ⟨Nat.le_of_ble_eq_true rfl, Nat.le_of_ble_eq_true rfl⟩) shM_o (by decide) rfl rfl rfl (Nat.le_of_ble_eq_true rfl) dX9_copy_100 (fun r14 M15 _ => ?_)
    exact g_iret B hr hk dX9_copy_103
  have hL107 : ∀ (v1 : Int32) (v2 : Int32) (v3 : Int32) (v4 : Int32) (v5 : Int32)  (k107_141 : Mem → Option (Int32 × Mem))  (hk107_141 : ∀  (M1 : Mem), GG p l e (headSpec wsX9_copy rm_X9_copy).room s m args below meth c D ad (shM ad cA) 25 7 (MQ below (QI D ad (shM ad cA) 25 s.heap.size R0) args s 0 0 (AX ad 25 s.heap.size)) R0 M1 141 [(0, .ref (ad 0)), (3, .int v3), (4, .int v4), (5, .int v5)] [] (k107_141  M1)), ∀ (f : Nat) (v6 : Int32) (M : Mem), GG p l e (headSpec wsX9_copy rm_X9_copy).room s m args below meth c D ad (shM ad cA) 25 7 (MQ below (QI D ad (shM ad cA) 25 s.heap.size R0) args s 0 0 (AX ad 25 s.heap.size)) R0 M 107 [(0, .ref (ad 0)), (1, .int v1), (2, .int v2), (3, .int v3), (4, .int v4), (5, .int v5), (6, .int v6)] [] (dX9_copy_107l v1 v2 v3 v4 v5  k107_141 f v6 M) := by
    intro v1 v2 v3 v4 v5 k107_141 hk107_141
    intro f
    induction f with
    | zero =>
      intro v6 M
      exact g_none
    | succ f ih =>
      intro v6 M
      rw [dX9_copy_107l]
      refine g_iload B dX9_copy_107 6 rfl ?_
      refine g_iload B dX9_copy_109 5 rfl ?_
      refine g_icmp_ge (tgt := 141) B dX9_copy_111 (by decide) (fun c18 => ?_) (fun c18 => ?_)
      · exact g_lv [0, 3, 4, 5] rfl (hk107_141  _)
      · refine g_aload_n B dX9_copy_114 0 rfl rfl ?_
        refine g_get (v := .ref (ad 24)) B shM_o (by decide) in_X9_copy_X9 rfl 37 (by decide) (List.mem_of_getElem? (i := 3) rfl) rfl rfl dX9_copy_115 ?_
        refine g_iload B dX9_copy_118 6 rfl ?_
        refine g_aload_n B dX9_copy_120 0 rfl rfl ?_
        refine g_get (v := .ref (ad 23)) B shM_o (by decide) in_X9_copy_X9 rfl 36 (by decide) (List.mem_of_getElem? (i := 4) rfl) rfl rfl dX9_copy_121 ?_
        refine g_bipush (v := 60) B dX9_copy_124 (by decide) ?_
        refine g_iload_n B dX9_copy_126 1 rfl rfl ?_
        refine g_imul B dX9_copy_127 ?_
        refine g_iload_n B dX9_copy_128 2 rfl rfl ?_
        refine g_iadd B dX9_copy_129 ?_
        refine g_iload B dX9_copy_130 6 rfl ?_
        refine g_iadd B dX9_copy_132 ?_
        refine g_iald B shM_a23 (by decide) dX9_copy_133 ?_
        refine g_iast B shM_a24 (by decide) dX9_copy_134 (g_lmM (fun M19 => ?_))
        refine g_iinc B dX9_copy_135 6 (v := v6 + (1 : Int32)) rfl rfl (by decide) (lv1 := [(6, .int (v6 + (1 : Int32))), (0, .ref (ad 0)), (1, .int v1), (2, .int v2), (3, .int v3), (4, .int v4), (5, .int v5)]) rfl ?_
        refine g_goto (tgt := 107) B dX9_copy_138 (by decide) ?_
        exact g_lv [1, 2, 3, 4, 5, 6, 0] rfl (ih _ _)
  have hL144 : ∀ (v3 : Int32) (v4 : Int32) (v5 : Int32)  (k144_179 : Mem → Option (Int32 × Mem))  (hk144_179 : ∀  (M1 : Mem), GG p l e (headSpec wsX9_copy rm_X9_copy).room s m args below meth c D ad (shM ad cA) 25 7 (MQ below (QI D ad (shM ad cA) 25 s.heap.size R0) args s 0 0 (AX ad 25 s.heap.size)) R0 M1 179 [(0, .ref (ad 0)), (5, .int v5)] [] (k144_179  M1)), ∀ (f : Nat) (v6 : Int32) (M : Mem), GG p l e (headSpec wsX9_copy rm_X9_copy).room s m args below meth c D ad (shM ad cA) 25 7 (MQ below (QI D ad (shM ad cA) 25 s.heap.size R0) args s 0 0 (AX ad 25 s.heap.size)) R0 M 144 [(0, .ref (ad 0)), (3, .int v3), (4, .int v4), (5, .int v5), (6, .int v6)] [] (dX9_copy_144l v3 v4 v5  k144_179 f v6 M) := by
    intro v3 v4 v5 k144_179 hk144_179
    intro f
    induction f with
    | zero =>
      intro v6 M
      exact g_none
    | succ f ih =>
      intro v6 M
      rw [dX9_copy_144l]
      refine g_iload B dX9_copy_144 4 rfl ?_
      refine g_iload B dX9_copy_146 3 rfl ?_
      refine g_icmp_ge (tgt := 179) B dX9_copy_148 (by decide) (fun c21 => ?_) (fun c21 => ?_)
      · exact g_lv [0, 3] rfl (hk144_179  _)
      · refine g_aload_n B dX9_copy_151 0 rfl rfl ?_
        refine g_get (v := .ref (ad 23)) B shM_o (by decide) in_X9_copy_X9 rfl 36 (by decide) (List.mem_of_getElem? (i := 4) rfl) rfl rfl dX9_copy_152 ?_
        refine g_bipush (v := 60) B dX9_copy_155 (by decide) ?_
        refine g_iload_n B dX9_copy_157 1 rfl rfl ?_
        refine g_imul B dX9_copy_158 ?_
        refine g_iload B dX9_copy_159 2 rfl ?_
        refine g_iadd B dX9_copy_161 ?_
        refine g_iload B dX9_copy_162 4 rfl ?_
        refine g_iadd B dX9_copy_164 ?_
        refine g_aload_n B dX9_copy_165 0 rfl rfl ?_
        refine g_get (v := .ref (ad 24)) B shM_o (by decide) in_X9_copy_X9 rfl 37 (by decide) (List.mem_of_getElem? (i := 3) rfl) rfl rfl dX9_copy_166 ?_
        refine g_iload B dX9_copy_169 4 rfl ?_
        refine g_iald B shM_a24 (by decide) dX9_copy_171 ?_
        refine g_iast B shM_a23 (by decide) dX9_copy_172 (g_lmM (fun M22 => ?_))
        refine g_iinc B dX9_copy_173 4 (v := v6 + (1 : Int32)) rfl rfl (by decide) (lv1 := [(6, .int (v6 + (1 : Int32))), (0, .ref (ad 0)), (3, .int v3), (4, .int v4), (5, .int v5)]) rfl ?_
        refine g_goto (tgt := 144) B dX9_copy_176 (by decide) ?_
        exact g_lv [1, 2, 3, 4, 0] rfl (ih _ _)
  unfold d_X9_copy
  show GG p l e (headSpec wsX9_copy rm_X9_copy).room s m args below meth c D ad (shM ad cA) 25 7 (MQ below (QI D ad (shM ad cA) 25 s.heap.size R0) args s 0 0 (AX ad 25 s.heap.size)) R0 M 0 [(0, .ref (ad 0)), (1, .int v1), (2, .int v2), (3, .int v3), (4, .int v4), (5, .int v5)] [] _
  refine g_iload_n B dX9_copy_0 1 rfl rfl ?_
  refine g_callSIp (As := [.int v1]) (st := []) B (k_X9_noSheet l D cA ad B.2.2.2.2.2.2.1 v1 M) (va_cwS 1 B.2.2.2.2.1 gX9_copy_X9_noSheet rfl rfl rfl (by decide +kernel) ⟨Nat.le_of_ble_eq_true rfl, Nat.le_of_ble_eq_true rfl⟩) rfl rfl (Nat.le_of_ble_eq_true rfl) dX9_copy_1 (fun r1 _ => ?_)
  refine g_if_ne (tgt := 14) B dX9_copy_4 (by decide) (fun c2 => ?_) (fun c2 => ?_)
  · refine g_iload_n B dX9_copy_7 3 rfl rfl ?_
    refine g_callSIp (As := [.int v3]) (st := []) B (k_X9_noSheet l D cA ad B.2.2.2.2.2.2.1 v3 M) (va_cwS 1 B.2.2.2.2.1 gX9_copy_X9_noSheet rfl rfl rfl (by decide +kernel) ⟨Nat.le_of_ble_eq_true rfl, Nat.le_of_ble_eq_true rfl⟩) rfl rfl (Nat.le_of_ble_eq_true rfl) dX9_copy_8 (fun r5 _ => ?_)
    refine g_if_eq (tgt := 20) B dX9_copy_11 (by decide) (fun c6 => ?_) (fun c6 => ?_)
    · refine g_aload_n B dX9_copy_20 0 rfl rfl ?_
      refine g_get (v := .ref (ad 21)) B shM_o (by decide) in_X9_copy_X9 rfl 34 (by decide) (List.mem_of_getElem? (i := 1) rfl) rfl rfl dX9_copy_21 ?_
      refine g_iload_n B dX9_copy_24 1 rfl rfl ?_
      refine g_iald B shM_a21 (by decide) dX9_copy_25 ?_
      refine g_if_lt (tgt := 38) B dX9_copy_26 (by decide) (fun c7 => ?_) (fun c7 => ?_)
      · exact g_lv [0] rfl (hJ38 _   )
      · refine g_aload_n B dX9_copy_29 0 rfl rfl ?_
        refine g_get (v := .ref (ad 21)) B shM_o (by decide) in_X9_copy_X9 rfl 34 (by decide) (List.mem_of_getElem? (i := 1) rfl) rfl rfl dX9_copy_30 ?_
        refine g_iload_n B dX9_copy_33 3 rfl rfl ?_
        refine g_iald B shM_a21 (by decide) dX9_copy_34 ?_
        refine g_if_ge (tgt := 44) B dX9_copy_35 (by decide) (fun c10 => ?_) (fun c10 => ?_)
        · refine g_aload_n B dX9_copy_44 0 rfl rfl ?_
          refine g_get (v := .ref (ad 22)) B shM_o (by decide) in_X9_copy_X9 rfl 35 (by decide) (List.mem_of_getElem? (i := 2) rfl) rfl rfl dX9_copy_45 ?_
          refine g_iload_n B dX9_copy_48 1 rfl rfl ?_
          refine g_iald B shM_a22 (by decide) dX9_copy_49 ?_
          refine g_aload_n B dX9_copy_50 0 rfl rfl ?_
          refine g_get (v := .ref (ad 22)) B shM_o (by decide) in_X9_copy_X9 rfl 35 (by decide) (List.mem_of_getElem? (i := 2) rfl) rfl rfl dX9_copy_51 ?_
          refine g_iload_n B dX9_copy_54 3 rfl rfl ?_
          refine g_iald B shM_a22 (by decide) dX9_copy_55 ?_
          refine g_icmp_eq (tgt := 65) B dX9_copy_56 (by decide) (fun c11 => ?_) (fun c11 => ?_)
          · refine g_iload_n B dX9_copy_65 2 rfl rfl ?_
            refine g_iload B dX9_copy_66 5 rfl ?_
            refine g_i2l B dX9_copy_68 ?_
            refine g_aload_n B dX9_copy_69 0 rfl rfl ?_
            refine g_get (v := .ref (ad 21)) B shM_o (by decide) in_X9_copy_X9 rfl 34 (by decide) (List.mem_of_getElem? (i := 1) rfl) rfl rfl dX9_copy_70 ?_
            refine g_iload_n B dX9_copy_73 1 rfl rfl ?_
            refine g_iald B shM_a21 (by decide) dX9_copy_74 ?_
            refine g_callSIp (As := [.int v2, .long v5.toInt64, .int (M 21 v1.toNatClampNeg)]) (st := []) B (k_X9_isBeyond l D cA ad B.2.2.2.2.2.2.1 v2 v5.toInt64 (M 21 v1.toNatClampNeg) M) (va_cwS 3 B.2.2.2.2.1 gX9_copy_X9_isBeyond rfl rfl rfl (by decide +kernel) ⟨Nat.le_of_ble_eq_true rfl, Nat.le_of_ble_eq_true rfl⟩) rfl rfl (Nat.le_of_ble_eq_true rfl) dX9_copy_75 (fun r12 _ => ?_)
            refine g_if_ne (tgt := 98) B dX9_copy_78 (by decide) (fun c13 => ?_) (fun c13 => ?_)
            · refine g_iload B dX9_copy_81 4 rfl ?_
              refine g_iload B dX9_copy_83 5 rfl ?_
              refine g_i2l B dX9_copy_85 ?_
              refine g_aload_n B dX9_copy_86 0 rfl rfl ?_
              refine g_get (v := .ref (ad 21)) B shM_o (by decide) in_X9_copy_X9 rfl 34 (by decide) (List.mem_of_getElem? (i := 1) rfl) rfl rfl dX9_copy_87 ?_
              refine g_iload_n B dX9_copy_90 3 rfl rfl ?_
              refine g_iald B shM_a21 (by decide) dX9_copy_91 ?_
              refine g_callSIp (As := [.int v4, .long v5.toInt64, .int (M 21 v3.toNatClampNeg)]) (st := []) B (k_X9_isBeyond l D cA ad B.2.2.2.2.2.2.1 v4 v5.toInt64 (M 21 v3.toNatClampNeg) M) (va_cwS 3 B.2.2.2.2.1 gX9_copy_X9_isBeyond rfl rfl rfl (by decide +kernel) ⟨Nat.le_of_ble_eq_true rfl, Nat.le_of_ble_eq_true rfl⟩) rfl rfl (Nat.le_of_ble_eq_true rfl) dX9_copy_92 (fun r16 _ => ?_)
              refine g_if_eq (tgt := 104) B dX9_copy_95 (by decide) (fun c17 => ?_) (fun c17 => ?_)
              · refine g_iconst (v := 0) B dX9_copy_104 (by decide) ?_
                refine g_istore B dX9_copy_105 (by decide) (lv1 := [(6, .int (0 : Int32)), (0, .ref (ad 0)), (1, .int v1), (2, .int v2), (3, .int v3), (4, .int v4), (5, .int v5)]) rfl ?_
                refine g_lv [1, 2, 3, 4, 5, 6, 0] rfl (hL107 _ _ _ _ _ _  ?_ FU _ _)
                · intro M20
                  refine g_iconst (v := 0) B dX9_copy_141 (by decide) ?_
                  refine g_istore B dX9_copy_142 (by decide) (lv1 := [(6, .int (0 : Int32)), (0, .ref (ad 0)), (3, .int v3), (4, .int v4), (5, .int v5)]) rfl ?_
                  refine g_lv [1, 2, 3, 4, 0] rfl (hL144 _ _ _ _  ?_ FU _ _)
                  · intro M23
                    refine g_aload_n B dX9_copy_179 0 rfl rfl ?_
                    refine g_iload B dX9_copy_180 1 rfl ?_
                    refine g_callVIe (q := (RX9, TX9, 39)) (As := [.int v5]) (st := []) B (k_X9_refused l D cA ad B.2.2.2.2.2.2.1 v5 M23) (cwV 1 B.2.2.2.2.1 gX9_copy_X9_refused rfl rfl rfl (by decide +kernel) ⟨Nat.le_of_ble_eq_true rfl, Nat.le_of_ble_eq_true rfl⟩) shM_o (by decide) rfl rfl rfl (Nat.le_of_ble_eq_true rfl) dX9_copy_182 (fun r24 M25 _ => ?_)
                    exact g_iret B hr hk dX9_copy_185
              · exact g_lv [0] rfl (hJ98 _   )
            · exact g_lv [0] rfl (hJ98 _   )
          · refine g_aload_n B dX9_copy_59 0 rfl rfl ?_
            refine g_iconst (v := 2) B dX9_copy_60 (by decide) ?_
            refine g_callVIe (q := (RX9, TX9, 39)) (As := [.int (2 : Int32)]) (st := []) B (k_X9_failed l D cA ad B.2.2.2.2.2.2.1 (2 : Int32) M) (cwV 1 B.2.2.2.2.1 gX9_copy_X9_failed rfl rfl rfl (by decide +kernel) ⟨Nat.le_of_ble_eq_true rfl, Nat.le_of_ble_eq_true rfl⟩) shM_o (by decide) rfl rfl rfl (Nat.le_of_ble_eq_true rfl) dX9_copy_61 (fun r26 M27 _ => ?_)
            exact g_iret B hr hk dX9_copy_64
        · exact g_lv [0] rfl (hJ38 _   )
    · exact g_lv [0] rfl (hJ14 _   )
  · exact g_lv [0] rfl (hJ14 _   )

abbrev rm_X9_traced : Room := { frames := 0, cells := 0, slots := 0, locals := 0 }
set_option maxHeartbeats 4000000 in
set_option maxRecDepth 100000 in
theorem k_X9_traced (l : Launch) (D : va_G) (cA : Nat → ClassId) (ad : Nat → Nat) (had : adOK ad 25) (v1 : Int32) (M : Mem) : CV l yX9_traced wsX9_traced rm_X9_traced D cA ad (shM ad cA) 25 [.ref (ad 0), .int v1] M (d_X9_traced v1 M) := by
  refine CV_of (own := RX9) (cc := cX9_traced) (maxL := 2) had (by decide) rfl rfl (Nat.le_of_ble_eq_true rfl) ?_
  intro p e s m args below meth c R0 B hr hk
  unfold d_X9_traced
  show GG p l e (headSpec wsX9_traced rm_X9_traced).room s m args below meth c D ad (shM ad cA) 25 2 (MQ below (QV D ad (shM ad cA) 25 s.heap.size R0) args s 0 0 (AX ad 25 s.heap.size)) R0 M 0 [(0, .ref (ad 0)), (1, .int v1)] [] _
  refine g_aload_n B dX9_traced_0 0 rfl rfl ?_
  refine g_bipush (v := 31) B dX9_traced_1 (by decide) ?_
  refine g_aload_n B dX9_traced_3 0 rfl rfl ?_
  refine g_get (v := .int (M 0 38)) B shM_o (by decide) in_X9_traced_X9 rfl 38 (by decide) (List.mem_of_getElem? (i := 1) rfl) rfl rfl dX9_traced_4 ?_
  refine g_imul B dX9_traced_7 ?_
  refine g_iload_n B dX9_traced_8 1 rfl rfl ?_
  refine g_iadd B dX9_traced_9 ?_
  refine g_put (ty := .int) B shM_o (by decide) in_X9_traced_X9 tyX9_ok nmX9 rfl 38 (by decide) (List.mem_of_getElem? (i := 1) rfl) rfl rfl (by decide +kernel) rfl rfl (fun _ => Nat.le_of_ble_eq_true rfl) (fun _ _ => rfl) dX9_traced_10 (g_lmM (fun M1 => ?_))
  exact g_vret B hr hk dX9_traced_13

abbrev rm_X9_tell : Room := { frames := 2, cells := 0, slots := 0, locals := 46 }
set_option maxHeartbeats 4000000 in
set_option maxRecDepth 100000 in
theorem k_X9_tell (l : Launch) (D : va_G) (cA : Nat → ClassId) (ad : Nat → Nat) (had : adOK ad 25) (v1 : Int32) (M : Mem) : CI l yX9_tell wsX9_tell rm_X9_tell D cA ad (shM ad cA) 25 [.ref (ad 0), .int v1] M (d_X9_tell v1 M) := by
  refine CI_of (own := RX9) (cc := cX9_tell) (maxL := 4) (rt := .int) had (by decide) rfl rfl (Nat.le_of_ble_eq_true rfl) ?_
  intro p e s m args below meth c R0 B hr hk
  have hJ51 : ∀  (v1 : Int32) (v2 : Int32)  (M : Mem)   , GG p l e (headSpec wsX9_tell rm_X9_tell).room s m args below meth c D ad (shM ad cA) 25 4 (MQ below (QI D ad (shM ad cA) 25 s.heap.size R0) args s 0 0 (AX ad 25 s.heap.size)) R0 M 51 [(0, .ref (ad 0)), (1, .int v1), (2, .int v2)] [] (dX9_tell_51j  v1 v2  M) := by
    intro v1 v2 M
    unfold dX9_tell_51j
    refine g_aload_n B dX9_tell_51 0 rfl rfl ?_
    refine g_get (v := .ref (ad 6)) B shM_o (by decide) in_X9_tell_X9 rfl 10 (by decide) (List.mem_of_getElem? (i := 2) rfl) rfl rfl dX9_tell_52 ?_
    refine g_iload_n B dX9_tell_55 1 rfl rfl ?_
    refine g_iald B shM_a6 (by decide) dX9_tell_56 ?_
    refine g_lmI (fun x8 => ?_)
    refine g_istore_n B dX9_tell_57 rfl (by decide) (lv1 := [(3, .int x8), (0, .ref (ad 0)), (1, .int v1), (2, .int v2)]) rfl ?_
    refine g_iload_n B dX9_tell_58 3 rfl rfl ?_
    refine g_if_ne (tgt := 66) B dX9_tell_59 (by decide) (fun c9 => ?_) (fun c9 => ?_)
    · refine g_iload_n B dX9_tell_62 0 rfl rfl ?_
      refine g_goto (tgt := 84) B dX9_tell_63 (by decide) ?_
      exact g_iret B hr hk dX9_tell_84
    · refine g_iload_n B dX9_tell_66 3 rfl rfl ?_
      refine g_iconst (v := 1) B dX9_tell_67 (by decide) ?_
      refine g_icmp_ne (tgt := 78) B dX9_tell_68 (by decide) (fun c10 => ?_) (fun c10 => ?_)
      · refine g_iload_n B dX9_tell_71 0 rfl rfl ?_
        refine g_bipush (v := 100) B dX9_tell_72 (by decide) ?_
        refine g_iadd B dX9_tell_74 ?_
        refine g_goto (tgt := 84) B dX9_tell_75 (by decide) ?_
        exact g_iret B hr hk dX9_tell_84
      · refine g_iconst (v := 2) B dX9_tell_78 (by decide) ?_
        refine g_iload_n B dX9_tell_79 0 rfl rfl ?_
        refine g_imul B dX9_tell_80 ?_
        refine g_bipush (v := 100) B dX9_tell_81 (by decide) ?_
        refine g_iadd B dX9_tell_83 ?_
        exact g_iret B hr hk dX9_tell_84
  have hJ36 : ∀  (v1 : Int32) (v2 : Int32)  (M : Mem)   , GG p l e (headSpec wsX9_tell rm_X9_tell).room s m args below meth c D ad (shM ad cA) 25 4 (MQ below (QI D ad (shM ad cA) 25 s.heap.size R0) args s 0 0 (AX ad 25 s.heap.size)) R0 M 36 [(0, .ref (ad 0)), (1, .int v1), (2, .int v2)] [] (dX9_tell_36j  v1 v2  M) := by
    intro v1 v2 M
    unfold dX9_tell_36j
    refine g_aload_n B dX9_tell_36 0 rfl rfl ?_
    refine g_iconst (v := 1) B dX9_tell_37 (by decide) ?_
    refine g_callVVe (q := (RX9, TX9, 39)) (As := [.int (1 : Int32)]) (st := []) B (k_X9_traced l D cA ad B.2.2.2.2.2.2.1 (1 : Int32) M) (cwV 1 B.2.2.2.2.1 gX9_tell_X9_traced rfl rfl rfl (by decide +kernel) ⟨Nat.le_of_ble_eq_true rfl, Nat.le_of_ble_eq_true rfl⟩) shM_o (by decide) rfl rfl rfl (Nat.le_of_ble_eq_true rfl) dX9_tell_38 (fun M6 _ => ?_)
    refine g_iload_n B dX9_tell_41 2 rfl rfl ?_
    refine g_iconst (v := 2) B dX9_tell_42 (by decide) ?_
    refine g_icmp_ne (tgt := 51) B dX9_tell_43 (by decide) (fun c7 => ?_) (fun c7 => ?_)
    · refine g_aload_n B dX9_tell_46 0 rfl rfl ?_
      refine g_iconst (v := 1) B dX9_tell_47 (by decide) ?_
      refine g_callVVe (q := (RX9, TX9, 39)) (As := [.int (1 : Int32)]) (st := []) B (k_X9_traced l D cA ad B.2.2.2.2.2.2.1 (1 : Int32) M6) (cwV 1 B.2.2.2.2.1 gX9_tell_X9_traced rfl rfl rfl (by decide +kernel) ⟨Nat.le_of_ble_eq_true rfl, Nat.le_of_ble_eq_true rfl⟩) shM_o (by decide) rfl rfl rfl (Nat.le_of_ble_eq_true rfl) dX9_tell_48 (fun M11 _ => ?_)
      exact g_lv [0, 1, 2] rfl (hJ51 _ _ _   )
    · exact g_lv [0, 1, 2] rfl (hJ51 _ _ _   )
  have hJ27 : ∀  (v1 : Int32) (v2 : Int32)  (M : Mem)   , GG p l e (headSpec wsX9_tell rm_X9_tell).room s m args below meth c D ad (shM ad cA) 25 4 (MQ below (QI D ad (shM ad cA) 25 s.heap.size R0) args s 0 0 (AX ad 25 s.heap.size)) R0 M 27 [(0, .ref (ad 0)), (1, .int v1), (2, .int v2)] [] (dX9_tell_27j  v1 v2  M) := by
    intro v1 v2 M
    unfold dX9_tell_27j
    refine g_iload_n B dX9_tell_27 2 rfl rfl ?_
    refine g_if_le (tgt := 36) B dX9_tell_28 (by decide) (fun c5 => ?_) (fun c5 => ?_)
    · exact g_lv [0, 1, 2] rfl (hJ36 _ _ _   )
    · refine g_aload_n B dX9_tell_31 0 rfl rfl ?_
      refine g_iconst (v := 2) B dX9_tell_32 (by decide) ?_
      refine g_callVVe (q := (RX9, TX9, 39)) (As := [.int (2 : Int32)]) (st := []) B (k_X9_traced l D cA ad B.2.2.2.2.2.2.1 (2 : Int32) M) (cwV 1 B.2.2.2.2.1 gX9_tell_X9_traced rfl rfl rfl (by decide +kernel) ⟨Nat.le_of_ble_eq_true rfl, Nat.le_of_ble_eq_true rfl⟩) shM_o (by decide) rfl rfl rfl (Nat.le_of_ble_eq_true rfl) dX9_tell_33 (fun M12 _ => ?_)
      exact g_lv [0, 1, 2] rfl (hJ36 _ _ _   )
  unfold d_X9_tell
  show GG p l e (headSpec wsX9_tell rm_X9_tell).room s m args below meth c D ad (shM ad cA) 25 4 (MQ below (QI D ad (shM ad cA) 25 s.heap.size R0) args s 0 0 (AX ad 25 s.heap.size)) R0 M 0 [(0, .ref (ad 0)), (1, .int v1)] [] _
  refine g_aload_n B dX9_tell_0 0 rfl rfl ?_
  refine g_iload_n B dX9_tell_1 1 rfl rfl ?_
  refine g_callVIp (q := (RX9, TX9, 39)) (As := [.int v1]) (st := []) B (k_X9_noFootman l D cA ad B.2.2.2.2.2.2.1 v1 M) (cwV 1 B.2.2.2.2.1 gX9_tell_X9_noFootman rfl rfl rfl (by decide +kernel) ⟨Nat.le_of_ble_eq_true rfl, Nat.le_of_ble_eq_true rfl⟩) shM_o (by decide) rfl rfl rfl (Nat.le_of_ble_eq_true rfl) dX9_tell_2 (fun r1 _ => ?_)
  refine g_if_eq (tgt := 10) B dX9_tell_5 (by decide) (fun c2 => ?_) (fun c2 => ?_)
  · refine g_aload_n B dX9_tell_10 0 rfl rfl ?_
    refine g_get (v := .ref (ad 3)) B shM_o (by decide) in_X9_tell_X9 rfl 7 (by decide) (List.mem_of_getElem? (i := 1) rfl) rfl rfl dX9_tell_11 ?_
    refine g_iload_n B dX9_tell_14 1 rfl rfl ?_
    refine g_iald B shM_a3 (by decide) dX9_tell_15 ?_
    refine g_lmI (fun x3 => ?_)
    refine g_istore_n B dX9_tell_16 rfl (by decide) (lv1 := [(2, .int x3), (0, .ref (ad 0)), (1, .int v1)]) rfl ?_
    refine g_iload_n B dX9_tell_17 0 rfl rfl ?_
    refine g_iconst (v := 2) B dX9_tell_18 (by decide) ?_
    refine g_icmp_ne (tgt := 27) B dX9_tell_19 (by decide) (fun c4 => ?_) (fun c4 => ?_)
    · refine g_aload_n B dX9_tell_22 1 rfl rfl ?_
      refine g_iconst (v := 3) B dX9_tell_23 (by decide) ?_
      refine g_callVVe (q := (RX9, TX9, 39)) (As := [.int (3 : Int32)]) (st := []) B (k_X9_traced l D cA ad B.2.2.2.2.2.2.1 (3 : Int32) M) (cwV 1 B.2.2.2.2.1 gX9_tell_X9_traced rfl rfl rfl (by decide +kernel) ⟨Nat.le_of_ble_eq_true rfl, Nat.le_of_ble_eq_true rfl⟩) shM_o (by decide) rfl rfl rfl (Nat.le_of_ble_eq_true rfl) dX9_tell_24 (fun M13 _ => ?_)
      exact g_lv [1, 2, 0] rfl (hJ27 _ _ _   )
    · exact g_lv [1, 2, 0] rfl (hJ27 _ _ _   )
  · refine g_iconst (v := -1) B dX9_tell_8 (by decide) ?_
    exact g_iret B hr hk dX9_tell_9

abbrev rm_X9_ring : Room := { frames := 2, cells := 0, slots := 0, locals := 46 }
set_option maxHeartbeats 4000000 in
set_option maxRecDepth 100000 in
theorem k_X9_ring (l : Launch) (D : va_G) (cA : Nat → ClassId) (ad : Nat → Nat) (had : adOK ad 25) (v1 : Int32) (M : Mem) : CI l yX9_ring wsX9_ring rm_X9_ring D cA ad (shM ad cA) 25 [.ref (ad 0), .int v1] M (d_X9_ring v1 M) := by
  refine CI_of (own := RX9) (cc := cX9_ring) (maxL := 2) (rt := .int) had (by decide) rfl rfl (Nat.le_of_ble_eq_true rfl) ?_
  intro p e s m args below meth c R0 B hr hk
  have hJ26 : ∀  (v1 : Int32) (s0 : Int32) (M : Mem)   , GG p l e (headSpec wsX9_ring rm_X9_ring).room s m args below meth c D ad (shM ad cA) 25 2 (MQ below (QI D ad (shM ad cA) 25 s.heap.size R0) args s 0 0 (AX ad 25 s.heap.size)) R0 M 26 [(0, .ref (ad 0)), (1, .int v1)] [.int s0, .ref (ad 0)] (dX9_ring_26j  v1 s0 M) := by
    intro v1 s0 M
    unfold dX9_ring_26j
    refine g_callVVe (q := (RX9, TX9, 39)) (As := [.int s0]) (st := []) B (k_X9_traced l D cA ad B.2.2.2.2.2.2.1 s0 M) (cwV 1 B.2.2.2.2.1 gX9_ring_X9_traced rfl rfl rfl (by decide +kernel) ⟨Nat.le_of_ble_eq_true rfl, Nat.le_of_ble_eq_true rfl⟩) shM_o (by decide) rfl rfl rfl (Nat.le_of_ble_eq_true rfl) dX9_ring_26 (fun M4 _ => ?_)
    refine g_aload_n B dX9_ring_29 0 rfl rfl ?_
    refine g_get (v := .ref (ad 3)) B shM_o (by decide) in_X9_ring_X9 rfl 7 (by decide) (List.mem_of_getElem? (i := 1) rfl) rfl rfl dX9_ring_30 ?_
    refine g_iload_n B dX9_ring_33 1 rfl rfl ?_
    refine g_iald B shM_a3 (by decide) dX9_ring_34 ?_
    refine g_iconst (v := 2) B dX9_ring_35 (by decide) ?_
    refine g_icmp_ne (tgt := 44) B dX9_ring_36 (by decide) (fun c5 => ?_) (fun c5 => ?_)
    · refine g_bipush (v := 60) B dX9_ring_39 (by decide) ?_
      refine g_goto (tgt := 45) B dX9_ring_41 (by decide) ?_
      exact g_iret B hr hk dX9_ring_45
    · refine g_iload_n B dX9_ring_44 1 rfl rfl ?_
      exact g_iret B hr hk dX9_ring_45
  unfold d_X9_ring
  show GG p l e (headSpec wsX9_ring rm_X9_ring).room s m args below meth c D ad (shM ad cA) 25 2 (MQ below (QI D ad (shM ad cA) 25 s.heap.size R0) args s 0 0 (AX ad 25 s.heap.size)) R0 M 0 [(0, .ref (ad 0)), (1, .int v1)] [] _
  refine g_aload_n B dX9_ring_0 0 rfl rfl ?_
  refine g_iload_n B dX9_ring_1 1 rfl rfl ?_
  refine g_callVIp (q := (RX9, TX9, 39)) (As := [.int v1]) (st := []) B (k_X9_noFootman l D cA ad B.2.2.2.2.2.2.1 v1 M) (cwV 1 B.2.2.2.2.1 gX9_ring_X9_noFootman rfl rfl rfl (by decide +kernel) ⟨Nat.le_of_ble_eq_true rfl, Nat.le_of_ble_eq_true rfl⟩) shM_o (by decide) rfl rfl rfl (Nat.le_of_ble_eq_true rfl) dX9_ring_2 (fun r1 _ => ?_)
  refine g_if_eq (tgt := 10) B dX9_ring_5 (by decide) (fun c2 => ?_) (fun c2 => ?_)
  · refine g_aload_n B dX9_ring_10 0 rfl rfl ?_
    refine g_aload_n B dX9_ring_11 0 rfl rfl ?_
    refine g_get (v := .ref (ad 3)) B shM_o (by decide) in_X9_ring_X9 rfl 7 (by decide) (List.mem_of_getElem? (i := 1) rfl) rfl rfl dX9_ring_12 ?_
    refine g_iload_n B dX9_ring_15 1 rfl rfl ?_
    refine g_iald B shM_a3 (by decide) dX9_ring_16 ?_
    refine g_iconst (v := 2) B dX9_ring_17 (by decide) ?_
    refine g_icmp_ne (tgt := 25) B dX9_ring_18 (by decide) (fun c3 => ?_) (fun c3 => ?_)
    · refine g_iconst (v := 5) B dX9_ring_21 (by decide) ?_
      refine g_goto (tgt := 26) B dX9_ring_22 (by decide) ?_
      exact g_lv [0, 1] rfl (hJ26 _ _ _   )
    · refine g_iconst (v := 4) B dX9_ring_25 (by decide) ?_
      exact g_lv [0, 1] rfl (hJ26 _ _ _   )
  · refine g_iconst (v := -1) B dX9_ring_8 (by decide) ?_
    exact g_iret B hr hk dX9_ring_9

abbrev rm_X9_as : Room := { frames := 2, cells := 0, slots := 0, locals := 46 }
set_option maxHeartbeats 4000000 in
set_option maxRecDepth 100000 in
theorem k_X9_as (l : Launch) (D : va_G) (cA : Nat → ClassId) (ad : Nat → Nat) (had : adOK ad 25) (v1 : Int32) (v2 : Int32) (M : Mem) : CI l yX9_as wsX9_as rm_X9_as D cA ad (shM ad cA) 25 [.ref (ad 0), .int v1, .int v2] M (d_X9_as v1 v2 M) := by
  refine CI_of (own := RX9) (cc := cX9_as) (maxL := 3) (rt := .int) had (by decide) rfl rfl (Nat.le_of_ble_eq_true rfl) ?_
  intro p e s m args below meth c R0 B hr hk
  unfold d_X9_as
  show GG p l e (headSpec wsX9_as rm_X9_as).room s m args below meth c D ad (shM ad cA) 25 3 (MQ below (QI D ad (shM ad cA) 25 s.heap.size R0) args s 0 0 (AX ad 25 s.heap.size)) R0 M 0 [(0, .ref (ad 0)), (1, .int v1), (2, .int v2)] [] _
  refine g_aload_n B dX9_as_0 0 rfl rfl ?_
  refine g_iload_n B dX9_as_1 1 rfl rfl ?_
  refine g_callVIp (q := (RX9, TX9, 39)) (As := [.int v1]) (st := []) B (k_X9_noFootman l D cA ad B.2.2.2.2.2.2.1 v1 M) (cwV 1 B.2.2.2.2.1 gX9_as_X9_noFootman rfl rfl rfl (by decide +kernel) ⟨Nat.le_of_ble_eq_true rfl, Nat.le_of_ble_eq_true rfl⟩) shM_o (by decide) rfl rfl rfl (Nat.le_of_ble_eq_true rfl) dX9_as_2 (fun r1 _ => ?_)
  refine g_if_eq (tgt := 14) B dX9_as_5 (by decide) (fun c2 => ?_) (fun c2 => ?_)
  · refine g_iload_n B dX9_as_14 2 rfl rfl ?_
    refine g_i2l B dX9_as_15 ?_
    refine g_lconst (v := 0) B dX9_as_16 (by decide) ?_
    refine g_ldc2 (v := 2) B dX9_as_17 (List.mem_of_getElem? (i := 1) rfl) ?_
    refine g_callSIp (As := [.long v2.toInt64, .long (0 : Int64), .long (2 : Int64)]) (st := []) B (k_X9_in l D cA ad B.2.2.2.2.2.2.1 v2.toInt64 (0 : Int64) (2 : Int64) M) (va_cwS 3 B.2.2.2.2.1 gX9_as_X9_in rfl rfl rfl (by decide +kernel) ⟨Nat.le_of_ble_eq_true rfl, Nat.le_of_ble_eq_true rfl⟩) rfl rfl (Nat.le_of_ble_eq_true rfl) dX9_as_20 (fun r3 _ => ?_)
    refine g_if_ne (tgt := 33) B dX9_as_23 (by decide) (fun c4 => ?_) (fun c4 => ?_)
    · refine g_aload_n B dX9_as_26 0 rfl rfl ?_
      refine g_bipush (v := -2) B dX9_as_27 (by decide) ?_
      refine g_callVIe (q := (RX9, TX9, 39)) (As := [.int (-2 : Int32)]) (st := []) B (k_X9_refused l D cA ad B.2.2.2.2.2.2.1 (-2 : Int32) M) (cwV 1 B.2.2.2.2.1 gX9_as_X9_refused rfl rfl rfl (by decide +kernel) ⟨Nat.le_of_ble_eq_true rfl, Nat.le_of_ble_eq_true rfl⟩) shM_o (by decide) rfl rfl rfl (Nat.le_of_ble_eq_true rfl) dX9_as_29 (fun r10 M11 _ => ?_)
      exact g_iret B hr hk dX9_as_32
    · refine g_aload_n B dX9_as_33 0 rfl rfl ?_
      refine g_get (v := .ref (ad 3)) B shM_o (by decide) in_X9_as_X9 rfl 7 (by decide) (List.mem_of_getElem? (i := 2) rfl) rfl rfl dX9_as_34 ?_
      refine g_iload_n B dX9_as_37 1 rfl rfl ?_
      refine g_iald B shM_a3 (by decide) dX9_as_38 ?_
      refine g_iload_n B dX9_as_39 2 rfl rfl ?_
      refine g_icmp_lt (tgt := 51) B dX9_as_40 (by decide) (fun c5 => ?_) (fun c5 => ?_)
      · refine g_aload_n B dX9_as_51 0 rfl rfl ?_
        refine g_iconst (v := 2) B dX9_as_52 (by decide) ?_
        refine g_callVIe (q := (RX9, TX9, 39)) (As := [.int (2 : Int32)]) (st := []) B (k_X9_failed l D cA ad B.2.2.2.2.2.2.1 (2 : Int32) M) (cwV 1 B.2.2.2.2.1 gX9_as_X9_failed rfl rfl rfl (by decide +kernel) ⟨Nat.le_of_ble_eq_true rfl, Nat.le_of_ble_eq_true rfl⟩) shM_o (by decide) rfl rfl rfl (Nat.le_of_ble_eq_true rfl) dX9_as_53 (fun r6 M7 _ => ?_)
        exact g_iret B hr hk dX9_as_56
      · refine g_aload_n B dX9_as_43 0 rfl rfl ?_
        refine g_iconst (v := 1) B dX9_as_44 (by decide) ?_
        refine g_callVIe (q := (RX9, TX9, 39)) (As := [.int (1 : Int32)]) (st := []) B (k_X9_refused l D cA ad B.2.2.2.2.2.2.1 (1 : Int32) M) (cwV 1 B.2.2.2.2.1 gX9_as_X9_refused rfl rfl rfl (by decide +kernel) ⟨Nat.le_of_ble_eq_true rfl, Nat.le_of_ble_eq_true rfl⟩) shM_o (by decide) rfl rfl rfl (Nat.le_of_ble_eq_true rfl) dX9_as_45 (fun r8 M9 _ => ?_)
        refine g_goto (tgt := 56) B dX9_as_48 (by decide) ?_
        exact g_iret B hr hk dX9_as_56
  · refine g_aload_n B dX9_as_8 0 rfl rfl ?_
    refine g_iconst (v := -1) B dX9_as_9 (by decide) ?_
    refine g_callVIe (q := (RX9, TX9, 39)) (As := [.int (-1 : Int32)]) (st := []) B (k_X9_refused l D cA ad B.2.2.2.2.2.2.1 (-1 : Int32) M) (cwV 1 B.2.2.2.2.1 gX9_as_X9_refused rfl rfl rfl (by decide +kernel) ⟨Nat.le_of_ble_eq_true rfl, Nat.le_of_ble_eq_true rfl⟩) shM_o (by decide) rfl rfl rfl (Nat.le_of_ble_eq_true rfl) dX9_as_10 (fun r12 M13 _ => ?_)
    exact g_iret B hr hk dX9_as_13

abbrev rm_X9_trace : Room := { frames := 0, cells := 0, slots := 0, locals := 0 }
set_option maxHeartbeats 4000000 in
set_option maxRecDepth 100000 in
theorem k_X9_trace (l : Launch) (D : va_G) (cA : Nat → ClassId) (ad : Nat → Nat) (had : adOK ad 25)  (M : Mem) : CI l yX9_trace wsX9_trace rm_X9_trace D cA ad (shM ad cA) 25 [.ref (ad 0)] M (wM M (d_X9_trace  M)) := by
  refine CI_ofp (own := RX9) (cc := cX9_trace) (maxL := 1) (rt := .int) had (by decide) rfl rfl (Nat.le_of_ble_eq_true rfl) ?_
  intro p e s m args below meth c R0 B hr hk
  unfold d_X9_trace
  show GG p l e (headSpec wsX9_trace rm_X9_trace).room s m args below meth c D ad (shM ad cA) 25 1 (MQ below (QI D ad (shM ad cA) 25 s.heap.size (R0, M)) args s 0 0 (AX ad 25 s.heap.size)) R0 M 0 [(0, .ref (ad 0))] [] _
  refine g_aload_n B dX9_trace_0 0 rfl rfl ?_
  refine g_get (v := .int (M 0 38)) B shM_o (by decide) in_X9_trace_X9 rfl 38 (by decide) (List.mem_of_getElem? (i := 1) rfl) rfl rfl dX9_trace_1 ?_
  exact g_iretp B hr hk dX9_trace_4

abbrev rm_X9_fault : Room := { frames := 0, cells := 0, slots := 0, locals := 0 }
set_option maxHeartbeats 4000000 in
set_option maxRecDepth 100000 in
theorem k_X9_fault (l : Launch) (D : va_G) (cA : Nat → ClassId) (ad : Nat → Nat) (had : adOK ad 25)  (M : Mem) : CI l yX9_fault wsX9_fault rm_X9_fault D cA ad (shM ad cA) 25 [.ref (ad 0)] M (wM M (d_X9_fault  M)) := by
  refine CI_ofp (own := RX9) (cc := cX9_fault) (maxL := 1) (rt := .int) had (by decide) rfl rfl (Nat.le_of_ble_eq_true rfl) ?_
  intro p e s m args below meth c R0 B hr hk
  unfold d_X9_fault
  show GG p l e (headSpec wsX9_fault rm_X9_fault).room s m args below meth c D ad (shM ad cA) 25 1 (MQ below (QI D ad (shM ad cA) 25 s.heap.size (R0, M)) args s 0 0 (AX ad 25 s.heap.size)) R0 M 0 [(0, .ref (ad 0))] [] _
  refine g_aload_n B dX9_fault_0 0 rfl rfl ?_
  refine g_get (v := .int (M 0 0)) B shM_o (by decide) in_X9_fault_X9 rfl 0 (by decide) (List.mem_of_getElem? (i := 1) rfl) rfl rfl dX9_fault_1 ?_
  exact g_iretp B hr hk dX9_fault_4

abbrev rm_X9_many : Room := { frames := 3, cells := 0, slots := 0, locals := 66 }
set_option maxHeartbeats 4000000 in
set_option maxRecDepth 100000 in
theorem k_X9_many (l : Launch) (D : va_G) (cA : Nat → ClassId) (ad : Nat → Nat) (had : adOK ad 25) (v1 : Int32) (M : Mem) : CI l yX9_many wsX9_many rm_X9_many D cA ad (shM ad cA) 25 [.ref (ad 0), .int v1] M (wM M (d_X9_many v1 M)) := by
  refine CI_ofp (own := RX9) (cc := cX9_many) (maxL := 2) (rt := .int) had (by decide) rfl rfl (Nat.le_of_ble_eq_true rfl) ?_
  intro p e s m args below meth c R0 B hr hk
  unfold d_X9_many
  show GG p l e (headSpec wsX9_many rm_X9_many).room s m args below meth c D ad (shM ad cA) 25 2 (MQ below (QI D ad (shM ad cA) 25 s.heap.size (R0, M)) args s 0 0 (AX ad 25 s.heap.size)) R0 M 0 [(0, .ref (ad 0)), (1, .int v1)] [] _
  refine g_iload_n B dX9_many_0 1 rfl rfl ?_
  refine g_if (fun c1 => ?_) (fun c1 => ?_)
  · refine g_tin (tgt := 36) (off := 35) (v := 0) B dX9_many_1 c1 (by decide) (by decide) rfl (by decide) ?_
    refine g_aload_n B dX9_many_36 0 rfl rfl ?_
    refine g_get (v := .int (M 0 2)) B shM_o (by decide) in_X9_many_X9 rfl 2 (by decide) (List.mem_of_getElem? (i := 1) rfl) rfl rfl dX9_many_37 ?_
    exact g_iretp B hr hk dX9_many_40
  · refine g_if (fun c2 => ?_) (fun c2 => ?_)
    · refine g_tin (tgt := 41) (off := 40) (v := 1) B dX9_many_1 c2 (by decide) (by decide) rfl (by decide) ?_
      refine g_aload_n B dX9_many_41 0 rfl rfl ?_
      refine g_get (v := .int (M 0 1)) B shM_o (by decide) in_X9_many_X9 rfl 1 (by decide) (List.mem_of_getElem? (i := 2) rfl) rfl rfl dX9_many_42 ?_
      exact g_iretp B hr hk dX9_many_45
    · refine g_if (fun c3 => ?_) (fun c3 => ?_)
      · refine g_tin (tgt := 46) (off := 45) (v := 2) B dX9_many_1 c3 (by decide) (by decide) rfl (by decide) ?_
        refine g_aload_n B dX9_many_46 0 rfl rfl ?_
        refine g_get (v := .int (M 0 3)) B shM_o (by decide) in_X9_many_X9 rfl 3 (by decide) (List.mem_of_getElem? (i := 3) rfl) rfl rfl dX9_many_47 ?_
        exact g_iretp B hr hk dX9_many_50
      · refine g_if (fun c4 => ?_) (fun c4 => ?_)
        · refine g_tin (tgt := 51) (off := 50) (v := 3) B dX9_many_1 c4 (by decide) (by decide) rfl (by decide) ?_
          refine g_aload_n B dX9_many_51 0 rfl rfl ?_
          refine g_callVIp (q := (RX9, TX9, 39)) (As := []) (st := []) B (k_X9_arrived l D cA ad B.2.2.2.2.2.2.1  M) (cwV 0 B.2.2.2.2.1 gX9_many_X9_arrived rfl rfl rfl (by decide +kernel) ⟨Nat.le_of_ble_eq_true rfl, Nat.le_of_ble_eq_true rfl⟩) shM_o (by decide) rfl rfl rfl (Nat.le_of_ble_eq_true rfl) dX9_many_52 (fun r5 _ => ?_)
          exact g_iretp B hr hk dX9_many_55
        · refine g_if (fun c6 => ?_) (fun c6 => ?_)
          · refine g_tin (tgt := 56) (off := 55) (v := 4) B dX9_many_1 c6 (by decide) (by decide) rfl (by decide) ?_
            refine g_aload_n B dX9_many_56 0 rfl rfl ?_
            refine g_get (v := .int (M 0 30)) B shM_o (by decide) in_X9_many_X9 rfl 30 (by decide) (List.mem_of_getElem? (i := 4) rfl) rfl rfl dX9_many_57 ?_
            exact g_iretp B hr hk dX9_many_60
          · refine g_tout (tgt := 61) B dX9_many_1 (sw_5 c1 c2 c3 c4 c6) (by decide) ?_
            refine g_bipush (v := -2) B dX9_many_61 (by decide) ?_
            exact g_iretp B hr hk dX9_many_63
