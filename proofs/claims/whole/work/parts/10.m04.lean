def f_X8_learnt_33  : M Int32 :=
  rt (-1)
set_option maxRecDepth 10000 in
set_option maxHeartbeats 4000000 in
theorem t_X8_learnt_33 {X : Cx} (hX : Good X RX8 cX8_learnt ((some .int))) (hS : Sta X 4 97 4) : Tr X eI 0 0 33 [] [] (f_X8_learnt_33) := by
  unfold f_X8_learnt_33
  refine tr_iconst (-1) hX dX8_learnt_33 (by decide) ?_
  exact tr_iret0 hX hS dX8_learnt_34
def f_X8_learnt (x1 : Int32) (x2 : Int32) (x3 : Int32) : M Int32 :=
  bnd (f_X8_isBelow x1 6) (fun v1 => if v1 = 0 then (f_X8_learnt_33) else (rT 0 1 (fun t2 => rI t2 0 (fun v3 => bnd (f_X8_isBelow x3 v3) (fun v4 => if v4 = 0 then (f_X8_learnt_33) else (bnd (f_X8_isSuch x1 x2 x3) (fun v5 => if v5 = 0 then (f_X8_learnt_33) else (bnd (f_X8_waysThatShow x1 x2 x3) (fun v6 => rt v6)))))))))
set_option maxRecDepth 10000 in
set_option maxHeartbeats 4000000 in
theorem t_X8_learnt_0 {X : Cx} (hX : Good X RX8 cX8_learnt ((some .int))) (hS : Sta X 4 97 4) (x1 : Int32) (x2 : Int32) (x3 : Int32) : Tr X eI 0 0 0 [(0, .ref (cxAd X 0)), (1, .int x1), (2, .int x2), (3, .int x3)] [] (f_X8_learnt x1 x2 x3) := by
  unfold f_X8_learnt
  refine tr_iload_n 1 hX dX8_learnt_0 rfl rfl ?_
  refine tr_bipush 6 hX dX8_learnt_1 (by decide) ?_
  refine tr_callS0I (st := []) 2 hX hS dX8_learnt_3 (ok_X8_isBelow x1 6) k_12_19 k_12_20 k_1_2 k_12_21 hy_X8_isBelow.2 rfl rfl (Nat.le_of_ble_eq_true rfl) rfl (fun v1 => ?_)
  refine tr_if_eq 33 hX dX8_learnt_6 (by decide) (fun c9 => ?_) (fun c9 => ?_)
  · exact tr_sub [] rfl (t_X8_learnt_33 hX hS)
  · refine tr_iload_n 3 hX dX8_learnt_9 rfl rfl ?_
    refine tr_aload_n 0 hX dX8_learnt_10 rfl rfl ?_
    refine tr_getT hX dX8_learnt_11 sh_0 (by decide) rfl inlX8 (by decide) rfl (hS.e (Nat.le_of_ble_eq_true rfl)) k_1_20 (fun t2 ht2 => ?_)
    refine tr_getI hX dX8_learnt_14 (shT ht2) (by decide) rfl inlX6 (by decide) rfl (hS.e (leT ht2)) k_11_21 (fun v3 => ?_)
    refine tr_callS0I (st := []) 2 hX hS dX8_learnt_17 (ok_X8_isBelow x3 v3) k_12_19 k_12_20 k_1_2 k_12_21 hy_X8_isBelow.2 rfl rfl (Nat.le_of_ble_eq_true rfl) rfl (fun v4 => ?_)
    refine tr_if_eq 33 hX dX8_learnt_20 (by decide) (fun c8 => ?_) (fun c8 => ?_)
    · exact tr_sub [] rfl (t_X8_learnt_33 hX hS)
    · refine tr_aload_n 0 hX dX8_learnt_23 rfl rfl ?_
      refine tr_iload_n 1 hX dX8_learnt_24 rfl rfl ?_
      refine tr_iload_n 2 hX dX8_learnt_25 rfl rfl ?_
      refine tr_iload_n 3 hX dX8_learnt_26 rfl rfl ?_
      refine tr_callV0I (st := []) 3 hX hS dX8_learnt_27 (ok_X8_isSuch x1 x2 x3) sh_0 (by decide) rfl (Nat.le_of_ble_eq_true rfl) k_27_19 k_27_20 k_27_21 k_1_2 k_27_22 hy_X8_isSuch rfl rfl (Nat.le_of_ble_eq_true rfl) rfl (fun v5 => ?_)
      refine tr_if_ne 35 hX dX8_learnt_30 (by decide) (fun c7 => ?_) (fun c7 => ?_)
      · exact tr_sub [] rfl (t_X8_learnt_33 hX hS)
      · refine tr_aload_n 0 hX dX8_learnt_35 rfl rfl ?_
        refine tr_iload_n 1 hX dX8_learnt_36 rfl rfl ?_
        refine tr_iload_n 2 hX dX8_learnt_37 rfl rfl ?_
        refine tr_iload_n 3 hX dX8_learnt_38 rfl rfl ?_
        refine tr_callV0I (st := []) 3 hX hS dX8_learnt_39 (ok_X8_waysThatShow x1 x2 x3) sh_0 (by decide) rfl (Nat.le_of_ble_eq_true rfl) k_27_23 k_28_0 k_28_1 k_1_2 k_28_2 hy_X8_waysThatShow rfl rfl (Nat.le_of_ble_eq_true rfl) rfl (fun v6 => ?_)
        exact tr_iret0 hX hS dX8_learnt_42
theorem ok_X8_learnt {l : Launch} {E : Ev} (x1 : Int32) (x2 : Int32) (x3 : Int32)  : Ok l E Gall yX8_learnt cX8_learnt 4 ((some .int)) (rmz 4 97) eI [.ref (E.2.1 0), .int x1, .int x2, .int x3] (f_X8_learnt x1 x2 x3) := by
  refine ok_of0 (by decide) (Nat.le_of_ble_eq_true rfl) (fun X hX hV hS => ?_)
  subst hV
  exact t_X8_learnt_0 hX hS x1 x2 x3
def f_X8_slip_32  : M Int32 :=
  rt (-1)
set_option maxRecDepth 10000 in
set_option maxHeartbeats 4000000 in
theorem t_X8_slip_32 {X : Cx} (hX : Good X RX8 cX8_slip ((some .int))) (hS : Sta X 1 23 4) : Tr X eI 0 0 32 [] [] (f_X8_slip_32) := by
  unfold f_X8_slip_32
  refine tr_iconst (-1) hX dX8_slip_32 (by decide) ?_
  exact tr_iret0 hX hS dX8_slip_33
def f_X8_slip (x1 : Int32) (x2 : Int32) (x3 : Int32) : M Int32 :=
  bnd (f_X8_isBelow x1 6) (fun v1 => if v1 = 0 then (f_X8_slip_32) else (bnd (f_X8_isBelow x2 8) (fun v2 => if v2 = 0 then (f_X8_slip_32) else (rT 0 1 (fun t3 => rI t3 0 (fun v4 => bnd (f_X8_isBelow x3 v4) (fun v5 => if v5 = 0 then (f_X8_slip_32) else (bnd (f_X5_append x1 x2 x3) (fun v6 => rt v6)))))))))
set_option maxRecDepth 10000 in
set_option maxHeartbeats 4000000 in
theorem t_X8_slip_0 {X : Cx} (hX : Good X RX8 cX8_slip ((some .int))) (hS : Sta X 1 23 4) (x1 : Int32) (x2 : Int32) (x3 : Int32) : Tr X eI 0 0 0 [(0, .ref (cxAd X 0)), (1, .int x1), (2, .int x2), (3, .int x3)] [] (f_X8_slip x1 x2 x3) := by
  unfold f_X8_slip
  refine tr_iload_n 1 hX dX8_slip_0 rfl rfl ?_
  refine tr_bipush 6 hX dX8_slip_1 (by decide) ?_
  refine tr_callS0I (st := []) 2 hX hS dX8_slip_3 (ok_X8_isBelow x1 6) k_12_19 k_12_20 k_1_2 k_12_21 hy_X8_isBelow.2 rfl rfl (Nat.le_of_ble_eq_true rfl) rfl (fun v1 => ?_)
  refine tr_if_eq 32 hX dX8_slip_6 (by decide) (fun c9 => ?_) (fun c9 => ?_)
  · exact tr_sub [] rfl (t_X8_slip_32 hX hS)
  · refine tr_iload_n 2 hX dX8_slip_9 rfl rfl ?_
    refine tr_bipush 8 hX dX8_slip_10 (by decide) ?_
    refine tr_callS0I (st := []) 2 hX hS dX8_slip_12 (ok_X8_isBelow x2 8) k_12_19 k_12_20 k_1_2 k_12_21 hy_X8_isBelow.2 rfl rfl (Nat.le_of_ble_eq_true rfl) rfl (fun v2 => ?_)
    refine tr_if_eq 32 hX dX8_slip_15 (by decide) (fun c8 => ?_) (fun c8 => ?_)
    · exact tr_sub [] rfl (t_X8_slip_32 hX hS)
    · refine tr_iload_n 3 hX dX8_slip_18 rfl rfl ?_
      refine tr_aload_n 0 hX dX8_slip_19 rfl rfl ?_
      refine tr_getT hX dX8_slip_20 sh_0 (by decide) rfl inlX8 (by decide) rfl (hS.e (Nat.le_of_ble_eq_true rfl)) k_1_20 (fun t3 ht3 => ?_)
      refine tr_getI hX dX8_slip_23 (shT ht3) (by decide) rfl inlX6 (by decide) rfl (hS.e (leT ht3)) k_11_21 (fun v4 => ?_)
      refine tr_callS0I (st := []) 2 hX hS dX8_slip_26 (ok_X8_isBelow x3 v4) k_12_19 k_12_20 k_1_2 k_12_21 hy_X8_isBelow.2 rfl rfl (Nat.le_of_ble_eq_true rfl) rfl (fun v5 => ?_)
      refine tr_if_ne 34 hX dX8_slip_29 (by decide) (fun c7 => ?_) (fun c7 => ?_)
      · exact tr_sub [] rfl (t_X8_slip_32 hX hS)
      · refine tr_aload_n 0 hX dX8_slip_34 rfl rfl ?_
        refine tr_getF hX dX8_slip_35 sh_0 (by decide) rfl inlX8 (by decide) rfl (hS.g (Nat.le_of_ble_eq_true rfl)) cr_0_9 k_2_15 mq_0 ?_
        refine tr_iload_n 1 hX dX8_slip_38 rfl rfl ?_
        refine tr_iload_n 2 hX dX8_slip_39 rfl rfl ?_
        refine tr_iload_n 3 hX dX8_slip_40 rfl rfl ?_
        refine tr_callV0I (st := []) 3 hX hS dX8_slip_41 (ok_X5_append x1 x2 x3) sh_149 (by decide) rfl (Nat.le_of_ble_eq_true rfl) k_29_4 k_29_5 k_29_6 k_2_14 k_29_7 hy_X5_append rfl rfl (Nat.le_of_ble_eq_true rfl) rfl (fun v6 => ?_)
        exact tr_iret0 hX hS dX8_slip_44
theorem ok_X8_slip {l : Launch} {E : Ev} (x1 : Int32) (x2 : Int32) (x3 : Int32)  : Ok l E Gall yX8_slip cX8_slip 4 ((some .int)) (rmz 1 23) eI [.ref (E.2.1 0), .int x1, .int x2, .int x3] (f_X8_slip x1 x2 x3) := by
  refine ok_of0 (by decide) (Nat.le_of_ble_eq_true rfl) (fun X hX hV hS => ?_)
  subst hV
  exact t_X8_slip_0 hX hS x1 x2 x3
def f_X8_noSlips  : M Int32 :=
  rI 149 0 (fun v1 => wI 149 0 0 (rt v1))
set_option maxRecDepth 10000 in
set_option maxHeartbeats 4000000 in
theorem t_X8_noSlips_0 {X : Cx} (hX : Good X RX8 cX8_noSlips ((some .int))) (hS : Sta X 0 0 2) : Tr X eI 0 0 0 [(0, .ref (cxAd X 0))] [] (f_X8_noSlips) := by
  unfold f_X8_noSlips
  refine tr_aload_n 0 hX dX8_noSlips_0 rfl rfl ?_
  refine tr_getF hX dX8_noSlips_1 sh_0 (by decide) rfl inlX8 (by decide) rfl (hS.g (Nat.le_of_ble_eq_true rfl)) cr_0_9 k_2_15 mq_0 ?_
  refine tr_getI hX dX8_noSlips_4 sh_149 (by decide) rfl inlX5 (by decide) rfl (hS.e (Nat.le_of_ble_eq_true rfl)) k_11_18 (fun v1 => ?_)
  refine tr_istore_n hX dX8_noSlips_7 rfl (hS.n (by decide)) rfl ?_
  refine tr_aload_n 1 hX dX8_noSlips_8 rfl rfl ?_
  refine tr_getF hX dX8_noSlips_9 sh_0 (by decide) rfl inlX8 (by decide) rfl (hS.g (Nat.le_of_ble_eq_true rfl)) cr_0_9 k_2_15 mq_0 ?_
  refine tr_iconst 0 hX dX8_noSlips_12 (by decide) ?_
  refine tr_putI hX dX8_noSlips_13 sh_149 (by decide) rfl inlX5 tyX5 tyX5_ok nmX5 (by decide) rfl (hS.e (Nat.le_of_ble_eq_true rfl)) k_11_18 rfl rfl rfl rfl ?_
  refine tr_iload_n 0 hX dX8_noSlips_16 rfl rfl ?_
  exact tr_iret0 hX hS dX8_noSlips_17
theorem ok_X8_noSlips {l : Launch} {E : Ev}   : Ok l E Gall yX8_noSlips cX8_noSlips 2 ((some .int)) (rmz 0 0) eI [.ref (E.2.1 0)] (f_X8_noSlips) := by
  refine ok_of0 (by decide) (Nat.le_of_ble_eq_true rfl) (fun X hX hV hS => ?_)
  subst hV
  exact t_X8_noSlips_0 hX hS 
def f_J6_bitCount_0f7a4 (x0 : Int32) : M Int32 :=
  nm ((x0 - ((((x0).toUInt32 >>> ((1 : Int32).toUInt32 &&& Int32.toUInt32 31)).toInt32) &&& 1431655765))) (fun v1 => nm (((v1 &&& 858993459) + ((((v1).toUInt32 >>> ((2 : Int32).toUInt32 &&& Int32.toUInt32 31)).toInt32) &&& 858993459))) (fun v2 => nm (((v2 + (((v2).toUInt32 >>> ((4 : Int32).toUInt32 &&& Int32.toUInt32 31)).toInt32)) &&& 252645135)) (fun v3 => nm ((v3 + (((v3).toUInt32 >>> ((8 : Int32).toUInt32 &&& Int32.toUInt32 31)).toInt32))) (fun v4 => nm ((v4 + (((v4).toUInt32 >>> ((16 : Int32).toUInt32 &&& Int32.toUInt32 31)).toInt32))) (fun v5 => rt (v5 &&& 63))))))
set_option maxRecDepth 10000 in
set_option maxHeartbeats 4000000 in
theorem t_J6_bitCount_0f7a4_0 {X : Cx} (hX : Good X RJ6 cJ6_bitCount_0f7a4 ((some .int))) (hS : Sta X 0 0 1) (x0 : Int32) : Tr X eI 0 0 0 [(0, .int x0)] [] (f_J6_bitCount_0f7a4 x0) := by
  unfold f_J6_bitCount_0f7a4
  refine tr_iload_n 0 hX dJ6_bitCount_0f7a4_0 rfl rfl ?_
  refine tr_iload_n 0 hX dJ6_bitCount_0f7a4_1 rfl rfl ?_
  refine tr_iconst 1 hX dJ6_bitCount_0f7a4_2 (by decide) ?_
  refine tr_iushr hX dJ6_bitCount_0f7a4_3 ?_
  refine tr_ldc_w hX dJ6_bitCount_0f7a4_4 k_31_5 ?_
  refine tr_iand hX dJ6_bitCount_0f7a4_7 ?_
  refine tr_isub hX dJ6_bitCount_0f7a4_8 ?_
  refine tr_nm (fun v1 ev1 => ?_)
  refine tr_istore_n hX dJ6_bitCount_0f7a4_9 rfl (hS.n (by decide)) rfl ?_
  refine tr_iload_n 0 hX dJ6_bitCount_0f7a4_10 rfl rfl ?_
  refine tr_ldc_w hX dJ6_bitCount_0f7a4_11 k_31_6 ?_
  refine tr_iand hX dJ6_bitCount_0f7a4_14 ?_
  refine tr_iload_n 0 hX dJ6_bitCount_0f7a4_15 rfl rfl ?_
  refine tr_iconst 2 hX dJ6_bitCount_0f7a4_16 (by decide) ?_
  refine tr_iushr hX dJ6_bitCount_0f7a4_17 ?_
  refine tr_ldc_w hX dJ6_bitCount_0f7a4_18 k_31_6 ?_
  refine tr_iand hX dJ6_bitCount_0f7a4_21 ?_
  refine tr_iadd hX dJ6_bitCount_0f7a4_22 ?_
  refine tr_nm (fun v2 ev2 => ?_)
  refine tr_istore_n hX dJ6_bitCount_0f7a4_23 rfl (hS.n (by decide)) rfl ?_
  refine tr_iload_n 0 hX dJ6_bitCount_0f7a4_24 rfl rfl ?_
  refine tr_iload_n 0 hX dJ6_bitCount_0f7a4_25 rfl rfl ?_
  refine tr_iconst 4 hX dJ6_bitCount_0f7a4_26 (by decide) ?_
  refine tr_iushr hX dJ6_bitCount_0f7a4_27 ?_
  refine tr_iadd hX dJ6_bitCount_0f7a4_28 ?_
  refine tr_ldc_w hX dJ6_bitCount_0f7a4_29 k_31_7 ?_
  refine tr_iand hX dJ6_bitCount_0f7a4_32 ?_
  refine tr_nm (fun v3 ev3 => ?_)
  refine tr_istore_n hX dJ6_bitCount_0f7a4_33 rfl (hS.n (by decide)) rfl ?_
  refine tr_iload_n 0 hX dJ6_bitCount_0f7a4_34 rfl rfl ?_
  refine tr_iload_n 0 hX dJ6_bitCount_0f7a4_35 rfl rfl ?_
  refine tr_bipush 8 hX dJ6_bitCount_0f7a4_36 (by decide) ?_
  refine tr_iushr hX dJ6_bitCount_0f7a4_38 ?_
  refine tr_iadd hX dJ6_bitCount_0f7a4_39 ?_
  refine tr_nm (fun v4 ev4 => ?_)
  refine tr_istore_n hX dJ6_bitCount_0f7a4_40 rfl (hS.n (by decide)) rfl ?_
  refine tr_iload_n 0 hX dJ6_bitCount_0f7a4_41 rfl rfl ?_
  refine tr_iload_n 0 hX dJ6_bitCount_0f7a4_42 rfl rfl ?_
  refine tr_bipush 16 hX dJ6_bitCount_0f7a4_43 (by decide) ?_
  refine tr_iushr hX dJ6_bitCount_0f7a4_45 ?_
  refine tr_iadd hX dJ6_bitCount_0f7a4_46 ?_
  refine tr_nm (fun v5 ev5 => ?_)
  refine tr_istore_n hX dJ6_bitCount_0f7a4_47 rfl (hS.n (by decide)) rfl ?_
  refine tr_iload_n 0 hX dJ6_bitCount_0f7a4_48 rfl rfl ?_
  refine tr_bipush 63 hX dJ6_bitCount_0f7a4_49 (by decide) ?_
  refine tr_iand hX dJ6_bitCount_0f7a4_51 ?_
  exact tr_iret0 hX hS dJ6_bitCount_0f7a4_52
theorem ok_J6_bitCount_0f7a4 {l : Launch} {E : Ev} (x0 : Int32)  : Ok l E Gall yJ6_bitCount_0f7a4 cJ6_bitCount_0f7a4 1 ((some .int)) (rmz 0 0) eI [.int x0] (f_J6_bitCount_0f7a4 x0) := by
  refine ok_of0 (by decide) (Nat.le_of_ble_eq_true rfl) (fun X hX hV hS => ?_)
  subst hV
  exact t_J6_bitCount_0f7a4_0 hX hS x0
def f_X8_isSuchSlip (x1 : Int32) : M Int32 :=
  aI 150 20 x1 (fun v1 => aI 151 20 x1 (fun v3 => aI 152 20 x1 (fun v5 => bnd (f_X8_isSuch v1 v3 v5) (fun v7 => gd (v7 = 0 ∨ v7 = 1) (rt v7)))))
set_option maxRecDepth 10000 in
set_option maxHeartbeats 4000000 in
theorem t_X8_isSuchSlip_0 {X : Cx} (hX : Good X RX8 cX8_isSuchSlip ((some .boolean))) (hS : Sta X 2 44 2) (x1 : Int32) : Tr X eI 0 0 0 [(0, .ref (cxAd X 0)), (1, .int x1)] [] (f_X8_isSuchSlip x1) := by
  unfold f_X8_isSuchSlip
  refine tr_aload_n 0 hX dX8_isSuchSlip_0 rfl rfl ?_
  refine tr_aload_n 0 hX dX8_isSuchSlip_1 rfl rfl ?_
  refine tr_getF hX dX8_isSuchSlip_2 sh_0 (by decide) rfl inlX8 (by decide) rfl (hS.g (Nat.le_of_ble_eq_true rfl)) cr_0_9 k_2_15 mq_0 ?_
  refine tr_getF hX dX8_isSuchSlip_5 sh_149 (by decide) rfl inlX5 (by decide) rfl (hS.g (Nat.le_of_ble_eq_true rfl)) cr_149_1 k_30_9 mq_149 ?_
  refine tr_iload_n 1 hX dX8_isSuchSlip_8 rfl rfl ?_
  refine tr_iald hX dX8_isSuchSlip_9 sh_150 (hS.e (Nat.le_of_ble_eq_true rfl)) (fun hb2 v1 => ?_)
  refine tr_aload_n 0 hX dX8_isSuchSlip_10 rfl rfl ?_
  refine tr_getF hX dX8_isSuchSlip_11 sh_0 (by decide) rfl inlX8 (by decide) rfl (hS.g (Nat.le_of_ble_eq_true rfl)) cr_0_9 k_2_15 mq_0 ?_
  refine tr_getF hX dX8_isSuchSlip_14 sh_149 (by decide) rfl inlX5 (by decide) rfl (hS.g (Nat.le_of_ble_eq_true rfl)) cr_149_2 k_30_10 mq_149 ?_
  refine tr_iload_n 1 hX dX8_isSuchSlip_17 rfl rfl ?_
  refine tr_iald hX dX8_isSuchSlip_18 sh_151 (hS.e (Nat.le_of_ble_eq_true rfl)) (fun hb4 v3 => ?_)
  refine tr_aload_n 0 hX dX8_isSuchSlip_19 rfl rfl ?_
  refine tr_getF hX dX8_isSuchSlip_20 sh_0 (by decide) rfl inlX8 (by decide) rfl (hS.g (Nat.le_of_ble_eq_true rfl)) cr_0_9 k_2_15 mq_0 ?_
  refine tr_getF hX dX8_isSuchSlip_23 sh_149 (by decide) rfl inlX5 (by decide) rfl (hS.g (Nat.le_of_ble_eq_true rfl)) cr_149_3 k_30_11 mq_149 ?_
  refine tr_iload_n 1 hX dX8_isSuchSlip_26 rfl rfl ?_
  refine tr_iald hX dX8_isSuchSlip_27 sh_152 (hS.e (Nat.le_of_ble_eq_true rfl)) (fun hb6 v5 => ?_)
  refine tr_callV0I (st := []) 3 hX hS dX8_isSuchSlip_28 (ok_X8_isSuch v1 v3 v5) sh_0 (by decide) rfl (Nat.le_of_ble_eq_true rfl) k_27_19 k_27_20 k_27_21 k_1_2 k_27_22 hy_X8_isSuch rfl rfl (Nat.le_of_ble_eq_true rfl) rfl (fun v7 => ?_)
  exact tr_zret0 hX hS dX8_isSuchSlip_31
theorem ok_X8_isSuchSlip {l : Launch} {E : Ev} (x1 : Int32)  : Ok l E Gall yX8_isSuchSlip cX8_isSuchSlip 2 ((some .boolean)) (rmz 2 44) eI [.ref (E.2.1 0), .int x1] (f_X8_isSuchSlip x1) := by
  refine ok_of0 (by decide) (Nat.le_of_ble_eq_true rfl) (fun X hX hV hS => ?_)
  subst hV
  exact t_X8_isSuchSlip_0 hX hS x1
def f_X8_waysThatShowSlip (x1 : Int32) : M Int32 :=
  aI 150 20 x1 (fun v1 => aI 151 20 x1 (fun v3 => aI 152 20 x1 (fun v5 => bnd (f_X8_waysThatShow v1 v3 v5) (fun v7 => rt v7))))
set_option maxRecDepth 10000 in
set_option maxHeartbeats 4000000 in
theorem t_X8_waysThatShowSlip_0 {X : Cx} (hX : Good X RX8 cX8_waysThatShowSlip ((some .int))) (hS : Sta X 4 97 2) (x1 : Int32) : Tr X eI 0 0 0 [(0, .ref (cxAd X 0)), (1, .int x1)] [] (f_X8_waysThatShowSlip x1) := by
  unfold f_X8_waysThatShowSlip
  refine tr_aload_n 0 hX dX8_waysThatShowSlip_0 rfl rfl ?_
  refine tr_aload_n 0 hX dX8_waysThatShowSlip_1 rfl rfl ?_
  refine tr_getF hX dX8_waysThatShowSlip_2 sh_0 (by decide) rfl inlX8 (by decide) rfl (hS.g (Nat.le_of_ble_eq_true rfl)) cr_0_9 k_2_15 mq_0 ?_
  refine tr_getF hX dX8_waysThatShowSlip_5 sh_149 (by decide) rfl inlX5 (by decide) rfl (hS.g (Nat.le_of_ble_eq_true rfl)) cr_149_1 k_30_9 mq_149 ?_
  refine tr_iload_n 1 hX dX8_waysThatShowSlip_8 rfl rfl ?_
  refine tr_iald hX dX8_waysThatShowSlip_9 sh_150 (hS.e (Nat.le_of_ble_eq_true rfl)) (fun hb2 v1 => ?_)
  refine tr_aload_n 0 hX dX8_waysThatShowSlip_10 rfl rfl ?_
  refine tr_getF hX dX8_waysThatShowSlip_11 sh_0 (by decide) rfl inlX8 (by decide) rfl (hS.g (Nat.le_of_ble_eq_true rfl)) cr_0_9 k_2_15 mq_0 ?_
  refine tr_getF hX dX8_waysThatShowSlip_14 sh_149 (by decide) rfl inlX5 (by decide) rfl (hS.g (Nat.le_of_ble_eq_true rfl)) cr_149_2 k_30_10 mq_149 ?_
  refine tr_iload_n 1 hX dX8_waysThatShowSlip_17 rfl rfl ?_
  refine tr_iald hX dX8_waysThatShowSlip_18 sh_151 (hS.e (Nat.le_of_ble_eq_true rfl)) (fun hb4 v3 => ?_)
  refine tr_aload_n 0 hX dX8_waysThatShowSlip_19 rfl rfl ?_
  refine tr_getF hX dX8_waysThatShowSlip_20 sh_0 (by decide) rfl inlX8 (by decide) rfl (hS.g (Nat.le_of_ble_eq_true rfl)) cr_0_9 k_2_15 mq_0 ?_
  refine tr_getF hX dX8_waysThatShowSlip_23 sh_149 (by decide) rfl inlX5 (by decide) rfl (hS.g (Nat.le_of_ble_eq_true rfl)) cr_149_3 k_30_11 mq_149 ?_
  refine tr_iload_n 1 hX dX8_waysThatShowSlip_26 rfl rfl ?_
  refine tr_iald hX dX8_waysThatShowSlip_27 sh_152 (hS.e (Nat.le_of_ble_eq_true rfl)) (fun hb6 v5 => ?_)
  refine tr_callV0I (st := []) 3 hX hS dX8_waysThatShowSlip_28 (ok_X8_waysThatShow v1 v3 v5) sh_0 (by decide) rfl (Nat.le_of_ble_eq_true rfl) k_27_23 k_28_0 k_28_1 k_1_2 k_28_2 hy_X8_waysThatShow rfl rfl (Nat.le_of_ble_eq_true rfl) rfl (fun v7 => ?_)
  exact tr_iret0 hX hS dX8_waysThatShowSlip_31
theorem ok_X8_waysThatShowSlip {l : Launch} {E : Ev} (x1 : Int32)  : Ok l E Gall yX8_waysThatShowSlip cX8_waysThatShowSlip 2 ((some .int)) (rmz 4 97) eI [.ref (E.2.1 0), .int x1] (f_X8_waysThatShowSlip x1) := by
  refine ok_of0 (by decide) (Nat.le_of_ble_eq_true rfl) (fun X hX hV hS => ?_)
  subst hV
  exact t_X8_waysThatShowSlip_0 hX hS x1
def f_X8_fewestWays_79 (s51 : Int32 → Int32 → M Int32) (x1 : Int32) (x2 : Int32) : M Int32 :=
  s51 x1 (x2 + (-1))
set_option maxRecDepth 10000 in
set_option maxHeartbeats 4000000 in
theorem t_X8_fewestWays_79 {X : Cx} (hX : Good X RX8 cX8_fewestWays ((some .int))) (hS : Sta X 5 118 3) (s51 : Int32 → Int32 → M Int32) (x1 : Int32) (x2 : Int32) (hs51 : ∀ x1 : Int32, ∀ x2 : Int32, Tr X eI 0 0 51 [(0, .ref (cxAd X 0)), (1, .int x1), (2, .int x2)] [] (s51 x1 x2)) : Tr X eI 0 0 79 [(0, .ref (cxAd X 0)), (1, .int x1), (2, .int x2)] [] (f_X8_fewestWays_79 s51 x1 x2) := by
  unfold f_X8_fewestWays_79
  refine tr_iinc (x2 + (-1)) 2 hX dX8_fewestWays_79 rfl (congrArg (fun z => x2 + z) (by decide)) (hS.n (by decide)) rfl ?_
  refine tr_goto 51 hX dX8_fewestWays_82 (by decide) ?_
  exact tr_sub [1, 2, 0] rfl (hs51 x1 (x2 + (-1)))
def f_X8_fewestWays_51 (s51 : Int32 → Int32 → M Int32) (x1 : Int32) (x2 : Int32) : M Int32 :=
  if x2 < 0 then (rt x1) else (bnd (f_X5_allShownBy x2) (fun v1 => if v1 = 0 then (f_X8_fewestWays_79 s51 x1 x2) else (bnd (f_J6_bitCount_0f7a4 x2) (fun v2 => bnd (f_J6_bitCount_0f7a4 x1) (fun v3 => if v3 < v2 then (f_X8_fewestWays_79 s51 x1 x2) else (f_X8_fewestWays_79 s51 x2 x2))))))
set_option maxRecDepth 10000 in
set_option maxHeartbeats 4000000 in
theorem t_X8_fewestWays_51 {X : Cx} (hX : Good X RX8 cX8_fewestWays ((some .int))) (hS : Sta X 5 118 3) : ∀ s51 : Int32 → Int32 → M Int32, (∀ x1 : Int32, ∀ x2 : Int32, Tr X eI 0 0 51 [(0, .ref (cxAd X 0)), (1, .int x1), (2, .int x2)] [] (s51 x1 x2)) → ∀ x1 : Int32, ∀ x2 : Int32, Tr X eI 0 0 51 [(0, .ref (cxAd X 0)), (1, .int x1), (2, .int x2)] [] (f_X8_fewestWays_51 s51 x1 x2) := by
  intro s51 hs51 x1 x2
  unfold f_X8_fewestWays_51
  refine tr_iload_n 2 hX dX8_fewestWays_51 rfl rfl ?_
  refine tr_if_lt 85 hX dX8_fewestWays_52 (by decide) (fun c6 => ?_) (fun c6 => ?_)
  · refine tr_iload_n 1 hX dX8_fewestWays_85 rfl rfl ?_
    exact tr_iret0 hX hS dX8_fewestWays_86
  · refine tr_aload_n 0 hX dX8_fewestWays_55 rfl rfl ?_
    refine tr_getF hX dX8_fewestWays_56 sh_0 (by decide) rfl inlX8 (by decide) rfl (hS.g (Nat.le_of_ble_eq_true rfl)) cr_0_9 k_2_15 mq_0 ?_
    refine tr_iload_n 2 hX dX8_fewestWays_59 rfl rfl ?_
    refine tr_callV0I (st := []) 1 hX hS dX8_fewestWays_60 (ok_X5_allShownBy x2) sh_149 (by decide) rfl (Nat.le_of_ble_eq_true rfl) k_30_21 k_30_22 k_30_23 k_2_14 k_31_0 hy_X5_allShownBy rfl rfl (Nat.le_of_ble_eq_true rfl) rfl (fun v1 => ?_)
    refine tr_if_eq 79 hX dX8_fewestWays_63 (by decide) (fun c5 => ?_) (fun c5 => ?_)
    · exact tr_sub [0, 1, 2] rfl (t_X8_fewestWays_79 hX hS s51 x1 x2 hs51)
    · refine tr_iload_n 2 hX dX8_fewestWays_66 rfl rfl ?_
      refine tr_callS0I (st := []) 1 hX hS dX8_fewestWays_67 (ok_J6_bitCount_0f7a4 x2) k_31_1 k_31_2 k_31_3 k_31_4 hy_J6_bitCount_0f7a4.2 rfl rfl (Nat.le_of_ble_eq_true rfl) rfl (fun v2 => ?_)
      refine tr_iload_n 1 hX dX8_fewestWays_70 rfl rfl ?_
      refine tr_callS0I (st := [.int v2]) 1 hX hS dX8_fewestWays_71 (ok_J6_bitCount_0f7a4 x1) k_31_1 k_31_2 k_31_3 k_31_4 hy_J6_bitCount_0f7a4.2 rfl rfl (Nat.le_of_ble_eq_true rfl) rfl (fun v3 => ?_)
      refine tr_ic_gt 79 hX dX8_fewestWays_74 (by decide) (fun c4 => ?_) (fun c4 => ?_)
      · exact tr_sub [0, 1, 2] rfl (t_X8_fewestWays_79 hX hS s51 x1 x2 hs51)
      · refine tr_iload_n 2 hX dX8_fewestWays_77 rfl rfl ?_
        refine tr_istore_n hX dX8_fewestWays_78 rfl (hS.n (by decide)) rfl ?_
        exact tr_sub [1, 0, 2] rfl (t_X8_fewestWays_79 hX hS s51 x2 x2 hs51)
def f_X8_fewestWays_38 (s2 : Int32 → M Int32) (x1 : Int32) (p0 : Int32) (p1 : Int32) : M Int32 :=
  sI 153 20 p1 p0 (s2 (x1 + 1))
set_option maxRecDepth 10000 in
set_option maxHeartbeats 4000000 in
theorem t_X8_fewestWays_38 {X : Cx} (hX : Good X RX8 cX8_fewestWays ((some .int))) (hS : Sta X 5 118 3) (s2 : Int32 → M Int32) (x1 : Int32) (p0 : Int32) (p1 : Int32) (hs2 : ∀ x1 : Int32, Tr X eI 0 0 2 [(0, .ref (cxAd X 0)), (1, .int x1)] [] (s2 x1)) : Tr X eI 0 0 38 [(0, .ref (cxAd X 0)), (1, .int x1)] [.int p0, .int p1, .ref (cxAd X 153)] (f_X8_fewestWays_38 s2 x1 p0 p1) := by
  unfold f_X8_fewestWays_38
  refine tr_iast hX dX8_fewestWays_38 sh_153 (hS.e (Nat.le_of_ble_eq_true rfl)) (fun _ => ?_)
  refine tr_iinc (x1 + 1) 1 hX dX8_fewestWays_39 rfl (congrArg (fun z => x1 + z) (by decide)) (hS.n (by decide)) rfl ?_
  refine tr_goto 2 hX dX8_fewestWays_42 (by decide) ?_
  exact tr_sub [1, 0] rfl (hs2 (x1 + 1))
def f_X8_fewestWays_2 (s2 : Int32 → M Int32) (x1 : Int32) : M Int32 :=
  rI 149 0 (fun v1 => if v1 ≤ x1 then (fix2 FU (f_X8_fewestWays_51) 31 31) else (bnd (f_X8_isSuchSlip x1) (fun v2 => if v2 = 0 then (f_X8_fewestWays_38 s2 x1 0 x1) else (bnd (f_X8_waysThatShowSlip x1) (fun v3 => f_X8_fewestWays_38 s2 x1 v3 x1)))))
set_option maxRecDepth 10000 in
set_option maxHeartbeats 4000000 in
theorem t_X8_fewestWays_2 {X : Cx} (hX : Good X RX8 cX8_fewestWays ((some .int))) (hS : Sta X 5 118 3) : ∀ s2 : Int32 → M Int32, (∀ x1 : Int32, Tr X eI 0 0 2 [(0, .ref (cxAd X 0)), (1, .int x1)] [] (s2 x1)) → ∀ x1 : Int32, Tr X eI 0 0 2 [(0, .ref (cxAd X 0)), (1, .int x1)] [] (f_X8_fewestWays_2 s2 x1) := by
  intro s2 hs2 x1
  unfold f_X8_fewestWays_2
  refine tr_iload_n 1 hX dX8_fewestWays_2 rfl rfl ?_
  refine tr_aload_n 0 hX dX8_fewestWays_3 rfl rfl ?_
  refine tr_getF hX dX8_fewestWays_4 sh_0 (by decide) rfl inlX8 (by decide) rfl (hS.g (Nat.le_of_ble_eq_true rfl)) cr_0_9 k_2_15 mq_0 ?_
  refine tr_getI hX dX8_fewestWays_7 sh_149 (by decide) rfl inlX5 (by decide) rfl (hS.e (Nat.le_of_ble_eq_true rfl)) k_11_18 (fun v1 => ?_)
  refine tr_ic_ge 45 hX dX8_fewestWays_10 (by decide) (fun c5 => ?_) (fun c5 => ?_)
  · refine tr_bipush 31 hX dX8_fewestWays_45 (by decide) ?_
    refine tr_istore_n hX dX8_fewestWays_47 rfl (hS.n (by decide)) rfl ?_
    refine tr_bipush 31 hX dX8_fewestWays_48 (by decide) ?_
    refine tr_istore_n hX dX8_fewestWays_50 rfl (hS.n (by decide)) rfl ?_
    exact tr_sub [2, 1, 0] rfl (tr_fix2 (lvf := fun x1 x2 => [(0, .ref (cxAd X 0)), (1, .int x1), (2, .int x2)]) (t_X8_fewestWays_51 hX hS) FU 31 31)
  · refine tr_aload_n 0 hX dX8_fewestWays_13 rfl rfl ?_
    refine tr_getF hX dX8_fewestWays_14 sh_0 (by decide) rfl inlX8 (by decide) rfl (hS.g (Nat.le_of_ble_eq_true rfl)) cr_0_9 k_2_15 mq_0 ?_
    refine tr_getF hX dX8_fewestWays_17 sh_149 (by decide) rfl inlX5 (by decide) rfl (hS.g (Nat.le_of_ble_eq_true rfl)) cr_149_4 k_30_20 mq_149 ?_
    refine tr_iload_n 1 hX dX8_fewestWays_20 rfl rfl ?_
    refine tr_aload_n 0 hX dX8_fewestWays_21 rfl rfl ?_
    refine tr_iload_n 1 hX dX8_fewestWays_22 rfl rfl ?_
    refine tr_callV0I (st := [.int x1, .ref (cxAd X 153)]) 1 hX hS dX8_fewestWays_23 (ok_X8_isSuchSlip x1) sh_0 (by decide) rfl (Nat.le_of_ble_eq_true rfl) k_30_5 k_30_6 k_30_7 k_1_2 k_30_8 hy_X8_isSuchSlip rfl rfl (Nat.le_of_ble_eq_true rfl) rfl (fun v2 => ?_)
    refine tr_if_eq 37 hX dX8_fewestWays_26 (by decide) (fun c4 => ?_) (fun c4 => ?_)
    · refine tr_iconst 0 hX dX8_fewestWays_37 (by decide) ?_
      exact tr_sub [0, 1] rfl (t_X8_fewestWays_38 hX hS s2 x1 0 x1 hs2)
    · refine tr_aload_n 0 hX dX8_fewestWays_29 rfl rfl ?_
      refine tr_iload_n 1 hX dX8_fewestWays_30 rfl rfl ?_
      refine tr_callV0I (st := [.int x1, .ref (cxAd X 153)]) 1 hX hS dX8_fewestWays_31 (ok_X8_waysThatShowSlip x1) sh_0 (by decide) rfl (Nat.le_of_ble_eq_true rfl) k_30_12 k_30_13 k_30_14 k_1_2 k_30_15 hy_X8_waysThatShowSlip rfl rfl (Nat.le_of_ble_eq_true rfl) rfl (fun v3 => ?_)
      refine tr_goto 38 hX dX8_fewestWays_34 (by decide) ?_
      exact tr_sub [0, 1] rfl (t_X8_fewestWays_38 hX hS s2 x1 v3 x1 hs2)
def f_X8_fewestWays  : M Int32 :=
  fix1 FU (f_X8_fewestWays_2) 0
set_option maxRecDepth 10000 in
set_option maxHeartbeats 4000000 in
theorem t_X8_fewestWays_0 {X : Cx} (hX : Good X RX8 cX8_fewestWays ((some .int))) (hS : Sta X 5 118 3) : Tr X eI 0 0 0 [(0, .ref (cxAd X 0))] [] (f_X8_fewestWays) := by
  unfold f_X8_fewestWays
  refine tr_iconst 0 hX dX8_fewestWays_0 (by decide) ?_
  refine tr_istore_n hX dX8_fewestWays_1 rfl (hS.n (by decide)) rfl ?_
  exact tr_sub [1, 0] rfl (tr_fix1 (lvf := fun x1 => [(0, .ref (cxAd X 0)), (1, .int x1)]) (t_X8_fewestWays_2 hX hS) FU 0)
theorem ok_X8_fewestWays {l : Launch} {E : Ev}   : Ok l E Gall yX8_fewestWays cX8_fewestWays 3 ((some .int)) (rmz 5 118) eI [.ref (E.2.1 0)] (f_X8_fewestWays) := by
  refine ok_of0 (by decide) (Nat.le_of_ble_eq_true rfl) (fun X hX hV hS => ?_)
  subst hV
  exact t_X8_fewestWays_0 hX hS 
def f_X8_hiddenSlips_54 (s4 : Int32 → Int32 → M Int32) (x1 : Int32) (x2 : Int32) : M Int32 :=
  s4 x1 (x2 + 1)
set_option maxRecDepth 10000 in
set_option maxHeartbeats 4000000 in
theorem t_X8_hiddenSlips_54 {X : Cx} (hX : Good X RX8 cX8_hiddenSlips ((some .int))) (hS : Sta X 5 118 4) (s4 : Int32 → Int32 → M Int32) (x1 : Int32) (x2 : Int32) (hs4 : ∀ x1 : Int32, ∀ x2 : Int32, Tr X eI 0 0 4 [(0, .ref (cxAd X 0)), (1, .int x1), (2, .int x2)] [] (s4 x1 x2)) : Tr X eI 0 0 54 [(0, .ref (cxAd X 0)), (1, .int x1), (2, .int x2)] [] (f_X8_hiddenSlips_54 s4 x1 x2) := by
  unfold f_X8_hiddenSlips_54
  refine tr_iinc (x2 + 1) 2 hX dX8_hiddenSlips_54 rfl (congrArg (fun z => x2 + z) (by decide)) (hS.n (by decide)) rfl ?_
  refine tr_goto 4 hX dX8_hiddenSlips_57 (by decide) ?_
  exact tr_sub [1, 2, 0] rfl (hs4 x1 (x2 + 1))
def f_X8_hiddenSlips_52 (s4 : Int32 → Int32 → M Int32) (x2 : Int32) (p0 : Int32) (p1 : Int32) : M Int32 :=
  nm ((p1 + p0)) (fun v1 => f_X8_hiddenSlips_54 s4 v1 x2)
set_option maxRecDepth 10000 in
set_option maxHeartbeats 4000000 in
theorem t_X8_hiddenSlips_52 {X : Cx} (hX : Good X RX8 cX8_hiddenSlips ((some .int))) (hS : Sta X 5 118 4) (s4 : Int32 → Int32 → M Int32) (x2 : Int32) (p0 : Int32) (p1 : Int32) (hs4 : ∀ x1 : Int32, ∀ x2 : Int32, Tr X eI 0 0 4 [(0, .ref (cxAd X 0)), (1, .int x1), (2, .int x2)] [] (s4 x1 x2)) : Tr X eI 0 0 52 [(0, .ref (cxAd X 0)), (2, .int x2)] [.int p0, .int p1] (f_X8_hiddenSlips_52 s4 x2 p0 p1) := by
  unfold f_X8_hiddenSlips_52
  refine tr_iadd hX dX8_hiddenSlips_52 ?_
  refine tr_nm (fun v1 ev1 => ?_)
  refine tr_istore_n hX dX8_hiddenSlips_53 rfl (hS.n (by decide)) rfl ?_
  exact tr_sub [1, 0, 2] rfl (t_X8_hiddenSlips_54 hX hS s4 v1 x2 hs4)
def f_X8_hiddenSlips_51 (s4 : Int32 → Int32 → M Int32) (x2 : Int32) (p0 : Int32) : M Int32 :=
  f_X8_hiddenSlips_52 s4 x2 0 p0
set_option maxRecDepth 10000 in
set_option maxHeartbeats 4000000 in
theorem t_X8_hiddenSlips_51 {X : Cx} (hX : Good X RX8 cX8_hiddenSlips ((some .int))) (hS : Sta X 5 118 4) (s4 : Int32 → Int32 → M Int32) (x2 : Int32) (p0 : Int32) (hs4 : ∀ x1 : Int32, ∀ x2 : Int32, Tr X eI 0 0 4 [(0, .ref (cxAd X 0)), (1, .int x1), (2, .int x2)] [] (s4 x1 x2)) : Tr X eI 0 0 51 [(0, .ref (cxAd X 0)), (2, .int x2)] [.int p0] (f_X8_hiddenSlips_51 s4 x2 p0) := by
  unfold f_X8_hiddenSlips_51
  refine tr_iconst 0 hX dX8_hiddenSlips_51 (by decide) ?_
  exact tr_sub [0, 1] rfl (t_X8_hiddenSlips_52 hX hS s4 x2 0 p0 hs4)
def f_X8_hiddenSlips_4 (s4 : Int32 → Int32 → M Int32) (x1 : Int32) (x2 : Int32) : M Int32 :=
  rI 149 0 (fun v1 => if v1 ≤ x2 then (rt x1) else (bnd (f_X8_isSuchSlip x2) (fun v2 => if v2 = 0 then (f_X8_hiddenSlips_54 s4 x1 x2) else (bnd (f_X8_waysThatShowSlip x2) (fun v3 => if ((v3 >>> (0 &&& 31)) &&& 1) = 0 then (if ((v3 >>> (1 &&& 31)) &&& 1) = 1 then (f_X8_hiddenSlips_52 s4 x2 1 x1) else (f_X8_hiddenSlips_51 s4 x2 x1)) else (f_X8_hiddenSlips_51 s4 x2 x1))))))
set_option maxRecDepth 10000 in
set_option maxHeartbeats 4000000 in
theorem t_X8_hiddenSlips_4 {X : Cx} (hX : Good X RX8 cX8_hiddenSlips ((some .int))) (hS : Sta X 5 118 4) : ∀ s4 : Int32 → Int32 → M Int32, (∀ x1 : Int32, ∀ x2 : Int32, Tr X eI 0 0 4 [(0, .ref (cxAd X 0)), (1, .int x1), (2, .int x2)] [] (s4 x1 x2)) → ∀ x1 : Int32, ∀ x2 : Int32, Tr X eI 0 0 4 [(0, .ref (cxAd X 0)), (1, .int x1), (2, .int x2)] [] (f_X8_hiddenSlips_4 s4 x1 x2) := by
  intro s4 hs4 x1 x2
  unfold f_X8_hiddenSlips_4
  refine tr_iload_n 2 hX dX8_hiddenSlips_4 rfl rfl ?_
  refine tr_aload_n 0 hX dX8_hiddenSlips_5 rfl rfl ?_
  refine tr_getF hX dX8_hiddenSlips_6 sh_0 (by decide) rfl inlX8 (by decide) rfl (hS.g (Nat.le_of_ble_eq_true rfl)) cr_0_9 k_2_15 mq_0 ?_
  refine tr_getI hX dX8_hiddenSlips_9 sh_149 (by decide) rfl inlX5 (by decide) rfl (hS.e (Nat.le_of_ble_eq_true rfl)) k_11_18 (fun v1 => ?_)
  refine tr_ic_ge 60 hX dX8_hiddenSlips_12 (by decide) (fun c7 => ?_) (fun c7 => ?_)
  · refine tr_iload_n 1 hX dX8_hiddenSlips_60 rfl rfl ?_
    exact tr_iret0 hX hS dX8_hiddenSlips_61
  · refine tr_aload_n 0 hX dX8_hiddenSlips_15 rfl rfl ?_
    refine tr_iload_n 2 hX dX8_hiddenSlips_16 rfl rfl ?_
    refine tr_callV0I (st := []) 1 hX hS dX8_hiddenSlips_17 (ok_X8_isSuchSlip x2) sh_0 (by decide) rfl (Nat.le_of_ble_eq_true rfl) k_30_5 k_30_6 k_30_7 k_1_2 k_30_8 hy_X8_isSuchSlip rfl rfl (Nat.le_of_ble_eq_true rfl) rfl (fun v2 => ?_)
    refine tr_if_eq 54 hX dX8_hiddenSlips_20 (by decide) (fun c6 => ?_) (fun c6 => ?_)
    · exact tr_sub [0, 1, 2] rfl (t_X8_hiddenSlips_54 hX hS s4 x1 x2 hs4)
    · refine tr_aload_n 0 hX dX8_hiddenSlips_23 rfl rfl ?_
      refine tr_iload_n 2 hX dX8_hiddenSlips_24 rfl rfl ?_
      refine tr_callV0I (st := []) 1 hX hS dX8_hiddenSlips_25 (ok_X8_waysThatShowSlip x2) sh_0 (by decide) rfl (Nat.le_of_ble_eq_true rfl) k_30_12 k_30_13 k_30_14 k_1_2 k_30_15 hy_X8_waysThatShowSlip rfl rfl (Nat.le_of_ble_eq_true rfl) rfl (fun v3 => ?_)
      refine tr_istore_n hX dX8_hiddenSlips_28 rfl (hS.n (by decide)) rfl ?_
      refine tr_iload_n 2 hX dX8_hiddenSlips_29 rfl rfl ?_
      refine tr_iload_n 0 hX dX8_hiddenSlips_30 rfl rfl ?_
      refine tr_iconst 0 hX dX8_hiddenSlips_31 (by decide) ?_
      refine tr_ishr hX dX8_hiddenSlips_32 ?_
      refine tr_iconst 1 hX dX8_hiddenSlips_33 (by decide) ?_
      refine tr_iand hX dX8_hiddenSlips_34 ?_
      refine tr_if_ne 51 hX dX8_hiddenSlips_35 (by decide) (fun c5 => ?_) (fun c5 => ?_)
      · refine tr_iload_n 0 hX dX8_hiddenSlips_38 rfl rfl ?_
        refine tr_iconst 1 hX dX8_hiddenSlips_39 (by decide) ?_
        refine tr_ishr hX dX8_hiddenSlips_40 ?_
        refine tr_iconst 1 hX dX8_hiddenSlips_41 (by decide) ?_
        refine tr_iand hX dX8_hiddenSlips_42 ?_
        refine tr_iconst 1 hX dX8_hiddenSlips_43 (by decide) ?_
        refine tr_ic_ne 51 hX dX8_hiddenSlips_44 (by decide) (fun c4 => ?_) (fun c4 => ?_)
        · refine tr_iconst 1 hX dX8_hiddenSlips_47 (by decide) ?_
          refine tr_goto 52 hX dX8_hiddenSlips_48 (by decide) ?_
          exact tr_sub [1, 3] rfl (t_X8_hiddenSlips_52 hX hS s4 x2 1 x1 hs4)
        · exact tr_sub [1, 3] rfl (t_X8_hiddenSlips_51 hX hS s4 x2 x1 hs4)
      · exact tr_sub [1, 3] rfl (t_X8_hiddenSlips_51 hX hS s4 x2 x1 hs4)
def f_X8_hiddenSlips  : M Int32 :=
  fix2 FU (f_X8_hiddenSlips_4) 0 0
set_option maxRecDepth 10000 in
set_option maxHeartbeats 4000000 in
theorem t_X8_hiddenSlips_0 {X : Cx} (hX : Good X RX8 cX8_hiddenSlips ((some .int))) (hS : Sta X 5 118 4) : Tr X eI 0 0 0 [(0, .ref (cxAd X 0))] [] (f_X8_hiddenSlips) := by
  unfold f_X8_hiddenSlips
  refine tr_iconst 0 hX dX8_hiddenSlips_0 (by decide) ?_
  refine tr_istore_n hX dX8_hiddenSlips_1 rfl (hS.n (by decide)) rfl ?_
  refine tr_iconst 0 hX dX8_hiddenSlips_2 (by decide) ?_
  refine tr_istore_n hX dX8_hiddenSlips_3 rfl (hS.n (by decide)) rfl ?_
  exact tr_sub [2, 1, 0] rfl (tr_fix2 (lvf := fun x1 x2 => [(0, .ref (cxAd X 0)), (1, .int x1), (2, .int x2)]) (t_X8_hiddenSlips_4 hX hS) FU 0 0)
theorem ok_X8_hiddenSlips {l : Launch} {E : Ev}   : Ok l E Gall yX8_hiddenSlips cX8_hiddenSlips 4 ((some .int)) (rmz 5 118) eI [.ref (E.2.1 0)] (f_X8_hiddenSlips) := by
  refine ok_of0 (by decide) (Nat.le_of_ble_eq_true rfl) (fun X hX hV hS => ?_)
  subst hV
  exact t_X8_hiddenSlips_0 hX hS 
def f_X8_listedSlips_79 (s4 : Int32 → Int32 → M Int32) (x1 : Int32) (x2 : Int32) : M Int32 :=
  s4 x1 (x2 + 1)
set_option maxRecDepth 10000 in
set_option maxHeartbeats 4000000 in
theorem t_X8_listedSlips_79 {X : Cx} (hX : Good X RX8 cX8_listedSlips ((some .int))) (hS : Sta X 3 65 4) (s4 : Int32 → Int32 → M Int32) (x1 : Int32) (x2 : Int32) (hs4 : ∀ x1 : Int32, ∀ x2 : Int32, Tr X eI 0 0 4 [(0, .ref (cxAd X 0)), (1, .int x1), (2, .int x2)] [] (s4 x1 x2)) : Tr X eI 0 0 79 [(0, .ref (cxAd X 0)), (1, .int x1), (2, .int x2)] [] (f_X8_listedSlips_79 s4 x1 x2) := by
  unfold f_X8_listedSlips_79
  refine tr_iinc (x2 + 1) 2 hX dX8_listedSlips_79 rfl (congrArg (fun z => x2 + z) (by decide)) (hS.n (by decide)) rfl ?_
  refine tr_goto 4 hX dX8_listedSlips_82 (by decide) ?_
  exact tr_sub [1, 2, 0] rfl (hs4 x1 (x2 + 1))
def f_X8_listedSlips_77 (s4 : Int32 → Int32 → M Int32) (x2 : Int32) (p0 : Int32) (p1 : Int32) : M Int32 :=
  nm ((p1 + p0)) (fun v1 => f_X8_listedSlips_79 s4 v1 x2)
set_option maxRecDepth 10000 in
set_option maxHeartbeats 4000000 in
theorem t_X8_listedSlips_77 {X : Cx} (hX : Good X RX8 cX8_listedSlips ((some .int))) (hS : Sta X 3 65 4) (s4 : Int32 → Int32 → M Int32) (x2 : Int32) (p0 : Int32) (p1 : Int32) (hs4 : ∀ x1 : Int32, ∀ x2 : Int32, Tr X eI 0 0 4 [(0, .ref (cxAd X 0)), (1, .int x1), (2, .int x2)] [] (s4 x1 x2)) : Tr X eI 0 0 77 [(0, .ref (cxAd X 0)), (2, .int x2)] [.int p0, .int p1] (f_X8_listedSlips_77 s4 x2 p0 p1) := by
  unfold f_X8_listedSlips_77
  refine tr_iadd hX dX8_listedSlips_77 ?_
  refine tr_nm (fun v1 ev1 => ?_)
  refine tr_istore_n hX dX8_listedSlips_78 rfl (hS.n (by decide)) rfl ?_
  exact tr_sub [1, 0, 2] rfl (t_X8_listedSlips_79 hX hS s4 v1 x2 hs4)
def f_X8_listedSlips_4 (s4 : Int32 → Int32 → M Int32) (x1 : Int32) (x2 : Int32) : M Int32 :=
  rI 149 0 (fun v1 => if v1 ≤ x2 then (rt x1) else (bnd (f_X8_isSuchSlip x2) (fun v2 => if v2 = 0 then (f_X8_listedSlips_79 s4 x1 x2) else (aI 150 20 x2 (fun v3 => gd (inb v3 6) (aI 151 20 x2 (fun v6 => aI (21 + 1 + v3.toNatClampNeg) 8 v6 (fun v8 => rT 0 1 (fun t10 => aI 152 20 x2 (fun v11 => bnd (f_X6_isListedAlike t10 v8 v11) (fun v13 => if v13 = 0 then (f_X8_listedSlips_77 s4 x2 1 x1) else (f_X8_listedSlips_77 s4 x2 0 x1))))))))))))
set_option maxRecDepth 10000 in
set_option maxHeartbeats 4000000 in
theorem t_X8_listedSlips_4 {X : Cx} (hX : Good X RX8 cX8_listedSlips ((some .int))) (hS : Sta X 3 65 4) : ∀ s4 : Int32 → Int32 → M Int32, (∀ x1 : Int32, ∀ x2 : Int32, Tr X eI 0 0 4 [(0, .ref (cxAd X 0)), (1, .int x1), (2, .int x2)] [] (s4 x1 x2)) → ∀ x1 : Int32, ∀ x2 : Int32, Tr X eI 0 0 4 [(0, .ref (cxAd X 0)), (1, .int x1), (2, .int x2)] [] (f_X8_listedSlips_4 s4 x1 x2) := by
  intro s4 hs4 x1 x2
  unfold f_X8_listedSlips_4
  refine tr_iload_n 2 hX dX8_listedSlips_4 rfl rfl ?_
  refine tr_aload_n 0 hX dX8_listedSlips_5 rfl rfl ?_
  refine tr_getF hX dX8_listedSlips_6 sh_0 (by decide) rfl inlX8 (by decide) rfl (hS.g (Nat.le_of_ble_eq_true rfl)) cr_0_9 k_2_15 mq_0 ?_
  refine tr_getI hX dX8_listedSlips_9 sh_149 (by decide) rfl inlX5 (by decide) rfl (hS.e (Nat.le_of_ble_eq_true rfl)) k_11_18 (fun v1 => ?_)
  refine tr_ic_ge 85 hX dX8_listedSlips_12 (by decide) (fun c16 => ?_) (fun c16 => ?_)
  · refine tr_iload_n 1 hX dX8_listedSlips_85 rfl rfl ?_
    exact tr_iret0 hX hS dX8_listedSlips_86
  · refine tr_aload_n 0 hX dX8_listedSlips_15 rfl rfl ?_
    refine tr_iload_n 2 hX dX8_listedSlips_16 rfl rfl ?_
    refine tr_callV0I (st := []) 1 hX hS dX8_listedSlips_17 (ok_X8_isSuchSlip x2) sh_0 (by decide) rfl (Nat.le_of_ble_eq_true rfl) k_30_5 k_30_6 k_30_7 k_1_2 k_30_8 hy_X8_isSuchSlip rfl rfl (Nat.le_of_ble_eq_true rfl) rfl (fun v2 => ?_)
    refine tr_if_eq 79 hX dX8_listedSlips_20 (by decide) (fun c15 => ?_) (fun c15 => ?_)
    · exact tr_sub [0, 1, 2] rfl (t_X8_listedSlips_79 hX hS s4 x1 x2 hs4)
    · refine tr_aload_n 0 hX dX8_listedSlips_23 rfl rfl ?_
      refine tr_getF hX dX8_listedSlips_24 sh_0 (by decide) rfl inlX8 (by decide) rfl (hS.g (Nat.le_of_ble_eq_true rfl)) cr_0_3 k_2_1 mq_0 ?_
      refine tr_getF hX dX8_listedSlips_27 sh_20 (by decide) rfl inlX0 (by decide) rfl (hS.g (Nat.le_of_ble_eq_true rfl)) cr_20_0 k_13_7 mq_20 ?_
      refine tr_aload_n 0 hX dX8_listedSlips_30 rfl rfl ?_
      refine tr_getF hX dX8_listedSlips_31 sh_0 (by decide) rfl inlX8 (by decide) rfl (hS.g (Nat.le_of_ble_eq_true rfl)) cr_0_9 k_2_15 mq_0 ?_
      refine tr_getF hX dX8_listedSlips_34 sh_149 (by decide) rfl inlX5 (by decide) rfl (hS.g (Nat.le_of_ble_eq_true rfl)) cr_149_1 k_30_9 mq_149 ?_
      refine tr_iload_n 2 hX dX8_listedSlips_37 rfl rfl ?_
      refine tr_iald hX dX8_listedSlips_38 sh_150 (hS.e (Nat.le_of_ble_eq_true rfl)) (fun hb4 v3 => ?_)
      refine tr_aald hX dX8_listedSlips_39 sh_21 (hS.e (Nat.le_of_ble_eq_true rfl)) (fun hb5 => ?_)
      refine tr_aload_n 0 hX dX8_listedSlips_40 rfl rfl ?_
      refine tr_getF hX dX8_listedSlips_41 sh_0 (by decide) rfl inlX8 (by decide) rfl (hS.g (Nat.le_of_ble_eq_true rfl)) cr_0_9 k_2_15 mq_0 ?_
      refine tr_getF hX dX8_listedSlips_44 sh_149 (by decide) rfl inlX5 (by decide) rfl (hS.g (Nat.le_of_ble_eq_true rfl)) cr_149_2 k_30_10 mq_149 ?_
      refine tr_iload_n 2 hX dX8_listedSlips_47 rfl rfl ?_
      refine tr_iald hX dX8_listedSlips_48 sh_151 (hS.e (Nat.le_of_ble_eq_true rfl)) (fun hb7 v6 => ?_)
      refine tr_iald hX dX8_listedSlips_49 (row_21 hb5).1 (hS.e (row_21 hb5).2) (fun hb9 v8 => ?_)
      refine tr_istore_n hX dX8_listedSlips_50 rfl (hS.n (by decide)) rfl ?_
      refine tr_iload_n 2 hX dX8_listedSlips_51 rfl rfl ?_
      refine tr_aload_n 1 hX dX8_listedSlips_52 rfl rfl ?_
      refine tr_getT hX dX8_listedSlips_53 sh_0 (by decide) rfl inlX8 (by decide) rfl (hS.e (Nat.le_of_ble_eq_true rfl)) k_1_20 (fun t10 ht10 => ?_)
      refine tr_iload_n 0 hX dX8_listedSlips_56 rfl rfl ?_
      refine tr_aload_n 1 hX dX8_listedSlips_57 rfl rfl ?_
      refine tr_getF hX dX8_listedSlips_58 sh_0 (by decide) rfl inlX8 (by decide) rfl (hS.g (Nat.le_of_ble_eq_true rfl)) cr_0_9 k_2_15 mq_0 ?_
      refine tr_getF hX dX8_listedSlips_61 sh_149 (by decide) rfl inlX5 (by decide) rfl (hS.g (Nat.le_of_ble_eq_true rfl)) cr_149_3 k_30_11 mq_149 ?_
      refine tr_iload_n 3 hX dX8_listedSlips_64 rfl rfl ?_
      refine tr_iald hX dX8_listedSlips_65 sh_152 (hS.e (Nat.le_of_ble_eq_true rfl)) (fun hb12 v11 => ?_)
      refine tr_callV0I (st := [.int x1]) 2 hX hS dX8_listedSlips_66 (ok_X6_isListedAlike t10 v8 v11 ht10) (shT ht10) (by decide) rfl (leT ht10) k_31_12 k_31_13 k_31_14 k_1_19 k_31_15 hy_X6_isListedAlike rfl rfl (Nat.le_of_ble_eq_true rfl) rfl (fun v13 => ?_)
      refine tr_if_eq 76 hX dX8_listedSlips_69 (by decide) (fun c14 => ?_) (fun c14 => ?_)
      · refine tr_iconst 1 hX dX8_listedSlips_76 (by decide) ?_
        exact tr_sub [1, 3] rfl (t_X8_listedSlips_77 hX hS s4 x2 1 x1 hs4)
      · refine tr_iconst 0 hX dX8_listedSlips_72 (by decide) ?_
        refine tr_goto 77 hX dX8_listedSlips_73 (by decide) ?_
        exact tr_sub [1, 3] rfl (t_X8_listedSlips_77 hX hS s4 x2 0 x1 hs4)
def f_X8_listedSlips  : M Int32 :=
  fix2 FU (f_X8_listedSlips_4) 0 0
set_option maxRecDepth 10000 in
set_option maxHeartbeats 4000000 in
theorem t_X8_listedSlips_0 {X : Cx} (hX : Good X RX8 cX8_listedSlips ((some .int))) (hS : Sta X 3 65 4) : Tr X eI 0 0 0 [(0, .ref (cxAd X 0))] [] (f_X8_listedSlips) := by
  unfold f_X8_listedSlips
  refine tr_iconst 0 hX dX8_listedSlips_0 (by decide) ?_
  refine tr_istore_n hX dX8_listedSlips_1 rfl (hS.n (by decide)) rfl ?_
  refine tr_iconst 0 hX dX8_listedSlips_2 (by decide) ?_
  refine tr_istore_n hX dX8_listedSlips_3 rfl (hS.n (by decide)) rfl ?_
  exact tr_sub [2, 1, 0] rfl (tr_fix2 (lvf := fun x1 x2 => [(0, .ref (cxAd X 0)), (1, .int x1), (2, .int x2)]) (t_X8_listedSlips_4 hX hS) FU 0 0)
theorem ok_X8_listedSlips {l : Launch} {E : Ev}   : Ok l E Gall yX8_listedSlips cX8_listedSlips 4 ((some .int)) (rmz 3 65) eI [.ref (E.2.1 0)] (f_X8_listedSlips) := by
  refine ok_of0 (by decide) (Nat.le_of_ble_eq_true rfl) (fun X hX hV hS => ?_)
  subst hV
  exact t_X8_listedSlips_0 hX hS 
def f_X8_suchSlips_29 (s4 : Int32 → Int32 → M Int32) (x2 : Int32) (p0 : Int32) (p1 : Int32) : M Int32 :=
  nm ((p1 + p0)) (fun v1 => s4 v1 (x2 + 1))
set_option maxRecDepth 10000 in
set_option maxHeartbeats 4000000 in
theorem t_X8_suchSlips_29 {X : Cx} (hX : Good X RX8 cX8_suchSlips ((some .int))) (hS : Sta X 3 65 3) (s4 : Int32 → Int32 → M Int32) (x2 : Int32) (p0 : Int32) (p1 : Int32) (hs4 : ∀ x1 : Int32, ∀ x2 : Int32, Tr X eI 0 0 4 [(0, .ref (cxAd X 0)), (1, .int x1), (2, .int x2)] [] (s4 x1 x2)) : Tr X eI 0 0 29 [(0, .ref (cxAd X 0)), (2, .int x2)] [.int p0, .int p1] (f_X8_suchSlips_29 s4 x2 p0 p1) := by
  unfold f_X8_suchSlips_29
  refine tr_iadd hX dX8_suchSlips_29 ?_
  refine tr_nm (fun v1 ev1 => ?_)
  refine tr_istore_n hX dX8_suchSlips_30 rfl (hS.n (by decide)) rfl ?_
  refine tr_iinc (x2 + 1) 2 hX dX8_suchSlips_31 rfl (congrArg (fun z => x2 + z) (by decide)) (hS.n (by decide)) rfl ?_
  refine tr_goto 4 hX dX8_suchSlips_34 (by decide) ?_
  exact tr_sub [2, 1, 0] rfl (hs4 v1 (x2 + 1))
def f_X8_suchSlips_4 (s4 : Int32 → Int32 → M Int32) (x1 : Int32) (x2 : Int32) : M Int32 :=
  rI 149 0 (fun v1 => if v1 ≤ x2 then (rt x1) else (bnd (f_X8_isSuchSlip x2) (fun v2 => if v2 = 0 then (f_X8_suchSlips_29 s4 x2 0 x1) else (f_X8_suchSlips_29 s4 x2 1 x1))))
set_option maxRecDepth 10000 in
set_option maxHeartbeats 4000000 in
theorem t_X8_suchSlips_4 {X : Cx} (hX : Good X RX8 cX8_suchSlips ((some .int))) (hS : Sta X 3 65 3) : ∀ s4 : Int32 → Int32 → M Int32, (∀ x1 : Int32, ∀ x2 : Int32, Tr X eI 0 0 4 [(0, .ref (cxAd X 0)), (1, .int x1), (2, .int x2)] [] (s4 x1 x2)) → ∀ x1 : Int32, ∀ x2 : Int32, Tr X eI 0 0 4 [(0, .ref (cxAd X 0)), (1, .int x1), (2, .int x2)] [] (f_X8_suchSlips_4 s4 x1 x2) := by
  intro s4 hs4 x1 x2
  unfold f_X8_suchSlips_4
  refine tr_iload_n 2 hX dX8_suchSlips_4 rfl rfl ?_
  refine tr_aload_n 0 hX dX8_suchSlips_5 rfl rfl ?_
  refine tr_getF hX dX8_suchSlips_6 sh_0 (by decide) rfl inlX8 (by decide) rfl (hS.g (Nat.le_of_ble_eq_true rfl)) cr_0_9 k_2_15 mq_0 ?_
  refine tr_getI hX dX8_suchSlips_9 sh_149 (by decide) rfl inlX5 (by decide) rfl (hS.e (Nat.le_of_ble_eq_true rfl)) k_11_18 (fun v1 => ?_)
  refine tr_ic_ge 37 hX dX8_suchSlips_12 (by decide) (fun c4 => ?_) (fun c4 => ?_)
  · refine tr_iload_n 1 hX dX8_suchSlips_37 rfl rfl ?_
    exact tr_iret0 hX hS dX8_suchSlips_38
  · refine tr_iload_n 1 hX dX8_suchSlips_15 rfl rfl ?_
    refine tr_aload_n 0 hX dX8_suchSlips_16 rfl rfl ?_
    refine tr_iload_n 2 hX dX8_suchSlips_17 rfl rfl ?_
    refine tr_callV0I (st := [.int x1]) 1 hX hS dX8_suchSlips_18 (ok_X8_isSuchSlip x2) sh_0 (by decide) rfl (Nat.le_of_ble_eq_true rfl) k_30_5 k_30_6 k_30_7 k_1_2 k_30_8 hy_X8_isSuchSlip rfl rfl (Nat.le_of_ble_eq_true rfl) rfl (fun v2 => ?_)
    refine tr_if_eq 28 hX dX8_suchSlips_21 (by decide) (fun c3 => ?_) (fun c3 => ?_)
    · refine tr_iconst 0 hX dX8_suchSlips_28 (by decide) ?_
      exact tr_sub [0, 2] rfl (t_X8_suchSlips_29 hX hS s4 x2 0 x1 hs4)
    · refine tr_iconst 1 hX dX8_suchSlips_24 (by decide) ?_
      refine tr_goto 29 hX dX8_suchSlips_25 (by decide) ?_
      exact tr_sub [0, 2] rfl (t_X8_suchSlips_29 hX hS s4 x2 1 x1 hs4)
def f_X8_suchSlips  : M Int32 :=
  fix2 FU (f_X8_suchSlips_4) 0 0
set_option maxRecDepth 10000 in
set_option maxHeartbeats 4000000 in
theorem t_X8_suchSlips_0 {X : Cx} (hX : Good X RX8 cX8_suchSlips ((some .int))) (hS : Sta X 3 65 3) : Tr X eI 0 0 0 [(0, .ref (cxAd X 0))] [] (f_X8_suchSlips) := by
  unfold f_X8_suchSlips
  refine tr_iconst 0 hX dX8_suchSlips_0 (by decide) ?_
  refine tr_istore_n hX dX8_suchSlips_1 rfl (hS.n (by decide)) rfl ?_
  refine tr_iconst 0 hX dX8_suchSlips_2 (by decide) ?_
  refine tr_istore_n hX dX8_suchSlips_3 rfl (hS.n (by decide)) rfl ?_
  exact tr_sub [2, 1, 0] rfl (tr_fix2 (lvf := fun x1 x2 => [(0, .ref (cxAd X 0)), (1, .int x1), (2, .int x2)]) (t_X8_suchSlips_4 hX hS) FU 0 0)
theorem ok_X8_suchSlips {l : Launch} {E : Ev}   : Ok l E Gall yX8_suchSlips cX8_suchSlips 3 ((some .int)) (rmz 3 65) eI [.ref (E.2.1 0)] (f_X8_suchSlips) := by
  refine ok_of0 (by decide) (Nat.le_of_ble_eq_true rfl) (fun X hX hV hS => ?_)
  subst hV
  exact t_X8_suchSlips_0 hX hS 
def f_X8_slips (x1 : Int32) : M Int32 :=
  if x1 = 0 then (bnd f_X8_hiddenSlips (fun v1 => rt v1)) else (if x1 = 1 then (bnd f_X8_fewestWays (fun v3 => rt v3)) else (if x1 = 2 then (bnd f_X8_listedSlips (fun v5 => rt v5)) else (if x1 = 3 then (bnd f_X8_suchSlips (fun v7 => rt v7)) else (rt (-1)))))
set_option maxRecDepth 10000 in
set_option maxHeartbeats 4000000 in
theorem t_X8_slips_0 {X : Cx} (hX : Good X RX8 cX8_slips ((some .int))) (hS : Sta X 6 141 2) (x1 : Int32) : Tr X eI 0 0 0 [(0, .ref (cxAd X 0)), (1, .int x1)] [] (f_X8_slips x1) := by
  unfold f_X8_slips
  refine tr_iload_n 1 hX dX8_slips_0 rfl rfl ?_
  refine tr_case 0 (fun c2 => ?_) (fun c2 => ?_)
  · refine tr_tabIn 0 32 hX dX8_slips_1 c2 (by decide) (by decide) rfl (by decide) ?_
    refine tr_aload_n 0 hX dX8_slips_32 rfl rfl ?_
    refine tr_callV0I (st := []) 0 hX hS dX8_slips_33 (ok_X8_hiddenSlips) sh_0 (by decide) rfl (Nat.le_of_ble_eq_true rfl) k_30_1 k_30_2 k_30_3 k_1_2 k_30_4 hy_X8_hiddenSlips rfl rfl (Nat.le_of_ble_eq_true rfl) rfl (fun v1 => ?_)
    exact tr_iret0 hX hS dX8_slips_36
  refine tr_case 1 (fun c4 => ?_) (fun c4 => ?_)
  · refine tr_tabIn 1 37 hX dX8_slips_1 c4 (by decide) (by decide) rfl (by decide) ?_
    refine tr_aload_n 0 hX dX8_slips_37 rfl rfl ?_
    refine tr_callV0I (st := []) 0 hX hS dX8_slips_38 (ok_X8_fewestWays) sh_0 (by decide) rfl (Nat.le_of_ble_eq_true rfl) k_30_16 k_30_17 k_30_18 k_1_2 k_30_19 hy_X8_fewestWays rfl rfl (Nat.le_of_ble_eq_true rfl) rfl (fun v3 => ?_)
    exact tr_iret0 hX hS dX8_slips_41
  refine tr_case 2 (fun c6 => ?_) (fun c6 => ?_)
  · refine tr_tabIn 2 42 hX dX8_slips_1 c6 (by decide) (by decide) rfl (by decide) ?_
    refine tr_aload_n 0 hX dX8_slips_42 rfl rfl ?_
    refine tr_callV0I (st := []) 0 hX hS dX8_slips_43 (ok_X8_listedSlips) sh_0 (by decide) rfl (Nat.le_of_ble_eq_true rfl) k_31_8 k_31_9 k_31_10 k_1_2 k_31_11 hy_X8_listedSlips rfl rfl (Nat.le_of_ble_eq_true rfl) rfl (fun v5 => ?_)
    exact tr_iret0 hX hS dX8_slips_46
  refine tr_case 3 (fun c8 => ?_) (fun c8 => ?_)
  · refine tr_tabIn 3 47 hX dX8_slips_1 c8 (by decide) (by decide) rfl (by decide) ?_
    refine tr_aload_n 0 hX dX8_slips_47 rfl rfl ?_
    refine tr_callV0I (st := []) 0 hX hS dX8_slips_48 (ok_X8_suchSlips) sh_0 (by decide) rfl (Nat.le_of_ble_eq_true rfl) k_31_16 k_31_17 k_31_18 k_1_2 k_31_19 hy_X8_suchSlips rfl rfl (Nat.le_of_ble_eq_true rfl) rfl (fun v7 => ?_)
    exact tr_iret0 hX hS dX8_slips_51
  have nc2 := lv_neT c2 (show (0 : Int32).toInt = 0 by decide)
  have nc4 := lv_neT c4 (show (1 : Int32).toInt = 1 by decide)
  have nc6 := lv_neT c6 (show (2 : Int32).toInt = 2 by decide)
  have nc8 := lv_neT c8 (show (3 : Int32).toInt = 3 by decide)
  refine tr_tabOut 52 hX dX8_slips_1 (by omega) (by decide) ?_
  refine tr_iconst (-1) hX dX8_slips_52 (by decide) ?_
  exact tr_iret0 hX hS dX8_slips_53
theorem ok_X8_slips {l : Launch} {E : Ev} (x1 : Int32)  : Ok l E Gall yX8_slips cX8_slips 2 ((some .int)) (rmz 6 141) eI [.ref (E.2.1 0), .int x1] (f_X8_slips x1) := by
  refine ok_of0 (by decide) (Nat.le_of_ble_eq_true rfl) (fun X hX hV hS => ?_)
  subst hV
  exact t_X8_slips_0 hX hS x1
def f_X8_list_18  : M Int32 :=
  rt (-1)
set_option maxRecDepth 10000 in
set_option maxHeartbeats 4000000 in
theorem t_X8_list_18 {X : Cx} (hX : Good X RX8 cX8_list ((some .int))) (hS : Sta X 1 21 7) : Tr X eI 0 0 18 [] [] (f_X8_list_18) := by
  unfold f_X8_list_18
  refine tr_iconst (-1) hX dX8_list_18 (by decide) ?_
  exact tr_iret0 hX hS dX8_list_19
def f_X8_list_118 (p0 : Int32) : M Int32 :=
  rt p0
set_option maxRecDepth 10000 in
set_option maxHeartbeats 4000000 in
theorem t_X8_list_118 {X : Cx} (hX : Good X RX8 cX8_list ((some .int))) (hS : Sta X 1 21 7) (p0 : Int32) : Tr X eI 0 0 118 [] [.int p0] (f_X8_list_118 p0) := by
  unfold f_X8_list_118
  exact tr_iret0 hX hS dX8_list_118
def f_X8_list_76 (s39 : Int32 → Int32 → Int32 → M Int32) (x1 : Int32) (x2 : Int32) (x3 : Nat) (x5 : Int32) (x6 : Int32) (p0 : Int32) (p1 : Int32) : M Int32 :=
  nm ((p1 + p0)) (fun v1 => rT 0 1 (fun t2 => aI x3 8 x6 (fun v3 => aI (t2 + 2) 16 v3 (fun v5 => nm ((x5 + v5)) (fun v7 => s39 v1 v7 (x6 + 1))))))
set_option maxRecDepth 10000 in
set_option maxHeartbeats 4000000 in
theorem t_X8_list_76 {X : Cx} (hX : Good X RX8 cX8_list ((some .int))) (hS : Sta X 1 21 7) (s39 : Int32 → Int32 → Int32 → M Int32) (x1 : Int32) (x2 : Int32) (x3 : Nat) (x5 : Int32) (x6 : Int32) (p0 : Int32) (p1 : Int32) (hx3 : isI x3 8) (hs39 : ∀ x4 : Int32, ∀ x5 : Int32, ∀ x6 : Int32, Tr X eI 0 0 39 [(0, .ref (cxAd X 0)), (1, .int x1), (2, .int x2), (3, .ref (cxAd X x3)), (4, .int x4), (5, .int x5), (6, .int x6)] [] (s39 x4 x5 x6)) : Tr X eI 0 0 76 [(0, .ref (cxAd X 0)), (1, .int x1), (2, .int x2), (3, .ref (cxAd X x3)), (5, .int x5), (6, .int x6)] [.int p0, .int p1] (f_X8_list_76 s39 x1 x2 x3 x5 x6 p0 p1) := by
  unfold f_X8_list_76
  refine tr_iadd hX dX8_list_76 ?_
  refine tr_nm (fun v1 ev1 => ?_)
  refine tr_istore hX dX8_list_77 (hS.n (by decide)) rfl ?_
  refine tr_iload 5 hX dX8_list_79 rfl ?_
  refine tr_aload_n 1 hX dX8_list_81 rfl rfl ?_
  refine tr_getT hX dX8_list_82 sh_0 (by decide) rfl inlX8 (by decide) rfl (hS.e (Nat.le_of_ble_eq_true rfl)) k_1_20 (fun t2 ht2 => ?_)
  refine tr_getF hX dX8_list_85 (shT ht2) (by decide) rfl inlX6 (by decide) rfl (hS.g (leT ht2)) (crT_2 ht2) k_32_17 (mqT ht2) ?_
  refine tr_aload_n 4 hX dX8_list_88 rfl rfl ?_
  refine tr_iload 6 hX dX8_list_89 rfl ?_
  refine tr_iald hX dX8_list_91 (hx3).1 (hS.e (hx3).2) (fun hb4 v3 => ?_)
  refine tr_iald hX dX8_list_92 (shT_2 ht2) (hS.e (leT_2 ht2)) (fun hb6 v5 => ?_)
  refine tr_iadd hX dX8_list_93 ?_
  refine tr_nm (fun v7 ev7 => ?_)
  refine tr_istore hX dX8_list_94 (hS.n (by decide)) rfl ?_
  refine tr_iinc (x6 + 1) 6 hX dX8_list_96 rfl (congrArg (fun z => x6 + z) (by decide)) (hS.n (by decide)) rfl ?_
  refine tr_goto 39 hX dX8_list_99 (by decide) ?_
  exact tr_sub [3, 4, 5, 6, 2, 1, 0] rfl (hs39 v1 v7 (x6 + 1))
def f_X8_list_39 (x1 : Int32) (x2 : Int32) (x3 : Nat) (s39 : Int32 → Int32 → Int32 → M Int32) (x4 : Int32) (x5 : Int32) (x6 : Int32) : M Int32 :=
  aI 28 6 x1 (fun v1 => if v1 ≤ x6 then (if x2 = 8 then (gd (¬ (16 : Int32) = 0) (f_X8_list_118 (x5 - x5 / 16 * 16))) else (f_X8_list_118 x4)) else (rT 0 1 (fun t4 => aI x3 8 x6 (fun v5 => aI (t4 + 1) 16 v5 (fun v7 => if v7 = x2 then (f_X8_list_76 s39 x1 x2 x3 x5 x6 1 x4) else (f_X8_list_76 s39 x1 x2 x3 x5 x6 0 x4))))))
set_option maxRecDepth 10000 in
set_option maxHeartbeats 4000000 in
theorem t_X8_list_39 {X : Cx} (hX : Good X RX8 cX8_list ((some .int))) (hS : Sta X 1 21 7) (x1 : Int32) (x2 : Int32) (x3 : Nat) (hx3 : isI x3 8) : ∀ s39 : Int32 → Int32 → Int32 → M Int32, (∀ x4 : Int32, ∀ x5 : Int32, ∀ x6 : Int32, Tr X eI 0 0 39 [(0, .ref (cxAd X 0)), (1, .int x1), (2, .int x2), (3, .ref (cxAd X x3)), (4, .int x4), (5, .int x5), (6, .int x6)] [] (s39 x4 x5 x6)) → ∀ x4 : Int32, ∀ x5 : Int32, ∀ x6 : Int32, Tr X eI 0 0 39 [(0, .ref (cxAd X 0)), (1, .int x1), (2, .int x2), (3, .ref (cxAd X x3)), (4, .int x4), (5, .int x5), (6, .int x6)] [] (f_X8_list_39 x1 x2 x3 s39 x4 x5 x6) := by
  intro s39 hs39 x4 x5 x6
  unfold f_X8_list_39
  refine tr_iload 6 hX dX8_list_39 rfl ?_
  refine tr_aload_n 0 hX dX8_list_41 rfl rfl ?_
  refine tr_getF hX dX8_list_42 sh_0 (by decide) rfl inlX8 (by decide) rfl (hS.g (Nat.le_of_ble_eq_true rfl)) cr_0_3 k_2_1 mq_0 ?_
  refine tr_getF hX dX8_list_45 sh_20 (by decide) rfl inlX0 (by decide) rfl (hS.g (Nat.le_of_ble_eq_true rfl)) cr_20_1 k_13_6 mq_20 ?_
  refine tr_iload_n 1 hX dX8_list_48 rfl rfl ?_
  refine tr_iald hX dX8_list_49 sh_28 (hS.e (Nat.le_of_ble_eq_true rfl)) (fun hb2 v1 => ?_)
  refine tr_ic_ge 102 hX dX8_list_50 (by decide) (fun c10 => ?_) (fun c10 => ?_)
  · refine tr_iload_n 2 hX dX8_list_102 rfl rfl ?_
    refine tr_bipush 8 hX dX8_list_103 (by decide) ?_
    refine tr_ic_ne 116 hX dX8_list_105 (by decide) (fun c3 => ?_) (fun c3 => ?_)
    · refine tr_iload 5 hX dX8_list_108 rfl ?_
      refine tr_bipush 16 hX dX8_list_110 (by decide) ?_
      refine tr_irem hX dX8_list_112 (fun _ => ?_)
      refine tr_goto 118 hX dX8_list_113 (by decide) ?_
      exact tr_sub [] rfl (t_X8_list_118 hX hS (x5 - x5 / 16 * 16))
    · refine tr_iload 4 hX dX8_list_116 rfl ?_
      exact tr_sub [] rfl (t_X8_list_118 hX hS x4)
  · refine tr_iload 4 hX dX8_list_53 rfl ?_
    refine tr_aload_n 0 hX dX8_list_55 rfl rfl ?_
    refine tr_getT hX dX8_list_56 sh_0 (by decide) rfl inlX8 (by decide) rfl (hS.e (Nat.le_of_ble_eq_true rfl)) k_1_20 (fun t4 ht4 => ?_)
    refine tr_getF hX dX8_list_59 (shT ht4) (by decide) rfl inlX6 (by decide) rfl (hS.g (leT ht4)) (crT_1 ht4) k_32_16 (mqT ht4) ?_
    refine tr_aload_n 3 hX dX8_list_62 rfl rfl ?_
    refine tr_iload 6 hX dX8_list_63 rfl ?_
    refine tr_iald hX dX8_list_65 (hx3).1 (hS.e (hx3).2) (fun hb6 v5 => ?_)
    refine tr_iald hX dX8_list_66 (shT_1 ht4) (hS.e (leT_1 ht4)) (fun hb8 v7 => ?_)
    refine tr_iload_n 2 hX dX8_list_67 rfl rfl ?_
    refine tr_ic_ne 75 hX dX8_list_68 (by decide) (fun c9 => ?_) (fun c9 => ?_)
    · refine tr_iconst 1 hX dX8_list_71 (by decide) ?_
      refine tr_goto 76 hX dX8_list_72 (by decide) ?_
      exact tr_sub [0, 1, 2, 3, 5, 6] rfl (t_X8_list_76 hX hS s39 x1 x2 x3 x5 x6 1 x4 (hx3) hs39)
    · refine tr_iconst 0 hX dX8_list_75 (by decide) ?_
      exact tr_sub [0, 1, 2, 3, 5, 6] rfl (t_X8_list_76 hX hS s39 x1 x2 x3 x5 x6 0 x4 (hx3) hs39)
def f_X8_list (x1 : Int32) (x2 : Int32) : M Int32 :=
  bnd (f_X8_isBelow x1 6) (fun v1 => if v1 = 0 then (f_X8_list_18) else (bnd (f_X8_isBelow x2 9) (fun v2 => if v2 = 0 then (f_X8_list_18) else (gd (inb x1 6) (fix3 FU (f_X8_list_39 x1 x2 (21 + 1 + x1.toNatClampNeg)) 0 0 0)))))
set_option maxRecDepth 10000 in
set_option maxHeartbeats 4000000 in
theorem t_X8_list_0 {X : Cx} (hX : Good X RX8 cX8_list ((some .int))) (hS : Sta X 1 21 7) (x1 : Int32) (x2 : Int32) : Tr X eI 0 0 0 [(0, .ref (cxAd X 0)), (1, .int x1), (2, .int x2)] [] (f_X8_list x1 x2) := by
  unfold f_X8_list
  refine tr_iload_n 1 hX dX8_list_0 rfl rfl ?_
  refine tr_bipush 6 hX dX8_list_1 (by decide) ?_
  refine tr_callS0I (st := []) 2 hX hS dX8_list_3 (ok_X8_isBelow x1 6) k_12_19 k_12_20 k_1_2 k_12_21 hy_X8_isBelow.2 rfl rfl (Nat.le_of_ble_eq_true rfl) rfl (fun v1 => ?_)
  refine tr_if_eq 18 hX dX8_list_6 (by decide) (fun c5 => ?_) (fun c5 => ?_)
  · exact tr_sub [] rfl (t_X8_list_18 hX hS)
  · refine tr_iload_n 2 hX dX8_list_9 rfl rfl ?_
    refine tr_bipush 9 hX dX8_list_10 (by decide) ?_
    refine tr_callS0I (st := []) 2 hX hS dX8_list_12 (ok_X8_isBelow x2 9) k_12_19 k_12_20 k_1_2 k_12_21 hy_X8_isBelow.2 rfl rfl (Nat.le_of_ble_eq_true rfl) rfl (fun v2 => ?_)
    refine tr_if_ne 20 hX dX8_list_15 (by decide) (fun c4 => ?_) (fun c4 => ?_)
    · exact tr_sub [] rfl (t_X8_list_18 hX hS)
    · refine tr_aload_n 0 hX dX8_list_20 rfl rfl ?_
      refine tr_getF hX dX8_list_21 sh_0 (by decide) rfl inlX8 (by decide) rfl (hS.g (Nat.le_of_ble_eq_true rfl)) cr_0_3 k_2_1 mq_0 ?_
      refine tr_getF hX dX8_list_24 sh_20 (by decide) rfl inlX0 (by decide) rfl (hS.g (Nat.le_of_ble_eq_true rfl)) cr_20_0 k_13_7 mq_20 ?_
      refine tr_iload_n 1 hX dX8_list_27 rfl rfl ?_
      refine tr_aald hX dX8_list_28 sh_21 (hS.e (Nat.le_of_ble_eq_true rfl)) (fun hb3 => ?_)
      refine tr_astore_n hX dX8_list_29 rfl (hS.n (by decide)) rfl ?_
      refine tr_iconst 0 hX dX8_list_30 (by decide) ?_
      refine tr_istore hX dX8_list_31 (hS.n (by decide)) rfl ?_
      refine tr_iconst 0 hX dX8_list_33 (by decide) ?_
      refine tr_istore hX dX8_list_34 (hS.n (by decide)) rfl ?_
      refine tr_iconst 0 hX dX8_list_36 (by decide) ?_
      refine tr_istore hX dX8_list_37 (hS.n (by decide)) rfl ?_
      exact tr_sub [4, 5, 6, 3, 2, 1, 0] rfl (tr_fix3 (lvf := fun x4 x5 x6 => [(0, .ref (cxAd X 0)), (1, .int x1), (2, .int x2), (3, .ref (cxAd X (21 + 1 + x1.toNatClampNeg))), (4, .int x4), (5, .int x5), (6, .int x6)]) (t_X8_list_39 hX hS x1 x2 (21 + 1 + x1.toNatClampNeg) (row_21 hb3)) FU 0 0 0)
theorem ok_X8_list {l : Launch} {E : Ev} (x1 : Int32) (x2 : Int32)  : Ok l E Gall yX8_list cX8_list 7 ((some .int)) (rmz 1 21) eI [.ref (E.2.1 0), .int x1, .int x2] (f_X8_list x1 x2) := by
  refine ok_of0 (by decide) (Nat.le_of_ble_eq_true rfl) (fun X hX hV hS => ?_)
  subst hV
  exact t_X8_list_0 hX hS x1 x2
def f_X8_head_31  : M Int32 :=
  rt (-1)
set_option maxRecDepth 10000 in
set_option maxHeartbeats 4000000 in
theorem t_X8_head_31 {X : Cx} (hX : Good X RX8 cX8_head ((some .int))) (hS : Sta X 2 43 4) : Tr X eI 0 0 31 [] [] (f_X8_head_31) := by
  unfold f_X8_head_31
  refine tr_iconst (-1) hX dX8_head_31 (by decide) ?_
  exact tr_iret0 hX hS dX8_head_32
def f_X8_head (x1 : Int32) (x2 : Int32) (x3 : Int32) : M Int32 :=
  bnd (f_X8_isBelow x1 3001) (fun v1 => if v1 = 0 then (f_X8_head_31) else (bnd (f_X8_isBelow x3 6) (fun v2 => if v2 = 0 then (f_X8_head_31) else (bnd (f_X2_mayTeach x2 x1) (fun v3 => if v3 = 0 then (f_X8_head_31) else (bnd (f_X2_append x1 x2 x3) (fun v4 => rt v4)))))))
set_option maxRecDepth 10000 in
set_option maxHeartbeats 4000000 in
theorem t_X8_head_0 {X : Cx} (hX : Good X RX8 cX8_head ((some .int))) (hS : Sta X 2 43 4) (x1 : Int32) (x2 : Int32) (x3 : Int32) : Tr X eI 0 0 0 [(0, .ref (cxAd X 0)), (1, .int x1), (2, .int x2), (3, .int x3)] [] (f_X8_head x1 x2 x3) := by
  unfold f_X8_head
  refine tr_iload_n 1 hX dX8_head_0 rfl rfl ?_
  refine tr_sipush 3001 hX dX8_head_1 (by decide) ?_
  refine tr_callS0I (st := []) 2 hX hS dX8_head_4 (ok_X8_isBelow x1 3001) k_12_19 k_12_20 k_1_2 k_12_21 hy_X8_isBelow.2 rfl rfl (Nat.le_of_ble_eq_true rfl) rfl (fun v1 => ?_)
  refine tr_if_eq 31 hX dX8_head_7 (by decide) (fun c7 => ?_) (fun c7 => ?_)
  · exact tr_sub [] rfl (t_X8_head_31 hX hS)
  · refine tr_iload_n 3 hX dX8_head_10 rfl rfl ?_
    refine tr_bipush 6 hX dX8_head_11 (by decide) ?_
    refine tr_callS0I (st := []) 2 hX hS dX8_head_13 (ok_X8_isBelow x3 6) k_12_19 k_12_20 k_1_2 k_12_21 hy_X8_isBelow.2 rfl rfl (Nat.le_of_ble_eq_true rfl) rfl (fun v2 => ?_)
    refine tr_if_eq 31 hX dX8_head_16 (by decide) (fun c6 => ?_) (fun c6 => ?_)
    · exact tr_sub [] rfl (t_X8_head_31 hX hS)
    · refine tr_aload_n 0 hX dX8_head_19 rfl rfl ?_
      refine tr_getF hX dX8_head_20 sh_0 (by decide) rfl inlX8 (by decide) rfl (hS.g (Nat.le_of_ble_eq_true rfl)) cr_0_10 k_2_19 mq_0 ?_
      refine tr_iload_n 2 hX dX8_head_23 rfl rfl ?_
      refine tr_iload_n 1 hX dX8_head_24 rfl rfl ?_
      refine tr_callV0I (st := []) 2 hX hS dX8_head_25 (ok_X2_mayTeach x2 x1) sh_154 (by decide) rfl (Nat.le_of_ble_eq_true rfl) k_33_2 k_33_3 k_33_4 k_2_18 k_33_5 hy_X2_mayTeach rfl rfl (Nat.le_of_ble_eq_true rfl) rfl (fun v3 => ?_)
      refine tr_if_ne 33 hX dX8_head_28 (by decide) (fun c5 => ?_) (fun c5 => ?_)
      · exact tr_sub [] rfl (t_X8_head_31 hX hS)
      · refine tr_aload_n 0 hX dX8_head_33 rfl rfl ?_
        refine tr_getF hX dX8_head_34 sh_0 (by decide) rfl inlX8 (by decide) rfl (hS.g (Nat.le_of_ble_eq_true rfl)) cr_0_10 k_2_19 mq_0 ?_
        refine tr_iload_n 1 hX dX8_head_37 rfl rfl ?_
        refine tr_iload_n 2 hX dX8_head_38 rfl rfl ?_
        refine tr_iload_n 3 hX dX8_head_39 rfl rfl ?_
        refine tr_callV0I (st := []) 3 hX hS dX8_head_40 (ok_X2_append x1 x2 x3) sh_154 (by decide) rfl (Nat.le_of_ble_eq_true rfl) k_33_7 k_33_8 k_33_9 k_2_18 k_33_10 hy_X2_append rfl rfl (Nat.le_of_ble_eq_true rfl) rfl (fun v4 => ?_)
        exact tr_iret0 hX hS dX8_head_43
theorem ok_X8_head {l : Launch} {E : Ev} (x1 : Int32) (x2 : Int32) (x3 : Int32)  : Ok l E Gall yX8_head cX8_head 4 ((some .int)) (rmz 2 43) eI [.ref (E.2.1 0), .int x1, .int x2, .int x3] (f_X8_head x1 x2 x3) := by
  refine ok_of0 (by decide) (Nat.le_of_ble_eq_true rfl) (fun X hX hV hS => ?_)
  subst hV
  exact t_X8_head_0 hX hS x1 x2 x3
def f_X8_alive_33 (x1 : Int32) (x2 : Int32) (p0 : Int32) : M Int32 :=
  sI 155 16 x1 (vp_nar .boolean x2) (rt p0)
set_option maxRecDepth 10000 in
set_option maxHeartbeats 4000000 in
theorem t_X8_alive_33 {X : Cx} (hX : Good X RX8 cX8_alive ((some .int))) (hS : Sta X 1 21 4) (x1 : Int32) (x2 : Int32) (p0 : Int32) : Tr X eI 0 0 33 [(0, .ref (cxAd X 0)), (1, .int x1), (2, .int x2)] [.int p0] (f_X8_alive_33 x1 x2 p0) := by
  unfold f_X8_alive_33
  refine tr_istore_n hX dX8_alive_33 rfl (hS.n (by decide)) rfl ?_
  refine tr_aload_n 1 hX dX8_alive_34 rfl rfl ?_
  refine tr_getF hX dX8_alive_35 sh_0 (by decide) rfl inlX8 (by decide) rfl (hS.g (Nat.le_of_ble_eq_true rfl)) cr_0_10 k_2_19 mq_0 ?_
  refine tr_getF hX dX8_alive_38 sh_154 (by decide) rfl inlX2 (by decide) rfl (hS.g (Nat.le_of_ble_eq_true rfl)) cr_154_1 k_33_21 mq_154 ?_
  refine tr_iload_n 2 hX dX8_alive_41 rfl rfl ?_
  refine tr_iload_n 3 hX dX8_alive_42 rfl rfl ?_
  refine tr_zast hX dX8_alive_43 sh_155 (hS.e (Nat.le_of_ble_eq_true rfl)) (fun _ => ?_)
  refine tr_iload_n 0 hX dX8_alive_44 rfl rfl ?_
  exact tr_iret0 hX hS dX8_alive_45
def f_X8_alive (x1 : Int32) (x2 : Int32) : M Int32 :=
  rI 154 0 (fun v1 => bnd (f_X8_isBelow x1 v1) (fun v2 => if v2 = 0 then (rt (-1)) else (aI 155 16 x1 (fun v3 => if v3 = 0 then (f_X8_alive_33 x1 x2 0) else (f_X8_alive_33 x1 x2 1)))))
set_option maxRecDepth 10000 in
set_option maxHeartbeats 4000000 in
theorem t_X8_alive_0 {X : Cx} (hX : Good X RX8 cX8_alive ((some .int))) (hS : Sta X 1 21 4) (x1 : Int32) (x2 : Int32) : Tr X eI 0 0 0 [(0, .ref (cxAd X 0)), (1, .int x1), (2, .int x2)] [] (f_X8_alive x1 x2) := by
  unfold f_X8_alive
  refine tr_iload_n 1 hX dX8_alive_0 rfl rfl ?_
  refine tr_aload_n 0 hX dX8_alive_1 rfl rfl ?_
  refine tr_getF hX dX8_alive_2 sh_0 (by decide) rfl inlX8 (by decide) rfl (hS.g (Nat.le_of_ble_eq_true rfl)) cr_0_10 k_2_19 mq_0 ?_
  refine tr_getI hX dX8_alive_5 sh_154 (by decide) rfl inlX2 (by decide) rfl (hS.e (Nat.le_of_ble_eq_true rfl)) k_11_19 (fun v1 => ?_)
  refine tr_callS0I (st := []) 2 hX hS dX8_alive_8 (ok_X8_isBelow x1 v1) k_12_19 k_12_20 k_1_2 k_12_21 hy_X8_isBelow.2 rfl rfl (Nat.le_of_ble_eq_true rfl) rfl (fun v2 => ?_)
  refine tr_if_ne 16 hX dX8_alive_11 (by decide) (fun c6 => ?_) (fun c6 => ?_)
  · refine tr_iconst (-1) hX dX8_alive_14 (by decide) ?_
    exact tr_iret0 hX hS dX8_alive_15
  · refine tr_aload_n 0 hX dX8_alive_16 rfl rfl ?_
    refine tr_getF hX dX8_alive_17 sh_0 (by decide) rfl inlX8 (by decide) rfl (hS.g (Nat.le_of_ble_eq_true rfl)) cr_0_10 k_2_19 mq_0 ?_
    refine tr_getF hX dX8_alive_20 sh_154 (by decide) rfl inlX2 (by decide) rfl (hS.g (Nat.le_of_ble_eq_true rfl)) cr_154_1 k_33_21 mq_154 ?_
    refine tr_iload_n 1 hX dX8_alive_23 rfl rfl ?_
    refine tr_zald hX dX8_alive_24 sh_155 (hS.e (Nat.le_of_ble_eq_true rfl)) (fun hb4 v3 => ?_)
    refine tr_if_eq 32 hX dX8_alive_25 (by decide) (fun c5 => ?_) (fun c5 => ?_)
    · refine tr_iconst 0 hX dX8_alive_32 (by decide) ?_
      exact tr_sub [0, 1, 2] rfl (t_X8_alive_33 hX hS x1 x2 0)
    · refine tr_iconst 1 hX dX8_alive_28 (by decide) ?_
      refine tr_goto 33 hX dX8_alive_29 (by decide) ?_
      exact tr_sub [0, 1, 2] rfl (t_X8_alive_33 hX hS x1 x2 1)
theorem ok_X8_alive {l : Launch} {E : Ev} (x1 : Int32) (x2 : Int32)  : Ok l E Gall yX8_alive cX8_alive 4 ((some .int)) (rmz 1 21) eI [.ref (E.2.1 0), .int x1, .int x2] (f_X8_alive x1 x2) := by
  refine ok_of0 (by decide) (Nat.le_of_ble_eq_true rfl) (fun X hX hV hS => ?_)
  subst hV
  exact t_X8_alive_0 hX hS x1 x2
def f_X8_same_31 (p0 : Int32) : M Int32 :=
  rt p0
set_option maxRecDepth 10000 in
set_option maxHeartbeats 4000000 in
theorem t_X8_same_31 {X : Cx} (hX : Good X RX8 cX8_same ((some .int))) (hS : Sta X 1 25 2) (p0 : Int32) : Tr X eI 0 0 31 [] [.int p0] (f_X8_same_31 p0) := by
  unfold f_X8_same_31
  exact tr_iret0 hX hS dX8_same_31
def f_X8_same (x1 : Int32) : M Int32 :=
  bnd (f_X8_isBelow x1 8) (fun v1 => if v1 = 0 then (rt (-1)) else (bnd (f_X2_agree 20 x1) (fun v2 => if v2 = 0 then (f_X8_same_31 0) else (f_X8_same_31 1))))
set_option maxRecDepth 10000 in
set_option maxHeartbeats 4000000 in
theorem t_X8_same_0 {X : Cx} (hX : Good X RX8 cX8_same ((some .int))) (hS : Sta X 1 25 2) (x1 : Int32) : Tr X eI 0 0 0 [(0, .ref (cxAd X 0)), (1, .int x1)] [] (f_X8_same x1) := by
  unfold f_X8_same
  refine tr_iload_n 1 hX dX8_same_0 rfl rfl ?_
  refine tr_bipush 8 hX dX8_same_1 (by decide) ?_
  refine tr_callS0I (st := []) 2 hX hS dX8_same_3 (ok_X8_isBelow x1 8) k_12_19 k_12_20 k_1_2 k_12_21 hy_X8_isBelow.2 rfl rfl (Nat.le_of_ble_eq_true rfl) rfl (fun v1 => ?_)
  refine tr_if_ne 11 hX dX8_same_6 (by decide) (fun c4 => ?_) (fun c4 => ?_)
  · refine tr_iconst (-1) hX dX8_same_9 (by decide) ?_
    exact tr_iret0 hX hS dX8_same_10
  · refine tr_aload_n 0 hX dX8_same_11 rfl rfl ?_
    refine tr_getF hX dX8_same_12 sh_0 (by decide) rfl inlX8 (by decide) rfl (hS.g (Nat.le_of_ble_eq_true rfl)) cr_0_10 k_2_19 mq_0 ?_
    refine tr_aload_n 0 hX dX8_same_15 rfl rfl ?_
    refine tr_getF hX dX8_same_16 sh_0 (by decide) rfl inlX8 (by decide) rfl (hS.g (Nat.le_of_ble_eq_true rfl)) cr_0_3 k_2_1 mq_0 ?_
    refine tr_iload_n 1 hX dX8_same_19 rfl rfl ?_
    refine tr_callV0I (st := []) 2 hX hS dX8_same_20 (ok_X2_agree 20 x1 (by decide)) sh_154 (by decide) rfl (Nat.le_of_ble_eq_true rfl) k_34_10 k_34_11 k_34_12 k_2_18 k_34_13 hy_X2_agree rfl rfl (Nat.le_of_ble_eq_true rfl) rfl (fun v2 => ?_)
    refine tr_if_eq 30 hX dX8_same_23 (by decide) (fun c3 => ?_) (fun c3 => ?_)
    · refine tr_iconst 0 hX dX8_same_30 (by decide) ?_
      exact tr_sub [] rfl (t_X8_same_31 hX hS 0)
    · refine tr_iconst 1 hX dX8_same_26 (by decide) ?_
      refine tr_goto 31 hX dX8_same_27 (by decide) ?_
      exact tr_sub [] rfl (t_X8_same_31 hX hS 1)
theorem ok_X8_same {l : Launch} {E : Ev} (x1 : Int32)  : Ok l E Gall yX8_same cX8_same 2 ((some .int)) (rmz 1 25) eI [.ref (E.2.1 0), .int x1] (f_X8_same x1) := by
  refine ok_of0 (by decide) (Nat.le_of_ble_eq_true rfl) (fun X hX hV hS => ?_)
  subst hV
  exact t_X8_same_0 hX hS x1
def f_X8_since_23  : M Int32 :=
  rt (-1)
set_option maxRecDepth 10000 in
set_option maxHeartbeats 4000000 in
theorem t_X8_since_23 {X : Cx} (hX : Good X RX8 cX8_since ((some .int))) (hS : Sta X 2 47 3) : Tr X eI 0 0 23 [] [] (f_X8_since_23) := by
  unfold f_X8_since_23
  refine tr_iconst (-1) hX dX8_since_23 (by decide) ?_
  exact tr_iret0 hX hS dX8_since_24
def f_X8_since_53 (p0 : Int32) : M Int32 :=
  rt p0
set_option maxRecDepth 10000 in
set_option maxHeartbeats 4000000 in
theorem t_X8_since_53 {X : Cx} (hX : Good X RX8 cX8_since ((some .int))) (hS : Sta X 2 47 3) (p0 : Int32) : Tr X eI 0 0 53 [] [.int p0] (f_X8_since_53 p0) := by
  unfold f_X8_since_53
  exact tr_iret0 hX hS dX8_since_53
def f_X8_since (x1 : Int32) (x2 : Int32) : M Int32 :=
  bnd (f_X8_isBelow x1 8) (fun v1 => if v1 = 0 then (f_X8_since_23) else (rT 0 1 (fun t2 => rI t2 0 (fun v3 => bnd (f_X8_isBelow x2 v3) (fun v4 => if v4 = 0 then (f_X8_since_23) else (bnd (f_X2_allHave 20 x1 x2) (fun v5 => if v5 = 0 then (f_X8_since_53 (-4)) else (bnd f_X2_latestCommonYear (fun v6 => f_X8_since_53 v6)))))))))
set_option maxRecDepth 10000 in
set_option maxHeartbeats 4000000 in
theorem t_X8_since_0 {X : Cx} (hX : Good X RX8 cX8_since ((some .int))) (hS : Sta X 2 47 3) (x1 : Int32) (x2 : Int32) : Tr X eI 0 0 0 [(0, .ref (cxAd X 0)), (1, .int x1), (2, .int x2)] [] (f_X8_since x1 x2) := by
  unfold f_X8_since
  refine tr_iload_n 1 hX dX8_since_0 rfl rfl ?_
  refine tr_bipush 8 hX dX8_since_1 (by decide) ?_
  refine tr_callS0I (st := []) 2 hX hS dX8_since_3 (ok_X8_isBelow x1 8) k_12_19 k_12_20 k_1_2 k_12_21 hy_X8_isBelow.2 rfl rfl (Nat.le_of_ble_eq_true rfl) rfl (fun v1 => ?_)
  refine tr_if_eq 23 hX dX8_since_6 (by decide) (fun c9 => ?_) (fun c9 => ?_)
  · exact tr_sub [] rfl (t_X8_since_23 hX hS)
  · refine tr_iload_n 2 hX dX8_since_9 rfl rfl ?_
    refine tr_aload_n 0 hX dX8_since_10 rfl rfl ?_
    refine tr_getT hX dX8_since_11 sh_0 (by decide) rfl inlX8 (by decide) rfl (hS.e (Nat.le_of_ble_eq_true rfl)) k_1_20 (fun t2 ht2 => ?_)
    refine tr_getI hX dX8_since_14 (shT ht2) (by decide) rfl inlX6 (by decide) rfl (hS.e (leT ht2)) k_11_21 (fun v3 => ?_)
    refine tr_callS0I (st := []) 2 hX hS dX8_since_17 (ok_X8_isBelow x2 v3) k_12_19 k_12_20 k_1_2 k_12_21 hy_X8_isBelow.2 rfl rfl (Nat.le_of_ble_eq_true rfl) rfl (fun v4 => ?_)
    refine tr_if_ne 25 hX dX8_since_20 (by decide) (fun c8 => ?_) (fun c8 => ?_)
    · exact tr_sub [] rfl (t_X8_since_23 hX hS)
    · refine tr_aload_n 0 hX dX8_since_25 rfl rfl ?_
      refine tr_getF hX dX8_since_26 sh_0 (by decide) rfl inlX8 (by decide) rfl (hS.g (Nat.le_of_ble_eq_true rfl)) cr_0_10 k_2_19 mq_0 ?_
      refine tr_aload_n 0 hX dX8_since_29 rfl rfl ?_
      refine tr_getF hX dX8_since_30 sh_0 (by decide) rfl inlX8 (by decide) rfl (hS.g (Nat.le_of_ble_eq_true rfl)) cr_0_3 k_2_1 mq_0 ?_
      refine tr_iload_n 1 hX dX8_since_33 rfl rfl ?_
      refine tr_iload_n 2 hX dX8_since_34 rfl rfl ?_
      refine tr_callV0I (st := []) 3 hX hS dX8_since_35 (ok_X2_allHave 20 x1 x2 (by decide)) sh_154 (by decide) rfl (Nat.le_of_ble_eq_true rfl) k_35_8 k_35_9 k_35_10 k_2_18 k_35_11 hy_X2_allHave rfl rfl (Nat.le_of_ble_eq_true rfl) rfl (fun v5 => ?_)
      refine tr_if_eq 51 hX dX8_since_38 (by decide) (fun c7 => ?_) (fun c7 => ?_)
      · refine tr_bipush (-4) hX dX8_since_51 (by decide) ?_
        exact tr_sub [] rfl (t_X8_since_53 hX hS (-4))
      · refine tr_aload_n 0 hX dX8_since_41 rfl rfl ?_
        refine tr_getF hX dX8_since_42 sh_0 (by decide) rfl inlX8 (by decide) rfl (hS.g (Nat.le_of_ble_eq_true rfl)) cr_0_10 k_2_19 mq_0 ?_
        refine tr_callV0I (st := []) 0 hX hS dX8_since_45 (ok_X2_latestCommonYear) sh_154 (by decide) rfl (Nat.le_of_ble_eq_true rfl) k_35_16 k_35_17 k_35_18 k_2_18 k_35_19 hy_X2_latestCommonYear rfl rfl (Nat.le_of_ble_eq_true rfl) rfl (fun v6 => ?_)
        refine tr_goto 53 hX dX8_since_48 (by decide) ?_
        exact tr_sub [] rfl (t_X8_since_53 hX hS v6)
theorem ok_X8_since {l : Launch} {E : Ev} (x1 : Int32) (x2 : Int32)  : Ok l E Gall yX8_since cX8_since 3 ((some .int)) (rmz 2 47) eI [.ref (E.2.1 0), .int x1, .int x2] (f_X8_since x1 x2) := by
  refine ok_of0 (by decide) (Nat.le_of_ble_eq_true rfl) (fun X hX hV hS => ?_)
  subst hV
  exact t_X8_since_0 hX hS x1 x2
def f_X8_lost (x1 : Int32) : M Int32 :=
  bnd (f_X2_isSet x1) (fun v1 => if v1 = 0 then (rt (-1)) else (bnd (f_X2_versesOf x1) (fun v2 => bnd (f_X2_versesOf (x1 ^^^ (-1))) (fun v3 => rt (v2 &&& (v3 ^^^ (-1)))))))
set_option maxRecDepth 10000 in
set_option maxHeartbeats 4000000 in
theorem t_X8_lost_0 {X : Cx} (hX : Good X RX8 cX8_lost ((some .int))) (hS : Sta X 1 23 2) (x1 : Int32) : Tr X eI 0 0 0 [(0, .ref (cxAd X 0)), (1, .int x1)] [] (f_X8_lost x1) := by
  unfold f_X8_lost
  refine tr_aload_n 0 hX dX8_lost_0 rfl rfl ?_
  refine tr_getF hX dX8_lost_1 sh_0 (by decide) rfl inlX8 (by decide) rfl (hS.g (Nat.le_of_ble_eq_true rfl)) cr_0_10 k_2_19 mq_0 ?_
  refine tr_iload_n 1 hX dX8_lost_4 rfl rfl ?_
  refine tr_callV0I (st := []) 1 hX hS dX8_lost_5 (ok_X2_isSet x1) sh_154 (by decide) rfl (Nat.le_of_ble_eq_true rfl) k_36_9 k_36_10 k_36_11 k_2_18 k_36_12 hy_X2_isSet rfl rfl (Nat.le_of_ble_eq_true rfl) rfl (fun v1 => ?_)
  refine tr_if_ne 13 hX dX8_lost_8 (by decide) (fun c4 => ?_) (fun c4 => ?_)
  · refine tr_iconst (-1) hX dX8_lost_11 (by decide) ?_
    exact tr_iret0 hX hS dX8_lost_12
  · refine tr_aload_n 0 hX dX8_lost_13 rfl rfl ?_
    refine tr_getF hX dX8_lost_14 sh_0 (by decide) rfl inlX8 (by decide) rfl (hS.g (Nat.le_of_ble_eq_true rfl)) cr_0_10 k_2_19 mq_0 ?_
    refine tr_iload_n 1 hX dX8_lost_17 rfl rfl ?_
    refine tr_callV0I (st := []) 1 hX hS dX8_lost_18 (ok_X2_versesOf x1) sh_154 (by decide) rfl (Nat.le_of_ble_eq_true rfl) k_36_13 k_36_14 k_36_15 k_2_18 k_36_16 hy_X2_versesOf rfl rfl (Nat.le_of_ble_eq_true rfl) rfl (fun v2 => ?_)
    refine tr_aload_n 0 hX dX8_lost_21 rfl rfl ?_
    refine tr_getF hX dX8_lost_22 sh_0 (by decide) rfl inlX8 (by decide) rfl (hS.g (Nat.le_of_ble_eq_true rfl)) cr_0_10 k_2_19 mq_0 ?_
    refine tr_iload_n 1 hX dX8_lost_25 rfl rfl ?_
    refine tr_iconst (-1) hX dX8_lost_26 (by decide) ?_
    refine tr_ixor hX dX8_lost_27 ?_
    refine tr_callV0I (st := [.int v2]) 1 hX hS dX8_lost_28 (ok_X2_versesOf (x1 ^^^ (-1))) sh_154 (by decide) rfl (Nat.le_of_ble_eq_true rfl) k_36_13 k_36_14 k_36_15 k_2_18 k_36_16 hy_X2_versesOf rfl rfl (Nat.le_of_ble_eq_true rfl) rfl (fun v3 => ?_)
    refine tr_iconst (-1) hX dX8_lost_31 (by decide) ?_
    refine tr_ixor hX dX8_lost_32 ?_
    refine tr_iand hX dX8_lost_33 ?_
    exact tr_iret0 hX hS dX8_lost_34
theorem ok_X8_lost {l : Launch} {E : Ev} (x1 : Int32)  : Ok l E Gall yX8_lost cX8_lost 2 ((some .int)) (rmz 1 23) eI [.ref (E.2.1 0), .int x1] (f_X8_lost x1) := by
  refine ok_of0 (by decide) (Nat.le_of_ble_eq_true rfl) (fun X hX hV hS => ?_)
  subst hV
  exact t_X8_lost_0 hX hS x1
def f_X8_from_20  : M Int32 :=
  rt (-1)
set_option maxRecDepth 10000 in
set_option maxHeartbeats 4000000 in
theorem t_X8_from_20 {X : Cx} (hX : Good X RX8 cX8_from ((some .int))) (hS : Sta X 1 23 3) : Tr X eI 0 0 20 [] [] (f_X8_from_20) := by
  unfold f_X8_from_20
  refine tr_iconst (-1) hX dX8_from_20 (by decide) ?_
  exact tr_iret0 hX hS dX8_from_21
def f_X8_from (x1 : Int32) (x2 : Int32) : M Int32 :=
  bnd (f_X2_isSet x1) (fun v1 => if v1 = 0 then (f_X8_from_20) else (bnd (f_X8_isBelow x2 6) (fun v2 => if v2 = 0 then (f_X8_from_20) else (bnd (f_X2_lowestWith (x1 ^^^ (-1)) x2) (fun v3 => rt v3)))))
set_option maxRecDepth 10000 in
set_option maxHeartbeats 4000000 in
theorem t_X8_from_0 {X : Cx} (hX : Good X RX8 cX8_from ((some .int))) (hS : Sta X 1 23 3) (x1 : Int32) (x2 : Int32) : Tr X eI 0 0 0 [(0, .ref (cxAd X 0)), (1, .int x1), (2, .int x2)] [] (f_X8_from x1 x2) := by
  unfold f_X8_from
  refine tr_aload_n 0 hX dX8_from_0 rfl rfl ?_
  refine tr_getF hX dX8_from_1 sh_0 (by decide) rfl inlX8 (by decide) rfl (hS.g (Nat.le_of_ble_eq_true rfl)) cr_0_10 k_2_19 mq_0 ?_
  refine tr_iload_n 1 hX dX8_from_4 rfl rfl ?_
  refine tr_callV0I (st := []) 1 hX hS dX8_from_5 (ok_X2_isSet x1) sh_154 (by decide) rfl (Nat.le_of_ble_eq_true rfl) k_36_9 k_36_10 k_36_11 k_2_18 k_36_12 hy_X2_isSet rfl rfl (Nat.le_of_ble_eq_true rfl) rfl (fun v1 => ?_)
  refine tr_if_eq 20 hX dX8_from_8 (by decide) (fun c5 => ?_) (fun c5 => ?_)
  · exact tr_sub [] rfl (t_X8_from_20 hX hS)
  · refine tr_iload_n 2 hX dX8_from_11 rfl rfl ?_
    refine tr_bipush 6 hX dX8_from_12 (by decide) ?_
    refine tr_callS0I (st := []) 2 hX hS dX8_from_14 (ok_X8_isBelow x2 6) k_12_19 k_12_20 k_1_2 k_12_21 hy_X8_isBelow.2 rfl rfl (Nat.le_of_ble_eq_true rfl) rfl (fun v2 => ?_)
    refine tr_if_ne 22 hX dX8_from_17 (by decide) (fun c4 => ?_) (fun c4 => ?_)
    · exact tr_sub [] rfl (t_X8_from_20 hX hS)
    · refine tr_aload_n 0 hX dX8_from_22 rfl rfl ?_
      refine tr_getF hX dX8_from_23 sh_0 (by decide) rfl inlX8 (by decide) rfl (hS.g (Nat.le_of_ble_eq_true rfl)) cr_0_10 k_2_19 mq_0 ?_
      refine tr_iload_n 1 hX dX8_from_26 rfl rfl ?_
      refine tr_iconst (-1) hX dX8_from_27 (by decide) ?_
      refine tr_ixor hX dX8_from_28 ?_
      refine tr_iload_n 2 hX dX8_from_29 rfl rfl ?_
      refine tr_callV0I (st := []) 2 hX hS dX8_from_30 (ok_X2_lowestWith (x1 ^^^ (-1)) x2) sh_154 (by decide) rfl (Nat.le_of_ble_eq_true rfl) k_37_5 k_37_6 k_37_7 k_2_18 k_37_8 hy_X2_lowestWith rfl rfl (Nat.le_of_ble_eq_true rfl) rfl (fun v3 => ?_)
      exact tr_iret0 hX hS dX8_from_33
theorem ok_X8_from {l : Launch} {E : Ev} (x1 : Int32) (x2 : Int32)  : Ok l E Gall yX8_from cX8_from 3 ((some .int)) (rmz 1 23) eI [.ref (E.2.1 0), .int x1, .int x2] (f_X8_from x1 x2) := by
  refine ok_of0 (by decide) (Nat.le_of_ble_eq_true rfl) (fun X hX hV hS => ?_)
  subst hV
  exact t_X8_from_0 hX hS x1 x2
def f_X8_commonDivisor_34 (x2 : Int32) : M Int32 :=
  rt (if 1 < x2 then x2 else 1)
set_option maxRecDepth 10000 in
set_option maxHeartbeats 4000000 in
theorem t_X8_commonDivisor_34 {X : Cx} (hX : Good X RX8 cX8_commonDivisor ((some .int))) (hS : Sta X 1 13 6) (x2 : Int32) : Tr X eI 0 0 34 [(2, .int x2)] [] (f_X8_commonDivisor_34 x2) := by
  unfold f_X8_commonDivisor_34
  refine tr_iconst 1 hX dX8_commonDivisor_34 (by decide) ?_
  refine tr_iload_n 0 hX dX8_commonDivisor_35 rfl rfl ?_
  refine tr_max hX dX8_commonDivisor_36 k_25_7 k_21_3 k_20_16 k_21_4 (by rw [hS.2.2.2.2.1]; exact Nat.le_of_ble_eq_true rfl) (by rw [hS.2.2.2.2.1]; exact Nat.le_of_ble_eq_true rfl) (Nat.zero_le _) (Nat.zero_le _) ?_
  exact tr_iret0 hX hS dX8_commonDivisor_39
def f_X8_commonDivisor_7 (s7 : Int32 → Int32 → Int32 → M Int32) (x2 : Int32) (x3 : Int32) (x4 : Int32) : M Int32 :=
  if 64 ≤ x4 then (f_X8_commonDivisor_34 x2) else (if x3 ≤ 0 then (f_X8_commonDivisor_34 x2) else (gd (¬ (x3 : Int32) = 0) (nm ((x2 - x2 / x3 * x3)) (fun v1 => s7 x3 v1 (x4 + 1)))))
set_option maxRecDepth 10000 in
set_option maxHeartbeats 4000000 in
theorem t_X8_commonDivisor_7 {X : Cx} (hX : Good X RX8 cX8_commonDivisor ((some .int))) (hS : Sta X 1 13 6) : ∀ s7 : Int32 → Int32 → Int32 → M Int32, (∀ x2 : Int32, ∀ x3 : Int32, ∀ x4 : Int32, Tr X eI 0 0 7 [(2, .int x2), (3, .int x3), (4, .int x4)] [] (s7 x2 x3 x4)) → ∀ x2 : Int32, ∀ x3 : Int32, ∀ x4 : Int32, Tr X eI 0 0 7 [(2, .int x2), (3, .int x3), (4, .int x4)] [] (f_X8_commonDivisor_7 s7 x2 x3 x4) := by
  intro s7 hs7 x2 x3 x4
  unfold f_X8_commonDivisor_7
  refine tr_iload 2 hX dX8_commonDivisor_7 rfl ?_
  refine tr_bipush 64 hX dX8_commonDivisor_9 (by decide) ?_
  refine tr_ic_ge 34 hX dX8_commonDivisor_11 (by decide) (fun c3 => ?_) (fun c3 => ?_)
  · exact tr_sub [0] rfl (t_X8_commonDivisor_34 hX hS x2)
  · refine tr_iload_n 1 hX dX8_commonDivisor_14 rfl rfl ?_
    refine tr_if_le 34 hX dX8_commonDivisor_15 (by decide) (fun c2 => ?_) (fun c2 => ?_)
    · exact tr_sub [0] rfl (t_X8_commonDivisor_34 hX hS x2)
    · refine tr_iload_n 0 hX dX8_commonDivisor_18 rfl rfl ?_
      refine tr_iload_n 1 hX dX8_commonDivisor_19 rfl rfl ?_
      refine tr_irem hX dX8_commonDivisor_20 (fun _ => ?_)
      refine tr_nm (fun v1 ev1 => ?_)
      refine tr_istore hX dX8_commonDivisor_21 (hS.n (by decide)) rfl ?_
      refine tr_iload_n 2 hX dX8_commonDivisor_23 rfl rfl ?_
      refine tr_istore_n hX dX8_commonDivisor_24 rfl (hS.n (by decide)) rfl ?_
      refine tr_iload 1 hX dX8_commonDivisor_25 rfl ?_
      refine tr_istore_n hX dX8_commonDivisor_27 rfl (hS.n (by decide)) rfl ?_
      refine tr_iinc (x4 + 1) 3 hX dX8_commonDivisor_28 rfl (congrArg (fun z => x4 + z) (by decide)) (hS.n (by decide)) rfl ?_
      refine tr_goto 7 hX dX8_commonDivisor_31 (by decide) ?_
      exact tr_sub [2, 1, 0] rfl (hs7 x3 v1 (x4 + 1))
def f_X8_commonDivisor (x0 : Int32) (x1 : Int32) : M Int32 :=
  fix3 FU (f_X8_commonDivisor_7) x0 x1 0
set_option maxRecDepth 10000 in
set_option maxHeartbeats 4000000 in
theorem t_X8_commonDivisor_0 {X : Cx} (hX : Good X RX8 cX8_commonDivisor ((some .int))) (hS : Sta X 1 13 6) (x0 : Int32) (x1 : Int32) : Tr X eI 0 0 0 [(0, .int x0), (1, .int x1)] [] (f_X8_commonDivisor x0 x1) := by
  unfold f_X8_commonDivisor
  refine tr_iload_n 0 hX dX8_commonDivisor_0 rfl rfl ?_
  refine tr_istore_n hX dX8_commonDivisor_1 rfl (hS.n (by decide)) rfl ?_
  refine tr_iload_n 2 hX dX8_commonDivisor_2 rfl rfl ?_
  refine tr_istore_n hX dX8_commonDivisor_3 rfl (hS.n (by decide)) rfl ?_
  refine tr_iconst 0 hX dX8_commonDivisor_4 (by decide) ?_
  refine tr_istore hX dX8_commonDivisor_5 (hS.n (by decide)) rfl ?_
  exact tr_sub [2, 1, 0] rfl (tr_fix3 (lvf := fun x2 x3 x4 => [(2, .int x2), (3, .int x3), (4, .int x4)]) (t_X8_commonDivisor_7 hX hS) FU x0 x1 0)
theorem ok_X8_commonDivisor {l : Launch} {E : Ev} (x0 : Int32) (x1 : Int32)  : Ok l E Gall yX8_commonDivisor cX8_commonDivisor 6 ((some .int)) (rmz 1 13) eI [.int x0, .int x1] (f_X8_commonDivisor x0 x1) := by
  refine ok_of0 (by decide) (Nat.le_of_ble_eq_true rfl) (fun X hX hV hS => ?_)
  subst hV
  exact t_X8_commonDivisor_0 hX hS x0 x1
def f_X8_odds_37  : M Int64 :=
  rt (-1)
set_option maxRecDepth 10000 in
set_option maxHeartbeats 4000000 in
theorem t_X8_odds_37 {X : Cx} (hX : Good X RX8 cX8_odds ((some .long))) (hS : Sta X 2 38 11) : Tr X eL 0 0 37 [] [] (f_X8_odds_37) := by
  unfold f_X8_odds_37
  refine tr_ldc2 hX dX8_odds_37 k_37_17 ?_
  exact tr_lret0 hX hS dX8_odds_40
def f_X8_odds_87 (x3 : Int32) (x7 : Int32) (s87 : Int64 → Int32 → M Int64) (x8 : Int64) (x10 : Int32) : M Int64 :=
  if x3 ≤ x10 then (rt x8) else (nm ((x8 * x7.toInt64)) (fun v1 => s87 v1 (x10 + 1)))
set_option maxRecDepth 10000 in
set_option maxHeartbeats 4000000 in
theorem t_X8_odds_87 {X : Cx} (hX : Good X RX8 cX8_odds ((some .long))) (hS : Sta X 2 38 11) (x3 : Int32) (x7 : Int32) : ∀ s87 : Int64 → Int32 → M Int64, (∀ x8 : Int64, ∀ x10 : Int32, Tr X eL 0 0 87 [(3, .int x3), (7, .int x7), (8, .long x8), (10, .int x10)] [] (s87 x8 x10)) → ∀ x8 : Int64, ∀ x10 : Int32, Tr X eL 0 0 87 [(3, .int x3), (7, .int x7), (8, .long x8), (10, .int x10)] [] (f_X8_odds_87 x3 x7 s87 x8 x10) := by
  intro s87 hs87 x8 x10
  unfold f_X8_odds_87
  refine tr_iload 3 hX dX8_odds_87 rfl ?_
  refine tr_iload_n 0 hX dX8_odds_89 rfl rfl ?_
  refine tr_ic_ge 107 hX dX8_odds_90 (by decide) (fun c2 => ?_) (fun c2 => ?_)
  · refine tr_lload 2 hX dX8_odds_107 rfl ?_
    exact tr_lret0 hX hS dX8_odds_109
  · refine tr_lload 2 hX dX8_odds_93 rfl ?_
    refine tr_iload 1 hX dX8_odds_95 rfl ?_
    refine tr_i2l hX dX8_odds_97 ?_
    refine tr_lmul hX dX8_odds_98 ?_
    refine tr_nmL (fun v1 ev1 => ?_)
    refine tr_lstore hX dX8_odds_99 (hS.n (by decide)) rfl ?_
    refine tr_iinc (x10 + 1) 3 hX dX8_odds_101 rfl (congrArg (fun z => x10 + z) (by decide)) (hS.n (by decide)) rfl ?_
    refine tr_goto 87 hX dX8_odds_104 (by decide) ?_
    exact tr_sub [2, 3, 1, 0] rfl (hs87 v1 (x10 + 1))
def f_X8_odds_76 (x3 : Int32) (x6 : Int32) (p0 : Int32) : M Int64 :=
  gd (¬ (x6 : Int32) = 0) (nm ((p0 / x6)) (fun v1 => fix2 FU (f_X8_odds_87 x3 v1) 1 0))
set_option maxRecDepth 10000 in
set_option maxHeartbeats 4000000 in
theorem t_X8_odds_76 {X : Cx} (hX : Good X RX8 cX8_odds ((some .long))) (hS : Sta X 2 38 11) (x3 : Int32) (x6 : Int32) (p0 : Int32) : Tr X eL 0 0 76 [(3, .int x3), (6, .int x6)] [.int p0] (f_X8_odds_76 x3 x6 p0) := by
  unfold f_X8_odds_76
  refine tr_iload 1 hX dX8_odds_76 rfl ?_
  refine tr_idiv hX dX8_odds_78 (fun _ => ?_)
  refine tr_nm (fun v1 ev1 => ?_)
  refine tr_istore hX dX8_odds_79 (hS.n (by decide)) rfl ?_
  refine tr_lconst 1 hX dX8_odds_81 (by decide) ?_
  refine tr_lstore hX dX8_odds_82 (hS.n (by decide)) rfl ?_
  refine tr_iconst 0 hX dX8_odds_84 (by decide) ?_
  refine tr_istore hX dX8_odds_85 (hS.n (by decide)) rfl ?_
  exact tr_sub [3, 2, 1, 0] rfl (tr_fix2 (lvf := fun x8 x10 => [(3, .int x3), (7, .int v1), (8, .long x8), (10, .int x10)]) (t_X8_odds_87 hX hS x3 v1) FU 1 0)
def f_X8_odds (x1 : Int32) (x2 : Int32) (x3 : Int32) (x4 : Int32) : M Int64 :=
  bnd (f_X8_isBelow x1 101) (fun v1 => if v1 = 0 then (f_X8_odds_37) else (bnd (f_X8_isBelow x2 101) (fun v2 => if v2 = 0 then (f_X8_odds_37) else (if x3 < 1 then (f_X8_odds_37) else (if 4 < x3 then (f_X8_odds_37) else (bnd (f_X8_isBelow x4 2) (fun v3 => if v3 = 0 then (f_X8_odds_37) else (nm ((10000 - (x1 * (100 - x2)))) (fun v4 => bnd (f_X8_commonDivisor v4 10000) (fun v5 => if x4 = 0 then (f_X8_odds_76 x3 v5 v4) else (f_X8_odds_76 x3 v5 10000)))))))))))
set_option maxRecDepth 10000 in
set_option maxHeartbeats 4000000 in
theorem t_X8_odds_0 {X : Cx} (hX : Good X RX8 cX8_odds ((some .long))) (hS : Sta X 2 38 11) (x1 : Int32) (x2 : Int32) (x3 : Int32) (x4 : Int32) : Tr X eL 0 0 0 [(0, .ref (cxAd X 0)), (1, .int x1), (2, .int x2), (3, .int x3), (4, .int x4)] [] (f_X8_odds x1 x2 x3 x4) := by
  unfold f_X8_odds
  refine tr_iload_n 1 hX dX8_odds_0 rfl rfl ?_
  refine tr_bipush 101 hX dX8_odds_1 (by decide) ?_
  refine tr_callS0I (st := []) 2 hX hS dX8_odds_3 (ok_X8_isBelow x1 101) k_12_19 k_12_20 k_1_2 k_12_21 hy_X8_isBelow.2 rfl rfl (Nat.le_of_ble_eq_true rfl) rfl (fun v1 => ?_)
  refine tr_if_eq 37 hX dX8_odds_6 (by decide) (fun c11 => ?_) (fun c11 => ?_)
  · exact tr_sub [] rfl (t_X8_odds_37 hX hS)
  · refine tr_iload_n 2 hX dX8_odds_9 rfl rfl ?_
    refine tr_bipush 101 hX dX8_odds_10 (by decide) ?_
    refine tr_callS0I (st := []) 2 hX hS dX8_odds_12 (ok_X8_isBelow x2 101) k_12_19 k_12_20 k_1_2 k_12_21 hy_X8_isBelow.2 rfl rfl (Nat.le_of_ble_eq_true rfl) rfl (fun v2 => ?_)
    refine tr_if_eq 37 hX dX8_odds_15 (by decide) (fun c10 => ?_) (fun c10 => ?_)
    · exact tr_sub [] rfl (t_X8_odds_37 hX hS)
    · refine tr_iload_n 3 hX dX8_odds_18 rfl rfl ?_
      refine tr_iconst 1 hX dX8_odds_19 (by decide) ?_
      refine tr_ic_lt 37 hX dX8_odds_20 (by decide) (fun c9 => ?_) (fun c9 => ?_)
      · exact tr_sub [] rfl (t_X8_odds_37 hX hS)
      · refine tr_iload_n 3 hX dX8_odds_23 rfl rfl ?_
        refine tr_iconst 4 hX dX8_odds_24 (by decide) ?_
        refine tr_ic_gt 37 hX dX8_odds_25 (by decide) (fun c8 => ?_) (fun c8 => ?_)
        · exact tr_sub [] rfl (t_X8_odds_37 hX hS)
        · refine tr_iload 4 hX dX8_odds_28 rfl ?_
          refine tr_iconst 2 hX dX8_odds_30 (by decide) ?_
          refine tr_callS0I (st := []) 2 hX hS dX8_odds_31 (ok_X8_isBelow x4 2) k_12_19 k_12_20 k_1_2 k_12_21 hy_X8_isBelow.2 rfl rfl (Nat.le_of_ble_eq_true rfl) rfl (fun v3 => ?_)
          refine tr_if_ne 41 hX dX8_odds_34 (by decide) (fun c7 => ?_) (fun c7 => ?_)
          · exact tr_sub [] rfl (t_X8_odds_37 hX hS)
          · refine tr_sipush 10000 hX dX8_odds_41 (by decide) ?_
            refine tr_iload_n 1 hX dX8_odds_44 rfl rfl ?_
            refine tr_bipush 100 hX dX8_odds_45 (by decide) ?_
            refine tr_iload_n 2 hX dX8_odds_47 rfl rfl ?_
            refine tr_isub hX dX8_odds_48 ?_
            refine tr_imul hX dX8_odds_49 ?_
            refine tr_isub hX dX8_odds_50 ?_
            refine tr_nm (fun v4 ev4 => ?_)
            refine tr_istore hX dX8_odds_51 (hS.n (by decide)) rfl ?_
            refine tr_iload 0 hX dX8_odds_53 rfl ?_
            refine tr_sipush 10000 hX dX8_odds_55 (by decide) ?_
            refine tr_callS0I (st := []) 2 hX hS dX8_odds_58 (ok_X8_commonDivisor v4 10000) k_37_18 k_37_19 k_1_2 k_37_20 hy_X8_commonDivisor.2 rfl rfl (Nat.le_of_ble_eq_true rfl) rfl (fun v5 => ?_)
            refine tr_istore hX dX8_odds_61 (hS.n (by decide)) rfl ?_
            refine tr_iload 6 hX dX8_odds_63 rfl ?_
            refine tr_if_ne 73 hX dX8_odds_65 (by decide) (fun c6 => ?_) (fun c6 => ?_)
            · refine tr_iload 1 hX dX8_odds_68 rfl ?_
              refine tr_goto 76 hX dX8_odds_70 (by decide) ?_
              exact tr_sub [5, 0] rfl (t_X8_odds_76 hX hS x3 v5 v4)
            · refine tr_sipush 10000 hX dX8_odds_73 (by decide) ?_
              exact tr_sub [5, 0] rfl (t_X8_odds_76 hX hS x3 v5 10000)
theorem ok_X8_odds {l : Launch} {E : Ev} (x1 : Int32) (x2 : Int32) (x3 : Int32) (x4 : Int32)  : Ok l E Gall yX8_odds cX8_odds 11 ((some .long)) (rmz 2 38) eL [.ref (E.2.1 0), .int x1, .int x2, .int x3, .int x4] (f_X8_odds x1 x2 x3 x4) := by
  refine ok_of0 (by decide) (Nat.le_of_ble_eq_true rfl) (fun X hX hV hS => ?_)
  subst hV
  exact t_X8_odds_0 hX hS x1 x2 x3 x4
def f_X8_keptAt_15 (p0 : Nat) : M Nat :=
  rt p0
set_option maxRecDepth 10000 in
set_option maxHeartbeats 4000000 in
theorem t_X8_keptAt_15 {X : Cx} (hX : Good X RX8 cX8_keptAt ((some (.object "SaidWoven$Book")))) (hS : Sta X 0 0 2) (p0 : Nat) (hp0 : isB p0) : Tr X (eR (cxAd X)) 0 0 15 [] [.ref (cxAd X p0)] (f_X8_keptAt_15 p0) := by
  unfold f_X8_keptAt_15
  exact tr_aret0 hX hS dX8_keptAt_15
def f_X8_keptAt (x1 : Int32) : M Nat :=
  if x1 = 0 then (f_X8_keptAt_15 30) else (f_X8_keptAt_15 40)
set_option maxRecDepth 10000 in
set_option maxHeartbeats 4000000 in
theorem t_X8_keptAt_0 {X : Cx} (hX : Good X RX8 cX8_keptAt ((some (.object "SaidWoven$Book")))) (hS : Sta X 0 0 2) (x1 : Int32) : Tr X (eR (cxAd X)) 0 0 0 [(0, .ref (cxAd X 0)), (1, .int x1)] [] (f_X8_keptAt x1) := by
  unfold f_X8_keptAt
  refine tr_iload_n 1 hX dX8_keptAt_0 rfl rfl ?_
  refine tr_if_ne 11 hX dX8_keptAt_1 (by decide) (fun c1 => ?_) (fun c1 => ?_)
  · refine tr_aload_n 0 hX dX8_keptAt_4 rfl rfl ?_
    refine tr_getF hX dX8_keptAt_5 sh_0 (by decide) rfl inlX8 (by decide) rfl (hS.g (Nat.le_of_ble_eq_true rfl)) cr_0_4 k_2_2 mq_0 ?_
    refine tr_goto 15 hX dX8_keptAt_8 (by decide) ?_
    exact tr_sub [] rfl (t_X8_keptAt_15 hX hS 30 (by decide))
  · refine tr_aload_n 0 hX dX8_keptAt_11 rfl rfl ?_
    refine tr_getF hX dX8_keptAt_12 sh_0 (by decide) rfl inlX8 (by decide) rfl (hS.g (Nat.le_of_ble_eq_true rfl)) cr_0_5 k_2_3 mq_0 ?_
    exact tr_sub [] rfl (t_X8_keptAt_15 hX hS 40 (by decide))
theorem ok_X8_keptAt {l : Launch} {E : Ev} (x1 : Int32)  : Ok l E Gall yX8_keptAt cX8_keptAt 2 ((some (.object "SaidWoven$Book"))) (rmz 0 0) (eR (E.2.1)) [.ref (E.2.1 0), .int x1] (f_X8_keptAt x1) := by
  refine ok_of0 (by decide) (Nat.le_of_ble_eq_true rfl) (fun X hX hV hS => ?_)
  subst hV
  exact t_X8_keptAt_0 hX hS x1
def f_X8_keep  : M Int32 :=
  rI 0 6 (fun v1 => if v1 < 2 then (rI 0 6 (fun v2 => bnd (f_X8_keptAt v2) (fun v3 => gd (isB v3) (bnd (f_X0_copy v3 20) (fun _ => rI 0 6 (fun v6 => wI 0 6 (v6 + 1) (rI 0 6 (fun v7 => rt v7)))))))) else (rt (-3)))
set_option maxRecDepth 10000 in
set_option maxHeartbeats 4000000 in
theorem t_X8_keep_0 {X : Cx} (hX : Good X RX8 cX8_keep ((some .int))) (hS : Sta X 2 82 1) : Tr X eI 0 0 0 [(0, .ref (cxAd X 0))] [] (f_X8_keep) := by
  unfold f_X8_keep
  refine tr_aload_n 0 hX dX8_keep_0 rfl rfl ?_
  refine tr_getI hX dX8_keep_1 sh_0 (by decide) rfl inlX8 (by decide) rfl (hS.e (Nat.le_of_ble_eq_true rfl)) k_11_20 (fun v1 => ?_)
  refine tr_iconst 2 hX dX8_keep_4 (by decide) ?_
  refine tr_ic_lt 11 hX dX8_keep_5 (by decide) (fun c8 => ?_) (fun c8 => ?_)
  · refine tr_aload_n 0 hX dX8_keep_11 rfl rfl ?_
    refine tr_aload_n 0 hX dX8_keep_12 rfl rfl ?_
    refine tr_getI hX dX8_keep_13 sh_0 (by decide) rfl inlX8 (by decide) rfl (hS.e (Nat.le_of_ble_eq_true rfl)) k_11_20 (fun v2 => ?_)
    refine tr_callV0R (st := []) 1 hX hS dX8_keep_16 (ok_X8_keptAt v2) sh_0 (by decide) rfl (Nat.le_of_ble_eq_true rfl) k_38_7 k_38_8 k_38_9 k_1_2 k_38_10 hy_X8_keptAt rfl rfl (Nat.le_of_ble_eq_true rfl) rfl (fun v3 => ?_)
    refine tr_gd (fun hb4 => ?_)
    refine tr_aload_n 0 hX dX8_keep_19 rfl rfl ?_
    refine tr_getF hX dX8_keep_20 sh_0 (by decide) rfl inlX8 (by decide) rfl (hS.g (Nat.le_of_ble_eq_true rfl)) cr_0_3 k_2_1 mq_0 ?_
    refine tr_callV0U (st := []) 1 hX hS dX8_keep_23 (ok_X0_copy v3 20 hb4 (by decide)) (shB hb4) (by decide) rfl (leB hb4) k_38_11 k_38_12 k_38_13 k_2_0 k_38_14 hy_X0_copy rfl rfl (Nat.le_of_ble_eq_true rfl) rfl (fun _ => ?_)
    refine tr_aload_n 0 hX dX8_keep_26 rfl rfl ?_
    refine tr_dup hX dX8_keep_27 rfl ?_
    refine tr_getI hX dX8_keep_28 sh_0 (by decide) rfl inlX8 (by decide) rfl (hS.e (Nat.le_of_ble_eq_true rfl)) k_11_20 (fun v6 => ?_)
    refine tr_iconst 1 hX dX8_keep_31 (by decide) ?_
    refine tr_iadd hX dX8_keep_32 ?_
    refine tr_putI hX dX8_keep_33 sh_0 (by decide) rfl inlX8 tyX8 tyX8_ok nmX8 (by decide) rfl (hS.e (Nat.le_of_ble_eq_true rfl)) k_11_20 rfl rfl rfl rfl ?_
    refine tr_aload_n 0 hX dX8_keep_36 rfl rfl ?_
    refine tr_getI hX dX8_keep_37 sh_0 (by decide) rfl inlX8 (by decide) rfl (hS.e (Nat.le_of_ble_eq_true rfl)) k_11_20 (fun v7 => ?_)
    exact tr_iret0 hX hS dX8_keep_40
  · refine tr_bipush (-3) hX dX8_keep_8 (by decide) ?_
    exact tr_iret0 hX hS dX8_keep_10
theorem ok_X8_keep {l : Launch} {E : Ev}   : Ok l E Gall yX8_keep cX8_keep 1 ((some .int)) (rmz 2 82) eI [.ref (E.2.1 0)] (f_X8_keep) := by
  refine ok_of0 (by decide) (Nat.le_of_ble_eq_true rfl) (fun X hX hV hS => ?_)
  subst hV
  exact t_X8_keep_0 hX hS 
def f_X8_back  : M Int32 :=
  rI 0 6 (fun v1 => if 0 < v1 then (rI 0 6 (fun v2 => wI 0 6 (v2 - 1) (rI 0 6 (fun v3 => bnd (f_X8_keptAt v3) (fun v4 => gd (isB v4) (bnd (f_X0_copy 20 v4) (fun _ => rI 0 6 (fun v7 => rt v7)))))))) else (rt (-2)))
set_option maxRecDepth 10000 in
set_option maxHeartbeats 4000000 in
theorem t_X8_back_0 {X : Cx} (hX : Good X RX8 cX8_back ((some .int))) (hS : Sta X 2 82 1) : Tr X eI 0 0 0 [(0, .ref (cxAd X 0))] [] (f_X8_back) := by
  unfold f_X8_back
  refine tr_aload_n 0 hX dX8_back_0 rfl rfl ?_
  refine tr_getI hX dX8_back_1 sh_0 (by decide) rfl inlX8 (by decide) rfl (hS.e (Nat.le_of_ble_eq_true rfl)) k_11_20 (fun v1 => ?_)
  refine tr_if_gt 10 hX dX8_back_4 (by decide) (fun c8 => ?_) (fun c8 => ?_)
  · refine tr_aload_n 0 hX dX8_back_10 rfl rfl ?_
    refine tr_dup hX dX8_back_11 rfl ?_
    refine tr_getI hX dX8_back_12 sh_0 (by decide) rfl inlX8 (by decide) rfl (hS.e (Nat.le_of_ble_eq_true rfl)) k_11_20 (fun v2 => ?_)
    refine tr_iconst 1 hX dX8_back_15 (by decide) ?_
    refine tr_isub hX dX8_back_16 ?_
    refine tr_putI hX dX8_back_17 sh_0 (by decide) rfl inlX8 tyX8 tyX8_ok nmX8 (by decide) rfl (hS.e (Nat.le_of_ble_eq_true rfl)) k_11_20 rfl rfl rfl rfl ?_
    refine tr_aload_n 0 hX dX8_back_20 rfl rfl ?_
    refine tr_getF hX dX8_back_21 sh_0 (by decide) rfl inlX8 (by decide) rfl (hS.g (Nat.le_of_ble_eq_true rfl)) cr_0_3 k_2_1 mq_0 ?_
    refine tr_aload_n 0 hX dX8_back_24 rfl rfl ?_
    refine tr_aload_n 0 hX dX8_back_25 rfl rfl ?_
    refine tr_getI hX dX8_back_26 sh_0 (by decide) rfl inlX8 (by decide) rfl (hS.e (Nat.le_of_ble_eq_true rfl)) k_11_20 (fun v3 => ?_)
    refine tr_callV0R (st := [.ref (cxAd X 20)]) 1 hX hS dX8_back_29 (ok_X8_keptAt v3) sh_0 (by decide) rfl (Nat.le_of_ble_eq_true rfl) k_38_7 k_38_8 k_38_9 k_1_2 k_38_10 hy_X8_keptAt rfl rfl (Nat.le_of_ble_eq_true rfl) rfl (fun v4 => ?_)
    refine tr_gd (fun hb5 => ?_)
    refine tr_callV0U (st := []) 1 hX hS dX8_back_32 (ok_X0_copy 20 v4 (by decide) hb5) sh_20 (by decide) rfl (Nat.le_of_ble_eq_true rfl) k_38_11 k_38_12 k_38_13 k_2_0 k_38_14 hy_X0_copy rfl rfl (Nat.le_of_ble_eq_true rfl) rfl (fun _ => ?_)
    refine tr_aload_n 0 hX dX8_back_35 rfl rfl ?_
    refine tr_getI hX dX8_back_36 sh_0 (by decide) rfl inlX8 (by decide) rfl (hS.e (Nat.le_of_ble_eq_true rfl)) k_11_20 (fun v7 => ?_)
    exact tr_iret0 hX hS dX8_back_39
  · refine tr_bipush (-2) hX dX8_back_7 (by decide) ?_
    exact tr_iret0 hX hS dX8_back_9
theorem ok_X8_back {l : Launch} {E : Ev}   : Ok l E Gall yX8_back cX8_back 1 ((some .int)) (rmz 2 82) eI [.ref (E.2.1 0)] (f_X8_back) := by
  refine ok_of0 (by decide) (Nat.le_of_ble_eq_true rfl) (fun X hX hV hS => ?_)
  subst hV
  exact t_X8_back_0 hX hS 
def f_X8_count (x1 : Int32) : M Int32 :=
  if x1 = 0 then (rT 0 1 (fun t1 => rI t1 0 (fun v2 => rt v2))) else (if x1 = 1 then (rI 1 1 (fun v4 => rt v4)) else (if x1 = 2 then (rI 20 3 (fun v6 => rt v6)) else (if x1 = 3 then (rI 149 0 (fun v8 => rt v8)) else (if x1 = 4 then (rI 154 0 (fun v10 => rt v10)) else (if x1 = 5 then (rI 0 6 (fun v12 => rt v12)) else (if x1 = 6 then (bnd (f_X0_wordsInAll 20) (fun v14 => rt v14)) else (rt (-1))))))))
set_option maxRecDepth 10000 in
set_option maxHeartbeats 4000000 in
theorem t_X8_count_0 {X : Cx} (hX : Good X RX8 cX8_count ((some .int))) (hS : Sta X 1 22 2) (x1 : Int32) : Tr X eI 0 0 0 [(0, .ref (cxAd X 0)), (1, .int x1)] [] (f_X8_count x1) := by
  unfold f_X8_count
  refine tr_iload_n 1 hX dX8_count_0 rfl rfl ?_
  refine tr_case 0 (fun c3 => ?_) (fun c3 => ?_)
  · refine tr_tabIn 0 44 hX dX8_count_1 c3 (by decide) (by decide) rfl (by decide) ?_
    refine tr_aload_n 0 hX dX8_count_44 rfl rfl ?_
    refine tr_getT hX dX8_count_45 sh_0 (by decide) rfl inlX8 (by decide) rfl (hS.e (Nat.le_of_ble_eq_true rfl)) k_1_20 (fun t1 ht1 => ?_)
    refine tr_getI hX dX8_count_48 (shT ht1) (by decide) rfl inlX6 (by decide) rfl (hS.e (leT ht1)) k_11_21 (fun v2 => ?_)
    exact tr_iret0 hX hS dX8_count_51
  refine tr_case 1 (fun c5 => ?_) (fun c5 => ?_)
  · refine tr_tabIn 1 52 hX dX8_count_1 c5 (by decide) (by decide) rfl (by decide) ?_
    refine tr_aload_n 0 hX dX8_count_52 rfl rfl ?_
    refine tr_getF hX dX8_count_53 sh_0 (by decide) rfl inlX8 (by decide) rfl (hS.g (Nat.le_of_ble_eq_true rfl)) cr_0_0 k_1_16 mq_0 ?_
    refine tr_getI hX dX8_count_56 sh_1 (by decide) rfl inlX4 (by decide) rfl (hS.e (Nat.le_of_ble_eq_true rfl)) k_8_15 (fun v4 => ?_)
    exact tr_iret0 hX hS dX8_count_59
  refine tr_case 2 (fun c7 => ?_) (fun c7 => ?_)
  · refine tr_tabIn 2 60 hX dX8_count_1 c7 (by decide) (by decide) rfl (by decide) ?_
    refine tr_aload_n 0 hX dX8_count_60 rfl rfl ?_
    refine tr_getF hX dX8_count_61 sh_0 (by decide) rfl inlX8 (by decide) rfl (hS.g (Nat.le_of_ble_eq_true rfl)) cr_0_3 k_2_1 mq_0 ?_
    refine tr_getI hX dX8_count_64 sh_20 (by decide) rfl inlX0 (by decide) rfl (hS.e (Nat.le_of_ble_eq_true rfl)) k_18_16 (fun v6 => ?_)
    exact tr_iret0 hX hS dX8_count_67
  refine tr_case 3 (fun c9 => ?_) (fun c9 => ?_)
  · refine tr_tabIn 3 68 hX dX8_count_1 c9 (by decide) (by decide) rfl (by decide) ?_
    refine tr_aload_n 0 hX dX8_count_68 rfl rfl ?_
    refine tr_getF hX dX8_count_69 sh_0 (by decide) rfl inlX8 (by decide) rfl (hS.g (Nat.le_of_ble_eq_true rfl)) cr_0_9 k_2_15 mq_0 ?_
    refine tr_getI hX dX8_count_72 sh_149 (by decide) rfl inlX5 (by decide) rfl (hS.e (Nat.le_of_ble_eq_true rfl)) k_11_18 (fun v8 => ?_)
    exact tr_iret0 hX hS dX8_count_75
  refine tr_case 4 (fun c11 => ?_) (fun c11 => ?_)
  · refine tr_tabIn 4 76 hX dX8_count_1 c11 (by decide) (by decide) rfl (by decide) ?_
    refine tr_aload_n 0 hX dX8_count_76 rfl rfl ?_
    refine tr_getF hX dX8_count_77 sh_0 (by decide) rfl inlX8 (by decide) rfl (hS.g (Nat.le_of_ble_eq_true rfl)) cr_0_10 k_2_19 mq_0 ?_
    refine tr_getI hX dX8_count_80 sh_154 (by decide) rfl inlX2 (by decide) rfl (hS.e (Nat.le_of_ble_eq_true rfl)) k_11_19 (fun v10 => ?_)
    exact tr_iret0 hX hS dX8_count_83
  refine tr_case 5 (fun c13 => ?_) (fun c13 => ?_)
  · refine tr_tabIn 5 84 hX dX8_count_1 c13 (by decide) (by decide) rfl (by decide) ?_
    refine tr_aload_n 0 hX dX8_count_84 rfl rfl ?_
    refine tr_getI hX dX8_count_85 sh_0 (by decide) rfl inlX8 (by decide) rfl (hS.e (Nat.le_of_ble_eq_true rfl)) k_11_20 (fun v12 => ?_)
    exact tr_iret0 hX hS dX8_count_88
  refine tr_case 6 (fun c15 => ?_) (fun c15 => ?_)
  · refine tr_tabIn 6 89 hX dX8_count_1 c15 (by decide) (by decide) rfl (by decide) ?_
    refine tr_aload_n 0 hX dX8_count_89 rfl rfl ?_
    refine tr_getF hX dX8_count_90 sh_0 (by decide) rfl inlX8 (by decide) rfl (hS.g (Nat.le_of_ble_eq_true rfl)) cr_0_3 k_2_1 mq_0 ?_
    refine tr_callV0I (st := []) 0 hX hS dX8_count_93 (ok_X0_wordsInAll 20 (by decide)) sh_20 (by decide) rfl (Nat.le_of_ble_eq_true rfl) k_39_14 k_39_15 k_39_16 k_2_0 k_39_17 hy_X0_wordsInAll rfl rfl (Nat.le_of_ble_eq_true rfl) rfl (fun v14 => ?_)
    exact tr_iret0 hX hS dX8_count_96
  have nc3 := lv_neT c3 (show (0 : Int32).toInt = 0 by decide)
  have nc5 := lv_neT c5 (show (1 : Int32).toInt = 1 by decide)
  have nc7 := lv_neT c7 (show (2 : Int32).toInt = 2 by decide)
  have nc9 := lv_neT c9 (show (3 : Int32).toInt = 3 by decide)
  have nc11 := lv_neT c11 (show (4 : Int32).toInt = 4 by decide)
  have nc13 := lv_neT c13 (show (5 : Int32).toInt = 5 by decide)
  have nc15 := lv_neT c15 (show (6 : Int32).toInt = 6 by decide)
  refine tr_tabOut 97 hX dX8_count_1 (by omega) (by decide) ?_
  refine tr_iconst (-1) hX dX8_count_97 (by decide) ?_
  exact tr_iret0 hX hS dX8_count_98
theorem ok_X8_count {l : Launch} {E : Ev} (x1 : Int32)  : Ok l E Gall yX8_count cX8_count 2 ((some .int)) (rmz 1 22) eI [.ref (E.2.1 0), .int x1] (f_X8_count x1) := by
  refine ok_of0 (by decide) (Nat.le_of_ble_eq_true rfl) (fun X hX hV hS => ?_)
  subst hV
  exact t_X8_count_0 hX hS x1
def f_X9_in_18 (p0 : Int32) : M Int32 :=
  gd (p0 = 0 ∨ p0 = 1) (rt p0)
set_option maxRecDepth 10000 in
set_option maxHeartbeats 4000000 in
theorem t_X9_in_18 {X : Cx} (hX : Good X RX9 cX9_in ((some .boolean))) (hS : Sta X 0 0 6) (p0 : Int32) : Tr X eI 0 0 18 [] [.int p0] (f_X9_in_18 p0) := by
  unfold f_X9_in_18
  exact tr_zret0 hX hS dX9_in_18
def f_X9_in_17  : M Int32 :=
  f_X9_in_18 0
set_option maxRecDepth 10000 in
set_option maxHeartbeats 4000000 in
theorem t_X9_in_17 {X : Cx} (hX : Good X RX9 cX9_in ((some .boolean))) (hS : Sta X 0 0 6) : Tr X eI 0 0 17 [] [] (f_X9_in_17) := by
  unfold f_X9_in_17
  refine tr_iconst 0 hX dX9_in_17 (by decide) ?_
  exact tr_sub [] rfl (t_X9_in_18 hX hS 0)
def f_X9_in (x0 : Int64) (x2 : Int64) (x4 : Int64) : M Int32 :=
  if (lg_cmp x0 x2) < 0 then (f_X9_in_17) else (if 0 < (lg_cmp x0 x4) then (f_X9_in_17) else (f_X9_in_18 1))
set_option maxRecDepth 10000 in
set_option maxHeartbeats 4000000 in
theorem t_X9_in_0 {X : Cx} (hX : Good X RX9 cX9_in ((some .boolean))) (hS : Sta X 0 0 6) (x0 : Int64) (x2 : Int64) (x4 : Int64) : Tr X eI 0 0 0 [(0, .long x0), (2, .long x2), (4, .long x4)] [] (f_X9_in x0 x2 x4) := by
  unfold f_X9_in
  refine tr_lload_n 0 hX dX9_in_0 rfl rfl ?_
  refine tr_lload_n 1 hX dX9_in_1 rfl rfl ?_
  refine tr_lcmp hX dX9_in_2 ?_
  refine tr_if_lt 17 hX dX9_in_3 (by decide) (fun c2 => ?_) (fun c2 => ?_)
  · exact tr_sub [] rfl (t_X9_in_17 hX hS)
  · refine tr_lload_n 0 hX dX9_in_6 rfl rfl ?_
    refine tr_lload 2 hX dX9_in_7 rfl ?_
    refine tr_lcmp hX dX9_in_9 ?_
    refine tr_if_gt 17 hX dX9_in_10 (by decide) (fun c1 => ?_) (fun c1 => ?_)
    · exact tr_sub [] rfl (t_X9_in_17 hX hS)
    · refine tr_iconst 1 hX dX9_in_13 (by decide) ?_
      refine tr_goto 18 hX dX9_in_14 (by decide) ?_
      exact tr_sub [] rfl (t_X9_in_18 hX hS 1)
theorem ok_X9_in {l : Launch} {E : Ev} (x0 : Int64) (x2 : Int64) (x4 : Int64)  : Ok l E Gall yX9_in cX9_in 6 ((some .boolean)) (rmz 0 0) eI [.long x0, .long x2, .long x4] (f_X9_in x0 x2 x4) := by
  refine ok_of0 (by decide) (Nat.le_of_ble_eq_true rfl) (fun X hX hV hS => ?_)
  subst hV
  exact t_X9_in_0 hX hS x0 x2 x4
def f_X9_has_14 (p0 : Int32) : M Int32 :=
  gd (p0 = 0 ∨ p0 = 1) (rt p0)
set_option maxRecDepth 10000 in
set_option maxHeartbeats 4000000 in
theorem t_X9_has_14 {X : Cx} (hX : Good X RX9 cX9_has ((some .boolean))) (hS : Sta X 0 0 2) (p0 : Int32) : Tr X eI 0 0 14 [] [.int p0] (f_X9_has_14 p0) := by
  unfold f_X9_has_14
  exact tr_zret0 hX hS dX9_has_14
def f_X9_has (x0 : Int32) (x1 : Int32) : M Int32 :=
  if ((x0 >>> (x1 &&& 31)) &&& 1) = 1 then (f_X9_has_14 1) else (f_X9_has_14 0)
set_option maxRecDepth 10000 in
set_option maxHeartbeats 4000000 in
theorem t_X9_has_0 {X : Cx} (hX : Good X RX9 cX9_has ((some .boolean))) (hS : Sta X 0 0 2) (x0 : Int32) (x1 : Int32) : Tr X eI 0 0 0 [(0, .int x0), (1, .int x1)] [] (f_X9_has x0 x1) := by
  unfold f_X9_has
  refine tr_iload_n 0 hX dX9_has_0 rfl rfl ?_
  refine tr_iload_n 1 hX dX9_has_1 rfl rfl ?_
  refine tr_ishr hX dX9_has_2 ?_
  refine tr_iconst 1 hX dX9_has_3 (by decide) ?_
  refine tr_iand hX dX9_has_4 ?_
  refine tr_iconst 1 hX dX9_has_5 (by decide) ?_
  refine tr_ic_ne 13 hX dX9_has_6 (by decide) (fun c1 => ?_) (fun c1 => ?_)
  · refine tr_iconst 1 hX dX9_has_9 (by decide) ?_
    refine tr_goto 14 hX dX9_has_10 (by decide) ?_
    exact tr_sub [] rfl (t_X9_has_14 hX hS 1)
  · refine tr_iconst 0 hX dX9_has_13 (by decide) ?_
    exact tr_sub [] rfl (t_X9_has_14 hX hS 0)
theorem ok_X9_has {l : Launch} {E : Ev} (x0 : Int32) (x1 : Int32)  : Ok l E Gall yX9_has cX9_has 2 ((some .boolean)) (rmz 0 0) eI [.int x0, .int x1] (f_X9_has x0 x1) := by
  refine ok_of0 (by decide) (Nat.le_of_ble_eq_true rfl) (fun X hX hV hS => ?_)
  subst hV
  exact t_X9_has_0 hX hS x0 x1
def f_X9_bits_4 (s4 : Int32 → Int32 → M Int32) (x1 : Int32) (x2 : Int32) : M Int32 :=
  if x2 = 0 then (rt x1) else (nm ((x2 &&& (x2 - 1))) (fun v1 => s4 (x1 + 1) v1))
set_option maxRecDepth 10000 in
set_option maxHeartbeats 4000000 in
theorem t_X9_bits_4 {X : Cx} (hX : Good X RX9 cX9_bits ((some .int))) (hS : Sta X 0 0 3) : ∀ s4 : Int32 → Int32 → M Int32, (∀ x1 : Int32, ∀ x2 : Int32, Tr X eI 0 0 4 [(1, .int x1), (2, .int x2)] [] (s4 x1 x2)) → ∀ x1 : Int32, ∀ x2 : Int32, Tr X eI 0 0 4 [(1, .int x1), (2, .int x2)] [] (f_X9_bits_4 s4 x1 x2) := by
  intro s4 hs4 x1 x2
  unfold f_X9_bits_4
  refine tr_iload_n 1 hX dX9_bits_4 rfl rfl ?_
  refine tr_if_eq 20 hX dX9_bits_5 (by decide) (fun c2 => ?_) (fun c2 => ?_)
  · refine tr_iload_n 0 hX dX9_bits_20 rfl rfl ?_
    exact tr_iret0 hX hS dX9_bits_21
  · refine tr_iinc (x1 + 1) 0 hX dX9_bits_8 rfl (congrArg (fun z => x1 + z) (by decide)) (hS.n (by decide)) rfl ?_
    refine tr_iload_n 1 hX dX9_bits_11 rfl rfl ?_
    refine tr_iload_n 1 hX dX9_bits_12 rfl rfl ?_
    refine tr_iconst 1 hX dX9_bits_13 (by decide) ?_
    refine tr_isub hX dX9_bits_14 ?_
    refine tr_iand hX dX9_bits_15 ?_
    refine tr_nm (fun v1 ev1 => ?_)
    refine tr_istore_n hX dX9_bits_16 rfl (hS.n (by decide)) rfl ?_
    refine tr_goto 4 hX dX9_bits_17 (by decide) ?_
    exact tr_sub [1, 0] rfl (hs4 (x1 + 1) v1)
def f_X9_bits (x0 : Int32) : M Int32 :=
  fix2 FU (f_X9_bits_4) 0 x0
set_option maxRecDepth 10000 in
set_option maxHeartbeats 4000000 in
theorem t_X9_bits_0 {X : Cx} (hX : Good X RX9 cX9_bits ((some .int))) (hS : Sta X 0 0 3) (x0 : Int32) : Tr X eI 0 0 0 [(0, .int x0)] [] (f_X9_bits x0) := by
  unfold f_X9_bits
  refine tr_iconst 0 hX dX9_bits_0 (by decide) ?_
  refine tr_istore_n hX dX9_bits_1 rfl (hS.n (by decide)) rfl ?_
  refine tr_iload_n 1 hX dX9_bits_2 rfl rfl ?_
  refine tr_istore_n hX dX9_bits_3 rfl (hS.n (by decide)) rfl ?_
  exact tr_sub [1, 0] rfl (tr_fix2 (lvf := fun x1 x2 => [(1, .int x1), (2, .int x2)]) (t_X9_bits_4 hX hS) FU 0 x0)
theorem ok_X9_bits {l : Launch} {E : Ev} (x0 : Int32)  : Ok l E Gall yX9_bits cX9_bits 3 ((some .int)) (rmz 0 0) eI [.int x0] (f_X9_bits x0) := by
  refine ok_of0 (by decide) (Nat.le_of_ble_eq_true rfl) (fun X hX hV hS => ?_)
  subst hV
  exact t_X9_bits_0 hX hS x0
