def f_X8_joined_18  : M Int32 :=
  rt (-1)
set_option maxRecDepth 10000 in
set_option maxHeartbeats 4000000 in
theorem t_X8_joined_18 {X : Cx} (hX : Good X RX8 cX8_joined ((some .int))) (hS : Sta X 1 21 3) : Tr X eI 0 0 18 [] [] (f_X8_joined_18) := by
  unfold f_X8_joined_18
  refine tr_iconst (-1) hX dX8_joined_18 (by decide) ?_
  exact tr_iret0 hX hS dX8_joined_19
def f_X8_joined (x1 : Int32) (x2 : Int32) : M Int32 :=
  bnd (f_X8_isBelow x1 8) (fun v1 => if v1 = 0 then (f_X8_joined_18) else (bnd (f_X8_isBelow x2 8) (fun v2 => if v2 = 0 then (f_X8_joined_18) else (rT 0 1 (fun t3 => aI (t3 + 4) 64 ((8 * x1) + x2) (fun v4 => rt v4))))))
set_option maxRecDepth 10000 in
set_option maxHeartbeats 4000000 in
theorem t_X8_joined_0 {X : Cx} (hX : Good X RX8 cX8_joined ((some .int))) (hS : Sta X 1 21 3) (x1 : Int32) (x2 : Int32) : Tr X eI 0 0 0 [(0, .ref (cxAd X 0)), (1, .int x1), (2, .int x2)] [] (f_X8_joined x1 x2) := by
  unfold f_X8_joined
  refine tr_iload_n 1 hX dX8_joined_0 rfl rfl ?_
  refine tr_bipush 8 hX dX8_joined_1 (by decide) ?_
  refine tr_callS0I (st := []) 2 hX hS dX8_joined_3 (ok_X8_isBelow x1 8) k_12_19 k_12_20 k_1_2 k_12_21 hy_X8_isBelow.2 rfl rfl (Nat.le_of_ble_eq_true rfl) rfl (fun v1 => ?_)
  refine tr_if_eq 18 hX dX8_joined_6 (by decide) (fun c7 => ?_) (fun c7 => ?_)
  · exact tr_sub [] rfl (t_X8_joined_18 hX hS)
  · refine tr_iload_n 2 hX dX8_joined_9 rfl rfl ?_
    refine tr_bipush 8 hX dX8_joined_10 (by decide) ?_
    refine tr_callS0I (st := []) 2 hX hS dX8_joined_12 (ok_X8_isBelow x2 8) k_12_19 k_12_20 k_1_2 k_12_21 hy_X8_isBelow.2 rfl rfl (Nat.le_of_ble_eq_true rfl) rfl (fun v2 => ?_)
    refine tr_if_ne 20 hX dX8_joined_15 (by decide) (fun c6 => ?_) (fun c6 => ?_)
    · exact tr_sub [] rfl (t_X8_joined_18 hX hS)
    · refine tr_aload_n 0 hX dX8_joined_20 rfl rfl ?_
      refine tr_getT hX dX8_joined_21 sh_0 (by decide) rfl inlX8 (by decide) rfl (hS.e (Nat.le_of_ble_eq_true rfl)) k_1_20 (fun t3 ht3 => ?_)
      refine tr_getF hX dX8_joined_24 (shT ht3) (by decide) rfl inlX6 (by decide) rfl (hS.g (leT ht3)) (crT_4 ht3) k_12_18 (mqT ht3) ?_
      refine tr_bipush 8 hX dX8_joined_27 (by decide) ?_
      refine tr_iload_n 1 hX dX8_joined_29 rfl rfl ?_
      refine tr_imul hX dX8_joined_30 ?_
      refine tr_iload_n 2 hX dX8_joined_31 rfl rfl ?_
      refine tr_iadd hX dX8_joined_32 ?_
      refine tr_iald hX dX8_joined_33 (shT_4 ht3) (hS.e (leT_4 ht3)) (fun hb5 v4 => ?_)
      exact tr_iret0 hX hS dX8_joined_34
theorem ok_X8_joined {l : Launch} {E : Ev} (x1 : Int32) (x2 : Int32)  : Ok l E Gall yX8_joined cX8_joined 3 ((some .int)) (rmz 1 21) eI [.ref (E.2.1 0), .int x1, .int x2] (f_X8_joined x1 x2) := by
  refine ok_of0 (by decide) (Nat.le_of_ble_eq_true rfl) (fun X hX hV hS => ?_)
  subst hV
  exact t_X8_joined_0 hX hS x1 x2
def f_X8_add_23  : M Int32 :=
  rt (-1)
set_option maxRecDepth 10000 in
set_option maxHeartbeats 4000000 in
theorem t_X8_add_23 {X : Cx} (hX : Good X RX8 cX8_add ((some .int))) (hS : Sta X 1 21 4) : Tr X eI 0 0 23 [] [] (f_X8_add_23) := by
  unfold f_X8_add_23
  refine tr_iconst (-1) hX dX8_add_23 (by decide) ?_
  exact tr_iret0 hX hS dX8_add_24
def f_X8_add (x1 : Int32) (x2 : Int32) : M Int32 :=
  bnd (f_X8_isBelow x1 6) (fun v1 => if v1 = 0 then (f_X8_add_23) else (rT 0 1 (fun t2 => rI t2 0 (fun v3 => bnd (f_X8_isBelow x2 v3) (fun v4 => if v4 = 0 then (f_X8_add_23) else (aI 28 6 x1 (fun v5 => if v5 < 8 then (gd (inb x1 6) (sI (21 + 1 + x1.toNatClampNeg) 8 v5 x2 (sI 28 6 x1 (v5 + 1) (rt (v5 + 1))))) else (rt (-3)))))))))
set_option maxRecDepth 10000 in
set_option maxHeartbeats 4000000 in
theorem t_X8_add_0 {X : Cx} (hX : Good X RX8 cX8_add ((some .int))) (hS : Sta X 1 21 4) (x1 : Int32) (x2 : Int32) : Tr X eI 0 0 0 [(0, .ref (cxAd X 0)), (1, .int x1), (2, .int x2)] [] (f_X8_add x1 x2) := by
  unfold f_X8_add
  refine tr_iload_n 1 hX dX8_add_0 rfl rfl ?_
  refine tr_bipush 6 hX dX8_add_1 (by decide) ?_
  refine tr_callS0I (st := []) 2 hX hS dX8_add_3 (ok_X8_isBelow x1 6) k_12_19 k_12_20 k_1_2 k_12_21 hy_X8_isBelow.2 rfl rfl (Nat.le_of_ble_eq_true rfl) rfl (fun v1 => ?_)
  refine tr_if_eq 23 hX dX8_add_6 (by decide) (fun c10 => ?_) (fun c10 => ?_)
  · exact tr_sub [] rfl (t_X8_add_23 hX hS)
  · refine tr_iload_n 2 hX dX8_add_9 rfl rfl ?_
    refine tr_aload_n 0 hX dX8_add_10 rfl rfl ?_
    refine tr_getT hX dX8_add_11 sh_0 (by decide) rfl inlX8 (by decide) rfl (hS.e (Nat.le_of_ble_eq_true rfl)) k_1_20 (fun t2 ht2 => ?_)
    refine tr_getI hX dX8_add_14 (shT ht2) (by decide) rfl inlX6 (by decide) rfl (hS.e (leT ht2)) k_11_21 (fun v3 => ?_)
    refine tr_callS0I (st := []) 2 hX hS dX8_add_17 (ok_X8_isBelow x2 v3) k_12_19 k_12_20 k_1_2 k_12_21 hy_X8_isBelow.2 rfl rfl (Nat.le_of_ble_eq_true rfl) rfl (fun v4 => ?_)
    refine tr_if_ne 25 hX dX8_add_20 (by decide) (fun c9 => ?_) (fun c9 => ?_)
    · exact tr_sub [] rfl (t_X8_add_23 hX hS)
    · refine tr_aload_n 0 hX dX8_add_25 rfl rfl ?_
      refine tr_getF hX dX8_add_26 sh_0 (by decide) rfl inlX8 (by decide) rfl (hS.g (Nat.le_of_ble_eq_true rfl)) cr_0_3 k_2_1 mq_0 ?_
      refine tr_getF hX dX8_add_29 sh_20 (by decide) rfl inlX0 (by decide) rfl (hS.g (Nat.le_of_ble_eq_true rfl)) cr_20_1 k_13_6 mq_20 ?_
      refine tr_iload_n 1 hX dX8_add_32 rfl rfl ?_
      refine tr_iald hX dX8_add_33 sh_28 (hS.e (Nat.le_of_ble_eq_true rfl)) (fun hb6 v5 => ?_)
      refine tr_istore_n hX dX8_add_34 rfl (hS.n (by decide)) rfl ?_
      refine tr_iload_n 0 hX dX8_add_35 rfl rfl ?_
      refine tr_bipush 8 hX dX8_add_36 (by decide) ?_
      refine tr_ic_lt 44 hX dX8_add_38 (by decide) (fun c8 => ?_) (fun c8 => ?_)
      · refine tr_aload_n 1 hX dX8_add_44 rfl rfl ?_
        refine tr_getF hX dX8_add_45 sh_0 (by decide) rfl inlX8 (by decide) rfl (hS.g (Nat.le_of_ble_eq_true rfl)) cr_0_3 k_2_1 mq_0 ?_
        refine tr_getF hX dX8_add_48 sh_20 (by decide) rfl inlX0 (by decide) rfl (hS.g (Nat.le_of_ble_eq_true rfl)) cr_20_0 k_13_7 mq_20 ?_
        refine tr_iload_n 2 hX dX8_add_51 rfl rfl ?_
        refine tr_aald hX dX8_add_52 sh_21 (hS.e (Nat.le_of_ble_eq_true rfl)) (fun hb7 => ?_)
        refine tr_iload_n 0 hX dX8_add_53 rfl rfl ?_
        refine tr_iload_n 3 hX dX8_add_54 rfl rfl ?_
        refine tr_iast hX dX8_add_55 (row_21 hb7).1 (hS.e (row_21 hb7).2) (fun _ => ?_)
        refine tr_aload_n 1 hX dX8_add_56 rfl rfl ?_
        refine tr_getF hX dX8_add_57 sh_0 (by decide) rfl inlX8 (by decide) rfl (hS.g (Nat.le_of_ble_eq_true rfl)) cr_0_3 k_2_1 mq_0 ?_
        refine tr_getF hX dX8_add_60 sh_20 (by decide) rfl inlX0 (by decide) rfl (hS.g (Nat.le_of_ble_eq_true rfl)) cr_20_1 k_13_6 mq_20 ?_
        refine tr_iload_n 2 hX dX8_add_63 rfl rfl ?_
        refine tr_iload_n 0 hX dX8_add_64 rfl rfl ?_
        refine tr_iconst 1 hX dX8_add_65 (by decide) ?_
        refine tr_iadd hX dX8_add_66 ?_
        refine tr_iast hX dX8_add_67 sh_28 (hS.e (Nat.le_of_ble_eq_true rfl)) (fun _ => ?_)
        refine tr_iload_n 0 hX dX8_add_68 rfl rfl ?_
        refine tr_iconst 1 hX dX8_add_69 (by decide) ?_
        refine tr_iadd hX dX8_add_70 ?_
        exact tr_iret0 hX hS dX8_add_71
      · refine tr_bipush (-3) hX dX8_add_41 (by decide) ?_
        exact tr_iret0 hX hS dX8_add_43
theorem ok_X8_add {l : Launch} {E : Ev} (x1 : Int32) (x2 : Int32)  : Ok l E Gall yX8_add cX8_add 4 ((some .int)) (rmz 1 21) eI [.ref (E.2.1 0), .int x1, .int x2] (f_X8_add x1 x2) := by
  refine ok_of0 (by decide) (Nat.le_of_ble_eq_true rfl) (fun X hX hV hS => ?_)
  subst hV
  exact t_X8_add_0 hX hS x1 x2
def f_X8_clear (x1 : Int32) : M Int32 :=
  bnd (f_X8_isBelow x1 6) (fun v1 => if v1 = 0 then (rt (-1)) else (aI 28 6 x1 (fun v2 => sI 28 6 x1 0 (rt v2))))
set_option maxRecDepth 10000 in
set_option maxHeartbeats 4000000 in
theorem t_X8_clear_0 {X : Cx} (hX : Good X RX8 cX8_clear ((some .int))) (hS : Sta X 1 21 3) (x1 : Int32) : Tr X eI 0 0 0 [(0, .ref (cxAd X 0)), (1, .int x1)] [] (f_X8_clear x1) := by
  unfold f_X8_clear
  refine tr_iload_n 1 hX dX8_clear_0 rfl rfl ?_
  refine tr_bipush 6 hX dX8_clear_1 (by decide) ?_
  refine tr_callS0I (st := []) 2 hX hS dX8_clear_3 (ok_X8_isBelow x1 6) k_12_19 k_12_20 k_1_2 k_12_21 hy_X8_isBelow.2 rfl rfl (Nat.le_of_ble_eq_true rfl) rfl (fun v1 => ?_)
  refine tr_if_ne 11 hX dX8_clear_6 (by decide) (fun c4 => ?_) (fun c4 => ?_)
  · refine tr_iconst (-1) hX dX8_clear_9 (by decide) ?_
    exact tr_iret0 hX hS dX8_clear_10
  · refine tr_aload_n 0 hX dX8_clear_11 rfl rfl ?_
    refine tr_getF hX dX8_clear_12 sh_0 (by decide) rfl inlX8 (by decide) rfl (hS.g (Nat.le_of_ble_eq_true rfl)) cr_0_3 k_2_1 mq_0 ?_
    refine tr_getF hX dX8_clear_15 sh_20 (by decide) rfl inlX0 (by decide) rfl (hS.g (Nat.le_of_ble_eq_true rfl)) cr_20_1 k_13_6 mq_20 ?_
    refine tr_iload_n 1 hX dX8_clear_18 rfl rfl ?_
    refine tr_iald hX dX8_clear_19 sh_28 (hS.e (Nat.le_of_ble_eq_true rfl)) (fun hb3 v2 => ?_)
    refine tr_istore_n hX dX8_clear_20 rfl (hS.n (by decide)) rfl ?_
    refine tr_aload_n 1 hX dX8_clear_21 rfl rfl ?_
    refine tr_getF hX dX8_clear_22 sh_0 (by decide) rfl inlX8 (by decide) rfl (hS.g (Nat.le_of_ble_eq_true rfl)) cr_0_3 k_2_1 mq_0 ?_
    refine tr_getF hX dX8_clear_25 sh_20 (by decide) rfl inlX0 (by decide) rfl (hS.g (Nat.le_of_ble_eq_true rfl)) cr_20_1 k_13_6 mq_20 ?_
    refine tr_iload_n 2 hX dX8_clear_28 rfl rfl ?_
    refine tr_iconst 0 hX dX8_clear_29 (by decide) ?_
    refine tr_iast hX dX8_clear_30 sh_28 (hS.e (Nat.le_of_ble_eq_true rfl)) (fun _ => ?_)
    refine tr_iload_n 0 hX dX8_clear_31 rfl rfl ?_
    exact tr_iret0 hX hS dX8_clear_32
theorem ok_X8_clear {l : Launch} {E : Ev} (x1 : Int32)  : Ok l E Gall yX8_clear cX8_clear 3 ((some .int)) (rmz 1 21) eI [.ref (E.2.1 0), .int x1] (f_X8_clear x1) := by
  refine ok_of0 (by decide) (Nat.le_of_ble_eq_true rfl) (fun X hX hV hS => ?_)
  subst hV
  exact t_X8_clear_0 hX hS x1
def f_X8_word_18  : M Int32 :=
  rt (-1)
set_option maxRecDepth 10000 in
set_option maxHeartbeats 4000000 in
theorem t_X8_word_18 {X : Cx} (hX : Good X RX8 cX8_word ((some .int))) (hS : Sta X 1 21 3) : Tr X eI 0 0 18 [] [] (f_X8_word_18) := by
  unfold f_X8_word_18
  refine tr_iconst (-1) hX dX8_word_18 (by decide) ?_
  exact tr_iret0 hX hS dX8_word_19
def f_X8_word_49 (p0 : Int32) : M Int32 :=
  rt p0
set_option maxRecDepth 10000 in
set_option maxHeartbeats 4000000 in
theorem t_X8_word_49 {X : Cx} (hX : Good X RX8 cX8_word ((some .int))) (hS : Sta X 1 21 3) (p0 : Int32) : Tr X eI 0 0 49 [] [.int p0] (f_X8_word_49 p0) := by
  unfold f_X8_word_49
  exact tr_iret0 hX hS dX8_word_49
def f_X8_word (x1 : Int32) (x2 : Int32) : M Int32 :=
  bnd (f_X8_isBelow x1 6) (fun v1 => if v1 = 0 then (f_X8_word_18) else (bnd (f_X8_isBelow x2 8) (fun v2 => if v2 = 0 then (f_X8_word_18) else (aI 28 6 x1 (fun v3 => if v3 ≤ x2 then (f_X8_word_49 (-4)) else (gd (inb x1 6) (aI (21 + 1 + x1.toNatClampNeg) 8 x2 (fun v6 => f_X8_word_49 v6))))))))
set_option maxRecDepth 10000 in
set_option maxHeartbeats 4000000 in
theorem t_X8_word_0 {X : Cx} (hX : Good X RX8 cX8_word ((some .int))) (hS : Sta X 1 21 3) (x1 : Int32) (x2 : Int32) : Tr X eI 0 0 0 [(0, .ref (cxAd X 0)), (1, .int x1), (2, .int x2)] [] (f_X8_word x1 x2) := by
  unfold f_X8_word
  refine tr_iload_n 1 hX dX8_word_0 rfl rfl ?_
  refine tr_bipush 6 hX dX8_word_1 (by decide) ?_
  refine tr_callS0I (st := []) 2 hX hS dX8_word_3 (ok_X8_isBelow x1 6) k_12_19 k_12_20 k_1_2 k_12_21 hy_X8_isBelow.2 rfl rfl (Nat.le_of_ble_eq_true rfl) rfl (fun v1 => ?_)
  refine tr_if_eq 18 hX dX8_word_6 (by decide) (fun c10 => ?_) (fun c10 => ?_)
  · exact tr_sub [] rfl (t_X8_word_18 hX hS)
  · refine tr_iload_n 2 hX dX8_word_9 rfl rfl ?_
    refine tr_bipush 8 hX dX8_word_10 (by decide) ?_
    refine tr_callS0I (st := []) 2 hX hS dX8_word_12 (ok_X8_isBelow x2 8) k_12_19 k_12_20 k_1_2 k_12_21 hy_X8_isBelow.2 rfl rfl (Nat.le_of_ble_eq_true rfl) rfl (fun v2 => ?_)
    refine tr_if_ne 20 hX dX8_word_15 (by decide) (fun c9 => ?_) (fun c9 => ?_)
    · exact tr_sub [] rfl (t_X8_word_18 hX hS)
    · refine tr_iload_n 2 hX dX8_word_20 rfl rfl ?_
      refine tr_aload_n 0 hX dX8_word_21 rfl rfl ?_
      refine tr_getF hX dX8_word_22 sh_0 (by decide) rfl inlX8 (by decide) rfl (hS.g (Nat.le_of_ble_eq_true rfl)) cr_0_3 k_2_1 mq_0 ?_
      refine tr_getF hX dX8_word_25 sh_20 (by decide) rfl inlX0 (by decide) rfl (hS.g (Nat.le_of_ble_eq_true rfl)) cr_20_1 k_13_6 mq_20 ?_
      refine tr_iload_n 1 hX dX8_word_28 rfl rfl ?_
      refine tr_iald hX dX8_word_29 sh_28 (hS.e (Nat.le_of_ble_eq_true rfl)) (fun hb4 v3 => ?_)
      refine tr_ic_ge 47 hX dX8_word_30 (by decide) (fun c8 => ?_) (fun c8 => ?_)
      · refine tr_bipush (-4) hX dX8_word_47 (by decide) ?_
        exact tr_sub [] rfl (t_X8_word_49 hX hS (-4))
      · refine tr_aload_n 0 hX dX8_word_33 rfl rfl ?_
        refine tr_getF hX dX8_word_34 sh_0 (by decide) rfl inlX8 (by decide) rfl (hS.g (Nat.le_of_ble_eq_true rfl)) cr_0_3 k_2_1 mq_0 ?_
        refine tr_getF hX dX8_word_37 sh_20 (by decide) rfl inlX0 (by decide) rfl (hS.g (Nat.le_of_ble_eq_true rfl)) cr_20_0 k_13_7 mq_20 ?_
        refine tr_iload_n 1 hX dX8_word_40 rfl rfl ?_
        refine tr_aald hX dX8_word_41 sh_21 (hS.e (Nat.le_of_ble_eq_true rfl)) (fun hb5 => ?_)
        refine tr_iload_n 2 hX dX8_word_42 rfl rfl ?_
        refine tr_iald hX dX8_word_43 (row_21 hb5).1 (hS.e (row_21 hb5).2) (fun hb7 v6 => ?_)
        refine tr_goto 49 hX dX8_word_44 (by decide) ?_
        exact tr_sub [] rfl (t_X8_word_49 hX hS v6)
theorem ok_X8_word {l : Launch} {E : Ev} (x1 : Int32) (x2 : Int32)  : Ok l E Gall yX8_word cX8_word 3 ((some .int)) (rmz 1 21) eI [.ref (E.2.1 0), .int x1, .int x2] (f_X8_word x1 x2) := by
  refine ok_of0 (by decide) (Nat.le_of_ble_eq_true rfl) (fun X hX hV hS => ?_)
  subst hV
  exact t_X8_word_0 hX hS x1 x2
def f_X8_said_22  : M Int32 :=
  rt (-1)
set_option maxRecDepth 10000 in
set_option maxHeartbeats 4000000 in
theorem t_X8_said_22 {X : Cx} (hX : Good X RX8 cX8_said ((some .int))) (hS : Sta X 3 70 4) : Tr X eI 0 0 22 [] [] (f_X8_said_22) := by
  unfold f_X8_said_22
  refine tr_iconst (-1) hX dX8_said_22 (by decide) ?_
  exact tr_iret0 hX hS dX8_said_23
def f_X8_said_106 (p0 : Int32) : M Int32 :=
  rt p0
set_option maxRecDepth 10000 in
set_option maxHeartbeats 4000000 in
theorem t_X8_said_106 {X : Cx} (hX : Good X RX8 cX8_said ((some .int))) (hS : Sta X 3 70 4) (p0 : Int32) : Tr X eI 0 0 106 [] [.int p0] (f_X8_said_106 p0) := by
  unfold f_X8_said_106
  exact tr_iret0 hX hS dX8_said_106
def f_X8_said (x1 : Int32) (x2 : Int32) (x3 : Int32) : M Int32 :=
  bnd (f_X8_isBelow x1 6) (fun v1 => if v1 = 0 then (f_X8_said_22) else (bnd (f_X8_isBelow x2 5) (fun v2 => if v2 = 0 then (f_X8_said_22) else (if (-1) ≤ x3 then (aI 28 6 x1 (fun v3 => if v3 = 0 then (rt (-2)) else (aI 28 6 x1 (fun v5 => bnd (f_X1_follow x2 v5) (fun _ => if x3 = (-1) then (rI 50 0 (fun v8 => rt v8)) else (rI 50 0 (fun v9 => if v9 ≤ x3 then (f_X8_said_106 (-4)) else (rT 0 1 (fun t10 => gd (inb x1 6) (bnd (f_X1_token t10 (21 + 1 + x1.toNatClampNeg) x3) (fun v12 => f_X8_said_106 v12))))))))))) else (f_X8_said_22)))))
set_option maxRecDepth 10000 in
set_option maxHeartbeats 4000000 in
theorem t_X8_said_0 {X : Cx} (hX : Good X RX8 cX8_said ((some .int))) (hS : Sta X 3 70 4) (x1 : Int32) (x2 : Int32) (x3 : Int32) : Tr X eI 0 0 0 [(0, .ref (cxAd X 0)), (1, .int x1), (2, .int x2), (3, .int x3)] [] (f_X8_said x1 x2 x3) := by
  unfold f_X8_said
  refine tr_iload_n 1 hX dX8_said_0 rfl rfl ?_
  refine tr_bipush 6 hX dX8_said_1 (by decide) ?_
  refine tr_callS0I (st := []) 2 hX hS dX8_said_3 (ok_X8_isBelow x1 6) k_12_19 k_12_20 k_1_2 k_12_21 hy_X8_isBelow.2 rfl rfl (Nat.le_of_ble_eq_true rfl) rfl (fun v1 => ?_)
  refine tr_if_eq 22 hX dX8_said_6 (by decide) (fun c18 => ?_) (fun c18 => ?_)
  · exact tr_sub [] rfl (t_X8_said_22 hX hS)
  · refine tr_iload_n 2 hX dX8_said_9 rfl rfl ?_
    refine tr_iconst 5 hX dX8_said_10 (by decide) ?_
    refine tr_callS0I (st := []) 2 hX hS dX8_said_11 (ok_X8_isBelow x2 5) k_12_19 k_12_20 k_1_2 k_12_21 hy_X8_isBelow.2 rfl rfl (Nat.le_of_ble_eq_true rfl) rfl (fun v2 => ?_)
    refine tr_if_eq 22 hX dX8_said_14 (by decide) (fun c17 => ?_) (fun c17 => ?_)
    · exact tr_sub [] rfl (t_X8_said_22 hX hS)
    · refine tr_iload_n 3 hX dX8_said_17 rfl rfl ?_
      refine tr_iconst (-1) hX dX8_said_18 (by decide) ?_
      refine tr_ic_ge 24 hX dX8_said_19 (by decide) (fun c16 => ?_) (fun c16 => ?_)
      · refine tr_aload_n 0 hX dX8_said_24 rfl rfl ?_
        refine tr_getF hX dX8_said_25 sh_0 (by decide) rfl inlX8 (by decide) rfl (hS.g (Nat.le_of_ble_eq_true rfl)) cr_0_3 k_2_1 mq_0 ?_
        refine tr_getF hX dX8_said_28 sh_20 (by decide) rfl inlX0 (by decide) rfl (hS.g (Nat.le_of_ble_eq_true rfl)) cr_20_1 k_13_6 mq_20 ?_
        refine tr_iload_n 1 hX dX8_said_31 rfl rfl ?_
        refine tr_iald hX dX8_said_32 sh_28 (hS.e (Nat.le_of_ble_eq_true rfl)) (fun hb4 v3 => ?_)
        refine tr_if_ne 39 hX dX8_said_33 (by decide) (fun c15 => ?_) (fun c15 => ?_)
        · refine tr_bipush (-2) hX dX8_said_36 (by decide) ?_
          exact tr_iret0 hX hS dX8_said_38
        · refine tr_aload_n 0 hX dX8_said_39 rfl rfl ?_
          refine tr_getF hX dX8_said_40 sh_0 (by decide) rfl inlX8 (by decide) rfl (hS.g (Nat.le_of_ble_eq_true rfl)) cr_0_7 k_2_7 mq_0 ?_
          refine tr_iload_n 2 hX dX8_said_43 rfl rfl ?_
          refine tr_aload_n 0 hX dX8_said_44 rfl rfl ?_
          refine tr_getF hX dX8_said_45 sh_0 (by decide) rfl inlX8 (by decide) rfl (hS.g (Nat.le_of_ble_eq_true rfl)) cr_0_3 k_2_1 mq_0 ?_
          refine tr_getF hX dX8_said_48 sh_20 (by decide) rfl inlX0 (by decide) rfl (hS.g (Nat.le_of_ble_eq_true rfl)) cr_20_1 k_13_6 mq_20 ?_
          refine tr_iload_n 1 hX dX8_said_51 rfl rfl ?_
          refine tr_iald hX dX8_said_52 sh_28 (hS.e (Nat.le_of_ble_eq_true rfl)) (fun hb6 v5 => ?_)
          refine tr_callV0U (st := []) 2 hX hS dX8_said_53 (ok_X1_follow x2 v5) sh_50 (by decide) rfl (Nat.le_of_ble_eq_true rfl) k_14_20 k_14_21 k_14_22 k_2_6 k_14_23 hy_X1_follow rfl rfl (Nat.le_of_ble_eq_true rfl) rfl (fun _ => ?_)
          refine tr_iload_n 3 hX dX8_said_56 rfl rfl ?_
          refine tr_iconst (-1) hX dX8_said_57 (by decide) ?_
          refine tr_ic_ne 69 hX dX8_said_58 (by decide) (fun c14 => ?_) (fun c14 => ?_)
          · refine tr_aload_n 0 hX dX8_said_61 rfl rfl ?_
            refine tr_getF hX dX8_said_62 sh_0 (by decide) rfl inlX8 (by decide) rfl (hS.g (Nat.le_of_ble_eq_true rfl)) cr_0_7 k_2_7 mq_0 ?_
            refine tr_getI hX dX8_said_65 sh_50 (by decide) rfl inlX1 (by decide) rfl (hS.e (Nat.le_of_ble_eq_true rfl)) k_14_19 (fun v8 => ?_)
            exact tr_iret0 hX hS dX8_said_68
          · refine tr_iload_n 3 hX dX8_said_69 rfl rfl ?_
            refine tr_aload_n 0 hX dX8_said_70 rfl rfl ?_
            refine tr_getF hX dX8_said_71 sh_0 (by decide) rfl inlX8 (by decide) rfl (hS.g (Nat.le_of_ble_eq_true rfl)) cr_0_7 k_2_7 mq_0 ?_
            refine tr_getI hX dX8_said_74 sh_50 (by decide) rfl inlX1 (by decide) rfl (hS.e (Nat.le_of_ble_eq_true rfl)) k_14_19 (fun v9 => ?_)
            refine tr_ic_ge 104 hX dX8_said_77 (by decide) (fun c13 => ?_) (fun c13 => ?_)
            · refine tr_bipush (-4) hX dX8_said_104 (by decide) ?_
              exact tr_sub [] rfl (t_X8_said_106 hX hS (-4))
            · refine tr_aload_n 0 hX dX8_said_80 rfl rfl ?_
              refine tr_getF hX dX8_said_81 sh_0 (by decide) rfl inlX8 (by decide) rfl (hS.g (Nat.le_of_ble_eq_true rfl)) cr_0_7 k_2_7 mq_0 ?_
              refine tr_aload_n 0 hX dX8_said_84 rfl rfl ?_
              refine tr_getT hX dX8_said_85 sh_0 (by decide) rfl inlX8 (by decide) rfl (hS.e (Nat.le_of_ble_eq_true rfl)) k_1_20 (fun t10 ht10 => ?_)
              refine tr_aload_n 0 hX dX8_said_88 rfl rfl ?_
              refine tr_getF hX dX8_said_89 sh_0 (by decide) rfl inlX8 (by decide) rfl (hS.g (Nat.le_of_ble_eq_true rfl)) cr_0_3 k_2_1 mq_0 ?_
              refine tr_getF hX dX8_said_92 sh_20 (by decide) rfl inlX0 (by decide) rfl (hS.g (Nat.le_of_ble_eq_true rfl)) cr_20_0 k_13_7 mq_20 ?_
              refine tr_iload_n 1 hX dX8_said_95 rfl rfl ?_
              refine tr_aald hX dX8_said_96 sh_21 (hS.e (Nat.le_of_ble_eq_true rfl)) (fun hb11 => ?_)
              refine tr_iload_n 3 hX dX8_said_97 rfl rfl ?_
              refine tr_callV0I (st := []) 3 hX hS dX8_said_98 (ok_X1_token t10 (21 + 1 + x1.toNatClampNeg) x3 ht10 (row_21 hb11)) sh_50 (by decide) rfl (Nat.le_of_ble_eq_true rfl) k_15_12 k_15_13 k_15_14 k_2_6 k_15_15 hy_X1_token rfl rfl (Nat.le_of_ble_eq_true rfl) rfl (fun v12 => ?_)
              refine tr_goto 106 hX dX8_said_101 (by decide) ?_
              exact tr_sub [] rfl (t_X8_said_106 hX hS v12)
      · exact tr_sub [] rfl (t_X8_said_22 hX hS)
theorem ok_X8_said {l : Launch} {E : Ev} (x1 : Int32) (x2 : Int32) (x3 : Int32)  : Ok l E Gall yX8_said cX8_said 4 ((some .int)) (rmz 3 70) eI [.ref (E.2.1 0), .int x1, .int x2, .int x3] (f_X8_said x1 x2 x3) := by
  refine ok_of0 (by decide) (Nat.le_of_ble_eq_true rfl) (fun X hX hV hS => ?_)
  subst hV
  exact t_X8_said_0 hX hS x1 x2 x3
def f_X8_say_17  : M Int32 :=
  rt (-1)
set_option maxRecDepth 10000 in
set_option maxHeartbeats 4000000 in
theorem t_X8_say_17 {X : Cx} (hX : Good X RX8 cX8_say ((some .int))) (hS : Sta X 3 70 4) : Tr X eI 0 0 17 [] [] (f_X8_say_17) := by
  unfold f_X8_say_17
  refine tr_iconst (-1) hX dX8_say_17 (by decide) ?_
  exact tr_iret0 hX hS dX8_say_18
def f_X8_say_53 (x1 : Int32) (x2 : Int32) (s53 : Int32 → M Int32) (x3 : Int32) : M Int32 :=
  rI 50 0 (fun v1 => if v1 ≤ x3 then (rI 50 0 (fun v2 => wI 20 3 v2 (wI 20 4 x2 (aI 28 6 x1 (fun v3 => wI 20 5 v3 (rI 20 3 (fun v5 => rt v5))))))) else (rT 0 1 (fun t6 => gd (inb x1 6) (bnd (f_X1_token t6 (21 + 1 + x1.toNatClampNeg) x3) (fun v8 => sI 29 84 x3 v8 (s53 (x3 + 1)))))))
set_option maxRecDepth 10000 in
set_option maxHeartbeats 4000000 in
theorem t_X8_say_53 {X : Cx} (hX : Good X RX8 cX8_say ((some .int))) (hS : Sta X 3 70 4) (x1 : Int32) (x2 : Int32) : ∀ s53 : Int32 → M Int32, (∀ x3 : Int32, Tr X eI 0 0 53 [(0, .ref (cxAd X 0)), (1, .int x1), (2, .int x2), (3, .int x3)] [] (s53 x3)) → ∀ x3 : Int32, Tr X eI 0 0 53 [(0, .ref (cxAd X 0)), (1, .int x1), (2, .int x2), (3, .int x3)] [] (f_X8_say_53 x1 x2 s53 x3) := by
  intro s53 hs53 x3
  unfold f_X8_say_53
  refine tr_iload_n 3 hX dX8_say_53 rfl rfl ?_
  refine tr_aload_n 0 hX dX8_say_54 rfl rfl ?_
  refine tr_getF hX dX8_say_55 sh_0 (by decide) rfl inlX8 (by decide) rfl (hS.g (Nat.le_of_ble_eq_true rfl)) cr_0_7 k_2_7 mq_0 ?_
  refine tr_getI hX dX8_say_58 sh_50 (by decide) rfl inlX1 (by decide) rfl (hS.e (Nat.le_of_ble_eq_true rfl)) k_14_19 (fun v1 => ?_)
  refine tr_ic_ge 100 hX dX8_say_61 (by decide) (fun c9 => ?_) (fun c9 => ?_)
  · refine tr_aload_n 0 hX dX8_say_100 rfl rfl ?_
    refine tr_getF hX dX8_say_101 sh_0 (by decide) rfl inlX8 (by decide) rfl (hS.g (Nat.le_of_ble_eq_true rfl)) cr_0_3 k_2_1 mq_0 ?_
    refine tr_aload_n 0 hX dX8_say_104 rfl rfl ?_
    refine tr_getF hX dX8_say_105 sh_0 (by decide) rfl inlX8 (by decide) rfl (hS.g (Nat.le_of_ble_eq_true rfl)) cr_0_7 k_2_7 mq_0 ?_
    refine tr_getI hX dX8_say_108 sh_50 (by decide) rfl inlX1 (by decide) rfl (hS.e (Nat.le_of_ble_eq_true rfl)) k_14_19 (fun v2 => ?_)
    refine tr_putI hX dX8_say_111 sh_20 (by decide) rfl inlX0 tyX0 tyX0_ok nmX0 (by decide) rfl (hS.e (Nat.le_of_ble_eq_true rfl)) k_18_16 rfl rfl rfl rfl ?_
    refine tr_aload_n 0 hX dX8_say_114 rfl rfl ?_
    refine tr_getF hX dX8_say_115 sh_0 (by decide) rfl inlX8 (by decide) rfl (hS.g (Nat.le_of_ble_eq_true rfl)) cr_0_3 k_2_1 mq_0 ?_
    refine tr_iload_n 2 hX dX8_say_118 rfl rfl ?_
    refine tr_putI hX dX8_say_119 sh_20 (by decide) rfl inlX0 tyX0 tyX0_ok nmX0 (by decide) rfl (hS.e (Nat.le_of_ble_eq_true rfl)) k_18_17 rfl rfl rfl rfl ?_
    refine tr_aload_n 0 hX dX8_say_122 rfl rfl ?_
    refine tr_getF hX dX8_say_123 sh_0 (by decide) rfl inlX8 (by decide) rfl (hS.g (Nat.le_of_ble_eq_true rfl)) cr_0_3 k_2_1 mq_0 ?_
    refine tr_aload_n 0 hX dX8_say_126 rfl rfl ?_
    refine tr_getF hX dX8_say_127 sh_0 (by decide) rfl inlX8 (by decide) rfl (hS.g (Nat.le_of_ble_eq_true rfl)) cr_0_3 k_2_1 mq_0 ?_
    refine tr_getF hX dX8_say_130 sh_20 (by decide) rfl inlX0 (by decide) rfl (hS.g (Nat.le_of_ble_eq_true rfl)) cr_20_1 k_13_6 mq_20 ?_
    refine tr_iload_n 1 hX dX8_say_133 rfl rfl ?_
    refine tr_iald hX dX8_say_134 sh_28 (hS.e (Nat.le_of_ble_eq_true rfl)) (fun hb4 v3 => ?_)
    refine tr_putI hX dX8_say_135 sh_20 (by decide) rfl inlX0 tyX0 tyX0_ok nmX0 (by decide) rfl (hS.e (Nat.le_of_ble_eq_true rfl)) k_18_18 rfl rfl rfl rfl ?_
    refine tr_aload_n 0 hX dX8_say_138 rfl rfl ?_
    refine tr_getF hX dX8_say_139 sh_0 (by decide) rfl inlX8 (by decide) rfl (hS.g (Nat.le_of_ble_eq_true rfl)) cr_0_3 k_2_1 mq_0 ?_
    refine tr_getI hX dX8_say_142 sh_20 (by decide) rfl inlX0 (by decide) rfl (hS.e (Nat.le_of_ble_eq_true rfl)) k_18_16 (fun v5 => ?_)
    exact tr_iret0 hX hS dX8_say_145
  · refine tr_aload_n 0 hX dX8_say_64 rfl rfl ?_
    refine tr_getF hX dX8_say_65 sh_0 (by decide) rfl inlX8 (by decide) rfl (hS.g (Nat.le_of_ble_eq_true rfl)) cr_0_3 k_2_1 mq_0 ?_
    refine tr_getF hX dX8_say_68 sh_20 (by decide) rfl inlX0 (by decide) rfl (hS.g (Nat.le_of_ble_eq_true rfl)) cr_20_2 k_18_15 mq_20 ?_
    refine tr_iload_n 3 hX dX8_say_71 rfl rfl ?_
    refine tr_aload_n 0 hX dX8_say_72 rfl rfl ?_
    refine tr_getF hX dX8_say_73 sh_0 (by decide) rfl inlX8 (by decide) rfl (hS.g (Nat.le_of_ble_eq_true rfl)) cr_0_7 k_2_7 mq_0 ?_
    refine tr_aload_n 0 hX dX8_say_76 rfl rfl ?_
    refine tr_getT hX dX8_say_77 sh_0 (by decide) rfl inlX8 (by decide) rfl (hS.e (Nat.le_of_ble_eq_true rfl)) k_1_20 (fun t6 ht6 => ?_)
    refine tr_aload_n 0 hX dX8_say_80 rfl rfl ?_
    refine tr_getF hX dX8_say_81 sh_0 (by decide) rfl inlX8 (by decide) rfl (hS.g (Nat.le_of_ble_eq_true rfl)) cr_0_3 k_2_1 mq_0 ?_
    refine tr_getF hX dX8_say_84 sh_20 (by decide) rfl inlX0 (by decide) rfl (hS.g (Nat.le_of_ble_eq_true rfl)) cr_20_0 k_13_7 mq_20 ?_
    refine tr_iload_n 1 hX dX8_say_87 rfl rfl ?_
    refine tr_aald hX dX8_say_88 sh_21 (hS.e (Nat.le_of_ble_eq_true rfl)) (fun hb7 => ?_)
    refine tr_iload_n 3 hX dX8_say_89 rfl rfl ?_
    refine tr_callV0I (st := [.int x3, .ref (cxAd X 29)]) 3 hX hS dX8_say_90 (ok_X1_token t6 (21 + 1 + x1.toNatClampNeg) x3 ht6 (row_21 hb7)) sh_50 (by decide) rfl (Nat.le_of_ble_eq_true rfl) k_15_12 k_15_13 k_15_14 k_2_6 k_15_15 hy_X1_token rfl rfl (Nat.le_of_ble_eq_true rfl) rfl (fun v8 => ?_)
    refine tr_iast hX dX8_say_93 sh_29 (hS.e (Nat.le_of_ble_eq_true rfl)) (fun _ => ?_)
    refine tr_iinc (x3 + 1) 3 hX dX8_say_94 rfl (congrArg (fun z => x3 + z) (by decide)) (hS.n (by decide)) rfl ?_
    refine tr_goto 53 hX dX8_say_97 (by decide) ?_
    exact tr_sub [1, 2, 3, 0] rfl (hs53 (x3 + 1))
def f_X8_say (x1 : Int32) (x2 : Int32) : M Int32 :=
  bnd (f_X8_isBelow x1 6) (fun v1 => if v1 = 0 then (f_X8_say_17) else (bnd (f_X8_isBelow x2 5) (fun v2 => if v2 = 0 then (f_X8_say_17) else (aI 28 6 x1 (fun v3 => if v3 = 0 then (rt (-2)) else (aI 28 6 x1 (fun v5 => bnd (f_X1_follow x2 v5) (fun _ => fix1 FU (f_X8_say_53 x1 x2) 0))))))))
set_option maxRecDepth 10000 in
set_option maxHeartbeats 4000000 in
theorem t_X8_say_0 {X : Cx} (hX : Good X RX8 cX8_say ((some .int))) (hS : Sta X 3 70 4) (x1 : Int32) (x2 : Int32) : Tr X eI 0 0 0 [(0, .ref (cxAd X 0)), (1, .int x1), (2, .int x2)] [] (f_X8_say x1 x2) := by
  unfold f_X8_say
  refine tr_iload_n 1 hX dX8_say_0 rfl rfl ?_
  refine tr_bipush 6 hX dX8_say_1 (by decide) ?_
  refine tr_callS0I (st := []) 2 hX hS dX8_say_3 (ok_X8_isBelow x1 6) k_12_19 k_12_20 k_1_2 k_12_21 hy_X8_isBelow.2 rfl rfl (Nat.le_of_ble_eq_true rfl) rfl (fun v1 => ?_)
  refine tr_if_eq 17 hX dX8_say_6 (by decide) (fun c10 => ?_) (fun c10 => ?_)
  · exact tr_sub [] rfl (t_X8_say_17 hX hS)
  · refine tr_iload_n 2 hX dX8_say_9 rfl rfl ?_
    refine tr_iconst 5 hX dX8_say_10 (by decide) ?_
    refine tr_callS0I (st := []) 2 hX hS dX8_say_11 (ok_X8_isBelow x2 5) k_12_19 k_12_20 k_1_2 k_12_21 hy_X8_isBelow.2 rfl rfl (Nat.le_of_ble_eq_true rfl) rfl (fun v2 => ?_)
    refine tr_if_ne 19 hX dX8_say_14 (by decide) (fun c9 => ?_) (fun c9 => ?_)
    · exact tr_sub [] rfl (t_X8_say_17 hX hS)
    · refine tr_aload_n 0 hX dX8_say_19 rfl rfl ?_
      refine tr_getF hX dX8_say_20 sh_0 (by decide) rfl inlX8 (by decide) rfl (hS.g (Nat.le_of_ble_eq_true rfl)) cr_0_3 k_2_1 mq_0 ?_
      refine tr_getF hX dX8_say_23 sh_20 (by decide) rfl inlX0 (by decide) rfl (hS.g (Nat.le_of_ble_eq_true rfl)) cr_20_1 k_13_6 mq_20 ?_
      refine tr_iload_n 1 hX dX8_say_26 rfl rfl ?_
      refine tr_iald hX dX8_say_27 sh_28 (hS.e (Nat.le_of_ble_eq_true rfl)) (fun hb4 v3 => ?_)
      refine tr_if_ne 34 hX dX8_say_28 (by decide) (fun c8 => ?_) (fun c8 => ?_)
      · refine tr_bipush (-2) hX dX8_say_31 (by decide) ?_
        exact tr_iret0 hX hS dX8_say_33
      · refine tr_aload_n 0 hX dX8_say_34 rfl rfl ?_
        refine tr_getF hX dX8_say_35 sh_0 (by decide) rfl inlX8 (by decide) rfl (hS.g (Nat.le_of_ble_eq_true rfl)) cr_0_7 k_2_7 mq_0 ?_
        refine tr_iload_n 2 hX dX8_say_38 rfl rfl ?_
        refine tr_aload_n 0 hX dX8_say_39 rfl rfl ?_
        refine tr_getF hX dX8_say_40 sh_0 (by decide) rfl inlX8 (by decide) rfl (hS.g (Nat.le_of_ble_eq_true rfl)) cr_0_3 k_2_1 mq_0 ?_
        refine tr_getF hX dX8_say_43 sh_20 (by decide) rfl inlX0 (by decide) rfl (hS.g (Nat.le_of_ble_eq_true rfl)) cr_20_1 k_13_6 mq_20 ?_
        refine tr_iload_n 1 hX dX8_say_46 rfl rfl ?_
        refine tr_iald hX dX8_say_47 sh_28 (hS.e (Nat.le_of_ble_eq_true rfl)) (fun hb6 v5 => ?_)
        refine tr_callV0U (st := []) 2 hX hS dX8_say_48 (ok_X1_follow x2 v5) sh_50 (by decide) rfl (Nat.le_of_ble_eq_true rfl) k_14_20 k_14_21 k_14_22 k_2_6 k_14_23 hy_X1_follow rfl rfl (Nat.le_of_ble_eq_true rfl) rfl (fun _ => ?_)
        refine tr_iconst 0 hX dX8_say_51 (by decide) ?_
        refine tr_istore_n hX dX8_say_52 rfl (hS.n (by decide)) rfl ?_
        exact tr_sub [1, 2, 3, 0] rfl (tr_fix1 (lvf := fun x3 => [(0, .ref (cxAd X 0)), (1, .int x1), (2, .int x2), (3, .int x3)]) (t_X8_say_53 hX hS x1 x2) FU 0)
theorem ok_X8_say {l : Launch} {E : Ev} (x1 : Int32) (x2 : Int32)  : Ok l E Gall yX8_say cX8_say 4 ((some .int)) (rmz 3 70) eI [.ref (E.2.1 0), .int x1, .int x2] (f_X8_say x1 x2) := by
  refine ok_of0 (by decide) (Nat.le_of_ble_eq_true rfl) (fun X hX hV hS => ?_)
  subst hV
  exact t_X8_say_0 hX hS x1 x2
def f_X8_alter_24  : M Int32 :=
  rt (-1)
set_option maxRecDepth 10000 in
set_option maxHeartbeats 4000000 in
theorem t_X8_alter_24 {X : Cx} (hX : Good X RX8 cX8_alter ((some .int))) (hS : Sta X 1 21 4) : Tr X eI 0 0 24 [] [] (f_X8_alter_24) := by
  unfold f_X8_alter_24
  refine tr_iconst (-1) hX dX8_alter_24 (by decide) ?_
  exact tr_iret0 hX hS dX8_alter_25
def f_X8_alter (x1 : Int32) (x2 : Int32) : M Int32 :=
  rI 20 3 (fun v1 => bnd (f_X8_isBelow x1 v1) (fun v2 => if v2 = 0 then (f_X8_alter_24) else (bnd (f_X8_isBelow x2 1024) (fun v3 => if v3 = 0 then (f_X8_alter_24) else (aI 29 84 x1 (fun v4 => sI 29 84 x1 x2 (rt v4)))))))
set_option maxRecDepth 10000 in
set_option maxHeartbeats 4000000 in
theorem t_X8_alter_0 {X : Cx} (hX : Good X RX8 cX8_alter ((some .int))) (hS : Sta X 1 21 4) (x1 : Int32) (x2 : Int32) : Tr X eI 0 0 0 [(0, .ref (cxAd X 0)), (1, .int x1), (2, .int x2)] [] (f_X8_alter x1 x2) := by
  unfold f_X8_alter
  refine tr_iload_n 1 hX dX8_alter_0 rfl rfl ?_
  refine tr_aload_n 0 hX dX8_alter_1 rfl rfl ?_
  refine tr_getF hX dX8_alter_2 sh_0 (by decide) rfl inlX8 (by decide) rfl (hS.g (Nat.le_of_ble_eq_true rfl)) cr_0_3 k_2_1 mq_0 ?_
  refine tr_getI hX dX8_alter_5 sh_20 (by decide) rfl inlX0 (by decide) rfl (hS.e (Nat.le_of_ble_eq_true rfl)) k_18_16 (fun v1 => ?_)
  refine tr_callS0I (st := []) 2 hX hS dX8_alter_8 (ok_X8_isBelow x1 v1) k_12_19 k_12_20 k_1_2 k_12_21 hy_X8_isBelow.2 rfl rfl (Nat.le_of_ble_eq_true rfl) rfl (fun v2 => ?_)
  refine tr_if_eq 24 hX dX8_alter_11 (by decide) (fun c7 => ?_) (fun c7 => ?_)
  · exact tr_sub [] rfl (t_X8_alter_24 hX hS)
  · refine tr_iload_n 2 hX dX8_alter_14 rfl rfl ?_
    refine tr_sipush 1024 hX dX8_alter_15 (by decide) ?_
    refine tr_callS0I (st := []) 2 hX hS dX8_alter_18 (ok_X8_isBelow x2 1024) k_12_19 k_12_20 k_1_2 k_12_21 hy_X8_isBelow.2 rfl rfl (Nat.le_of_ble_eq_true rfl) rfl (fun v3 => ?_)
    refine tr_if_ne 26 hX dX8_alter_21 (by decide) (fun c6 => ?_) (fun c6 => ?_)
    · exact tr_sub [] rfl (t_X8_alter_24 hX hS)
    · refine tr_aload_n 0 hX dX8_alter_26 rfl rfl ?_
      refine tr_getF hX dX8_alter_27 sh_0 (by decide) rfl inlX8 (by decide) rfl (hS.g (Nat.le_of_ble_eq_true rfl)) cr_0_3 k_2_1 mq_0 ?_
      refine tr_getF hX dX8_alter_30 sh_20 (by decide) rfl inlX0 (by decide) rfl (hS.g (Nat.le_of_ble_eq_true rfl)) cr_20_2 k_18_15 mq_20 ?_
      refine tr_iload_n 1 hX dX8_alter_33 rfl rfl ?_
      refine tr_iald hX dX8_alter_34 sh_29 (hS.e (Nat.le_of_ble_eq_true rfl)) (fun hb5 v4 => ?_)
      refine tr_istore_n hX dX8_alter_35 rfl (hS.n (by decide)) rfl ?_
      refine tr_aload_n 1 hX dX8_alter_36 rfl rfl ?_
      refine tr_getF hX dX8_alter_37 sh_0 (by decide) rfl inlX8 (by decide) rfl (hS.g (Nat.le_of_ble_eq_true rfl)) cr_0_3 k_2_1 mq_0 ?_
      refine tr_getF hX dX8_alter_40 sh_20 (by decide) rfl inlX0 (by decide) rfl (hS.g (Nat.le_of_ble_eq_true rfl)) cr_20_2 k_18_15 mq_20 ?_
      refine tr_iload_n 2 hX dX8_alter_43 rfl rfl ?_
      refine tr_iload_n 3 hX dX8_alter_44 rfl rfl ?_
      refine tr_iast hX dX8_alter_45 sh_29 (hS.e (Nat.le_of_ble_eq_true rfl)) (fun _ => ?_)
      refine tr_iload_n 0 hX dX8_alter_46 rfl rfl ?_
      exact tr_iret0 hX hS dX8_alter_47
theorem ok_X8_alter {l : Launch} {E : Ev} (x1 : Int32) (x2 : Int32)  : Ok l E Gall yX8_alter cX8_alter 4 ((some .int)) (rmz 1 21) eI [.ref (E.2.1 0), .int x1, .int x2] (f_X8_alter x1 x2) := by
  refine ok_of0 (by decide) (Nat.le_of_ble_eq_true rfl) (fun X hX hV hS => ?_)
  subst hV
  exact t_X8_alter_0 hX hS x1 x2
def f_X8_weighSaying_41 (s41 : Int32 → M Unit) (x1 : Int32) : M Unit :=
  rI 50 0 (fun v1 => if v1 ≤ x1 then (bnd f_X3_weigh (fun _ => rt ())) else (bnd (f_X1_before x1) (fun v3 => aI 51 84 x1 (fun v4 => bnd (f_X1_behind x1) (fun v6 => aI 29 84 x1 (fun v7 => bnd (f_X7_want v3 v4 v6 v7) (fun _ => s41 (x1 + 1))))))))
set_option maxRecDepth 10000 in
set_option maxHeartbeats 4000000 in
theorem t_X8_weighSaying_41 {X : Cx} (hX : Good X RX8 cX8_weighSaying (none)) (hS : Sta X 4 103 2) : ∀ s41 : Int32 → M Unit, (∀ x1 : Int32, Tr X eU 0 0 41 [(0, .ref (cxAd X 0)), (1, .int x1)] [] (s41 x1)) → ∀ x1 : Int32, Tr X eU 0 0 41 [(0, .ref (cxAd X 0)), (1, .int x1)] [] (f_X8_weighSaying_41 s41 x1) := by
  intro s41 hs41 x1
  unfold f_X8_weighSaying_41
  refine tr_iload_n 1 hX dX8_weighSaying_41 rfl rfl ?_
  refine tr_aload_n 0 hX dX8_weighSaying_42 rfl rfl ?_
  refine tr_getF hX dX8_weighSaying_43 sh_0 (by decide) rfl inlX8 (by decide) rfl (hS.g (Nat.le_of_ble_eq_true rfl)) cr_0_7 k_2_7 mq_0 ?_
  refine tr_getI hX dX8_weighSaying_46 sh_50 (by decide) rfl inlX1 (by decide) rfl (hS.e (Nat.le_of_ble_eq_true rfl)) k_14_19 (fun v1 => ?_)
  refine tr_ic_ge 102 hX dX8_weighSaying_49 (by decide) (fun c10 => ?_) (fun c10 => ?_)
  · refine tr_aload_n 0 hX dX8_weighSaying_102 rfl rfl ?_
    refine tr_getF hX dX8_weighSaying_103 sh_0 (by decide) rfl inlX8 (by decide) rfl (hS.g (Nat.le_of_ble_eq_true rfl)) cr_0_8 k_2_11 mq_0 ?_
    refine tr_callV0U (st := []) 0 hX hS dX8_weighSaying_106 (ok_X3_weigh) sh_53 (by decide) rfl (Nat.le_of_ble_eq_true rfl) k_21_8 k_21_9 k_21_10 k_2_10 k_21_11 hy_X3_weigh rfl rfl (Nat.le_of_ble_eq_true rfl) rfl (fun _ => ?_)
    exact tr_vret0 hX hS dX8_weighSaying_109
  · refine tr_aload_n 0 hX dX8_weighSaying_52 rfl rfl ?_
    refine tr_getF hX dX8_weighSaying_53 sh_0 (by decide) rfl inlX8 (by decide) rfl (hS.g (Nat.le_of_ble_eq_true rfl)) cr_0_8 k_2_11 mq_0 ?_
    refine tr_getF hX dX8_weighSaying_56 sh_53 (by decide) rfl inlX3 (by decide) rfl (hS.g (Nat.le_of_ble_eq_true rfl)) cr_53_0 k_19_19 mq_53 ?_
    refine tr_aload_n 0 hX dX8_weighSaying_59 rfl rfl ?_
    refine tr_getF hX dX8_weighSaying_60 sh_0 (by decide) rfl inlX8 (by decide) rfl (hS.g (Nat.le_of_ble_eq_true rfl)) cr_0_7 k_2_7 mq_0 ?_
    refine tr_iload_n 1 hX dX8_weighSaying_63 rfl rfl ?_
    refine tr_callV0I (st := [.ref (cxAd X 73)]) 1 hX hS dX8_weighSaying_64 (ok_X1_before x1) sh_50 (by decide) rfl (Nat.le_of_ble_eq_true rfl) k_20_8 k_15_17 k_15_18 k_2_6 k_15_19 hy_X1_before rfl rfl (Nat.le_of_ble_eq_true rfl) rfl (fun v3 => ?_)
    refine tr_aload_n 0 hX dX8_weighSaying_67 rfl rfl ?_
    refine tr_getF hX dX8_weighSaying_68 sh_0 (by decide) rfl inlX8 (by decide) rfl (hS.g (Nat.le_of_ble_eq_true rfl)) cr_0_7 k_2_7 mq_0 ?_
    refine tr_getF hX dX8_weighSaying_71 sh_50 (by decide) rfl inlX1 (by decide) rfl (hS.g (Nat.le_of_ble_eq_true rfl)) cr_50_1 k_19_20 mq_50 ?_
    refine tr_iload_n 1 hX dX8_weighSaying_74 rfl rfl ?_
    refine tr_iald hX dX8_weighSaying_75 sh_51 (hS.e (Nat.le_of_ble_eq_true rfl)) (fun hb5 v4 => ?_)
    refine tr_aload_n 0 hX dX8_weighSaying_76 rfl rfl ?_
    refine tr_getF hX dX8_weighSaying_77 sh_0 (by decide) rfl inlX8 (by decide) rfl (hS.g (Nat.le_of_ble_eq_true rfl)) cr_0_7 k_2_7 mq_0 ?_
    refine tr_iload_n 1 hX dX8_weighSaying_80 rfl rfl ?_
    refine tr_callV0I (st := [.int v4, .int v3, .ref (cxAd X 73)]) 1 hX hS dX8_weighSaying_81 (ok_X1_behind x1) sh_50 (by decide) rfl (Nat.le_of_ble_eq_true rfl) k_20_9 k_15_21 k_15_22 k_2_6 k_15_23 hy_X1_behind rfl rfl (Nat.le_of_ble_eq_true rfl) rfl (fun v6 => ?_)
    refine tr_aload_n 0 hX dX8_weighSaying_84 rfl rfl ?_
    refine tr_getF hX dX8_weighSaying_85 sh_0 (by decide) rfl inlX8 (by decide) rfl (hS.g (Nat.le_of_ble_eq_true rfl)) cr_0_3 k_2_1 mq_0 ?_
    refine tr_getF hX dX8_weighSaying_88 sh_20 (by decide) rfl inlX0 (by decide) rfl (hS.g (Nat.le_of_ble_eq_true rfl)) cr_20_2 k_18_15 mq_20 ?_
    refine tr_iload_n 1 hX dX8_weighSaying_91 rfl rfl ?_
    refine tr_iald hX dX8_weighSaying_92 sh_29 (hS.e (Nat.le_of_ble_eq_true rfl)) (fun hb8 v7 => ?_)
    refine tr_callV0U (st := []) 4 hX hS dX8_weighSaying_93 (ok_X7_want v3 v4 v6 v7) sh_73 (by decide) rfl (Nat.le_of_ble_eq_true rfl) k_20_10 k_20_11 k_20_12 k_4_22 k_20_13 hy_X7_want rfl rfl (Nat.le_of_ble_eq_true rfl) rfl (fun _ => ?_)
    refine tr_iinc (x1 + 1) 1 hX dX8_weighSaying_96 rfl (congrArg (fun z => x1 + z) (by decide)) (hS.n (by decide)) rfl ?_
    refine tr_goto 41 hX dX8_weighSaying_99 (by decide) ?_
    exact tr_sub [1, 0] rfl (hs41 (x1 + 1))
def f_X8_weighSaying  : M Unit :=
  rT 0 1 (fun t1 => rI 20 5 (fun v2 => bnd (f_X3_begin t1 v2) (fun _ => rI 20 4 (fun v4 => rI 20 5 (fun v5 => bnd (f_X1_follow v4 v5) (fun _ => fix1 FU (f_X8_weighSaying_41) 0))))))
set_option maxRecDepth 10000 in
set_option maxHeartbeats 4000000 in
theorem t_X8_weighSaying_0 {X : Cx} (hX : Good X RX8 cX8_weighSaying (none)) (hS : Sta X 4 103 2) : Tr X eU 0 0 0 [(0, .ref (cxAd X 0))] [] (f_X8_weighSaying) := by
  unfold f_X8_weighSaying
  refine tr_aload_n 0 hX dX8_weighSaying_0 rfl rfl ?_
  refine tr_getF hX dX8_weighSaying_1 sh_0 (by decide) rfl inlX8 (by decide) rfl (hS.g (Nat.le_of_ble_eq_true rfl)) cr_0_8 k_2_11 mq_0 ?_
  refine tr_aload_n 0 hX dX8_weighSaying_4 rfl rfl ?_
  refine tr_getT hX dX8_weighSaying_5 sh_0 (by decide) rfl inlX8 (by decide) rfl (hS.e (Nat.le_of_ble_eq_true rfl)) k_1_20 (fun t1 ht1 => ?_)
  refine tr_aload_n 0 hX dX8_weighSaying_8 rfl rfl ?_
  refine tr_getF hX dX8_weighSaying_9 sh_0 (by decide) rfl inlX8 (by decide) rfl (hS.g (Nat.le_of_ble_eq_true rfl)) cr_0_3 k_2_1 mq_0 ?_
  refine tr_getI hX dX8_weighSaying_12 sh_20 (by decide) rfl inlX0 (by decide) rfl (hS.e (Nat.le_of_ble_eq_true rfl)) k_18_18 (fun v2 => ?_)
  refine tr_callV0U (st := []) 2 hX hS dX8_weighSaying_15 (ok_X3_begin t1 v2 ht1) sh_53 (by decide) rfl (Nat.le_of_ble_eq_true rfl) k_19_21 k_19_22 k_19_23 k_2_10 k_20_0 hy_X3_begin rfl rfl (Nat.le_of_ble_eq_true rfl) rfl (fun _ => ?_)
  refine tr_aload_n 0 hX dX8_weighSaying_18 rfl rfl ?_
  refine tr_getF hX dX8_weighSaying_19 sh_0 (by decide) rfl inlX8 (by decide) rfl (hS.g (Nat.le_of_ble_eq_true rfl)) cr_0_7 k_2_7 mq_0 ?_
  refine tr_aload_n 0 hX dX8_weighSaying_22 rfl rfl ?_
  refine tr_getF hX dX8_weighSaying_23 sh_0 (by decide) rfl inlX8 (by decide) rfl (hS.g (Nat.le_of_ble_eq_true rfl)) cr_0_3 k_2_1 mq_0 ?_
  refine tr_getI hX dX8_weighSaying_26 sh_20 (by decide) rfl inlX0 (by decide) rfl (hS.e (Nat.le_of_ble_eq_true rfl)) k_18_17 (fun v4 => ?_)
  refine tr_aload_n 0 hX dX8_weighSaying_29 rfl rfl ?_
  refine tr_getF hX dX8_weighSaying_30 sh_0 (by decide) rfl inlX8 (by decide) rfl (hS.g (Nat.le_of_ble_eq_true rfl)) cr_0_3 k_2_1 mq_0 ?_
  refine tr_getI hX dX8_weighSaying_33 sh_20 (by decide) rfl inlX0 (by decide) rfl (hS.e (Nat.le_of_ble_eq_true rfl)) k_18_18 (fun v5 => ?_)
  refine tr_callV0U (st := []) 2 hX hS dX8_weighSaying_36 (ok_X1_follow v4 v5) sh_50 (by decide) rfl (Nat.le_of_ble_eq_true rfl) k_14_20 k_14_21 k_14_22 k_2_6 k_14_23 hy_X1_follow rfl rfl (Nat.le_of_ble_eq_true rfl) rfl (fun _ => ?_)
  refine tr_iconst 0 hX dX8_weighSaying_39 (by decide) ?_
  refine tr_istore_n hX dX8_weighSaying_40 rfl (hS.n (by decide)) rfl ?_
  exact tr_sub [1, 0] rfl (tr_fix1 (lvf := fun x1 => [(0, .ref (cxAd X 0)), (1, .int x1)]) (t_X8_weighSaying_41 hX hS) FU 0)
theorem ok_X8_weighSaying {l : Launch} {E : Ev}   : Ok l E Gall yX8_weighSaying cX8_weighSaying 2 (none) (rmz 4 103) eU [.ref (E.2.1 0)] (f_X8_weighSaying) := by
  refine ok_of0 (by decide) (Nat.le_of_ble_eq_true rfl) (fun X hX hV hS => ?_)
  subst hV
  exact t_X8_weighSaying_0 hX hS 
def f_X8_soundSo_39 (p0 : Int64) : M Int64 :=
  rt p0
set_option maxRecDepth 10000 in
set_option maxHeartbeats 4000000 in
theorem t_X8_soundSo_39 {X : Cx} (hX : Good X RX8 cX8_soundSo ((some .long))) (hS : Sta X 5 124 1) (p0 : Int64) : Tr X eL 0 0 39 [] [.long p0] (f_X8_soundSo_39 p0) := by
  unfold f_X8_soundSo_39
  exact tr_lret0 hX hS dX8_soundSo_39
def f_X8_soundSo  : M Int64 :=
  rI 20 3 (fun v1 => if v1 = 0 then (rt (-2)) else (bnd f_X8_weighSaying (fun _ => rI 53 1 (fun v3 => if v3 = 0 then (rL 53 2 (fun v4 => f_X8_soundSo_39 v4)) else (f_X8_soundSo_39 0)))))
set_option maxRecDepth 10000 in
set_option maxHeartbeats 4000000 in
theorem t_X8_soundSo_0 {X : Cx} (hX : Good X RX8 cX8_soundSo ((some .long))) (hS : Sta X 5 124 1) : Tr X eL 0 0 0 [(0, .ref (cxAd X 0))] [] (f_X8_soundSo) := by
  unfold f_X8_soundSo
  refine tr_aload_n 0 hX dX8_soundSo_0 rfl rfl ?_
  refine tr_getF hX dX8_soundSo_1 sh_0 (by decide) rfl inlX8 (by decide) rfl (hS.g (Nat.le_of_ble_eq_true rfl)) cr_0_3 k_2_1 mq_0 ?_
  refine tr_getI hX dX8_soundSo_4 sh_20 (by decide) rfl inlX0 (by decide) rfl (hS.e (Nat.le_of_ble_eq_true rfl)) k_18_16 (fun v1 => ?_)
  refine tr_if_ne 14 hX dX8_soundSo_7 (by decide) (fun c6 => ?_) (fun c6 => ?_)
  · refine tr_ldc2 hX dX8_soundSo_10 k_19_12 ?_
    exact tr_lret0 hX hS dX8_soundSo_13
  · refine tr_aload_n 0 hX dX8_soundSo_14 rfl rfl ?_
    refine tr_callV0U (st := []) 0 hX hS dX8_soundSo_15 (ok_X8_weighSaying) sh_0 (by decide) rfl (Nat.le_of_ble_eq_true rfl) k_19_15 k_19_16 k_19_17 k_1_2 k_19_18 hy_X8_weighSaying rfl rfl (Nat.le_of_ble_eq_true rfl) rfl (fun _ => ?_)
    refine tr_aload_n 0 hX dX8_soundSo_18 rfl rfl ?_
    refine tr_getF hX dX8_soundSo_19 sh_0 (by decide) rfl inlX8 (by decide) rfl (hS.g (Nat.le_of_ble_eq_true rfl)) cr_0_8 k_2_11 mq_0 ?_
    refine tr_getI hX dX8_soundSo_22 sh_53 (by decide) rfl inlX3 (by decide) rfl (hS.e (Nat.le_of_ble_eq_true rfl)) k_19_13 (fun v3 => ?_)
    refine tr_if_ne 38 hX dX8_soundSo_25 (by decide) (fun c5 => ?_) (fun c5 => ?_)
    · refine tr_aload_n 0 hX dX8_soundSo_28 rfl rfl ?_
      refine tr_getF hX dX8_soundSo_29 sh_0 (by decide) rfl inlX8 (by decide) rfl (hS.g (Nat.le_of_ble_eq_true rfl)) cr_0_8 k_2_11 mq_0 ?_
      refine tr_getL hX dX8_soundSo_32 sh_53 (by decide) rfl inlX3 (by decide) rfl (hS.e (Nat.le_of_ble_eq_true rfl)) k_19_14 (fun v4 => ?_)
      refine tr_goto 39 hX dX8_soundSo_35 (by decide) ?_
      exact tr_sub [] rfl (t_X8_soundSo_39 hX hS v4)
    · refine tr_lconst 0 hX dX8_soundSo_38 (by decide) ?_
      exact tr_sub [] rfl (t_X8_soundSo_39 hX hS 0)
theorem ok_X8_soundSo {l : Launch} {E : Ev}   : Ok l E Gall yX8_soundSo cX8_soundSo 1 ((some .long)) (rmz 5 124) eL [.ref (E.2.1 0)] (f_X8_soundSo) := by
  refine ok_of0 (by decide) (Nat.le_of_ble_eq_true rfl) (fun X hX hV hS => ?_)
  subst hV
  exact t_X8_soundSo_0 hX hS 
def f_X8_nearest (x1 : Int32) : M Int32 :=
  bnd (f_X8_isBelow x1 6) (fun v1 => if v1 = 0 then (rt (-1)) else (rI 20 3 (fun v2 => if v2 = 0 then (rt (-2)) else (bnd f_X8_weighSaying (fun _ => gd (inb x1 6) (bnd (f_X3_lowestRow (21 + 1 + x1.toNatClampNeg)) (fun _ => rI 20 5 (fun v6 => sI 28 6 x1 v6 (rI 53 1 (fun v7 => rt v7))))))))))
set_option maxRecDepth 10000 in
set_option maxHeartbeats 4000000 in
theorem t_X8_nearest_0 {X : Cx} (hX : Good X RX8 cX8_nearest ((some .int))) (hS : Sta X 5 124 2) (x1 : Int32) : Tr X eI 0 0 0 [(0, .ref (cxAd X 0)), (1, .int x1)] [] (f_X8_nearest x1) := by
  unfold f_X8_nearest
  refine tr_iload_n 1 hX dX8_nearest_0 rfl rfl ?_
  refine tr_bipush 6 hX dX8_nearest_1 (by decide) ?_
  refine tr_callS0I (st := []) 2 hX hS dX8_nearest_3 (ok_X8_isBelow x1 6) k_12_19 k_12_20 k_1_2 k_12_21 hy_X8_isBelow.2 rfl rfl (Nat.le_of_ble_eq_true rfl) rfl (fun v1 => ?_)
  refine tr_if_ne 11 hX dX8_nearest_6 (by decide) (fun c9 => ?_) (fun c9 => ?_)
  · refine tr_iconst (-1) hX dX8_nearest_9 (by decide) ?_
    exact tr_iret0 hX hS dX8_nearest_10
  · refine tr_aload_n 0 hX dX8_nearest_11 rfl rfl ?_
    refine tr_getF hX dX8_nearest_12 sh_0 (by decide) rfl inlX8 (by decide) rfl (hS.g (Nat.le_of_ble_eq_true rfl)) cr_0_3 k_2_1 mq_0 ?_
    refine tr_getI hX dX8_nearest_15 sh_20 (by decide) rfl inlX0 (by decide) rfl (hS.e (Nat.le_of_ble_eq_true rfl)) k_18_16 (fun v2 => ?_)
    refine tr_if_ne 24 hX dX8_nearest_18 (by decide) (fun c8 => ?_) (fun c8 => ?_)
    · refine tr_bipush (-2) hX dX8_nearest_21 (by decide) ?_
      exact tr_iret0 hX hS dX8_nearest_23
    · refine tr_aload_n 0 hX dX8_nearest_24 rfl rfl ?_
      refine tr_callV0U (st := []) 0 hX hS dX8_nearest_25 (ok_X8_weighSaying) sh_0 (by decide) rfl (Nat.le_of_ble_eq_true rfl) k_19_15 k_19_16 k_19_17 k_1_2 k_19_18 hy_X8_weighSaying rfl rfl (Nat.le_of_ble_eq_true rfl) rfl (fun _ => ?_)
      refine tr_aload_n 0 hX dX8_nearest_28 rfl rfl ?_
      refine tr_getF hX dX8_nearest_29 sh_0 (by decide) rfl inlX8 (by decide) rfl (hS.g (Nat.le_of_ble_eq_true rfl)) cr_0_8 k_2_11 mq_0 ?_
      refine tr_aload_n 0 hX dX8_nearest_32 rfl rfl ?_
      refine tr_getF hX dX8_nearest_33 sh_0 (by decide) rfl inlX8 (by decide) rfl (hS.g (Nat.le_of_ble_eq_true rfl)) cr_0_3 k_2_1 mq_0 ?_
      refine tr_getF hX dX8_nearest_36 sh_20 (by decide) rfl inlX0 (by decide) rfl (hS.g (Nat.le_of_ble_eq_true rfl)) cr_20_0 k_13_7 mq_20 ?_
      refine tr_iload_n 1 hX dX8_nearest_39 rfl rfl ?_
      refine tr_aald hX dX8_nearest_40 sh_21 (hS.e (Nat.le_of_ble_eq_true rfl)) (fun hb4 => ?_)
      refine tr_callV0U (st := []) 1 hX hS dX8_nearest_41 (ok_X3_lowestRow (21 + 1 + x1.toNatClampNeg) (row_21 hb4)) sh_53 (by decide) rfl (Nat.le_of_ble_eq_true rfl) k_24_7 k_24_8 k_24_9 k_2_10 k_24_10 hy_X3_lowestRow rfl rfl (Nat.le_of_ble_eq_true rfl) rfl (fun _ => ?_)
      refine tr_aload_n 0 hX dX8_nearest_44 rfl rfl ?_
      refine tr_getF hX dX8_nearest_45 sh_0 (by decide) rfl inlX8 (by decide) rfl (hS.g (Nat.le_of_ble_eq_true rfl)) cr_0_3 k_2_1 mq_0 ?_
      refine tr_getF hX dX8_nearest_48 sh_20 (by decide) rfl inlX0 (by decide) rfl (hS.g (Nat.le_of_ble_eq_true rfl)) cr_20_1 k_13_6 mq_20 ?_
      refine tr_iload_n 1 hX dX8_nearest_51 rfl rfl ?_
      refine tr_aload_n 0 hX dX8_nearest_52 rfl rfl ?_
      refine tr_getF hX dX8_nearest_53 sh_0 (by decide) rfl inlX8 (by decide) rfl (hS.g (Nat.le_of_ble_eq_true rfl)) cr_0_3 k_2_1 mq_0 ?_
      refine tr_getI hX dX8_nearest_56 sh_20 (by decide) rfl inlX0 (by decide) rfl (hS.e (Nat.le_of_ble_eq_true rfl)) k_18_18 (fun v6 => ?_)
      refine tr_iast hX dX8_nearest_59 sh_28 (hS.e (Nat.le_of_ble_eq_true rfl)) (fun _ => ?_)
      refine tr_aload_n 0 hX dX8_nearest_60 rfl rfl ?_
      refine tr_getF hX dX8_nearest_61 sh_0 (by decide) rfl inlX8 (by decide) rfl (hS.g (Nat.le_of_ble_eq_true rfl)) cr_0_8 k_2_11 mq_0 ?_
      refine tr_getI hX dX8_nearest_64 sh_53 (by decide) rfl inlX3 (by decide) rfl (hS.e (Nat.le_of_ble_eq_true rfl)) k_19_13 (fun v7 => ?_)
      exact tr_iret0 hX hS dX8_nearest_67
theorem ok_X8_nearest {l : Launch} {E : Ev} (x1 : Int32)  : Ok l E Gall yX8_nearest cX8_nearest 2 ((some .int)) (rmz 5 124) eI [.ref (E.2.1 0), .int x1] (f_X8_nearest x1) := by
  refine ok_of0 (by decide) (Nat.le_of_ble_eq_true rfl) (fun X hX hV hS => ?_)
  subst hV
  exact t_X8_nearest_0 hX hS x1
def f_X8_rivals  : M Int64 :=
  rI 20 3 (fun v1 => if v1 = 0 then (rt (-2)) else (bnd f_X8_weighSaying (fun _ => rL 53 2 (fun v3 => rt v3))))
set_option maxRecDepth 10000 in
set_option maxHeartbeats 4000000 in
theorem t_X8_rivals_0 {X : Cx} (hX : Good X RX8 cX8_rivals ((some .long))) (hS : Sta X 5 124 1) : Tr X eL 0 0 0 [(0, .ref (cxAd X 0))] [] (f_X8_rivals) := by
  unfold f_X8_rivals
  refine tr_aload_n 0 hX dX8_rivals_0 rfl rfl ?_
  refine tr_getF hX dX8_rivals_1 sh_0 (by decide) rfl inlX8 (by decide) rfl (hS.g (Nat.le_of_ble_eq_true rfl)) cr_0_3 k_2_1 mq_0 ?_
  refine tr_getI hX dX8_rivals_4 sh_20 (by decide) rfl inlX0 (by decide) rfl (hS.e (Nat.le_of_ble_eq_true rfl)) k_18_16 (fun v1 => ?_)
  refine tr_if_ne 14 hX dX8_rivals_7 (by decide) (fun c4 => ?_) (fun c4 => ?_)
  · refine tr_ldc2 hX dX8_rivals_10 k_19_12 ?_
    exact tr_lret0 hX hS dX8_rivals_13
  · refine tr_aload_n 0 hX dX8_rivals_14 rfl rfl ?_
    refine tr_callV0U (st := []) 0 hX hS dX8_rivals_15 (ok_X8_weighSaying) sh_0 (by decide) rfl (Nat.le_of_ble_eq_true rfl) k_19_15 k_19_16 k_19_17 k_1_2 k_19_18 hy_X8_weighSaying rfl rfl (Nat.le_of_ble_eq_true rfl) rfl (fun _ => ?_)
    refine tr_aload_n 0 hX dX8_rivals_18 rfl rfl ?_
    refine tr_getF hX dX8_rivals_19 sh_0 (by decide) rfl inlX8 (by decide) rfl (hS.g (Nat.le_of_ble_eq_true rfl)) cr_0_8 k_2_11 mq_0 ?_
    refine tr_getL hX dX8_rivals_22 sh_53 (by decide) rfl inlX3 (by decide) rfl (hS.e (Nat.le_of_ble_eq_true rfl)) k_19_14 (fun v3 => ?_)
    exact tr_lret0 hX hS dX8_rivals_25
theorem ok_X8_rivals {l : Launch} {E : Ev}   : Ok l E Gall yX8_rivals cX8_rivals 1 ((some .long)) (rmz 5 124) eL [.ref (E.2.1 0)] (f_X8_rivals) := by
  refine ok_of0 (by decide) (Nat.le_of_ble_eq_true rfl) (fun X hX hV hS => ?_)
  subst hV
  exact t_X8_rivals_0 hX hS 
def f_X8_wantAsSaid_12 (x1 : Nat) (s12 : Int32 → M Unit) (x4 : Int32) : M Unit :=
  rI 50 0 (fun v1 => if v1 ≤ x4 then (rt ()) else (bnd (f_X1_before x4) (fun v2 => aI 51 84 x4 (fun v3 => bnd (f_X1_behind x4) (fun v5 => rT 0 1 (fun t6 => bnd (f_X1_token t6 x1 x4) (fun v7 => bnd (f_X7_want v2 v3 v5 v7) (fun _ => s12 (x4 + 1)))))))))
set_option maxRecDepth 10000 in
set_option maxHeartbeats 4000000 in
theorem t_X8_wantAsSaid_12 {X : Cx} (hX : Good X RX8 cX8_wantAsSaid (none)) (hS : Sta X 3 74 5) (x1 : Nat) (hx1 : isI x1 8) : ∀ s12 : Int32 → M Unit, (∀ x4 : Int32, Tr X eU 0 0 12 [(0, .ref (cxAd X 0)), (1, .ref (cxAd X x1)), (4, .int x4)] [] (s12 x4)) → ∀ x4 : Int32, Tr X eU 0 0 12 [(0, .ref (cxAd X 0)), (1, .ref (cxAd X x1)), (4, .int x4)] [] (f_X8_wantAsSaid_12 x1 s12 x4) := by
  intro s12 hs12 x4
  unfold f_X8_wantAsSaid_12
  refine tr_iload 2 hX dX8_wantAsSaid_12 rfl ?_
  refine tr_aload_n 0 hX dX8_wantAsSaid_14 rfl rfl ?_
  refine tr_getF hX dX8_wantAsSaid_15 sh_0 (by decide) rfl inlX8 (by decide) rfl (hS.g (Nat.le_of_ble_eq_true rfl)) cr_0_7 k_2_7 mq_0 ?_
  refine tr_getI hX dX8_wantAsSaid_18 sh_50 (by decide) rfl inlX1 (by decide) rfl (hS.e (Nat.le_of_ble_eq_true rfl)) k_14_19 (fun v1 => ?_)
  refine tr_ic_ge 82 hX dX8_wantAsSaid_21 (by decide) (fun c9 => ?_) (fun c9 => ?_)
  · exact tr_vret0 hX hS dX8_wantAsSaid_82
  · refine tr_aload_n 0 hX dX8_wantAsSaid_24 rfl rfl ?_
    refine tr_getF hX dX8_wantAsSaid_25 sh_0 (by decide) rfl inlX8 (by decide) rfl (hS.g (Nat.le_of_ble_eq_true rfl)) cr_0_8 k_2_11 mq_0 ?_
    refine tr_getF hX dX8_wantAsSaid_28 sh_53 (by decide) rfl inlX3 (by decide) rfl (hS.g (Nat.le_of_ble_eq_true rfl)) cr_53_0 k_19_19 mq_53 ?_
    refine tr_aload_n 0 hX dX8_wantAsSaid_31 rfl rfl ?_
    refine tr_getF hX dX8_wantAsSaid_32 sh_0 (by decide) rfl inlX8 (by decide) rfl (hS.g (Nat.le_of_ble_eq_true rfl)) cr_0_7 k_2_7 mq_0 ?_
    refine tr_iload 2 hX dX8_wantAsSaid_35 rfl ?_
    refine tr_callV0I (st := [.ref (cxAd X 73)]) 1 hX hS dX8_wantAsSaid_37 (ok_X1_before x4) sh_50 (by decide) rfl (Nat.le_of_ble_eq_true rfl) k_20_8 k_15_17 k_15_18 k_2_6 k_15_19 hy_X1_before rfl rfl (Nat.le_of_ble_eq_true rfl) rfl (fun v2 => ?_)
    refine tr_aload_n 0 hX dX8_wantAsSaid_40 rfl rfl ?_
    refine tr_getF hX dX8_wantAsSaid_41 sh_0 (by decide) rfl inlX8 (by decide) rfl (hS.g (Nat.le_of_ble_eq_true rfl)) cr_0_7 k_2_7 mq_0 ?_
    refine tr_getF hX dX8_wantAsSaid_44 sh_50 (by decide) rfl inlX1 (by decide) rfl (hS.g (Nat.le_of_ble_eq_true rfl)) cr_50_1 k_19_20 mq_50 ?_
    refine tr_iload 2 hX dX8_wantAsSaid_47 rfl ?_
    refine tr_iald hX dX8_wantAsSaid_49 sh_51 (hS.e (Nat.le_of_ble_eq_true rfl)) (fun hb4 v3 => ?_)
    refine tr_aload_n 0 hX dX8_wantAsSaid_50 rfl rfl ?_
    refine tr_getF hX dX8_wantAsSaid_51 sh_0 (by decide) rfl inlX8 (by decide) rfl (hS.g (Nat.le_of_ble_eq_true rfl)) cr_0_7 k_2_7 mq_0 ?_
    refine tr_iload 2 hX dX8_wantAsSaid_54 rfl ?_
    refine tr_callV0I (st := [.int v3, .int v2, .ref (cxAd X 73)]) 1 hX hS dX8_wantAsSaid_56 (ok_X1_behind x4) sh_50 (by decide) rfl (Nat.le_of_ble_eq_true rfl) k_20_9 k_15_21 k_15_22 k_2_6 k_15_23 hy_X1_behind rfl rfl (Nat.le_of_ble_eq_true rfl) rfl (fun v5 => ?_)
    refine tr_aload_n 0 hX dX8_wantAsSaid_59 rfl rfl ?_
    refine tr_getF hX dX8_wantAsSaid_60 sh_0 (by decide) rfl inlX8 (by decide) rfl (hS.g (Nat.le_of_ble_eq_true rfl)) cr_0_7 k_2_7 mq_0 ?_
    refine tr_aload_n 0 hX dX8_wantAsSaid_63 rfl rfl ?_
    refine tr_getT hX dX8_wantAsSaid_64 sh_0 (by decide) rfl inlX8 (by decide) rfl (hS.e (Nat.le_of_ble_eq_true rfl)) k_1_20 (fun t6 ht6 => ?_)
    refine tr_aload_n 1 hX dX8_wantAsSaid_67 rfl rfl ?_
    refine tr_iload 2 hX dX8_wantAsSaid_68 rfl ?_
    refine tr_callV0I (st := [.int v5, .int v3, .int v2, .ref (cxAd X 73)]) 3 hX hS dX8_wantAsSaid_70 (ok_X1_token t6 x1 x4 ht6 (hx1)) sh_50 (by decide) rfl (Nat.le_of_ble_eq_true rfl) k_15_12 k_15_13 k_15_14 k_2_6 k_15_15 hy_X1_token rfl rfl (Nat.le_of_ble_eq_true rfl) rfl (fun v7 => ?_)
    refine tr_callV0U (st := []) 4 hX hS dX8_wantAsSaid_73 (ok_X7_want v2 v3 v5 v7) sh_73 (by decide) rfl (Nat.le_of_ble_eq_true rfl) k_20_10 k_20_11 k_20_12 k_4_22 k_20_13 hy_X7_want rfl rfl (Nat.le_of_ble_eq_true rfl) rfl (fun _ => ?_)
    refine tr_iinc (x4 + 1) 2 hX dX8_wantAsSaid_76 rfl (congrArg (fun z => x4 + z) (by decide)) (hS.n (by decide)) rfl ?_
    refine tr_goto 12 hX dX8_wantAsSaid_79 (by decide) ?_
    exact tr_sub [1, 2, 0] rfl (hs12 (x4 + 1))
def f_X8_wantAsSaid (x1 : Nat) (x2 : Int32) (x3 : Int32) : M Unit :=
  bnd (f_X1_follow x2 x3) (fun _ => fix1 FU (f_X8_wantAsSaid_12 x1) 0)
set_option maxRecDepth 10000 in
set_option maxHeartbeats 4000000 in
theorem t_X8_wantAsSaid_0 {X : Cx} (hX : Good X RX8 cX8_wantAsSaid (none)) (hS : Sta X 3 74 5) (x1 : Nat) (x2 : Int32) (x3 : Int32) (hx1 : isI x1 8) : Tr X eU 0 0 0 [(0, .ref (cxAd X 0)), (1, .ref (cxAd X x1)), (2, .int x2), (3, .int x3)] [] (f_X8_wantAsSaid x1 x2 x3) := by
  unfold f_X8_wantAsSaid
  refine tr_aload_n 0 hX dX8_wantAsSaid_0 rfl rfl ?_
  refine tr_getF hX dX8_wantAsSaid_1 sh_0 (by decide) rfl inlX8 (by decide) rfl (hS.g (Nat.le_of_ble_eq_true rfl)) cr_0_7 k_2_7 mq_0 ?_
  refine tr_iload_n 2 hX dX8_wantAsSaid_4 rfl rfl ?_
  refine tr_iload_n 3 hX dX8_wantAsSaid_5 rfl rfl ?_
  refine tr_callV0U (st := []) 2 hX hS dX8_wantAsSaid_6 (ok_X1_follow x2 x3) sh_50 (by decide) rfl (Nat.le_of_ble_eq_true rfl) k_14_20 k_14_21 k_14_22 k_2_6 k_14_23 hy_X1_follow rfl rfl (Nat.le_of_ble_eq_true rfl) rfl (fun _ => ?_)
  refine tr_iconst 0 hX dX8_wantAsSaid_9 (by decide) ?_
  refine tr_istore hX dX8_wantAsSaid_10 (hS.n (by decide)) rfl ?_
  exact tr_sub [1, 2, 0] rfl (tr_fix1 (lvf := fun x4 => [(0, .ref (cxAd X 0)), (1, .ref (cxAd X x1)), (4, .int x4)]) (t_X8_wantAsSaid_12 hX hS x1 (hx1)) FU 0)
theorem ok_X8_wantAsSaid {l : Launch} {E : Ev} (x1 : Nat) (x2 : Int32) (x3 : Int32) (hx1 : isI x1 8) : Ok l E Gall yX8_wantAsSaid cX8_wantAsSaid 5 (none) (rmz 3 74) eU [.ref (E.2.1 0), .ref (E.2.1 x1), .int x2, .int x3] (f_X8_wantAsSaid x1 x2 x3) := by
  refine ok_of0 (by decide) (Nat.le_of_ble_eq_true rfl) (fun X hX hV hS => ?_)
  subst hV
  exact t_X8_wantAsSaid_0 hX hS x1 x2 x3 hx1
def f_X8_farBy_65 (s33 : Int32 → M Int32) (x1 : Int32) (x2 : Int32) (x3 : Nat) (x4 : Int32) : M Int32 :=
  s33 (x4 + 1)
set_option maxRecDepth 10000 in
set_option maxHeartbeats 4000000 in
theorem t_X8_farBy_65 {X : Cx} (hX : Good X RX8 cX8_farBy ((some .int))) (hS : Sta X 4 103 5) (s33 : Int32 → M Int32) (x1 : Int32) (x2 : Int32) (x3 : Nat) (x4 : Int32) (hx3 : isI x3 8) (hs33 : ∀ x4 : Int32, Tr X eI 0 0 33 [(0, .ref (cxAd X 0)), (1, .int x1), (2, .int x2), (3, .ref (cxAd X x3)), (4, .int x4)] [] (s33 x4)) : Tr X eI 0 0 65 [(0, .ref (cxAd X 0)), (1, .int x1), (2, .int x2), (3, .ref (cxAd X x3)), (4, .int x4)] [] (f_X8_farBy_65 s33 x1 x2 x3 x4) := by
  unfold f_X8_farBy_65
  refine tr_iinc (x4 + 1) 4 hX dX8_farBy_65 rfl (congrArg (fun z => x4 + z) (by decide)) (hS.n (by decide)) rfl ?_
  refine tr_goto 33 hX dX8_farBy_68 (by decide) ?_
  exact tr_sub [1, 2, 3, 4, 0] rfl (hs33 (x4 + 1))
def f_X8_farBy_33 (x1 : Int32) (x2 : Int32) (x3 : Nat) (s33 : Int32 → M Int32) (x4 : Int32) : M Int32 :=
  if 5 ≤ x4 then (bnd f_X3_weigh (fun _ => bnd (f_X3_farFrom x3) (fun v2 => rt v2))) else (if ((x2 >>> (x4 &&& 31)) &&& 1) = 1 then (aI 28 6 x1 (fun v3 => bnd (f_X8_wantAsSaid x3 x4 v3) (fun _ => f_X8_farBy_65 s33 x1 x2 x3 x4))) else (f_X8_farBy_65 s33 x1 x2 x3 x4))
set_option maxRecDepth 10000 in
set_option maxHeartbeats 4000000 in
theorem t_X8_farBy_33 {X : Cx} (hX : Good X RX8 cX8_farBy ((some .int))) (hS : Sta X 4 103 5) (x1 : Int32) (x2 : Int32) (x3 : Nat) (hx3 : isI x3 8) : ∀ s33 : Int32 → M Int32, (∀ x4 : Int32, Tr X eI 0 0 33 [(0, .ref (cxAd X 0)), (1, .int x1), (2, .int x2), (3, .ref (cxAd X x3)), (4, .int x4)] [] (s33 x4)) → ∀ x4 : Int32, Tr X eI 0 0 33 [(0, .ref (cxAd X 0)), (1, .int x1), (2, .int x2), (3, .ref (cxAd X x3)), (4, .int x4)] [] (f_X8_farBy_33 x1 x2 x3 s33 x4) := by
  intro s33 hs33 x4
  unfold f_X8_farBy_33
  refine tr_iload 4 hX dX8_farBy_33 rfl ?_
  refine tr_iconst 5 hX dX8_farBy_35 (by decide) ?_
  refine tr_ic_ge 71 hX dX8_farBy_36 (by decide) (fun c7 => ?_) (fun c7 => ?_)
  · refine tr_aload_n 0 hX dX8_farBy_71 rfl rfl ?_
    refine tr_getF hX dX8_farBy_72 sh_0 (by decide) rfl inlX8 (by decide) rfl (hS.g (Nat.le_of_ble_eq_true rfl)) cr_0_8 k_2_11 mq_0 ?_
    refine tr_callV0U (st := []) 0 hX hS dX8_farBy_75 (ok_X3_weigh) sh_53 (by decide) rfl (Nat.le_of_ble_eq_true rfl) k_21_8 k_21_9 k_21_10 k_2_10 k_21_11 hy_X3_weigh rfl rfl (Nat.le_of_ble_eq_true rfl) rfl (fun _ => ?_)
    refine tr_aload_n 0 hX dX8_farBy_78 rfl rfl ?_
    refine tr_getF hX dX8_farBy_79 sh_0 (by decide) rfl inlX8 (by decide) rfl (hS.g (Nat.le_of_ble_eq_true rfl)) cr_0_8 k_2_11 mq_0 ?_
    refine tr_aload_n 3 hX dX8_farBy_82 rfl rfl ?_
    refine tr_callV0I (st := []) 1 hX hS dX8_farBy_83 (ok_X3_farFrom x3 (hx3)) sh_53 (by decide) rfl (Nat.le_of_ble_eq_true rfl) k_25_20 k_25_21 k_25_22 k_2_10 k_25_23 hy_X3_farFrom rfl rfl (Nat.le_of_ble_eq_true rfl) rfl (fun v2 => ?_)
    exact tr_iret0 hX hS dX8_farBy_86
  · refine tr_iload_n 2 hX dX8_farBy_39 rfl rfl ?_
    refine tr_iload 4 hX dX8_farBy_40 rfl ?_
    refine tr_ishr hX dX8_farBy_42 ?_
    refine tr_iconst 1 hX dX8_farBy_43 (by decide) ?_
    refine tr_iand hX dX8_farBy_44 ?_
    refine tr_iconst 1 hX dX8_farBy_45 (by decide) ?_
    refine tr_ic_ne 65 hX dX8_farBy_46 (by decide) (fun c6 => ?_) (fun c6 => ?_)
    · refine tr_aload_n 0 hX dX8_farBy_49 rfl rfl ?_
      refine tr_aload_n 3 hX dX8_farBy_50 rfl rfl ?_
      refine tr_iload 4 hX dX8_farBy_51 rfl ?_
      refine tr_aload_n 0 hX dX8_farBy_53 rfl rfl ?_
      refine tr_getF hX dX8_farBy_54 sh_0 (by decide) rfl inlX8 (by decide) rfl (hS.g (Nat.le_of_ble_eq_true rfl)) cr_0_3 k_2_1 mq_0 ?_
      refine tr_getF hX dX8_farBy_57 sh_20 (by decide) rfl inlX0 (by decide) rfl (hS.g (Nat.le_of_ble_eq_true rfl)) cr_20_1 k_13_6 mq_20 ?_
      refine tr_iload_n 1 hX dX8_farBy_60 rfl rfl ?_
      refine tr_iald hX dX8_farBy_61 sh_28 (hS.e (Nat.le_of_ble_eq_true rfl)) (fun hb4 v3 => ?_)
      refine tr_callV0U (st := []) 3 hX hS dX8_farBy_62 (ok_X8_wantAsSaid x3 x4 v3 (hx3)) sh_0 (by decide) rfl (Nat.le_of_ble_eq_true rfl) k_25_16 k_25_17 k_25_18 k_1_2 k_25_19 hy_X8_wantAsSaid rfl rfl (Nat.le_of_ble_eq_true rfl) rfl (fun _ => ?_)
      exact tr_sub [0, 1, 2, 3, 4] rfl (t_X8_farBy_65 hX hS s33 x1 x2 x3 x4 (hx3) hs33)
    · exact tr_sub [0, 1, 2, 3, 4] rfl (t_X8_farBy_65 hX hS s33 x1 x2 x3 x4 (hx3) hs33)
def f_X8_farBy (x1 : Int32) (x2 : Int32) : M Int32 :=
  gd (inb x1 6) (rT 0 1 (fun t2 => aI 28 6 x1 (fun v3 => bnd (f_X3_begin t2 v3) (fun _ => fix1 FU (f_X8_farBy_33 x1 x2 (21 + 1 + x1.toNatClampNeg)) 0))))
set_option maxRecDepth 10000 in
set_option maxHeartbeats 4000000 in
theorem t_X8_farBy_0 {X : Cx} (hX : Good X RX8 cX8_farBy ((some .int))) (hS : Sta X 4 103 5) (x1 : Int32) (x2 : Int32) : Tr X eI 0 0 0 [(0, .ref (cxAd X 0)), (1, .int x1), (2, .int x2)] [] (f_X8_farBy x1 x2) := by
  unfold f_X8_farBy
  refine tr_aload_n 0 hX dX8_farBy_0 rfl rfl ?_
  refine tr_getF hX dX8_farBy_1 sh_0 (by decide) rfl inlX8 (by decide) rfl (hS.g (Nat.le_of_ble_eq_true rfl)) cr_0_3 k_2_1 mq_0 ?_
  refine tr_getF hX dX8_farBy_4 sh_20 (by decide) rfl inlX0 (by decide) rfl (hS.g (Nat.le_of_ble_eq_true rfl)) cr_20_0 k_13_7 mq_20 ?_
  refine tr_iload_n 1 hX dX8_farBy_7 rfl rfl ?_
  refine tr_aald hX dX8_farBy_8 sh_21 (hS.e (Nat.le_of_ble_eq_true rfl)) (fun hb1 => ?_)
  refine tr_astore_n hX dX8_farBy_9 rfl (hS.n (by decide)) rfl ?_
  refine tr_aload_n 1 hX dX8_farBy_10 rfl rfl ?_
  refine tr_getF hX dX8_farBy_11 sh_0 (by decide) rfl inlX8 (by decide) rfl (hS.g (Nat.le_of_ble_eq_true rfl)) cr_0_8 k_2_11 mq_0 ?_
  refine tr_aload_n 1 hX dX8_farBy_14 rfl rfl ?_
  refine tr_getT hX dX8_farBy_15 sh_0 (by decide) rfl inlX8 (by decide) rfl (hS.e (Nat.le_of_ble_eq_true rfl)) k_1_20 (fun t2 ht2 => ?_)
  refine tr_aload_n 1 hX dX8_farBy_18 rfl rfl ?_
  refine tr_getF hX dX8_farBy_19 sh_0 (by decide) rfl inlX8 (by decide) rfl (hS.g (Nat.le_of_ble_eq_true rfl)) cr_0_3 k_2_1 mq_0 ?_
  refine tr_getF hX dX8_farBy_22 sh_20 (by decide) rfl inlX0 (by decide) rfl (hS.g (Nat.le_of_ble_eq_true rfl)) cr_20_1 k_13_6 mq_20 ?_
  refine tr_iload_n 2 hX dX8_farBy_25 rfl rfl ?_
  refine tr_iald hX dX8_farBy_26 sh_28 (hS.e (Nat.le_of_ble_eq_true rfl)) (fun hb4 v3 => ?_)
  refine tr_callV0U (st := []) 2 hX hS dX8_farBy_27 (ok_X3_begin t2 v3 ht2) sh_53 (by decide) rfl (Nat.le_of_ble_eq_true rfl) k_19_21 k_19_22 k_19_23 k_2_10 k_20_0 hy_X3_begin rfl rfl (Nat.le_of_ble_eq_true rfl) rfl (fun _ => ?_)
  refine tr_iconst 0 hX dX8_farBy_30 (by decide) ?_
  refine tr_istore hX dX8_farBy_31 (hS.n (by decide)) rfl ?_
  exact tr_sub [2, 3, 4, 1, 0] rfl (tr_fix1 (lvf := fun x4 => [(0, .ref (cxAd X 0)), (1, .int x1), (2, .int x2), (3, .ref (cxAd X (21 + 1 + x1.toNatClampNeg))), (4, .int x4)]) (t_X8_farBy_33 hX hS x1 x2 (21 + 1 + x1.toNatClampNeg) (row_21 hb1)) FU 0)
theorem ok_X8_farBy {l : Launch} {E : Ev} (x1 : Int32) (x2 : Int32)  : Ok l E Gall yX8_farBy cX8_farBy 5 ((some .int)) (rmz 4 103) eI [.ref (E.2.1 0), .int x1, .int x2] (f_X8_farBy x1 x2) := by
  refine ok_of0 (by decide) (Nat.le_of_ble_eq_true rfl) (fun X hX hV hS => ?_)
  subst hV
  exact t_X8_farBy_0 hX hS x1 x2
def f_X8_refusalToCompare_32 (p0 : Int32) : M Int32 :=
  rt p0
set_option maxRecDepth 10000 in
set_option maxHeartbeats 4000000 in
theorem t_X8_refusalToCompare_32 {X : Cx} (hX : Good X RX8 cX8_refusalToCompare ((some .int))) (hS : Sta X 0 0 2) (p0 : Int32) : Tr X eI 0 0 32 [] [.int p0] (f_X8_refusalToCompare_32 p0) := by
  unfold f_X8_refusalToCompare_32
  exact tr_iret0 hX hS dX8_refusalToCompare_32
def f_X8_refusalToCompare (x1 : Int32) : M Int32 :=
  aI 28 6 x1 (fun v1 => if v1 = 0 then (rt (-2)) else (rT 0 1 (fun t3 => rI t3 0 (fun v4 => if 2 ≤ v4 then (f_X8_refusalToCompare_32 0) else (f_X8_refusalToCompare_32 (-4))))))
set_option maxRecDepth 10000 in
set_option maxHeartbeats 4000000 in
theorem t_X8_refusalToCompare_0 {X : Cx} (hX : Good X RX8 cX8_refusalToCompare ((some .int))) (hS : Sta X 0 0 2) (x1 : Int32) : Tr X eI 0 0 0 [(0, .ref (cxAd X 0)), (1, .int x1)] [] (f_X8_refusalToCompare x1) := by
  unfold f_X8_refusalToCompare
  refine tr_aload_n 0 hX dX8_refusalToCompare_0 rfl rfl ?_
  refine tr_getF hX dX8_refusalToCompare_1 sh_0 (by decide) rfl inlX8 (by decide) rfl (hS.g (Nat.le_of_ble_eq_true rfl)) cr_0_3 k_2_1 mq_0 ?_
  refine tr_getF hX dX8_refusalToCompare_4 sh_20 (by decide) rfl inlX0 (by decide) rfl (hS.g (Nat.le_of_ble_eq_true rfl)) cr_20_1 k_13_6 mq_20 ?_
  refine tr_iload_n 1 hX dX8_refusalToCompare_7 rfl rfl ?_
  refine tr_iald hX dX8_refusalToCompare_8 sh_28 (hS.e (Nat.le_of_ble_eq_true rfl)) (fun hb2 v1 => ?_)
  refine tr_if_ne 15 hX dX8_refusalToCompare_9 (by decide) (fun c6 => ?_) (fun c6 => ?_)
  · refine tr_bipush (-2) hX dX8_refusalToCompare_12 (by decide) ?_
    exact tr_iret0 hX hS dX8_refusalToCompare_14
  · refine tr_aload_n 0 hX dX8_refusalToCompare_15 rfl rfl ?_
    refine tr_getT hX dX8_refusalToCompare_16 sh_0 (by decide) rfl inlX8 (by decide) rfl (hS.e (Nat.le_of_ble_eq_true rfl)) k_1_20 (fun t3 ht3 => ?_)
    refine tr_getI hX dX8_refusalToCompare_19 (shT ht3) (by decide) rfl inlX6 (by decide) rfl (hS.e (leT ht3)) k_11_21 (fun v4 => ?_)
    refine tr_iconst 2 hX dX8_refusalToCompare_22 (by decide) ?_
    refine tr_ic_ge 31 hX dX8_refusalToCompare_23 (by decide) (fun c5 => ?_) (fun c5 => ?_)
    · refine tr_iconst 0 hX dX8_refusalToCompare_31 (by decide) ?_
      exact tr_sub [] rfl (t_X8_refusalToCompare_32 hX hS 0)
    · refine tr_bipush (-4) hX dX8_refusalToCompare_26 (by decide) ?_
      refine tr_goto 32 hX dX8_refusalToCompare_28 (by decide) ?_
      exact tr_sub [] rfl (t_X8_refusalToCompare_32 hX hS (-4))
theorem ok_X8_refusalToCompare {l : Launch} {E : Ev} (x1 : Int32)  : Ok l E Gall yX8_refusalToCompare cX8_refusalToCompare 2 ((some .int)) (rmz 0 0) eI [.ref (E.2.1 0), .int x1] (f_X8_refusalToCompare x1) := by
  refine ok_of0 (by decide) (Nat.le_of_ble_eq_true rfl) (fun X hX hV hS => ?_)
  subst hV
  exact t_X8_refusalToCompare_0 hX hS x1
def f_X8_far_26  : M Int32 :=
  rt (-1)
set_option maxRecDepth 10000 in
set_option maxHeartbeats 4000000 in
theorem t_X8_far_26 {X : Cx} (hX : Good X RX8 cX8_far ((some .int))) (hS : Sta X 5 127 7) : Tr X eI 0 0 26 [] [] (f_X8_far_26) := by
  unfold f_X8_far_26
  refine tr_iconst (-1) hX dX8_far_26 (by decide) ?_
  exact tr_iret0 hX hS dX8_far_27
def f_X8_far_82 (p0 : Int32) : M Int32 :=
  rt p0
set_option maxRecDepth 10000 in
set_option maxHeartbeats 4000000 in
theorem t_X8_far_82 {X : Cx} (hX : Good X RX8 cX8_far ((some .int))) (hS : Sta X 5 127 7) (p0 : Int32) : Tr X eI 0 0 82 [] [.int p0] (f_X8_far_82 p0) := by
  unfold f_X8_far_82
  exact tr_iret0 hX hS dX8_far_82
def f_X8_far (x1 : Int32) (x2 : Int32) (x3 : Int32) : M Int32 :=
  bnd (f_X8_isBelow x1 6) (fun v1 => if v1 = 0 then (f_X8_far_26) else (bnd (f_X8_isBelow x2 32) (fun v2 => if v2 = 0 then (f_X8_far_26) else (bnd (f_X8_isBelow x3 3) (fun v3 => if v3 = 0 then (f_X8_far_26) else (bnd (f_X8_refusalToCompare x1) (fun v4 => if v4 = 0 then (bnd (f_X8_farBy x1 x2) (fun v5 => nm ((if 0 < (v5 - 1) then (v5 - 1) else 0)) (fun v6 => if x3 = 0 then (rt v5) else (if x3 = 1 then (f_X8_far_82 v6) else (gd (¬ (2 : Int32) = 0) (f_X8_far_82 (v6 / 2))))))) else (rt v4))))))))
set_option maxRecDepth 10000 in
set_option maxHeartbeats 4000000 in
theorem t_X8_far_0 {X : Cx} (hX : Good X RX8 cX8_far ((some .int))) (hS : Sta X 5 127 7) (x1 : Int32) (x2 : Int32) (x3 : Int32) : Tr X eI 0 0 0 [(0, .ref (cxAd X 0)), (1, .int x1), (2, .int x2), (3, .int x3)] [] (f_X8_far x1 x2 x3) := by
  unfold f_X8_far
  refine tr_iload_n 1 hX dX8_far_0 rfl rfl ?_
  refine tr_bipush 6 hX dX8_far_1 (by decide) ?_
  refine tr_callS0I (st := []) 2 hX hS dX8_far_3 (ok_X8_isBelow x1 6) k_12_19 k_12_20 k_1_2 k_12_21 hy_X8_isBelow.2 rfl rfl (Nat.le_of_ble_eq_true rfl) rfl (fun v1 => ?_)
  refine tr_if_eq 26 hX dX8_far_6 (by decide) (fun c12 => ?_) (fun c12 => ?_)
  · exact tr_sub [] rfl (t_X8_far_26 hX hS)
  · refine tr_iload_n 2 hX dX8_far_9 rfl rfl ?_
    refine tr_bipush 32 hX dX8_far_10 (by decide) ?_
    refine tr_callS0I (st := []) 2 hX hS dX8_far_12 (ok_X8_isBelow x2 32) k_12_19 k_12_20 k_1_2 k_12_21 hy_X8_isBelow.2 rfl rfl (Nat.le_of_ble_eq_true rfl) rfl (fun v2 => ?_)
    refine tr_if_eq 26 hX dX8_far_15 (by decide) (fun c11 => ?_) (fun c11 => ?_)
    · exact tr_sub [] rfl (t_X8_far_26 hX hS)
    · refine tr_iload_n 3 hX dX8_far_18 rfl rfl ?_
      refine tr_iconst 3 hX dX8_far_19 (by decide) ?_
      refine tr_callS0I (st := []) 2 hX hS dX8_far_20 (ok_X8_isBelow x3 3) k_12_19 k_12_20 k_1_2 k_12_21 hy_X8_isBelow.2 rfl rfl (Nat.le_of_ble_eq_true rfl) rfl (fun v3 => ?_)
      refine tr_if_ne 28 hX dX8_far_23 (by decide) (fun c10 => ?_) (fun c10 => ?_)
      · exact tr_sub [] rfl (t_X8_far_26 hX hS)
      · refine tr_aload_n 0 hX dX8_far_28 rfl rfl ?_
        refine tr_iload_n 1 hX dX8_far_29 rfl rfl ?_
        refine tr_callV0I (st := []) 1 hX hS dX8_far_30 (ok_X8_refusalToCompare x1) sh_0 (by decide) rfl (Nat.le_of_ble_eq_true rfl) k_25_8 k_25_9 k_25_10 k_1_2 k_25_11 hy_X8_refusalToCompare rfl rfl (Nat.le_of_ble_eq_true rfl) rfl (fun v4 => ?_)
        refine tr_istore hX dX8_far_33 (hS.n (by decide)) rfl ?_
        refine tr_iload 0 hX dX8_far_35 rfl ?_
        refine tr_if_eq 43 hX dX8_far_37 (by decide) (fun c9 => ?_) (fun c9 => ?_)
        · refine tr_aload_n 1 hX dX8_far_43 rfl rfl ?_
          refine tr_iload_n 2 hX dX8_far_44 rfl rfl ?_
          refine tr_iload_n 3 hX dX8_far_45 rfl rfl ?_
          refine tr_callV0I (st := []) 2 hX hS dX8_far_46 (ok_X8_farBy x1 x2) sh_0 (by decide) rfl (Nat.le_of_ble_eq_true rfl) k_25_12 k_25_13 k_25_14 k_1_2 k_25_15 hy_X8_farBy rfl rfl (Nat.le_of_ble_eq_true rfl) rfl (fun v5 => ?_)
          refine tr_istore hX dX8_far_49 (hS.n (by decide)) rfl ?_
          refine tr_iconst 0 hX dX8_far_51 (by decide) ?_
          refine tr_iload 0 hX dX8_far_52 rfl ?_
          refine tr_iconst 1 hX dX8_far_54 (by decide) ?_
          refine tr_isub hX dX8_far_55 ?_
          refine tr_max hX dX8_far_56 k_25_7 k_21_3 k_20_16 k_21_4 (by rw [hS.2.2.2.2.1]; exact Nat.le_of_ble_eq_true rfl) (by rw [hS.2.2.2.2.1]; exact Nat.le_of_ble_eq_true rfl) (Nat.zero_le _) (Nat.zero_le _) ?_
          refine tr_nm (fun v6 ev6 => ?_)
          refine tr_istore hX dX8_far_59 (hS.n (by decide)) rfl ?_
          refine tr_iload_n 6 hX dX8_far_61 rfl rfl ?_
          refine tr_if_ne 68 hX dX8_far_62 (by decide) (fun c8 => ?_) (fun c8 => ?_)
          · refine tr_iload 1 hX dX8_far_65 rfl ?_
            exact tr_iret0 hX hS dX8_far_67
          · refine tr_iload_n 6 hX dX8_far_68 rfl rfl ?_
            refine tr_iconst 1 hX dX8_far_69 (by decide) ?_
            refine tr_ic_ne 78 hX dX8_far_70 (by decide) (fun c7 => ?_) (fun c7 => ?_)
            · refine tr_iload 0 hX dX8_far_73 rfl ?_
              refine tr_goto 82 hX dX8_far_75 (by decide) ?_
              exact tr_sub [] rfl (t_X8_far_82 hX hS v6)
            · refine tr_iload 0 hX dX8_far_78 rfl ?_
              refine tr_iconst 2 hX dX8_far_80 (by decide) ?_
              refine tr_idiv hX dX8_far_81 (fun _ => ?_)
              exact tr_sub [] rfl (t_X8_far_82 hX hS (v6 / 2))
        · refine tr_iload 0 hX dX8_far_40 rfl ?_
          exact tr_iret0 hX hS dX8_far_42
theorem ok_X8_far {l : Launch} {E : Ev} (x1 : Int32) (x2 : Int32) (x3 : Int32)  : Ok l E Gall yX8_far cX8_far 7 ((some .int)) (rmz 5 127) eI [.ref (E.2.1 0), .int x1, .int x2, .int x3] (f_X8_far x1 x2 x3) := by
  refine ok_of0 (by decide) (Nat.le_of_ble_eq_true rfl) (fun X hX hV hS => ?_)
  subst hV
  exact t_X8_far_0 hX hS x1 x2 x3
def f_X8_ceilingOf_34 (s6 : Int32 → Int32 → M Int32) (x1 : Int32) (x2 : Int32) (x3 : Int32) : M Int32 :=
  s6 x2 (x3 + 1)
set_option maxRecDepth 10000 in
set_option maxHeartbeats 4000000 in
theorem t_X8_ceilingOf_34 {X : Cx} (hX : Good X RX8 cX8_ceilingOf ((some .int))) (hS : Sta X 1 13 4) (s6 : Int32 → Int32 → M Int32) (x1 : Int32) (x2 : Int32) (x3 : Int32) (hs6 : ∀ x2 : Int32, ∀ x3 : Int32, Tr X eI 0 0 6 [(0, .ref (cxAd X 0)), (1, .int x1), (2, .int x2), (3, .int x3)] [] (s6 x2 x3)) : Tr X eI 0 0 34 [(0, .ref (cxAd X 0)), (1, .int x1), (2, .int x2), (3, .int x3)] [] (f_X8_ceilingOf_34 s6 x1 x2 x3) := by
  unfold f_X8_ceilingOf_34
  refine tr_iinc (x3 + 1) 3 hX dX8_ceilingOf_34 rfl (congrArg (fun z => x3 + z) (by decide)) (hS.n (by decide)) rfl ?_
  refine tr_goto 6 hX dX8_ceilingOf_37 (by decide) ?_
  exact tr_sub [1, 2, 3, 0] rfl (hs6 x2 (x3 + 1))
def f_X8_ceilingOf_6 (x1 : Int32) (s6 : Int32 → Int32 → M Int32) (x2 : Int32) (x3 : Int32) : M Int32 :=
  if 5 ≤ x3 then (rt x2) else (if ((x1 >>> (x3 &&& 31)) &&& 1) = 0 then (aI 160 32 (x1 ||| (1 <<< (x3 &&& 31))) (fun v1 => nm ((if v1 < x2 then v1 else x2)) (fun v3 => f_X8_ceilingOf_34 s6 x1 v3 x3))) else (f_X8_ceilingOf_34 s6 x1 x2 x3))
set_option maxRecDepth 10000 in
set_option maxHeartbeats 4000000 in
theorem t_X8_ceilingOf_6 {X : Cx} (hX : Good X RX8 cX8_ceilingOf ((some .int))) (hS : Sta X 1 13 4) (x1 : Int32) : ∀ s6 : Int32 → Int32 → M Int32, (∀ x2 : Int32, ∀ x3 : Int32, Tr X eI 0 0 6 [(0, .ref (cxAd X 0)), (1, .int x1), (2, .int x2), (3, .int x3)] [] (s6 x2 x3)) → ∀ x2 : Int32, ∀ x3 : Int32, Tr X eI 0 0 6 [(0, .ref (cxAd X 0)), (1, .int x1), (2, .int x2), (3, .int x3)] [] (f_X8_ceilingOf_6 x1 s6 x2 x3) := by
  intro s6 hs6 x2 x3
  unfold f_X8_ceilingOf_6
  refine tr_iload_n 3 hX dX8_ceilingOf_6 rfl rfl ?_
  refine tr_iconst 5 hX dX8_ceilingOf_7 (by decide) ?_
  refine tr_ic_ge 40 hX dX8_ceilingOf_8 (by decide) (fun c5 => ?_) (fun c5 => ?_)
  · refine tr_iload_n 2 hX dX8_ceilingOf_40 rfl rfl ?_
    exact tr_iret0 hX hS dX8_ceilingOf_41
  · refine tr_iload_n 1 hX dX8_ceilingOf_11 rfl rfl ?_
    refine tr_iload_n 3 hX dX8_ceilingOf_12 rfl rfl ?_
    refine tr_ishr hX dX8_ceilingOf_13 ?_
    refine tr_iconst 1 hX dX8_ceilingOf_14 (by decide) ?_
    refine tr_iand hX dX8_ceilingOf_15 ?_
    refine tr_if_ne 34 hX dX8_ceilingOf_16 (by decide) (fun c4 => ?_) (fun c4 => ?_)
    · refine tr_iload_n 2 hX dX8_ceilingOf_19 rfl rfl ?_
      refine tr_aload_n 0 hX dX8_ceilingOf_20 rfl rfl ?_
      refine tr_getF hX dX8_ceilingOf_21 sh_0 (by decide) rfl inlX8 (by decide) rfl (hS.g (Nat.le_of_ble_eq_true rfl)) cr_0_12 k_2_22 mq_0 ?_
      refine tr_iload_n 1 hX dX8_ceilingOf_24 rfl rfl ?_
      refine tr_iconst 1 hX dX8_ceilingOf_25 (by decide) ?_
      refine tr_iload_n 3 hX dX8_ceilingOf_26 rfl rfl ?_
      refine tr_ishl hX dX8_ceilingOf_27 ?_
      refine tr_ior hX dX8_ceilingOf_28 ?_
      refine tr_iald hX dX8_ceilingOf_29 sh_160 (hS.e (Nat.le_of_ble_eq_true rfl)) (fun hb2 v1 => ?_)
      refine tr_min hX dX8_ceilingOf_30 k_27_5 k_26_1 k_20_16 k_26_2 (by rw [hS.2.2.2.2.1]; exact Nat.le_of_ble_eq_true rfl) (by rw [hS.2.2.2.2.1]; exact Nat.le_of_ble_eq_true rfl) (Nat.zero_le _) (Nat.zero_le _) ?_
      refine tr_nm (fun v3 ev3 => ?_)
      refine tr_istore_n hX dX8_ceilingOf_33 rfl (hS.n (by decide)) rfl ?_
      exact tr_sub [1, 2, 0, 3] rfl (t_X8_ceilingOf_34 hX hS s6 x1 v3 x3 hs6)
    · exact tr_sub [0, 1, 2, 3] rfl (t_X8_ceilingOf_34 hX hS s6 x1 x2 x3 hs6)
def f_X8_ceilingOf (x1 : Int32) : M Int32 :=
  fix2 FU (f_X8_ceilingOf_6 x1) 1000000 0
set_option maxRecDepth 10000 in
set_option maxHeartbeats 4000000 in
theorem t_X8_ceilingOf_0 {X : Cx} (hX : Good X RX8 cX8_ceilingOf ((some .int))) (hS : Sta X 1 13 4) (x1 : Int32) : Tr X eI 0 0 0 [(0, .ref (cxAd X 0)), (1, .int x1)] [] (f_X8_ceilingOf x1) := by
  unfold f_X8_ceilingOf
  refine tr_ldc_w hX dX8_ceilingOf_0 k_26_20 ?_
  refine tr_istore_n hX dX8_ceilingOf_3 rfl (hS.n (by decide)) rfl ?_
  refine tr_iconst 0 hX dX8_ceilingOf_4 (by decide) ?_
  refine tr_istore_n hX dX8_ceilingOf_5 rfl (hS.n (by decide)) rfl ?_
  exact tr_sub [2, 3, 1, 0] rfl (tr_fix2 (lvf := fun x2 x3 => [(0, .ref (cxAd X 0)), (1, .int x1), (2, .int x2), (3, .int x3)]) (t_X8_ceilingOf_6 hX hS x1) FU 1000000 0)
theorem ok_X8_ceilingOf {l : Launch} {E : Ev} (x1 : Int32)  : Ok l E Gall yX8_ceilingOf cX8_ceilingOf 4 ((some .int)) (rmz 1 13) eI [.ref (E.2.1 0), .int x1] (f_X8_ceilingOf x1) := by
  refine ok_of0 (by decide) (Nat.le_of_ble_eq_true rfl) (fun X hX hV hS => ?_)
  subst hV
  exact t_X8_ceilingOf_0 hX hS x1
def f_X8_farthestWays_99 (s9 : Int32 → Int32 → Int32 → M Int32) (x1 : Int32) (x2 : Int32) (x3 : Int32) (x4 : Int32) (x5 : Int32) : M Int32 :=
  s9 x3 x4 (x5 + (-1))
set_option maxRecDepth 10000 in
set_option maxHeartbeats 4000000 in
theorem t_X8_farthestWays_99 {X : Cx} (hX : Good X RX8 cX8_farthestWays ((some .int))) (hS : Sta X 5 127 7) (s9 : Int32 → Int32 → Int32 → M Int32) (x1 : Int32) (x2 : Int32) (x3 : Int32) (x4 : Int32) (x5 : Int32) (hs9 : ∀ x3 : Int32, ∀ x4 : Int32, ∀ x5 : Int32, Tr X eI 0 0 9 [(0, .ref (cxAd X 0)), (1, .int x1), (2, .int x2), (3, .int x3), (4, .int x4), (5, .int x5)] [] (s9 x3 x4 x5)) : Tr X eI 0 0 99 [(0, .ref (cxAd X 0)), (1, .int x1), (2, .int x2), (3, .int x3), (4, .int x4), (5, .int x5)] [] (f_X8_farthestWays_99 s9 x1 x2 x3 x4 x5) := by
  unfold f_X8_farthestWays_99
  refine tr_iinc (x5 + (-1)) 5 hX dX8_farthestWays_99 rfl (congrArg (fun z => x5 + z) (by decide)) (hS.n (by decide)) rfl ?_
  refine tr_goto 9 hX dX8_farthestWays_102 (by decide) ?_
  exact tr_sub [1, 2, 3, 4, 5, 0] rfl (hs9 x3 x4 (x5 + (-1)))
def f_X8_farthestWays_77 (s9 : Int32 → Int32 → Int32 → M Int32) (x1 : Int32) (x2 : Int32) (x3 : Int32) (x4 : Int32) (x5 : Int32) (x6 : Int32) : M Int32 :=
  sI 160 32 x5 x6 (if x6 < x3 then (f_X8_farthestWays_99 s9 x1 x2 x3 x4 x5) else (f_X8_farthestWays_99 s9 x1 x2 x6 x5 x5))
set_option maxRecDepth 10000 in
set_option maxHeartbeats 4000000 in
theorem t_X8_farthestWays_77 {X : Cx} (hX : Good X RX8 cX8_farthestWays ((some .int))) (hS : Sta X 5 127 7) (s9 : Int32 → Int32 → Int32 → M Int32) (x1 : Int32) (x2 : Int32) (x3 : Int32) (x4 : Int32) (x5 : Int32) (x6 : Int32) (hs9 : ∀ x3 : Int32, ∀ x4 : Int32, ∀ x5 : Int32, Tr X eI 0 0 9 [(0, .ref (cxAd X 0)), (1, .int x1), (2, .int x2), (3, .int x3), (4, .int x4), (5, .int x5)] [] (s9 x3 x4 x5)) : Tr X eI 0 0 77 [(0, .ref (cxAd X 0)), (1, .int x1), (2, .int x2), (3, .int x3), (4, .int x4), (5, .int x5), (6, .int x6)] [] (f_X8_farthestWays_77 s9 x1 x2 x3 x4 x5 x6) := by
  unfold f_X8_farthestWays_77
  refine tr_aload_n 0 hX dX8_farthestWays_77 rfl rfl ?_
  refine tr_getF hX dX8_farthestWays_78 sh_0 (by decide) rfl inlX8 (by decide) rfl (hS.g (Nat.le_of_ble_eq_true rfl)) cr_0_12 k_2_22 mq_0 ?_
  refine tr_iload 5 hX dX8_farthestWays_81 rfl ?_
  refine tr_iload 6 hX dX8_farthestWays_83 rfl ?_
  refine tr_iast hX dX8_farthestWays_85 sh_160 (hS.e (Nat.le_of_ble_eq_true rfl)) (fun _ => ?_)
  refine tr_iload 6 hX dX8_farthestWays_86 rfl ?_
  refine tr_iload_n 3 hX dX8_farthestWays_88 rfl rfl ?_
  refine tr_ic_lt 99 hX dX8_farthestWays_89 (by decide) (fun c1 => ?_) (fun c1 => ?_)
  · exact tr_sub [0, 1, 2, 3, 4, 5] rfl (t_X8_farthestWays_99 hX hS s9 x1 x2 x3 x4 x5 hs9)
  · refine tr_iload 6 hX dX8_farthestWays_92 rfl ?_
    refine tr_istore_n hX dX8_farthestWays_94 rfl (hS.n (by decide)) rfl ?_
    refine tr_iload 5 hX dX8_farthestWays_95 rfl ?_
    refine tr_istore hX dX8_farthestWays_97 (hS.n (by decide)) rfl ?_
    exact tr_sub [2, 3, 4, 1, 0, 5] rfl (t_X8_farthestWays_99 hX hS s9 x1 x2 x6 x5 x5 hs9)
def f_X8_farthestWays_55 (s9 : Int32 → Int32 → Int32 → M Int32) (x1 : Int32) (x2 : Int32) (x3 : Int32) (x4 : Int32) (x5 : Int32) (p0 : Int32) : M Int32 :=
  if p0 < x3 then (f_X8_farthestWays_77 s9 x1 x2 x3 x4 x5 p0) else (if p0 ≤ 0 then (f_X8_farthestWays_77 s9 x1 x2 x3 x4 x5 p0) else (bnd (f_X8_farBy x1 x5) (fun v1 => f_X8_farthestWays_77 s9 x1 x2 x3 x4 x5 v1)))
set_option maxRecDepth 10000 in
set_option maxHeartbeats 4000000 in
theorem t_X8_farthestWays_55 {X : Cx} (hX : Good X RX8 cX8_farthestWays ((some .int))) (hS : Sta X 5 127 7) (s9 : Int32 → Int32 → Int32 → M Int32) (x1 : Int32) (x2 : Int32) (x3 : Int32) (x4 : Int32) (x5 : Int32) (p0 : Int32) (hs9 : ∀ x3 : Int32, ∀ x4 : Int32, ∀ x5 : Int32, Tr X eI 0 0 9 [(0, .ref (cxAd X 0)), (1, .int x1), (2, .int x2), (3, .int x3), (4, .int x4), (5, .int x5)] [] (s9 x3 x4 x5)) : Tr X eI 0 0 55 [(0, .ref (cxAd X 0)), (1, .int x1), (2, .int x2), (3, .int x3), (4, .int x4), (5, .int x5)] [.int p0] (f_X8_farthestWays_55 s9 x1 x2 x3 x4 x5 p0) := by
  unfold f_X8_farthestWays_55
  refine tr_istore hX dX8_farthestWays_55 (hS.n (by decide)) rfl ?_
  refine tr_iload 0 hX dX8_farthestWays_57 rfl ?_
  refine tr_iload_n 4 hX dX8_farthestWays_59 rfl rfl ?_
  refine tr_ic_lt 77 hX dX8_farthestWays_60 (by decide) (fun c3 => ?_) (fun c3 => ?_)
  · exact tr_sub [1, 2, 3, 4, 5, 6, 0] rfl (t_X8_farthestWays_77 hX hS s9 x1 x2 x3 x4 x5 p0 hs9)
  · refine tr_iload 0 hX dX8_farthestWays_63 rfl ?_
    refine tr_if_le 77 hX dX8_farthestWays_65 (by decide) (fun c2 => ?_) (fun c2 => ?_)
    · exact tr_sub [1, 2, 3, 4, 5, 6, 0] rfl (t_X8_farthestWays_77 hX hS s9 x1 x2 x3 x4 x5 p0 hs9)
    · refine tr_aload_n 1 hX dX8_farthestWays_68 rfl rfl ?_
      refine tr_iload_n 2 hX dX8_farthestWays_69 rfl rfl ?_
      refine tr_iload 6 hX dX8_farthestWays_70 rfl ?_
      refine tr_callV0I (st := []) 2 hX hS dX8_farthestWays_72 (ok_X8_farBy x1 x5) sh_0 (by decide) rfl (Nat.le_of_ble_eq_true rfl) k_25_12 k_25_13 k_25_14 k_1_2 k_25_15 hy_X8_farBy rfl rfl (Nat.le_of_ble_eq_true rfl) rfl (fun v1 => ?_)
      refine tr_istore hX dX8_farthestWays_75 (hS.n (by decide)) rfl ?_
      exact tr_sub [1, 2, 3, 4, 5, 6, 0] rfl (t_X8_farthestWays_77 hX hS s9 x1 x2 x3 x4 x5 v1 hs9)
def f_X8_farthestWays_9 (x1 : Int32) (x2 : Int32) (s9 : Int32 → Int32 → Int32 → M Int32) (x3 : Int32) (x4 : Int32) (x5 : Int32) : M Int32 :=
  if x5 < 0 then (rt x4) else (sI 160 32 x5 1000000 (rT 0 1 (fun t1 => bnd (f_X6_hoursOf t1 x5) (fun v2 => if v2 ≤ x2 then (if x5 = 0 then (f_X8_farthestWays_55 s9 x1 x2 x3 x4 x5 0) else (bnd (f_X8_ceilingOf x5) (fun v3 => f_X8_farthestWays_55 s9 x1 x2 x3 x4 x5 v3))) else (f_X8_farthestWays_99 s9 x1 x2 x3 x4 x5)))))
set_option maxRecDepth 10000 in
set_option maxHeartbeats 4000000 in
theorem t_X8_farthestWays_9 {X : Cx} (hX : Good X RX8 cX8_farthestWays ((some .int))) (hS : Sta X 5 127 7) (x1 : Int32) (x2 : Int32) : ∀ s9 : Int32 → Int32 → Int32 → M Int32, (∀ x3 : Int32, ∀ x4 : Int32, ∀ x5 : Int32, Tr X eI 0 0 9 [(0, .ref (cxAd X 0)), (1, .int x1), (2, .int x2), (3, .int x3), (4, .int x4), (5, .int x5)] [] (s9 x3 x4 x5)) → ∀ x3 : Int32, ∀ x4 : Int32, ∀ x5 : Int32, Tr X eI 0 0 9 [(0, .ref (cxAd X 0)), (1, .int x1), (2, .int x2), (3, .int x3), (4, .int x4), (5, .int x5)] [] (f_X8_farthestWays_9 x1 x2 s9 x3 x4 x5) := by
  intro s9 hs9 x3 x4 x5
  unfold f_X8_farthestWays_9
  refine tr_iload 5 hX dX8_farthestWays_9 rfl ?_
  refine tr_if_lt 105 hX dX8_farthestWays_11 (by decide) (fun c6 => ?_) (fun c6 => ?_)
  · refine tr_iload 4 hX dX8_farthestWays_105 rfl ?_
    exact tr_iret0 hX hS dX8_farthestWays_107
  · refine tr_aload_n 0 hX dX8_farthestWays_14 rfl rfl ?_
    refine tr_getF hX dX8_farthestWays_15 sh_0 (by decide) rfl inlX8 (by decide) rfl (hS.g (Nat.le_of_ble_eq_true rfl)) cr_0_12 k_2_22 mq_0 ?_
    refine tr_iload 5 hX dX8_farthestWays_18 rfl ?_
    refine tr_ldc_w hX dX8_farthestWays_20 k_26_20 ?_
    refine tr_iast hX dX8_farthestWays_23 sh_160 (hS.e (Nat.le_of_ble_eq_true rfl)) (fun _ => ?_)
    refine tr_aload_n 0 hX dX8_farthestWays_24 rfl rfl ?_
    refine tr_getT hX dX8_farthestWays_25 sh_0 (by decide) rfl inlX8 (by decide) rfl (hS.e (Nat.le_of_ble_eq_true rfl)) k_1_20 (fun t1 ht1 => ?_)
    refine tr_iload 5 hX dX8_farthestWays_28 rfl ?_
    refine tr_callV0I (st := []) 1 hX hS dX8_farthestWays_30 (ok_X6_hoursOf t1 x5 ht1) (shT ht1) (by decide) rfl (leT ht1) k_26_21 k_26_22 k_26_23 k_1_19 k_27_0 hy_X6_hoursOf rfl rfl (Nat.le_of_ble_eq_true rfl) rfl (fun v2 => ?_)
    refine tr_iload_n 2 hX dX8_farthestWays_33 rfl rfl ?_
    refine tr_ic_le 40 hX dX8_farthestWays_34 (by decide) (fun c5 => ?_) (fun c5 => ?_)
    · refine tr_iload 5 hX dX8_farthestWays_40 rfl ?_
      refine tr_if_ne 49 hX dX8_farthestWays_42 (by decide) (fun c4 => ?_) (fun c4 => ?_)
      · refine tr_iconst 0 hX dX8_farthestWays_45 (by decide) ?_
        refine tr_goto 55 hX dX8_farthestWays_46 (by decide) ?_
        exact tr_sub [0, 1, 2, 3, 4, 5] rfl (t_X8_farthestWays_55 hX hS s9 x1 x2 x3 x4 x5 0 hs9)
      · refine tr_aload_n 0 hX dX8_farthestWays_49 rfl rfl ?_
        refine tr_iload 5 hX dX8_farthestWays_50 rfl ?_
        refine tr_callV0I (st := []) 1 hX hS dX8_farthestWays_52 (ok_X8_ceilingOf x5) sh_0 (by decide) rfl (Nat.le_of_ble_eq_true rfl) k_27_1 k_27_2 k_27_3 k_1_2 k_27_4 hy_X8_ceilingOf rfl rfl (Nat.le_of_ble_eq_true rfl) rfl (fun v3 => ?_)
        exact tr_sub [0, 1, 2, 3, 4, 5] rfl (t_X8_farthestWays_55 hX hS s9 x1 x2 x3 x4 x5 v3 hs9)
    · refine tr_goto 99 hX dX8_farthestWays_37 (by decide) ?_
      exact tr_sub [0, 1, 2, 3, 4, 5] rfl (t_X8_farthestWays_99 hX hS s9 x1 x2 x3 x4 x5 hs9)
def f_X8_farthestWays (x1 : Int32) (x2 : Int32) : M Int32 :=
  fix3 FU (f_X8_farthestWays_9 x1 x2) 0 0 31
set_option maxRecDepth 10000 in
set_option maxHeartbeats 4000000 in
theorem t_X8_farthestWays_0 {X : Cx} (hX : Good X RX8 cX8_farthestWays ((some .int))) (hS : Sta X 5 127 7) (x1 : Int32) (x2 : Int32) : Tr X eI 0 0 0 [(0, .ref (cxAd X 0)), (1, .int x1), (2, .int x2)] [] (f_X8_farthestWays x1 x2) := by
  unfold f_X8_farthestWays
  refine tr_iconst 0 hX dX8_farthestWays_0 (by decide) ?_
  refine tr_istore_n hX dX8_farthestWays_1 rfl (hS.n (by decide)) rfl ?_
  refine tr_iconst 0 hX dX8_farthestWays_2 (by decide) ?_
  refine tr_istore hX dX8_farthestWays_3 (hS.n (by decide)) rfl ?_
  refine tr_bipush 31 hX dX8_farthestWays_5 (by decide) ?_
  refine tr_istore hX dX8_farthestWays_7 (hS.n (by decide)) rfl ?_
  exact tr_sub [3, 4, 5, 2, 1, 0] rfl (tr_fix3 (lvf := fun x3 x4 x5 => [(0, .ref (cxAd X 0)), (1, .int x1), (2, .int x2), (3, .int x3), (4, .int x4), (5, .int x5)]) (t_X8_farthestWays_9 hX hS x1 x2) FU 0 0 31)
theorem ok_X8_farthestWays {l : Launch} {E : Ev} (x1 : Int32) (x2 : Int32)  : Ok l E Gall yX8_farthestWays cX8_farthestWays 7 ((some .int)) (rmz 5 127) eI [.ref (E.2.1 0), .int x1, .int x2] (f_X8_farthestWays x1 x2) := by
  refine ok_of0 (by decide) (Nat.le_of_ble_eq_true rfl) (fun X hX hV hS => ?_)
  subst hV
  exact t_X8_farthestWays_0 hX hS x1 x2
def f_X8_best_27  : M Int32 :=
  rt (-1)
set_option maxRecDepth 10000 in
set_option maxHeartbeats 4000000 in
theorem t_X8_best_27 {X : Cx} (hX : Good X RX8 cX8_best ((some .int))) (hS : Sta X 6 153 6) : Tr X eI 0 0 27 [] [] (f_X8_best_27) := by
  unfold f_X8_best_27
  refine tr_iconst (-1) hX dX8_best_27 (by decide) ?_
  exact tr_iret0 hX hS dX8_best_28
def f_X8_best_68 (p0 : Int32) : M Int32 :=
  rt p0
set_option maxRecDepth 10000 in
set_option maxHeartbeats 4000000 in
theorem t_X8_best_68 {X : Cx} (hX : Good X RX8 cX8_best ((some .int))) (hS : Sta X 6 153 6) (p0 : Int32) : Tr X eI 0 0 68 [] [.int p0] (f_X8_best_68 p0) := by
  unfold f_X8_best_68
  exact tr_iret0 hX hS dX8_best_68
def f_X8_best (x1 : Int32) (x2 : Int32) (x3 : Int32) : M Int32 :=
  bnd (f_X8_isBelow x1 6) (fun v1 => if v1 = 0 then (f_X8_best_27) else (bnd (f_X8_isBelow x2 496) (fun v2 => if v2 = 0 then (f_X8_best_27) else (bnd (f_X8_isBelow x3 2) (fun v3 => if v3 = 0 then (f_X8_best_27) else (bnd (f_X8_refusalToCompare x1) (fun v4 => if v4 = 0 then (bnd (f_X8_farthestWays x1 x2) (fun v5 => if x3 = 0 then (f_X8_best_68 v5) else (aI 160 32 v5 (fun v6 => f_X8_best_68 v6)))) else (rt v4))))))))
set_option maxRecDepth 10000 in
set_option maxHeartbeats 4000000 in
theorem t_X8_best_0 {X : Cx} (hX : Good X RX8 cX8_best ((some .int))) (hS : Sta X 6 153 6) (x1 : Int32) (x2 : Int32) (x3 : Int32) : Tr X eI 0 0 0 [(0, .ref (cxAd X 0)), (1, .int x1), (2, .int x2), (3, .int x3)] [] (f_X8_best x1 x2 x3) := by
  unfold f_X8_best
  refine tr_iload_n 1 hX dX8_best_0 rfl rfl ?_
  refine tr_bipush 6 hX dX8_best_1 (by decide) ?_
  refine tr_callS0I (st := []) 2 hX hS dX8_best_3 (ok_X8_isBelow x1 6) k_12_19 k_12_20 k_1_2 k_12_21 hy_X8_isBelow.2 rfl rfl (Nat.le_of_ble_eq_true rfl) rfl (fun v1 => ?_)
  refine tr_if_eq 27 hX dX8_best_6 (by decide) (fun c12 => ?_) (fun c12 => ?_)
  · exact tr_sub [] rfl (t_X8_best_27 hX hS)
  · refine tr_iload_n 2 hX dX8_best_9 rfl rfl ?_
    refine tr_sipush 496 hX dX8_best_10 (by decide) ?_
    refine tr_callS0I (st := []) 2 hX hS dX8_best_13 (ok_X8_isBelow x2 496) k_12_19 k_12_20 k_1_2 k_12_21 hy_X8_isBelow.2 rfl rfl (Nat.le_of_ble_eq_true rfl) rfl (fun v2 => ?_)
    refine tr_if_eq 27 hX dX8_best_16 (by decide) (fun c11 => ?_) (fun c11 => ?_)
    · exact tr_sub [] rfl (t_X8_best_27 hX hS)
    · refine tr_iload_n 3 hX dX8_best_19 rfl rfl ?_
      refine tr_iconst 2 hX dX8_best_20 (by decide) ?_
      refine tr_callS0I (st := []) 2 hX hS dX8_best_21 (ok_X8_isBelow x3 2) k_12_19 k_12_20 k_1_2 k_12_21 hy_X8_isBelow.2 rfl rfl (Nat.le_of_ble_eq_true rfl) rfl (fun v3 => ?_)
      refine tr_if_ne 29 hX dX8_best_24 (by decide) (fun c10 => ?_) (fun c10 => ?_)
      · exact tr_sub [] rfl (t_X8_best_27 hX hS)
      · refine tr_aload_n 0 hX dX8_best_29 rfl rfl ?_
        refine tr_iload_n 1 hX dX8_best_30 rfl rfl ?_
        refine tr_callV0I (st := []) 1 hX hS dX8_best_31 (ok_X8_refusalToCompare x1) sh_0 (by decide) rfl (Nat.le_of_ble_eq_true rfl) k_25_8 k_25_9 k_25_10 k_1_2 k_25_11 hy_X8_refusalToCompare rfl rfl (Nat.le_of_ble_eq_true rfl) rfl (fun v4 => ?_)
        refine tr_istore hX dX8_best_34 (hS.n (by decide)) rfl ?_
        refine tr_iload 0 hX dX8_best_36 rfl ?_
        refine tr_if_eq 44 hX dX8_best_38 (by decide) (fun c9 => ?_) (fun c9 => ?_)
        · refine tr_aload_n 1 hX dX8_best_44 rfl rfl ?_
          refine tr_iload_n 2 hX dX8_best_45 rfl rfl ?_
          refine tr_iload_n 3 hX dX8_best_46 rfl rfl ?_
          refine tr_callV0I (st := []) 2 hX hS dX8_best_47 (ok_X8_farthestWays x1 x2) sh_0 (by decide) rfl (Nat.le_of_ble_eq_true rfl) k_26_16 k_26_17 k_26_18 k_1_2 k_26_19 hy_X8_farthestWays rfl rfl (Nat.le_of_ble_eq_true rfl) rfl (fun v5 => ?_)
          refine tr_istore hX dX8_best_50 (hS.n (by decide)) rfl ?_
          refine tr_iload_n 5 hX dX8_best_52 rfl rfl ?_
          refine tr_if_ne 61 hX dX8_best_53 (by decide) (fun c8 => ?_) (fun c8 => ?_)
          · refine tr_iload 0 hX dX8_best_56 rfl ?_
            refine tr_goto 68 hX dX8_best_58 (by decide) ?_
            exact tr_sub [] rfl (t_X8_best_68 hX hS v5)
          · refine tr_aload_n 2 hX dX8_best_61 rfl rfl ?_
            refine tr_getF hX dX8_best_62 sh_0 (by decide) rfl inlX8 (by decide) rfl (hS.g (Nat.le_of_ble_eq_true rfl)) cr_0_12 k_2_22 mq_0 ?_
            refine tr_iload 0 hX dX8_best_65 rfl ?_
            refine tr_iald hX dX8_best_67 sh_160 (hS.e (Nat.le_of_ble_eq_true rfl)) (fun hb7 v6 => ?_)
            exact tr_sub [] rfl (t_X8_best_68 hX hS v6)
        · refine tr_iload 0 hX dX8_best_41 rfl ?_
          exact tr_iret0 hX hS dX8_best_43
theorem ok_X8_best {l : Launch} {E : Ev} (x1 : Int32) (x2 : Int32) (x3 : Int32)  : Ok l E Gall yX8_best cX8_best 6 ((some .int)) (rmz 6 153) eI [.ref (E.2.1 0), .int x1, .int x2, .int x3] (f_X8_best x1 x2 x3) := by
  refine ok_of0 (by decide) (Nat.le_of_ble_eq_true rfl) (fun X hX hV hS => ?_)
  subst hV
  exact t_X8_best_0 hX hS x1 x2 x3
def f_X8_isSuch_36 (p0 : Int32) : M Int32 :=
  gd (p0 = 0 ∨ p0 = 1) (rt p0)
set_option maxRecDepth 10000 in
set_option maxHeartbeats 4000000 in
theorem t_X8_isSuch_36 {X : Cx} (hX : Good X RX8 cX8_isSuch ((some .boolean))) (hS : Sta X 1 21 4) (p0 : Int32) : Tr X eI 0 0 36 [] [.int p0] (f_X8_isSuch_36 p0) := by
  unfold f_X8_isSuch_36
  exact tr_zret0 hX hS dX8_isSuch_36
def f_X8_isSuch_35  : M Int32 :=
  f_X8_isSuch_36 0
set_option maxRecDepth 10000 in
set_option maxHeartbeats 4000000 in
theorem t_X8_isSuch_35 {X : Cx} (hX : Good X RX8 cX8_isSuch ((some .boolean))) (hS : Sta X 1 21 4) : Tr X eI 0 0 35 [] [] (f_X8_isSuch_35) := by
  unfold f_X8_isSuch_35
  refine tr_iconst 0 hX dX8_isSuch_35 (by decide) ?_
  exact tr_sub [] rfl (t_X8_isSuch_36 hX hS 0)
def f_X8_isSuch (x1 : Int32) (x2 : Int32) (x3 : Int32) : M Int32 :=
  aI 28 6 x1 (fun v1 => bnd (f_X8_isBelow x2 v1) (fun v3 => if v3 = 0 then (f_X8_isSuch_35) else (gd (inb x1 6) (aI (21 + 1 + x1.toNatClampNeg) 8 x2 (fun v5 => if v5 = x3 then (f_X8_isSuch_35) else (f_X8_isSuch_36 1))))))
set_option maxRecDepth 10000 in
set_option maxHeartbeats 4000000 in
theorem t_X8_isSuch_0 {X : Cx} (hX : Good X RX8 cX8_isSuch ((some .boolean))) (hS : Sta X 1 21 4) (x1 : Int32) (x2 : Int32) (x3 : Int32) : Tr X eI 0 0 0 [(0, .ref (cxAd X 0)), (1, .int x1), (2, .int x2), (3, .int x3)] [] (f_X8_isSuch x1 x2 x3) := by
  unfold f_X8_isSuch
  refine tr_iload_n 2 hX dX8_isSuch_0 rfl rfl ?_
  refine tr_aload_n 0 hX dX8_isSuch_1 rfl rfl ?_
  refine tr_getF hX dX8_isSuch_2 sh_0 (by decide) rfl inlX8 (by decide) rfl (hS.g (Nat.le_of_ble_eq_true rfl)) cr_0_3 k_2_1 mq_0 ?_
  refine tr_getF hX dX8_isSuch_5 sh_20 (by decide) rfl inlX0 (by decide) rfl (hS.g (Nat.le_of_ble_eq_true rfl)) cr_20_1 k_13_6 mq_20 ?_
  refine tr_iload_n 1 hX dX8_isSuch_8 rfl rfl ?_
  refine tr_iald hX dX8_isSuch_9 sh_28 (hS.e (Nat.le_of_ble_eq_true rfl)) (fun hb2 v1 => ?_)
  refine tr_callS0I (st := []) 2 hX hS dX8_isSuch_10 (ok_X8_isBelow x2 v1) k_12_19 k_12_20 k_1_2 k_12_21 hy_X8_isBelow.2 rfl rfl (Nat.le_of_ble_eq_true rfl) rfl (fun v3 => ?_)
  refine tr_if_eq 35 hX dX8_isSuch_13 (by decide) (fun c8 => ?_) (fun c8 => ?_)
  · exact tr_sub [] rfl (t_X8_isSuch_35 hX hS)
  · refine tr_aload_n 0 hX dX8_isSuch_16 rfl rfl ?_
    refine tr_getF hX dX8_isSuch_17 sh_0 (by decide) rfl inlX8 (by decide) rfl (hS.g (Nat.le_of_ble_eq_true rfl)) cr_0_3 k_2_1 mq_0 ?_
    refine tr_getF hX dX8_isSuch_20 sh_20 (by decide) rfl inlX0 (by decide) rfl (hS.g (Nat.le_of_ble_eq_true rfl)) cr_20_0 k_13_7 mq_20 ?_
    refine tr_iload_n 1 hX dX8_isSuch_23 rfl rfl ?_
    refine tr_aald hX dX8_isSuch_24 sh_21 (hS.e (Nat.le_of_ble_eq_true rfl)) (fun hb4 => ?_)
    refine tr_iload_n 2 hX dX8_isSuch_25 rfl rfl ?_
    refine tr_iald hX dX8_isSuch_26 (row_21 hb4).1 (hS.e (row_21 hb4).2) (fun hb6 v5 => ?_)
    refine tr_iload_n 3 hX dX8_isSuch_27 rfl rfl ?_
    refine tr_ic_eq 35 hX dX8_isSuch_28 (by decide) (fun c7 => ?_) (fun c7 => ?_)
    · exact tr_sub [] rfl (t_X8_isSuch_35 hX hS)
    · refine tr_iconst 1 hX dX8_isSuch_31 (by decide) ?_
      refine tr_goto 36 hX dX8_isSuch_32 (by decide) ?_
      exact tr_sub [] rfl (t_X8_isSuch_36 hX hS 1)
theorem ok_X8_isSuch {l : Launch} {E : Ev} (x1 : Int32) (x2 : Int32) (x3 : Int32)  : Ok l E Gall yX8_isSuch cX8_isSuch 4 ((some .boolean)) (rmz 1 21) eI [.ref (E.2.1 0), .int x1, .int x2, .int x3] (f_X8_isSuch x1 x2 x3) := by
  refine ok_of0 (by decide) (Nat.le_of_ble_eq_true rfl) (fun X hX hV hS => ?_)
  subst hV
  exact t_X8_isSuch_0 hX hS x1 x2 x3
def f_X8_waysThatShow_93 (s33 : Int32 → Int32 → M Int32) (x1 : Int32) (x4 : Int32) (x5 : Int32) : M Int32 :=
  s33 x4 (x5 + 1)
set_option maxRecDepth 10000 in
set_option maxHeartbeats 4000000 in
theorem t_X8_waysThatShow_93 {X : Cx} (hX : Good X RX8 cX8_waysThatShow ((some .int))) (hS : Sta X 3 72 6) (s33 : Int32 → Int32 → M Int32) (x1 : Int32) (x4 : Int32) (x5 : Int32) (hs33 : ∀ x4 : Int32, ∀ x5 : Int32, Tr X eI 0 0 33 [(0, .ref (cxAd X 0)), (1, .int x1), (4, .int x4), (5, .int x5)] [] (s33 x4 x5)) : Tr X eI 0 0 93 [(0, .ref (cxAd X 0)), (1, .int x1), (4, .int x4), (5, .int x5)] [] (f_X8_waysThatShow_93 s33 x1 x4 x5) := by
  unfold f_X8_waysThatShow_93
  refine tr_iinc (x5 + 1) 3 hX dX8_waysThatShow_93 rfl (congrArg (fun z => x5 + z) (by decide)) (hS.n (by decide)) rfl ?_
  refine tr_goto 33 hX dX8_waysThatShow_96 (by decide) ?_
  exact tr_sub [1, 2, 3, 0] rfl (hs33 x4 (x5 + 1))
def f_X8_waysThatShow_33 (x1 : Int32) (s33 : Int32 → Int32 → M Int32) (x4 : Int32) (x5 : Int32) : M Int32 :=
  if 5 ≤ x5 then (rt x4) else (aI 28 6 x1 (fun v1 => bnd (f_X1_follow x5 v1) (fun _ => rT 0 1 (fun t4 => gd (inb x1 6) (bnd (f_X1_tells t4 (21 + 1 + x1.toNatClampNeg) 159) (fun v6 => if v6 = 0 then (f_X8_waysThatShow_93 s33 x1 x4 x5) else (nm ((x4 ||| (1 <<< (x5 &&& 31)))) (fun v7 => f_X8_waysThatShow_93 s33 x1 v7 x5))))))))
set_option maxRecDepth 10000 in
set_option maxHeartbeats 4000000 in
theorem t_X8_waysThatShow_33 {X : Cx} (hX : Good X RX8 cX8_waysThatShow ((some .int))) (hS : Sta X 3 72 6) (x1 : Int32) : ∀ s33 : Int32 → Int32 → M Int32, (∀ x4 : Int32, ∀ x5 : Int32, Tr X eI 0 0 33 [(0, .ref (cxAd X 0)), (1, .int x1), (4, .int x4), (5, .int x5)] [] (s33 x4 x5)) → ∀ x4 : Int32, ∀ x5 : Int32, Tr X eI 0 0 33 [(0, .ref (cxAd X 0)), (1, .int x1), (4, .int x4), (5, .int x5)] [] (f_X8_waysThatShow_33 x1 s33 x4 x5) := by
  intro s33 hs33 x4 x5
  unfold f_X8_waysThatShow_33
  refine tr_iload 3 hX dX8_waysThatShow_33 rfl ?_
  refine tr_iconst 5 hX dX8_waysThatShow_35 (by decide) ?_
  refine tr_ic_ge 99 hX dX8_waysThatShow_36 (by decide) (fun c9 => ?_) (fun c9 => ?_)
  · refine tr_iload 2 hX dX8_waysThatShow_99 rfl ?_
    exact tr_iret0 hX hS dX8_waysThatShow_101
  · refine tr_aload_n 0 hX dX8_waysThatShow_39 rfl rfl ?_
    refine tr_getF hX dX8_waysThatShow_40 sh_0 (by decide) rfl inlX8 (by decide) rfl (hS.g (Nat.le_of_ble_eq_true rfl)) cr_0_7 k_2_7 mq_0 ?_
    refine tr_iload 3 hX dX8_waysThatShow_43 rfl ?_
    refine tr_aload_n 0 hX dX8_waysThatShow_45 rfl rfl ?_
    refine tr_getF hX dX8_waysThatShow_46 sh_0 (by decide) rfl inlX8 (by decide) rfl (hS.g (Nat.le_of_ble_eq_true rfl)) cr_0_3 k_2_1 mq_0 ?_
    refine tr_getF hX dX8_waysThatShow_49 sh_20 (by decide) rfl inlX0 (by decide) rfl (hS.g (Nat.le_of_ble_eq_true rfl)) cr_20_1 k_13_6 mq_20 ?_
    refine tr_iload_n 1 hX dX8_waysThatShow_52 rfl rfl ?_
    refine tr_iald hX dX8_waysThatShow_53 sh_28 (hS.e (Nat.le_of_ble_eq_true rfl)) (fun hb2 v1 => ?_)
    refine tr_callV0U (st := []) 2 hX hS dX8_waysThatShow_54 (ok_X1_follow x5 v1) sh_50 (by decide) rfl (Nat.le_of_ble_eq_true rfl) k_14_20 k_14_21 k_14_22 k_2_6 k_14_23 hy_X1_follow rfl rfl (Nat.le_of_ble_eq_true rfl) rfl (fun _ => ?_)
    refine tr_aload_n 0 hX dX8_waysThatShow_57 rfl rfl ?_
    refine tr_getF hX dX8_waysThatShow_58 sh_0 (by decide) rfl inlX8 (by decide) rfl (hS.g (Nat.le_of_ble_eq_true rfl)) cr_0_7 k_2_7 mq_0 ?_
    refine tr_aload_n 0 hX dX8_waysThatShow_61 rfl rfl ?_
    refine tr_getT hX dX8_waysThatShow_62 sh_0 (by decide) rfl inlX8 (by decide) rfl (hS.e (Nat.le_of_ble_eq_true rfl)) k_1_20 (fun t4 ht4 => ?_)
    refine tr_aload_n 0 hX dX8_waysThatShow_65 rfl rfl ?_
    refine tr_getF hX dX8_waysThatShow_66 sh_0 (by decide) rfl inlX8 (by decide) rfl (hS.g (Nat.le_of_ble_eq_true rfl)) cr_0_3 k_2_1 mq_0 ?_
    refine tr_getF hX dX8_waysThatShow_69 sh_20 (by decide) rfl inlX0 (by decide) rfl (hS.g (Nat.le_of_ble_eq_true rfl)) cr_20_0 k_13_7 mq_20 ?_
    refine tr_iload_n 1 hX dX8_waysThatShow_72 rfl rfl ?_
    refine tr_aald hX dX8_waysThatShow_73 sh_21 (hS.e (Nat.le_of_ble_eq_true rfl)) (fun hb5 => ?_)
    refine tr_aload_n 0 hX dX8_waysThatShow_74 rfl rfl ?_
    refine tr_getF hX dX8_waysThatShow_75 sh_0 (by decide) rfl inlX8 (by decide) rfl (hS.g (Nat.le_of_ble_eq_true rfl)) cr_0_11 k_2_21 mq_0 ?_
    refine tr_callV0I (st := []) 3 hX hS dX8_waysThatShow_78 (ok_X1_tells t4 (21 + 1 + x1.toNatClampNeg) 159 ht4 (row_21 hb5) ⟨sh_159, (Nat.le_of_ble_eq_true rfl)⟩) sh_50 (by decide) rfl (Nat.le_of_ble_eq_true rfl) k_28_7 k_28_8 k_28_9 k_2_6 k_28_10 hy_X1_tells rfl rfl (Nat.le_of_ble_eq_true rfl) rfl (fun v6 => ?_)
    refine tr_if_eq 93 hX dX8_waysThatShow_81 (by decide) (fun c8 => ?_) (fun c8 => ?_)
    · exact tr_sub [0, 1, 2, 3] rfl (t_X8_waysThatShow_93 hX hS s33 x1 x4 x5 hs33)
    · refine tr_iload 2 hX dX8_waysThatShow_84 rfl ?_
      refine tr_iconst 1 hX dX8_waysThatShow_86 (by decide) ?_
      refine tr_iload 3 hX dX8_waysThatShow_87 rfl ?_
      refine tr_ishl hX dX8_waysThatShow_89 ?_
      refine tr_ior hX dX8_waysThatShow_90 ?_
      refine tr_nm (fun v7 ev7 => ?_)
      refine tr_istore hX dX8_waysThatShow_91 (hS.n (by decide)) rfl ?_
      exact tr_sub [1, 2, 0, 3] rfl (t_X8_waysThatShow_93 hX hS s33 x1 v7 x5 hs33)
def f_X8_waysThatShow (x1 : Int32) (x2 : Int32) (x3 : Int32) : M Int32 :=
  gd (inb x1 6) (cp (21 + 1 + x1.toNatClampNeg) ((0 : Int32).toNatClampNeg) 159 ((0 : Int32).toNatClampNeg) ((8 : Int32).toNatClampNeg) (sI 159 8 x2 x3 (fix2 FU (f_X8_waysThatShow_33 x1) 0 0)))
set_option maxRecDepth 10000 in
set_option maxHeartbeats 4000000 in
theorem t_X8_waysThatShow_0 {X : Cx} (hX : Good X RX8 cX8_waysThatShow ((some .int))) (hS : Sta X 3 72 6) (x1 : Int32) (x2 : Int32) (x3 : Int32) : Tr X eI 0 0 0 [(0, .ref (cxAd X 0)), (1, .int x1), (2, .int x2), (3, .int x3)] [] (f_X8_waysThatShow x1 x2 x3) := by
  unfold f_X8_waysThatShow
  refine tr_aload_n 0 hX dX8_waysThatShow_0 rfl rfl ?_
  refine tr_getF hX dX8_waysThatShow_1 sh_0 (by decide) rfl inlX8 (by decide) rfl (hS.g (Nat.le_of_ble_eq_true rfl)) cr_0_3 k_2_1 mq_0 ?_
  refine tr_getF hX dX8_waysThatShow_4 sh_20 (by decide) rfl inlX0 (by decide) rfl (hS.g (Nat.le_of_ble_eq_true rfl)) cr_20_0 k_13_7 mq_20 ?_
  refine tr_iload_n 1 hX dX8_waysThatShow_7 rfl rfl ?_
  refine tr_aald hX dX8_waysThatShow_8 sh_21 (hS.e (Nat.le_of_ble_eq_true rfl)) (fun hb1 => ?_)
  refine tr_iconst 0 hX dX8_waysThatShow_9 (by decide) ?_
  refine tr_aload_n 0 hX dX8_waysThatShow_10 rfl rfl ?_
  refine tr_getF hX dX8_waysThatShow_11 sh_0 (by decide) rfl inlX8 (by decide) rfl (hS.g (Nat.le_of_ble_eq_true rfl)) cr_0_11 k_2_21 mq_0 ?_
  refine tr_iconst 0 hX dX8_waysThatShow_14 (by decide) ?_
  refine tr_bipush 8 hX dX8_waysThatShow_15 (by decide) ?_
  refine tr_copy hX dX8_waysThatShow_17 k_28_3 k_28_4 k_28_5 k_28_6 (row_21 hb1).1 sh_159 (hS.e (row_21 hb1).2) (hS.e (Nat.le_of_ble_eq_true rfl)) (by decide) (by decide) (by decide) (by decide) (by decide) (by rw [hS.2.2.2.2.1]; exact Nat.le_of_ble_eq_true rfl) (by rw [hS.2.2.2.2.1]; exact Nat.le_of_ble_eq_true rfl) ?_
  refine tr_aload_n 0 hX dX8_waysThatShow_20 rfl rfl ?_
  refine tr_getF hX dX8_waysThatShow_21 sh_0 (by decide) rfl inlX8 (by decide) rfl (hS.g (Nat.le_of_ble_eq_true rfl)) cr_0_11 k_2_21 mq_0 ?_
  refine tr_iload_n 2 hX dX8_waysThatShow_24 rfl rfl ?_
  refine tr_iload_n 3 hX dX8_waysThatShow_25 rfl rfl ?_
  refine tr_iast hX dX8_waysThatShow_26 sh_159 (hS.e (Nat.le_of_ble_eq_true rfl)) (fun _ => ?_)
  refine tr_iconst 0 hX dX8_waysThatShow_27 (by decide) ?_
  refine tr_istore hX dX8_waysThatShow_28 (hS.n (by decide)) rfl ?_
  refine tr_iconst 0 hX dX8_waysThatShow_30 (by decide) ?_
  refine tr_istore hX dX8_waysThatShow_31 (hS.n (by decide)) rfl ?_
  exact tr_sub [2, 3, 1, 0] rfl (tr_fix2 (lvf := fun x4 x5 => [(0, .ref (cxAd X 0)), (1, .int x1), (4, .int x4), (5, .int x5)]) (t_X8_waysThatShow_33 hX hS x1) FU 0 0)
theorem ok_X8_waysThatShow {l : Launch} {E : Ev} (x1 : Int32) (x2 : Int32) (x3 : Int32)  : Ok l E Gall yX8_waysThatShow cX8_waysThatShow 6 ((some .int)) (rmz 3 72) eI [.ref (E.2.1 0), .int x1, .int x2, .int x3] (f_X8_waysThatShow x1 x2 x3) := by
  refine ok_of0 (by decide) (Nat.le_of_ble_eq_true rfl) (fun X hX hV hS => ?_)
  subst hV
  exact t_X8_waysThatShow_0 hX hS x1 x2 x3
