def f_X9_back  : M Int32 :=
  rI 161 12 (fun v1 => if v1 = 0 then (rt (-2)) else (rI 161 12 (fun v2 => wI 161 12 (v2 - 1) (rI 161 12 (fun v3 => bnd (f_X9_copy (1 + v3) 0) (fun _ => rI 161 12 (fun v5 => rt v5)))))))
set_option maxRecDepth 10000 in
set_option maxHeartbeats 4000000 in
theorem t_X9_back_0 {X : Cx} (hX : Good X RX9 cX9_back ((some .int))) (hS : Sta X 1 23 1) : Tr X eI 0 0 0 [(0, .ref (cxAd X 161))] [] (f_X9_back) := by
  unfold f_X9_back
  refine tr_aload_n 0 hX dX9_back_0 rfl rfl ?_
  refine tr_getI hX dX9_back_1 sh_161 (by decide) rfl inlX9 (by decide) rfl (hS.e (Nat.le_of_ble_eq_true rfl)) k_12_11 (fun v1 => ?_)
  refine tr_if_ne 10 hX dX9_back_4 (by decide) (fun c6 => ?_) (fun c6 => ?_)
  · refine tr_bipush (-2) hX dX9_back_7 (by decide) ?_
    exact tr_iret0 hX hS dX9_back_9
  · refine tr_aload_n 0 hX dX9_back_10 rfl rfl ?_
    refine tr_dup hX dX9_back_11 rfl ?_
    refine tr_getI hX dX9_back_12 sh_161 (by decide) rfl inlX9 (by decide) rfl (hS.e (Nat.le_of_ble_eq_true rfl)) k_12_11 (fun v2 => ?_)
    refine tr_iconst 1 hX dX9_back_15 (by decide) ?_
    refine tr_isub hX dX9_back_16 ?_
    refine tr_putI hX dX9_back_17 sh_161 (by decide) rfl inlX9 tyX9 tyX9_ok nmX9 (by decide) rfl (hS.e (Nat.le_of_ble_eq_true rfl)) k_12_11 rfl rfl rfl rfl ?_
    refine tr_aload_n 0 hX dX9_back_20 rfl rfl ?_
    refine tr_iconst 1 hX dX9_back_21 (by decide) ?_
    refine tr_aload_n 0 hX dX9_back_22 rfl rfl ?_
    refine tr_getI hX dX9_back_23 sh_161 (by decide) rfl inlX9 (by decide) rfl (hS.e (Nat.le_of_ble_eq_true rfl)) k_12_11 (fun v3 => ?_)
    refine tr_iadd hX dX9_back_26 ?_
    refine tr_iconst 0 hX dX9_back_27 (by decide) ?_
    refine tr_callV0U (st := []) 2 hX hS dX9_back_28 (ok_X9_copy (1 + v3) 0) sh_161 (by decide) rfl (Nat.le_of_ble_eq_true rfl) k_38_22 k_38_23 k_39_0 k_1_5 k_39_1 hy_X9_copy rfl rfl (Nat.le_of_ble_eq_true rfl) rfl (fun _ => ?_)
    refine tr_aload_n 0 hX dX9_back_31 rfl rfl ?_
    refine tr_getI hX dX9_back_32 sh_161 (by decide) rfl inlX9 (by decide) rfl (hS.e (Nat.le_of_ble_eq_true rfl)) k_12_11 (fun v5 => ?_)
    exact tr_iret0 hX hS dX9_back_35
theorem ok_X9_back {l : Launch} {E : Ev}   : Ok l E Gall yX9_back cX9_back 1 ((some .int)) (rmz 1 23) eI [.ref (E.2.1 161)] (f_X9_back) := by
  refine ok_of0 (by decide) (Nat.le_of_ble_eq_true rfl) (fun X hX hV hS => ?_)
  subst hV
  exact t_X9_back_0 hX hS 
def f_X9_count_80 (s80 : Int32 → Int32 → M Int32) (x2 : Int32) (x3 : Int32) : M Int32 :=
  if 6 ≤ x3 then (rt x2) else (aI 167 18 x3 (fun v1 => nm ((x2 + v1)) (fun v3 => s80 v3 (x3 + 1))))
set_option maxRecDepth 10000 in
set_option maxHeartbeats 4000000 in
theorem t_X9_count_80 {X : Cx} (hX : Good X RX9 cX9_count ((some .int))) (hS : Sta X 0 0 4) : ∀ s80 : Int32 → Int32 → M Int32, (∀ x2 : Int32, ∀ x3 : Int32, Tr X eI 0 0 80 [(0, .ref (cxAd X 161)), (2, .int x2), (3, .int x3)] [] (s80 x2 x3)) → ∀ x2 : Int32, ∀ x3 : Int32, Tr X eI 0 0 80 [(0, .ref (cxAd X 161)), (2, .int x2), (3, .int x3)] [] (f_X9_count_80 s80 x2 x3) := by
  intro s80 hs80 x2 x3
  unfold f_X9_count_80
  refine tr_iload_n 2 hX dX9_count_80 rfl rfl ?_
  refine tr_bipush 6 hX dX9_count_81 (by decide) ?_
  refine tr_ic_ge 101 hX dX9_count_83 (by decide) (fun c4 => ?_) (fun c4 => ?_)
  · refine tr_iload_n 1 hX dX9_count_101 rfl rfl ?_
    exact tr_iret0 hX hS dX9_count_102
  · refine tr_iload_n 1 hX dX9_count_86 rfl rfl ?_
    refine tr_aload_n 0 hX dX9_count_87 rfl rfl ?_
    refine tr_getF hX dX9_count_88 sh_161 (by decide) rfl inlX9 (by decide) rfl (hS.g (Nat.le_of_ble_eq_true rfl)) cr_161_6 k_6_16 mq_161 ?_
    refine tr_iload_n 2 hX dX9_count_91 rfl rfl ?_
    refine tr_iald hX dX9_count_92 sh_167 (hS.e (Nat.le_of_ble_eq_true rfl)) (fun hb2 v1 => ?_)
    refine tr_iadd hX dX9_count_93 ?_
    refine tr_nm (fun v3 ev3 => ?_)
    refine tr_istore_n hX dX9_count_94 rfl (hS.n (by decide)) rfl ?_
    refine tr_iinc (x3 + 1) 2 hX dX9_count_95 rfl (congrArg (fun z => x3 + z) (by decide)) (hS.n (by decide)) rfl ?_
    refine tr_goto 80 hX dX9_count_98 (by decide) ?_
    exact tr_sub [2, 1, 0] rfl (hs80 v3 (x3 + 1))
def f_X9_count (x1 : Int32) : M Int32 :=
  if x1 = 0 then (aI 163 2 0 (fun v1 => rt v1)) else (if x1 = 1 then (rI 161 0 (fun v4 => rt v4)) else (if x1 = 2 then (aI 169 3 0 (fun v6 => rt v6)) else (if x1 = 3 then (rI 161 13 (fun v9 => rt v9)) else (if x1 = 4 then (rI 161 15 (fun v11 => rt v11)) else (if x1 = 5 then (rI 161 12 (fun v13 => rt v13)) else (if x1 = 6 then (fix2 FU (f_X9_count_80) 0 0) else (rt (-1))))))))
set_option maxRecDepth 10000 in
set_option maxHeartbeats 4000000 in
theorem t_X9_count_0 {X : Cx} (hX : Good X RX9 cX9_count ((some .int))) (hS : Sta X 0 0 4) (x1 : Int32) : Tr X eI 0 0 0 [(0, .ref (cxAd X 161)), (1, .int x1)] [] (f_X9_count x1) := by
  unfold f_X9_count
  refine tr_iconst 0 hX dX9_count_0 (by decide) ?_
  refine tr_istore_n hX dX9_count_1 rfl (hS.n (by decide)) rfl ?_
  refine tr_iload_n 2 hX dX9_count_2 rfl rfl ?_
  refine tr_case 0 (fun c3 => ?_) (fun c3 => ?_)
  · refine tr_tabIn 0 44 hX dX9_count_3 c3 (by decide) (by decide) rfl (by decide) ?_
    refine tr_aload_n 1 hX dX9_count_44 rfl rfl ?_
    refine tr_getF hX dX9_count_45 sh_161 (by decide) rfl inlX9 (by decide) rfl (hS.g (Nat.le_of_ble_eq_true rfl)) cr_161_2 k_6_12 mq_161 ?_
    refine tr_iconst 0 hX dX9_count_48 (by decide) ?_
    refine tr_iald hX dX9_count_49 sh_163 (hS.e (Nat.le_of_ble_eq_true rfl)) (fun hb2 v1 => ?_)
    exact tr_iret0 hX hS dX9_count_50
  refine tr_case 1 (fun c5 => ?_) (fun c5 => ?_)
  · refine tr_tabIn 1 51 hX dX9_count_3 c5 (by decide) (by decide) rfl (by decide) ?_
    refine tr_aload_n 1 hX dX9_count_51 rfl rfl ?_
    refine tr_getI hX dX9_count_52 sh_161 (by decide) rfl inlX9 (by decide) rfl (hS.e (Nat.le_of_ble_eq_true rfl)) k_8_6 (fun v4 => ?_)
    exact tr_iret0 hX hS dX9_count_55
  refine tr_case 2 (fun c8 => ?_) (fun c8 => ?_)
  · refine tr_tabIn 2 56 hX dX9_count_3 c8 (by decide) (by decide) rfl (by decide) ?_
    refine tr_aload_n 1 hX dX9_count_56 rfl rfl ?_
    refine tr_getF hX dX9_count_57 sh_161 (by decide) rfl inlX9 (by decide) rfl (hS.g (Nat.le_of_ble_eq_true rfl)) cr_161_8 k_6_18 mq_161 ?_
    refine tr_iconst 0 hX dX9_count_60 (by decide) ?_
    refine tr_iald hX dX9_count_61 sh_169 (hS.e (Nat.le_of_ble_eq_true rfl)) (fun hb7 v6 => ?_)
    exact tr_iret0 hX hS dX9_count_62
  refine tr_case 3 (fun c10 => ?_) (fun c10 => ?_)
  · refine tr_tabIn 3 63 hX dX9_count_3 c10 (by decide) (by decide) rfl (by decide) ?_
    refine tr_aload_n 1 hX dX9_count_63 rfl rfl ?_
    refine tr_getI hX dX9_count_64 sh_161 (by decide) rfl inlX9 (by decide) rfl (hS.e (Nat.le_of_ble_eq_true rfl)) k_12_12 (fun v9 => ?_)
    exact tr_iret0 hX hS dX9_count_67
  refine tr_case 4 (fun c12 => ?_) (fun c12 => ?_)
  · refine tr_tabIn 4 68 hX dX9_count_3 c12 (by decide) (by decide) rfl (by decide) ?_
    refine tr_aload_n 1 hX dX9_count_68 rfl rfl ?_
    refine tr_getI hX dX9_count_69 sh_161 (by decide) rfl inlX9 (by decide) rfl (hS.e (Nat.le_of_ble_eq_true rfl)) k_12_13 (fun v11 => ?_)
    exact tr_iret0 hX hS dX9_count_72
  refine tr_case 5 (fun c14 => ?_) (fun c14 => ?_)
  · refine tr_tabIn 5 73 hX dX9_count_3 c14 (by decide) (by decide) rfl (by decide) ?_
    refine tr_aload_n 1 hX dX9_count_73 rfl rfl ?_
    refine tr_getI hX dX9_count_74 sh_161 (by decide) rfl inlX9 (by decide) rfl (hS.e (Nat.le_of_ble_eq_true rfl)) k_12_11 (fun v13 => ?_)
    exact tr_iret0 hX hS dX9_count_77
  refine tr_case 6 (fun c15 => ?_) (fun c15 => ?_)
  · refine tr_tabIn 6 78 hX dX9_count_3 c15 (by decide) (by decide) rfl (by decide) ?_
    refine tr_iconst 0 hX dX9_count_78 (by decide) ?_
    refine tr_istore_n hX dX9_count_79 rfl (hS.n (by decide)) rfl ?_
    exact tr_sub [2, 1, 0] rfl (tr_fix2 (lvf := fun x2 x3 => [(0, .ref (cxAd X 161)), (2, .int x2), (3, .int x3)]) (t_X9_count_80 hX hS) FU 0 0)
  have nc3 := lv_neT c3 (show (0 : Int32).toInt = 0 by decide)
  have nc5 := lv_neT c5 (show (1 : Int32).toInt = 1 by decide)
  have nc8 := lv_neT c8 (show (2 : Int32).toInt = 2 by decide)
  have nc10 := lv_neT c10 (show (3 : Int32).toInt = 3 by decide)
  have nc12 := lv_neT c12 (show (4 : Int32).toInt = 4 by decide)
  have nc14 := lv_neT c14 (show (5 : Int32).toInt = 5 by decide)
  have nc15 := lv_neT c15 (show (6 : Int32).toInt = 6 by decide)
  refine tr_tabOut 103 hX dX9_count_3 (by omega) (by decide) ?_
  refine tr_iconst (-1) hX dX9_count_103 (by decide) ?_
  exact tr_iret0 hX hS dX9_count_104
theorem ok_X9_count {l : Launch} {E : Ev} (x1 : Int32)  : Ok l E Gall yX9_count cX9_count 4 ((some .int)) (rmz 0 0) eI [.ref (E.2.1 161), .int x1] (f_X9_count x1) := by
  refine ok_of0 (by decide) (Nat.le_of_ble_eq_true rfl) (fun X hX hV hS => ?_)
  subst hV
  exact t_X9_count_0 hX hS x1
