def f_X9_sayPair (x1 : Int32) : M Unit :=
  bnd (f_X9_sayPlace x1) (fun _ => bnd (f_X9_sayPlace (x1 + 1)) (fun _ => rt ()))
set_option maxRecDepth 10000 in
set_option maxHeartbeats 4000000 in
theorem t_X9_sayPair_0 {X : Cx} (hX : Good X RX9 cX9_sayPair (none)) (hS : Sta X 1 21 2) (x1 : Int32) : Tr X eU 0 0 0 [(0, .ref (cxAd X 161)), (1, .int x1)] [] (f_X9_sayPair x1) := by
  unfold f_X9_sayPair
  refine tr_aload_n 0 hX dX9_sayPair_0 rfl rfl ?_
  refine tr_iload_n 1 hX dX9_sayPair_1 rfl rfl ?_
  refine tr_callV0U (st := []) 1 hX hS dX9_sayPair_2 (ok_X9_sayPlace x1) sh_161 (by decide) rfl (Nat.le_of_ble_eq_true rfl) k_17_0 k_17_1 k_17_2 k_1_5 k_17_3 hy_X9_sayPlace rfl rfl (Nat.le_of_ble_eq_true rfl) rfl (fun _ => ?_)
  refine tr_aload_n 0 hX dX9_sayPair_5 rfl rfl ?_
  refine tr_iload_n 1 hX dX9_sayPair_6 rfl rfl ?_
  refine tr_iconst 1 hX dX9_sayPair_7 (by decide) ?_
  refine tr_iadd hX dX9_sayPair_8 ?_
  refine tr_callV0U (st := []) 1 hX hS dX9_sayPair_9 (ok_X9_sayPlace (x1 + 1)) sh_161 (by decide) rfl (Nat.le_of_ble_eq_true rfl) k_17_0 k_17_1 k_17_2 k_1_5 k_17_3 hy_X9_sayPlace rfl rfl (Nat.le_of_ble_eq_true rfl) rfl (fun _ => ?_)
  exact tr_vret0 hX hS dX9_sayPair_12
theorem ok_X9_sayPair {l : Launch} {E : Ev} (x1 : Int32)  : Ok l E Gall yX9_sayPair cX9_sayPair 2 (none) (rmz 1 21) eU [.ref (E.2.1 161), .int x1] (f_X9_sayPair x1) := by
  refine ok_of0 (by decide) (Nat.le_of_ble_eq_true rfl) (fun X hX hV hS => ?_)
  subst hV
  exact t_X9_sayPair_0 hX hS x1
def f_X9_sayBack (x1 : Int32) : M Unit :=
  bnd (f_X9_sayPlace (x1 + 1)) (fun _ => bnd (f_X9_sayPlace x1) (fun _ => rt ()))
set_option maxRecDepth 10000 in
set_option maxHeartbeats 4000000 in
theorem t_X9_sayBack_0 {X : Cx} (hX : Good X RX9 cX9_sayBack (none)) (hS : Sta X 1 21 2) (x1 : Int32) : Tr X eU 0 0 0 [(0, .ref (cxAd X 161)), (1, .int x1)] [] (f_X9_sayBack x1) := by
  unfold f_X9_sayBack
  refine tr_aload_n 0 hX dX9_sayBack_0 rfl rfl ?_
  refine tr_iload_n 1 hX dX9_sayBack_1 rfl rfl ?_
  refine tr_iconst 1 hX dX9_sayBack_2 (by decide) ?_
  refine tr_iadd hX dX9_sayBack_3 ?_
  refine tr_callV0U (st := []) 1 hX hS dX9_sayBack_4 (ok_X9_sayPlace (x1 + 1)) sh_161 (by decide) rfl (Nat.le_of_ble_eq_true rfl) k_17_0 k_17_1 k_17_2 k_1_5 k_17_3 hy_X9_sayPlace rfl rfl (Nat.le_of_ble_eq_true rfl) rfl (fun _ => ?_)
  refine tr_aload_n 0 hX dX9_sayBack_7 rfl rfl ?_
  refine tr_iload_n 1 hX dX9_sayBack_8 rfl rfl ?_
  refine tr_callV0U (st := []) 1 hX hS dX9_sayBack_9 (ok_X9_sayPlace x1) sh_161 (by decide) rfl (Nat.le_of_ble_eq_true rfl) k_17_0 k_17_1 k_17_2 k_1_5 k_17_3 hy_X9_sayPlace rfl rfl (Nat.le_of_ble_eq_true rfl) rfl (fun _ => ?_)
  exact tr_vret0 hX hS dX9_sayBack_12
theorem ok_X9_sayBack {l : Launch} {E : Ev} (x1 : Int32)  : Ok l E Gall yX9_sayBack cX9_sayBack 2 (none) (rmz 1 21) eU [.ref (E.2.1 161), .int x1] (f_X9_sayBack x1) := by
  refine ok_of0 (by decide) (Nat.le_of_ble_eq_true rfl) (fun X hX hV hS => ?_)
  subst hV
  exact t_X9_sayBack_0 hX hS x1
def f_X9_braid (x1 : Int32) : M Unit :=
  bnd (f_X9_sayPair x1) (fun _ => bnd (f_X9_sayBack x1) (fun _ => bnd (f_X9_sayPair x1) (fun _ => rt ())))
set_option maxRecDepth 10000 in
set_option maxHeartbeats 4000000 in
theorem t_X9_braid_0 {X : Cx} (hX : Good X RX9 cX9_braid (none)) (hS : Sta X 2 42 2) (x1 : Int32) : Tr X eU 0 0 0 [(0, .ref (cxAd X 161)), (1, .int x1)] [] (f_X9_braid x1) := by
  unfold f_X9_braid
  refine tr_aload_n 0 hX dX9_braid_0 rfl rfl ?_
  refine tr_iload_n 1 hX dX9_braid_1 rfl rfl ?_
  refine tr_callV0U (st := []) 1 hX hS dX9_braid_2 (ok_X9_sayPair x1) sh_161 (by decide) rfl (Nat.le_of_ble_eq_true rfl) k_17_4 k_17_5 k_17_6 k_1_5 k_17_7 hy_X9_sayPair rfl rfl (Nat.le_of_ble_eq_true rfl) rfl (fun _ => ?_)
  refine tr_aload_n 0 hX dX9_braid_5 rfl rfl ?_
  refine tr_iload_n 1 hX dX9_braid_6 rfl rfl ?_
  refine tr_callV0U (st := []) 1 hX hS dX9_braid_7 (ok_X9_sayBack x1) sh_161 (by decide) rfl (Nat.le_of_ble_eq_true rfl) k_17_12 k_17_13 k_17_14 k_1_5 k_17_15 hy_X9_sayBack rfl rfl (Nat.le_of_ble_eq_true rfl) rfl (fun _ => ?_)
  refine tr_aload_n 0 hX dX9_braid_10 rfl rfl ?_
  refine tr_iload_n 1 hX dX9_braid_11 rfl rfl ?_
  refine tr_callV0U (st := []) 1 hX hS dX9_braid_12 (ok_X9_sayPair x1) sh_161 (by decide) rfl (Nat.le_of_ble_eq_true rfl) k_17_4 k_17_5 k_17_6 k_1_5 k_17_7 hy_X9_sayPair rfl rfl (Nat.le_of_ble_eq_true rfl) rfl (fun _ => ?_)
  exact tr_vret0 hX hS dX9_braid_15
theorem ok_X9_braid {l : Launch} {E : Ev} (x1 : Int32)  : Ok l E Gall yX9_braid cX9_braid 2 (none) (rmz 2 42) eU [.ref (E.2.1 161), .int x1] (f_X9_braid x1) := by
  refine ok_of0 (by decide) (Nat.le_of_ble_eq_true rfl) (fun X hX hV hS => ?_)
  subst hV
  exact t_X9_braid_0 hX hS x1
def f_X9_layWay_162 (s2 : Int32 → M Unit) (x1 : Int32) (x2 : Int32) (x3 : Int32) : M Unit :=
  s2 (x3 + 1)
set_option maxRecDepth 10000 in
set_option maxHeartbeats 4000000 in
theorem t_X9_layWay_162 {X : Cx} (hX : Good X RX9 cX9_layWay (none)) (hS : Sta X 3 63 5) (s2 : Int32 → M Unit) (x1 : Int32) (x2 : Int32) (x3 : Int32) (hs2 : ∀ x3 : Int32, Tr X eU 0 0 2 [(0, .ref (cxAd X 161)), (1, .int x1), (2, .int x2), (3, .int x3)] [] (s2 x3)) : Tr X eU 0 0 162 [(0, .ref (cxAd X 161)), (1, .int x1), (2, .int x2), (3, .int x3)] [] (f_X9_layWay_162 s2 x1 x2 x3) := by
  unfold f_X9_layWay_162
  refine tr_iinc (x3 + 1) 3 hX dX9_layWay_162 rfl (congrArg (fun z => x3 + z) (by decide)) (hS.n (by decide)) rfl ?_
  refine tr_goto 2 hX dX9_layWay_165 (by decide) ?_
  exact tr_sub [1, 2, 3, 0] rfl (hs2 (x3 + 1))
def f_X9_layWay_48 (s2 : Int32 → M Unit) (x1 : Int32) (x2 : Int32) (x3 : Int32) : M Unit :=
  bnd (f_X9_sayPlace x3) (fun _ => f_X9_layWay_162 s2 x1 x2 x3)
set_option maxRecDepth 10000 in
set_option maxHeartbeats 4000000 in
theorem t_X9_layWay_48 {X : Cx} (hX : Good X RX9 cX9_layWay (none)) (hS : Sta X 3 63 5) (s2 : Int32 → M Unit) (x1 : Int32) (x2 : Int32) (x3 : Int32) (hs2 : ∀ x3 : Int32, Tr X eU 0 0 2 [(0, .ref (cxAd X 161)), (1, .int x1), (2, .int x2), (3, .int x3)] [] (s2 x3)) : Tr X eU 0 0 48 [(0, .ref (cxAd X 161)), (1, .int x1), (2, .int x2), (3, .int x3)] [] (f_X9_layWay_48 s2 x1 x2 x3) := by
  unfold f_X9_layWay_48
  refine tr_aload_n 0 hX dX9_layWay_48 rfl rfl ?_
  refine tr_iload_n 3 hX dX9_layWay_49 rfl rfl ?_
  refine tr_callV0U (st := []) 1 hX hS dX9_layWay_50 (ok_X9_sayPlace x3) sh_161 (by decide) rfl (Nat.le_of_ble_eq_true rfl) k_17_0 k_17_1 k_17_2 k_1_5 k_17_3 hy_X9_sayPlace rfl rfl (Nat.le_of_ble_eq_true rfl) rfl (fun _ => ?_)
  refine tr_goto 162 hX dX9_layWay_53 (by decide) ?_
  exact tr_sub [0, 1, 2, 3] rfl (t_X9_layWay_162 hX hS s2 x1 x2 x3 hs2)
def f_X9_layWay_104 (s2 : Int32 → M Unit) (x1 : Int32) (x2 : Int32) (x3 : Int32) : M Unit :=
  if x1 = 4 then (if (x2 - 2) ≤ x3 then (f_X9_layWay_162 s2 x1 x2 x3) else (bnd (f_X9_sayPair x3) (fun _ => bnd (f_X9_sayBack x3) (fun _ => bnd (f_X9_sayPair x3) (fun _ => bnd (f_X9_sayPlace (x3 + 2)) (fun _ => bnd (f_X9_sayPlace (x3 + 2)) (fun _ => bnd (f_X9_sayBack x3) (fun _ => bnd (f_X9_sayPair x3) (fun _ => bnd (f_X9_sayPlace (x3 + 2)) (fun _ => f_X9_layWay_162 s2 x1 x2 x3)))))))))) else (f_X9_layWay_162 s2 x1 x2 x3)
set_option maxRecDepth 10000 in
set_option maxHeartbeats 4000000 in
theorem t_X9_layWay_104 {X : Cx} (hX : Good X RX9 cX9_layWay (none)) (hS : Sta X 3 63 5) (s2 : Int32 → M Unit) (x1 : Int32) (x2 : Int32) (x3 : Int32) (hs2 : ∀ x3 : Int32, Tr X eU 0 0 2 [(0, .ref (cxAd X 161)), (1, .int x1), (2, .int x2), (3, .int x3)] [] (s2 x3)) : Tr X eU 0 0 104 [(0, .ref (cxAd X 161)), (1, .int x1), (2, .int x2), (3, .int x3)] [] (f_X9_layWay_104 s2 x1 x2 x3) := by
  unfold f_X9_layWay_104
  refine tr_iload_n 1 hX dX9_layWay_104 rfl rfl ?_
  refine tr_iconst 4 hX dX9_layWay_105 (by decide) ?_
  refine tr_ic_ne 162 hX dX9_layWay_106 (by decide) (fun c10 => ?_) (fun c10 => ?_)
  · refine tr_iload_n 3 hX dX9_layWay_109 rfl rfl ?_
    refine tr_iload_n 2 hX dX9_layWay_110 rfl rfl ?_
    refine tr_iconst 2 hX dX9_layWay_111 (by decide) ?_
    refine tr_isub hX dX9_layWay_112 ?_
    refine tr_ic_ge 162 hX dX9_layWay_113 (by decide) (fun c9 => ?_) (fun c9 => ?_)
    · exact tr_sub [0, 1, 2, 3] rfl (t_X9_layWay_162 hX hS s2 x1 x2 x3 hs2)
    · refine tr_aload_n 0 hX dX9_layWay_116 rfl rfl ?_
      refine tr_iload_n 3 hX dX9_layWay_117 rfl rfl ?_
      refine tr_callV0U (st := []) 1 hX hS dX9_layWay_118 (ok_X9_sayPair x3) sh_161 (by decide) rfl (Nat.le_of_ble_eq_true rfl) k_17_4 k_17_5 k_17_6 k_1_5 k_17_7 hy_X9_sayPair rfl rfl (Nat.le_of_ble_eq_true rfl) rfl (fun _ => ?_)
      refine tr_aload_n 0 hX dX9_layWay_121 rfl rfl ?_
      refine tr_iload_n 3 hX dX9_layWay_122 rfl rfl ?_
      refine tr_callV0U (st := []) 1 hX hS dX9_layWay_123 (ok_X9_sayBack x3) sh_161 (by decide) rfl (Nat.le_of_ble_eq_true rfl) k_17_12 k_17_13 k_17_14 k_1_5 k_17_15 hy_X9_sayBack rfl rfl (Nat.le_of_ble_eq_true rfl) rfl (fun _ => ?_)
      refine tr_aload_n 0 hX dX9_layWay_126 rfl rfl ?_
      refine tr_iload_n 3 hX dX9_layWay_127 rfl rfl ?_
      refine tr_callV0U (st := []) 1 hX hS dX9_layWay_128 (ok_X9_sayPair x3) sh_161 (by decide) rfl (Nat.le_of_ble_eq_true rfl) k_17_4 k_17_5 k_17_6 k_1_5 k_17_7 hy_X9_sayPair rfl rfl (Nat.le_of_ble_eq_true rfl) rfl (fun _ => ?_)
      refine tr_aload_n 0 hX dX9_layWay_131 rfl rfl ?_
      refine tr_iload_n 3 hX dX9_layWay_132 rfl rfl ?_
      refine tr_iconst 2 hX dX9_layWay_133 (by decide) ?_
      refine tr_iadd hX dX9_layWay_134 ?_
      refine tr_callV0U (st := []) 1 hX hS dX9_layWay_135 (ok_X9_sayPlace (x3 + 2)) sh_161 (by decide) rfl (Nat.le_of_ble_eq_true rfl) k_17_0 k_17_1 k_17_2 k_1_5 k_17_3 hy_X9_sayPlace rfl rfl (Nat.le_of_ble_eq_true rfl) rfl (fun _ => ?_)
      refine tr_aload_n 0 hX dX9_layWay_138 rfl rfl ?_
      refine tr_iload_n 3 hX dX9_layWay_139 rfl rfl ?_
      refine tr_iconst 2 hX dX9_layWay_140 (by decide) ?_
      refine tr_iadd hX dX9_layWay_141 ?_
      refine tr_callV0U (st := []) 1 hX hS dX9_layWay_142 (ok_X9_sayPlace (x3 + 2)) sh_161 (by decide) rfl (Nat.le_of_ble_eq_true rfl) k_17_0 k_17_1 k_17_2 k_1_5 k_17_3 hy_X9_sayPlace rfl rfl (Nat.le_of_ble_eq_true rfl) rfl (fun _ => ?_)
      refine tr_aload_n 0 hX dX9_layWay_145 rfl rfl ?_
      refine tr_iload_n 3 hX dX9_layWay_146 rfl rfl ?_
      refine tr_callV0U (st := []) 1 hX hS dX9_layWay_147 (ok_X9_sayBack x3) sh_161 (by decide) rfl (Nat.le_of_ble_eq_true rfl) k_17_12 k_17_13 k_17_14 k_1_5 k_17_15 hy_X9_sayBack rfl rfl (Nat.le_of_ble_eq_true rfl) rfl (fun _ => ?_)
      refine tr_aload_n 0 hX dX9_layWay_150 rfl rfl ?_
      refine tr_iload_n 3 hX dX9_layWay_151 rfl rfl ?_
      refine tr_callV0U (st := []) 1 hX hS dX9_layWay_152 (ok_X9_sayPair x3) sh_161 (by decide) rfl (Nat.le_of_ble_eq_true rfl) k_17_4 k_17_5 k_17_6 k_1_5 k_17_7 hy_X9_sayPair rfl rfl (Nat.le_of_ble_eq_true rfl) rfl (fun _ => ?_)
      refine tr_aload_n 0 hX dX9_layWay_155 rfl rfl ?_
      refine tr_iload_n 3 hX dX9_layWay_156 rfl rfl ?_
      refine tr_iconst 2 hX dX9_layWay_157 (by decide) ?_
      refine tr_iadd hX dX9_layWay_158 ?_
      refine tr_callV0U (st := []) 1 hX hS dX9_layWay_159 (ok_X9_sayPlace (x3 + 2)) sh_161 (by decide) rfl (Nat.le_of_ble_eq_true rfl) k_17_0 k_17_1 k_17_2 k_1_5 k_17_3 hy_X9_sayPlace rfl rfl (Nat.le_of_ble_eq_true rfl) rfl (fun _ => ?_)
      exact tr_sub [0, 1, 2, 3] rfl (t_X9_layWay_162 hX hS s2 x1 x2 x3 hs2)
  · exact tr_sub [0, 1, 2, 3] rfl (t_X9_layWay_162 hX hS s2 x1 x2 x3 hs2)
def f_X9_layWay_96 (s2 : Int32 → M Unit) (x1 : Int32) (x2 : Int32) (x3 : Int32) : M Unit :=
  bnd (f_X9_braid x3) (fun _ => f_X9_layWay_162 s2 x1 x2 x3)
set_option maxRecDepth 10000 in
set_option maxHeartbeats 4000000 in
theorem t_X9_layWay_96 {X : Cx} (hX : Good X RX9 cX9_layWay (none)) (hS : Sta X 3 63 5) (s2 : Int32 → M Unit) (x1 : Int32) (x2 : Int32) (x3 : Int32) (hs2 : ∀ x3 : Int32, Tr X eU 0 0 2 [(0, .ref (cxAd X 161)), (1, .int x1), (2, .int x2), (3, .int x3)] [] (s2 x3)) : Tr X eU 0 0 96 [(0, .ref (cxAd X 161)), (1, .int x1), (2, .int x2), (3, .int x3)] [] (f_X9_layWay_96 s2 x1 x2 x3) := by
  unfold f_X9_layWay_96
  refine tr_aload_n 0 hX dX9_layWay_96 rfl rfl ?_
  refine tr_iload_n 3 hX dX9_layWay_97 rfl rfl ?_
  refine tr_callV0U (st := []) 1 hX hS dX9_layWay_98 (ok_X9_braid x3) sh_161 (by decide) rfl (Nat.le_of_ble_eq_true rfl) k_17_8 k_17_9 k_17_10 k_1_5 k_17_11 hy_X9_braid rfl rfl (Nat.le_of_ble_eq_true rfl) rfl (fun _ => ?_)
  refine tr_goto 162 hX dX9_layWay_101 (by decide) ?_
  exact tr_sub [0, 1, 2, 3] rfl (t_X9_layWay_162 hX hS s2 x1 x2 x3 hs2)
def f_X9_layWay_84 (s2 : Int32 → M Unit) (x1 : Int32) (x2 : Int32) (x3 : Int32) : M Unit :=
  if x1 = 4 then (if x3 = (x2 - 2) then (f_X9_layWay_96 s2 x1 x2 x3) else (f_X9_layWay_104 s2 x1 x2 x3)) else (f_X9_layWay_104 s2 x1 x2 x3)
set_option maxRecDepth 10000 in
set_option maxHeartbeats 4000000 in
theorem t_X9_layWay_84 {X : Cx} (hX : Good X RX9 cX9_layWay (none)) (hS : Sta X 3 63 5) (s2 : Int32 → M Unit) (x1 : Int32) (x2 : Int32) (x3 : Int32) (hs2 : ∀ x3 : Int32, Tr X eU 0 0 2 [(0, .ref (cxAd X 161)), (1, .int x1), (2, .int x2), (3, .int x3)] [] (s2 x3)) : Tr X eU 0 0 84 [(0, .ref (cxAd X 161)), (1, .int x1), (2, .int x2), (3, .int x3)] [] (f_X9_layWay_84 s2 x1 x2 x3) := by
  unfold f_X9_layWay_84
  refine tr_iload_n 1 hX dX9_layWay_84 rfl rfl ?_
  refine tr_iconst 4 hX dX9_layWay_85 (by decide) ?_
  refine tr_ic_ne 104 hX dX9_layWay_86 (by decide) (fun c2 => ?_) (fun c2 => ?_)
  · refine tr_iload_n 3 hX dX9_layWay_89 rfl rfl ?_
    refine tr_iload_n 2 hX dX9_layWay_90 rfl rfl ?_
    refine tr_iconst 2 hX dX9_layWay_91 (by decide) ?_
    refine tr_isub hX dX9_layWay_92 ?_
    refine tr_ic_ne 104 hX dX9_layWay_93 (by decide) (fun c1 => ?_) (fun c1 => ?_)
    · exact tr_sub [0, 1, 2, 3] rfl (t_X9_layWay_96 hX hS s2 x1 x2 x3 hs2)
    · exact tr_sub [0, 1, 2, 3] rfl (t_X9_layWay_104 hX hS s2 x1 x2 x3 hs2)
  · exact tr_sub [0, 1, 2, 3] rfl (t_X9_layWay_104 hX hS s2 x1 x2 x3 hs2)
def f_X9_layWay_74 (s2 : Int32 → M Unit) (x1 : Int32) (x2 : Int32) (x3 : Int32) (x4 : Int32) : M Unit :=
  if x1 = 3 then (if x4 = 0 then (f_X9_layWay_96 s2 x1 x2 x3) else (f_X9_layWay_84 s2 x1 x2 x3)) else (f_X9_layWay_84 s2 x1 x2 x3)
set_option maxRecDepth 10000 in
set_option maxHeartbeats 4000000 in
theorem t_X9_layWay_74 {X : Cx} (hX : Good X RX9 cX9_layWay (none)) (hS : Sta X 3 63 5) (s2 : Int32 → M Unit) (x1 : Int32) (x2 : Int32) (x3 : Int32) (x4 : Int32) (hs2 : ∀ x3 : Int32, Tr X eU 0 0 2 [(0, .ref (cxAd X 161)), (1, .int x1), (2, .int x2), (3, .int x3)] [] (s2 x3)) : Tr X eU 0 0 74 [(0, .ref (cxAd X 161)), (1, .int x1), (2, .int x2), (3, .int x3), (4, .int x4)] [] (f_X9_layWay_74 s2 x1 x2 x3 x4) := by
  unfold f_X9_layWay_74
  refine tr_iload_n 1 hX dX9_layWay_74 rfl rfl ?_
  refine tr_iconst 3 hX dX9_layWay_75 (by decide) ?_
  refine tr_ic_ne 84 hX dX9_layWay_76 (by decide) (fun c2 => ?_) (fun c2 => ?_)
  · refine tr_iload 4 hX dX9_layWay_79 rfl ?_
    refine tr_if_eq 96 hX dX9_layWay_81 (by decide) (fun c1 => ?_) (fun c1 => ?_)
    · exact tr_sub [0, 1, 2, 3] rfl (t_X9_layWay_96 hX hS s2 x1 x2 x3 hs2)
    · exact tr_sub [0, 1, 2, 3] rfl (t_X9_layWay_84 hX hS s2 x1 x2 x3 hs2)
  · exact tr_sub [0, 1, 2, 3] rfl (t_X9_layWay_84 hX hS s2 x1 x2 x3 hs2)
def f_X9_layWay_35 (s2 : Int32 → M Unit) (x1 : Int32) (x2 : Int32) (x3 : Int32) (x4 : Int32) (p0 : Int32) : M Unit :=
  gd (p0 = 0 ∨ p0 = 1) (wI 161 23 p0 (if x1 < 2 then (f_X9_layWay_48 s2 x1 x2 x3) else (if x2 = 1 then (f_X9_layWay_48 s2 x1 x2 x3) else (if x1 = 2 then (if x4 = 0 then (bnd (f_X9_sayPair x3) (fun _ => f_X9_layWay_162 s2 x1 x2 x3)) else (f_X9_layWay_74 s2 x1 x2 x3 x4)) else (f_X9_layWay_74 s2 x1 x2 x3 x4)))))
set_option maxRecDepth 10000 in
set_option maxHeartbeats 4000000 in
theorem t_X9_layWay_35 {X : Cx} (hX : Good X RX9 cX9_layWay (none)) (hS : Sta X 3 63 5) (s2 : Int32 → M Unit) (x1 : Int32) (x2 : Int32) (x3 : Int32) (x4 : Int32) (p0 : Int32) (hs2 : ∀ x3 : Int32, Tr X eU 0 0 2 [(0, .ref (cxAd X 161)), (1, .int x1), (2, .int x2), (3, .int x3)] [] (s2 x3)) : Tr X eU 0 0 35 [(0, .ref (cxAd X 161)), (1, .int x1), (2, .int x2), (3, .int x3), (4, .int x4)] [.int p0, .ref (cxAd X 161)] (f_X9_layWay_35 s2 x1 x2 x3 x4 p0) := by
  unfold f_X9_layWay_35
  refine tr_gd (fun hb1 => ?_)
  refine tr_putI hX dX9_layWay_35 sh_161 (by decide) rfl inlX9 tyX9 tyX9_ok nmX9 (by decide) rfl (hS.e (Nat.le_of_ble_eq_true rfl)) k_16_23 rfl rfl (by rcases hb1 with e | e <;> (rw [e]; rfl)) (by rcases hb1 with e | e <;> (rw [e]; rfl)) ?_
  refine tr_iload_n 1 hX dX9_layWay_38 rfl rfl ?_
  refine tr_iconst 2 hX dX9_layWay_39 (by decide) ?_
  refine tr_ic_lt 48 hX dX9_layWay_40 (by decide) (fun c6 => ?_) (fun c6 => ?_)
  · exact tr_sub [0, 1, 2, 3] rfl (t_X9_layWay_48 hX hS s2 x1 x2 x3 hs2)
  · refine tr_iload_n 2 hX dX9_layWay_43 rfl rfl ?_
    refine tr_iconst 1 hX dX9_layWay_44 (by decide) ?_
    refine tr_ic_ne 56 hX dX9_layWay_45 (by decide) (fun c5 => ?_) (fun c5 => ?_)
    · exact tr_sub [0, 1, 2, 3] rfl (t_X9_layWay_48 hX hS s2 x1 x2 x3 hs2)
    · refine tr_iload_n 1 hX dX9_layWay_56 rfl rfl ?_
      refine tr_iconst 2 hX dX9_layWay_57 (by decide) ?_
      refine tr_ic_ne 74 hX dX9_layWay_58 (by decide) (fun c4 => ?_) (fun c4 => ?_)
      · refine tr_iload 4 hX dX9_layWay_61 rfl ?_
        refine tr_if_ne 74 hX dX9_layWay_63 (by decide) (fun c3 => ?_) (fun c3 => ?_)
        · refine tr_aload_n 0 hX dX9_layWay_66 rfl rfl ?_
          refine tr_iload_n 3 hX dX9_layWay_67 rfl rfl ?_
          refine tr_callV0U (st := []) 1 hX hS dX9_layWay_68 (ok_X9_sayPair x3) sh_161 (by decide) rfl (Nat.le_of_ble_eq_true rfl) k_17_4 k_17_5 k_17_6 k_1_5 k_17_7 hy_X9_sayPair rfl rfl (Nat.le_of_ble_eq_true rfl) rfl (fun _ => ?_)
          refine tr_goto 162 hX dX9_layWay_71 (by decide) ?_
          exact tr_sub [0, 1, 2, 3] rfl (t_X9_layWay_162 hX hS s2 x1 x2 x3 hs2)
        · exact tr_sub [0, 1, 2, 3, 4] rfl (t_X9_layWay_74 hX hS s2 x1 x2 x3 x4 hs2)
      · exact tr_sub [0, 1, 2, 3, 4] rfl (t_X9_layWay_74 hX hS s2 x1 x2 x3 x4 hs2)
def f_X9_layWay_30 (s2 : Int32 → M Unit) (x1 : Int32) (x2 : Int32) (x3 : Int32) (x4 : Int32) : M Unit :=
  f_X9_layWay_35 s2 x1 x2 x3 x4 1
set_option maxRecDepth 10000 in
set_option maxHeartbeats 4000000 in
theorem t_X9_layWay_30 {X : Cx} (hX : Good X RX9 cX9_layWay (none)) (hS : Sta X 3 63 5) (s2 : Int32 → M Unit) (x1 : Int32) (x2 : Int32) (x3 : Int32) (x4 : Int32) (hs2 : ∀ x3 : Int32, Tr X eU 0 0 2 [(0, .ref (cxAd X 161)), (1, .int x1), (2, .int x2), (3, .int x3)] [] (s2 x3)) : Tr X eU 0 0 30 [(0, .ref (cxAd X 161)), (1, .int x1), (2, .int x2), (3, .int x3), (4, .int x4)] [.ref (cxAd X 161)] (f_X9_layWay_30 s2 x1 x2 x3 x4) := by
  unfold f_X9_layWay_30
  refine tr_iconst 1 hX dX9_layWay_30 (by decide) ?_
  refine tr_goto 35 hX dX9_layWay_31 (by decide) ?_
  exact tr_sub [0, 1, 2, 3, 4] rfl (t_X9_layWay_35 hX hS s2 x1 x2 x3 x4 1 hs2)
def f_X9_layWay_19 (s2 : Int32 → M Unit) (x1 : Int32) (x2 : Int32) (x3 : Int32) (p0 : Int32) : M Unit :=
  if x1 = 0 then (if x3 = 0 then (f_X9_layWay_30 s2 x1 x2 x3 p0) else (f_X9_layWay_35 s2 x1 x2 x3 p0 0)) else (f_X9_layWay_30 s2 x1 x2 x3 p0)
set_option maxRecDepth 10000 in
set_option maxHeartbeats 4000000 in
theorem t_X9_layWay_19 {X : Cx} (hX : Good X RX9 cX9_layWay (none)) (hS : Sta X 3 63 5) (s2 : Int32 → M Unit) (x1 : Int32) (x2 : Int32) (x3 : Int32) (p0 : Int32) (hs2 : ∀ x3 : Int32, Tr X eU 0 0 2 [(0, .ref (cxAd X 161)), (1, .int x1), (2, .int x2), (3, .int x3)] [] (s2 x3)) : Tr X eU 0 0 19 [(0, .ref (cxAd X 161)), (1, .int x1), (2, .int x2), (3, .int x3)] [.int p0] (f_X9_layWay_19 s2 x1 x2 x3 p0) := by
  unfold f_X9_layWay_19
  refine tr_istore hX dX9_layWay_19 (hS.n (by decide)) rfl ?_
  refine tr_aload_n 1 hX dX9_layWay_21 rfl rfl ?_
  refine tr_iload_n 2 hX dX9_layWay_22 rfl rfl ?_
  refine tr_if_ne 30 hX dX9_layWay_23 (by decide) (fun c2 => ?_) (fun c2 => ?_)
  · refine tr_iload_n 4 hX dX9_layWay_26 rfl rfl ?_
    refine tr_if_ne 34 hX dX9_layWay_27 (by decide) (fun c1 => ?_) (fun c1 => ?_)
    · exact tr_sub [1, 2, 3, 4, 0] rfl (t_X9_layWay_30 hX hS s2 x1 x2 x3 p0 hs2)
    · refine tr_iconst 0 hX dX9_layWay_34 (by decide) ?_
      exact tr_sub [1, 2, 3, 4, 0] rfl (t_X9_layWay_35 hX hS s2 x1 x2 x3 p0 0 hs2)
  · exact tr_sub [1, 2, 3, 4, 0] rfl (t_X9_layWay_30 hX hS s2 x1 x2 x3 p0 hs2)
def f_X9_layWay_2 (x1 : Int32) (x2 : Int32) (s2 : Int32 → M Unit) (x3 : Int32) : M Unit :=
  if x2 ≤ x3 then (rt ()) else (if x3 = (x2 - 1) then (f_X9_layWay_19 s2 x1 x2 x3 1) else (f_X9_layWay_19 s2 x1 x2 x3 0))
set_option maxRecDepth 10000 in
set_option maxHeartbeats 4000000 in
theorem t_X9_layWay_2 {X : Cx} (hX : Good X RX9 cX9_layWay (none)) (hS : Sta X 3 63 5) (x1 : Int32) (x2 : Int32) : ∀ s2 : Int32 → M Unit, (∀ x3 : Int32, Tr X eU 0 0 2 [(0, .ref (cxAd X 161)), (1, .int x1), (2, .int x2), (3, .int x3)] [] (s2 x3)) → ∀ x3 : Int32, Tr X eU 0 0 2 [(0, .ref (cxAd X 161)), (1, .int x1), (2, .int x2), (3, .int x3)] [] (f_X9_layWay_2 x1 x2 s2 x3) := by
  intro s2 hs2 x3
  unfold f_X9_layWay_2
  refine tr_iload_n 3 hX dX9_layWay_2 rfl rfl ?_
  refine tr_iload_n 2 hX dX9_layWay_3 rfl rfl ?_
  refine tr_ic_ge 168 hX dX9_layWay_4 (by decide) (fun c2 => ?_) (fun c2 => ?_)
  · exact tr_vret0 hX hS dX9_layWay_168
  · refine tr_iload_n 3 hX dX9_layWay_7 rfl rfl ?_
    refine tr_iload_n 2 hX dX9_layWay_8 rfl rfl ?_
    refine tr_iconst 1 hX dX9_layWay_9 (by decide) ?_
    refine tr_isub hX dX9_layWay_10 ?_
    refine tr_ic_ne 18 hX dX9_layWay_11 (by decide) (fun c1 => ?_) (fun c1 => ?_)
    · refine tr_iconst 1 hX dX9_layWay_14 (by decide) ?_
      refine tr_goto 19 hX dX9_layWay_15 (by decide) ?_
      exact tr_sub [0, 1, 2, 3] rfl (t_X9_layWay_19 hX hS s2 x1 x2 x3 1 hs2)
    · refine tr_iconst 0 hX dX9_layWay_18 (by decide) ?_
      exact tr_sub [0, 1, 2, 3] rfl (t_X9_layWay_19 hX hS s2 x1 x2 x3 0 hs2)
def f_X9_layWay (x1 : Int32) (x2 : Int32) : M Unit :=
  fix1 FU (f_X9_layWay_2 x1 x2) 0
set_option maxRecDepth 10000 in
set_option maxHeartbeats 4000000 in
theorem t_X9_layWay_0 {X : Cx} (hX : Good X RX9 cX9_layWay (none)) (hS : Sta X 3 63 5) (x1 : Int32) (x2 : Int32) : Tr X eU 0 0 0 [(0, .ref (cxAd X 161)), (1, .int x1), (2, .int x2)] [] (f_X9_layWay x1 x2) := by
  unfold f_X9_layWay
  refine tr_iconst 0 hX dX9_layWay_0 (by decide) ?_
  refine tr_istore_n hX dX9_layWay_1 rfl (hS.n (by decide)) rfl ?_
  exact tr_sub [1, 2, 3, 0] rfl (tr_fix1 (lvf := fun x3 => [(0, .ref (cxAd X 161)), (1, .int x1), (2, .int x2), (3, .int x3)]) (t_X9_layWay_2 hX hS x1 x2) FU 0)
theorem ok_X9_layWay {l : Launch} {E : Ev} (x1 : Int32) (x2 : Int32)  : Ok l E Gall yX9_layWay cX9_layWay 5 (none) (rmz 3 63) eU [.ref (E.2.1 161), .int x1, .int x2] (f_X9_layWay x1 x2) := by
  refine ok_of0 (by decide) (Nat.le_of_ble_eq_true rfl) (fun X hX hV hS => ?_)
  subst hV
  exact t_X9_layWay_0 hX hS x1 x2
def f_X9_later_10 (p0 : Int32) : M Int32 :=
  rt p0
set_option maxRecDepth 10000 in
set_option maxHeartbeats 4000000 in
theorem t_X9_later_10 {X : Cx} (hX : Good X RX9 cX9_later ((some .int))) (hS : Sta X 0 0 2) (p0 : Int32) : Tr X eI 0 0 10 [] [.int p0] (f_X9_later_10 p0) := by
  unfold f_X9_later_10
  exact tr_iret0 hX hS dX9_later_10
def f_X9_later (x0 : Int32) (x1 : Int32) : M Int32 :=
  if x0 ≤ x1 then (f_X9_later_10 x1) else (f_X9_later_10 x0)
set_option maxRecDepth 10000 in
set_option maxHeartbeats 4000000 in
theorem t_X9_later_0 {X : Cx} (hX : Good X RX9 cX9_later ((some .int))) (hS : Sta X 0 0 2) (x0 : Int32) (x1 : Int32) : Tr X eI 0 0 0 [(0, .int x0), (1, .int x1)] [] (f_X9_later x0 x1) := by
  unfold f_X9_later
  refine tr_iload_n 0 hX dX9_later_0 rfl rfl ?_
  refine tr_iload_n 1 hX dX9_later_1 rfl rfl ?_
  refine tr_ic_le 9 hX dX9_later_2 (by decide) (fun c1 => ?_) (fun c1 => ?_)
  · refine tr_iload_n 1 hX dX9_later_9 rfl rfl ?_
    exact tr_sub [] rfl (t_X9_later_10 hX hS x1)
  · refine tr_iload_n 0 hX dX9_later_5 rfl rfl ?_
    refine tr_goto 10 hX dX9_later_6 (by decide) ?_
    exact tr_sub [] rfl (t_X9_later_10 hX hS x0)
theorem ok_X9_later {l : Launch} {E : Ev} (x0 : Int32) (x1 : Int32)  : Ok l E Gall yX9_later cX9_later 2 ((some .int)) (rmz 0 0) eI [.int x0, .int x1] (f_X9_later x0 x1) := by
  refine ok_of0 (by decide) (Nat.le_of_ble_eq_true rfl) (fun X hX hV hS => ?_)
  subst hV
  exact t_X9_later_0 hX hS x0 x1
def f_X9_layWays_56 (s56 : Int32 → M Unit) (x3 : Int32) : M Unit :=
  rI 161 19 (fun v1 => if v1 ≤ x3 then (rt ()) else (aI 177 168 x3 (fun v2 => aI 176 168 x3 (fun v4 => aI 178 168 x3 (fun v6 => bnd (f_X9_later v4 v6) (fun v8 => bnd (f_X9_later v2 v8) (fun v9 => aI 179 8 v9 (fun v10 => sI 180 168 x3 v10 (sI 179 8 v9 x3 (s56 (x3 + 1)))))))))))
set_option maxRecDepth 10000 in
set_option maxHeartbeats 4000000 in
theorem t_X9_layWays_56 {X : Cx} (hX : Good X RX9 cX9_layWays (none)) (hS : Sta X 4 87 5) : ∀ s56 : Int32 → M Unit, (∀ x3 : Int32, Tr X eU 0 0 56 [(0, .ref (cxAd X 161)), (3, .int x3)] [] (s56 x3)) → ∀ x3 : Int32, Tr X eU 0 0 56 [(0, .ref (cxAd X 161)), (3, .int x3)] [] (f_X9_layWays_56 s56 x3) := by
  intro s56 hs56 x3
  unfold f_X9_layWays_56
  refine tr_iload_n 1 hX dX9_layWays_56 rfl rfl ?_
  refine tr_aload_n 0 hX dX9_layWays_57 rfl rfl ?_
  refine tr_getI hX dX9_layWays_58 sh_161 (by decide) rfl inlX9 (by decide) rfl (hS.e (Nat.le_of_ble_eq_true rfl)) k_16_8 (fun v1 => ?_)
  refine tr_ic_ge 117 hX dX9_layWays_61 (by decide) (fun c12 => ?_) (fun c12 => ?_)
  · exact tr_vret0 hX hS dX9_layWays_117
  · refine tr_aload_n 0 hX dX9_layWays_64 rfl rfl ?_
    refine tr_getF hX dX9_layWays_65 sh_161 (by decide) rfl inlX9 (by decide) rfl (hS.g (Nat.le_of_ble_eq_true rfl)) cr_161_21 k_7_2 mq_161 ?_
    refine tr_iload_n 1 hX dX9_layWays_68 rfl rfl ?_
    refine tr_iald hX dX9_layWays_69 sh_177 (hS.e (Nat.le_of_ble_eq_true rfl)) (fun hb3 v2 => ?_)
    refine tr_aload_n 0 hX dX9_layWays_70 rfl rfl ?_
    refine tr_getF hX dX9_layWays_71 sh_161 (by decide) rfl inlX9 (by decide) rfl (hS.g (Nat.le_of_ble_eq_true rfl)) cr_161_20 k_7_1 mq_161 ?_
    refine tr_iload_n 1 hX dX9_layWays_74 rfl rfl ?_
    refine tr_iald hX dX9_layWays_75 sh_176 (hS.e (Nat.le_of_ble_eq_true rfl)) (fun hb5 v4 => ?_)
    refine tr_aload_n 0 hX dX9_layWays_76 rfl rfl ?_
    refine tr_getF hX dX9_layWays_77 sh_161 (by decide) rfl inlX9 (by decide) rfl (hS.g (Nat.le_of_ble_eq_true rfl)) cr_161_22 k_7_3 mq_161 ?_
    refine tr_iload_n 1 hX dX9_layWays_80 rfl rfl ?_
    refine tr_iald hX dX9_layWays_81 sh_178 (hS.e (Nat.le_of_ble_eq_true rfl)) (fun hb7 v6 => ?_)
    refine tr_callS0I (st := [.int v2]) 2 hX hS dX9_layWays_82 (ok_X9_later v4 v6) k_17_16 k_17_17 k_1_5 k_17_18 hy_X9_later.2 rfl rfl (Nat.le_of_ble_eq_true rfl) rfl (fun v8 => ?_)
    refine tr_callS0I (st := []) 2 hX hS dX9_layWays_85 (ok_X9_later v2 v8) k_17_16 k_17_17 k_1_5 k_17_18 hy_X9_later.2 rfl rfl (Nat.le_of_ble_eq_true rfl) rfl (fun v9 => ?_)
    refine tr_istore hX dX9_layWays_88 (hS.n (by decide)) rfl ?_
    refine tr_aload_n 1 hX dX9_layWays_90 rfl rfl ?_
    refine tr_getF hX dX9_layWays_91 sh_161 (by decide) rfl inlX9 (by decide) rfl (hS.g (Nat.le_of_ble_eq_true rfl)) cr_161_25 k_7_5 mq_161 ?_
    refine tr_iload_n 2 hX dX9_layWays_94 rfl rfl ?_
    refine tr_aload_n 1 hX dX9_layWays_95 rfl rfl ?_
    refine tr_getF hX dX9_layWays_96 sh_161 (by decide) rfl inlX9 (by decide) rfl (hS.g (Nat.le_of_ble_eq_true rfl)) cr_161_24 k_7_4 mq_161 ?_
    refine tr_iload 0 hX dX9_layWays_99 rfl ?_
    refine tr_iald hX dX9_layWays_101 sh_179 (hS.e (Nat.le_of_ble_eq_true rfl)) (fun hb11 v10 => ?_)
    refine tr_iast hX dX9_layWays_102 sh_180 (hS.e (Nat.le_of_ble_eq_true rfl)) (fun _ => ?_)
    refine tr_aload_n 1 hX dX9_layWays_103 rfl rfl ?_
    refine tr_getF hX dX9_layWays_104 sh_161 (by decide) rfl inlX9 (by decide) rfl (hS.g (Nat.le_of_ble_eq_true rfl)) cr_161_24 k_7_4 mq_161 ?_
    refine tr_iload 0 hX dX9_layWays_107 rfl ?_
    refine tr_iload_n 2 hX dX9_layWays_109 rfl rfl ?_
    refine tr_iast hX dX9_layWays_110 sh_179 (hS.e (Nat.le_of_ble_eq_true rfl)) (fun _ => ?_)
    refine tr_iinc (x3 + 1) 2 hX dX9_layWays_111 rfl (congrArg (fun z => x3 + z) (by decide)) (hS.n (by decide)) rfl ?_
    refine tr_goto 56 hX dX9_layWays_114 (by decide) ?_
    exact tr_sub [2, 0] rfl (hs56 (x3 + 1))
def f_X9_layWays_34 (s34 : Int32 → M Unit) (x3 : Int32) : M Unit :=
  if 8 ≤ x3 then (fix1 FU (f_X9_layWays_56) 0) else (sI 179 8 x3 (-4) (s34 (x3 + 1)))
set_option maxRecDepth 10000 in
set_option maxHeartbeats 4000000 in
theorem t_X9_layWays_34 {X : Cx} (hX : Good X RX9 cX9_layWays (none)) (hS : Sta X 4 87 5) : ∀ s34 : Int32 → M Unit, (∀ x3 : Int32, Tr X eU 0 0 34 [(0, .ref (cxAd X 161)), (3, .int x3)] [] (s34 x3)) → ∀ x3 : Int32, Tr X eU 0 0 34 [(0, .ref (cxAd X 161)), (3, .int x3)] [] (f_X9_layWays_34 s34 x3) := by
  intro s34 hs34 x3
  unfold f_X9_layWays_34
  refine tr_iload_n 1 hX dX9_layWays_34 rfl rfl ?_
  refine tr_bipush 8 hX dX9_layWays_35 (by decide) ?_
  refine tr_ic_ge 54 hX dX9_layWays_37 (by decide) (fun c1 => ?_) (fun c1 => ?_)
  · refine tr_iconst 0 hX dX9_layWays_54 (by decide) ?_
    refine tr_istore_n hX dX9_layWays_55 rfl (hS.n (by decide)) rfl ?_
    exact tr_sub [1, 0] rfl (tr_fix1 (lvf := fun x3 => [(0, .ref (cxAd X 161)), (3, .int x3)]) (t_X9_layWays_56 hX hS) FU 0)
  · refine tr_aload_n 0 hX dX9_layWays_40 rfl rfl ?_
    refine tr_getF hX dX9_layWays_41 sh_161 (by decide) rfl inlX9 (by decide) rfl (hS.g (Nat.le_of_ble_eq_true rfl)) cr_161_24 k_7_4 mq_161 ?_
    refine tr_iload_n 1 hX dX9_layWays_44 rfl rfl ?_
    refine tr_bipush (-4) hX dX9_layWays_45 (by decide) ?_
    refine tr_iast hX dX9_layWays_47 sh_179 (hS.e (Nat.le_of_ble_eq_true rfl)) (fun _ => ?_)
    refine tr_iinc (x3 + 1) 1 hX dX9_layWays_48 rfl (congrArg (fun z => x3 + z) (by decide)) (hS.n (by decide)) rfl ?_
    refine tr_goto 34 hX dX9_layWays_51 (by decide) ?_
    exact tr_sub [1, 0] rfl (hs34 (x3 + 1))
def f_X9_layWays_26 (s7 : Int32 → M Unit) (x1 : Int32) (x2 : Int32) (x3 : Int32) : M Unit :=
  s7 (x3 + 1)
set_option maxRecDepth 10000 in
set_option maxHeartbeats 4000000 in
theorem t_X9_layWays_26 {X : Cx} (hX : Good X RX9 cX9_layWays (none)) (hS : Sta X 4 87 5) (s7 : Int32 → M Unit) (x1 : Int32) (x2 : Int32) (x3 : Int32) (hs7 : ∀ x3 : Int32, Tr X eU 0 0 7 [(0, .ref (cxAd X 161)), (1, .int x1), (2, .int x2), (3, .int x3)] [] (s7 x3)) : Tr X eU 0 0 26 [(0, .ref (cxAd X 161)), (1, .int x1), (2, .int x2), (3, .int x3)] [] (f_X9_layWays_26 s7 x1 x2 x3) := by
  unfold f_X9_layWays_26
  refine tr_iinc (x3 + 1) 3 hX dX9_layWays_26 rfl (congrArg (fun z => x3 + z) (by decide)) (hS.n (by decide)) rfl ?_
  refine tr_goto 7 hX dX9_layWays_29 (by decide) ?_
  exact tr_sub [1, 2, 3, 0] rfl (hs7 (x3 + 1))
def f_X9_layWays_7 (x1 : Int32) (x2 : Int32) (s7 : Int32 → M Unit) (x3 : Int32) : M Unit :=
  if 5 ≤ x3 then (fix1 FU (f_X9_layWays_34) 0) else (bnd (f_X9_has x1 x3) (fun v1 => if v1 = 0 then (f_X9_layWays_26 s7 x1 x2 x3) else (bnd (f_X9_layWay x3 x2) (fun _ => f_X9_layWays_26 s7 x1 x2 x3))))
set_option maxRecDepth 10000 in
set_option maxHeartbeats 4000000 in
theorem t_X9_layWays_7 {X : Cx} (hX : Good X RX9 cX9_layWays (none)) (hS : Sta X 4 87 5) (x1 : Int32) (x2 : Int32) : ∀ s7 : Int32 → M Unit, (∀ x3 : Int32, Tr X eU 0 0 7 [(0, .ref (cxAd X 161)), (1, .int x1), (2, .int x2), (3, .int x3)] [] (s7 x3)) → ∀ x3 : Int32, Tr X eU 0 0 7 [(0, .ref (cxAd X 161)), (1, .int x1), (2, .int x2), (3, .int x3)] [] (f_X9_layWays_7 x1 x2 s7 x3) := by
  intro s7 hs7 x3
  unfold f_X9_layWays_7
  refine tr_iload_n 3 hX dX9_layWays_7 rfl rfl ?_
  refine tr_iconst 5 hX dX9_layWays_8 (by decide) ?_
  refine tr_ic_ge 32 hX dX9_layWays_9 (by decide) (fun c4 => ?_) (fun c4 => ?_)
  · refine tr_iconst 0 hX dX9_layWays_32 (by decide) ?_
    refine tr_istore_n hX dX9_layWays_33 rfl (hS.n (by decide)) rfl ?_
    exact tr_sub [1, 0] rfl (tr_fix1 (lvf := fun x3 => [(0, .ref (cxAd X 161)), (3, .int x3)]) (t_X9_layWays_34 hX hS) FU 0)
  · refine tr_iload_n 1 hX dX9_layWays_12 rfl rfl ?_
    refine tr_iload_n 3 hX dX9_layWays_13 rfl rfl ?_
    refine tr_callS0I (st := []) 2 hX hS dX9_layWays_14 (ok_X9_has x1 x3) k_16_16 k_16_17 k_1_5 k_16_18 hy_X9_has.2 rfl rfl (Nat.le_of_ble_eq_true rfl) rfl (fun v1 => ?_)
    refine tr_if_eq 26 hX dX9_layWays_17 (by decide) (fun c3 => ?_) (fun c3 => ?_)
    · exact tr_sub [0, 1, 2, 3] rfl (t_X9_layWays_26 hX hS s7 x1 x2 x3 hs7)
    · refine tr_aload_n 0 hX dX9_layWays_20 rfl rfl ?_
      refine tr_iload_n 3 hX dX9_layWays_21 rfl rfl ?_
      refine tr_iload_n 2 hX dX9_layWays_22 rfl rfl ?_
      refine tr_callV0U (st := []) 2 hX hS dX9_layWays_23 (ok_X9_layWay x3 x2) sh_161 (by decide) rfl (Nat.le_of_ble_eq_true rfl) k_16_19 k_16_20 k_16_21 k_1_5 k_16_22 hy_X9_layWay rfl rfl (Nat.le_of_ble_eq_true rfl) rfl (fun _ => ?_)
      exact tr_sub [0, 1, 2, 3] rfl (t_X9_layWays_26 hX hS s7 x1 x2 x3 hs7)
def f_X9_layWays (x1 : Int32) (x2 : Int32) : M Unit :=
  wI 161 19 0 (fix1 FU (f_X9_layWays_7 x1 x2) 0)
set_option maxRecDepth 10000 in
set_option maxHeartbeats 4000000 in
theorem t_X9_layWays_0 {X : Cx} (hX : Good X RX9 cX9_layWays (none)) (hS : Sta X 4 87 5) (x1 : Int32) (x2 : Int32) : Tr X eU 0 0 0 [(0, .ref (cxAd X 161)), (1, .int x1), (2, .int x2)] [] (f_X9_layWays x1 x2) := by
  unfold f_X9_layWays
  refine tr_aload_n 0 hX dX9_layWays_0 rfl rfl ?_
  refine tr_iconst 0 hX dX9_layWays_1 (by decide) ?_
  refine tr_putI hX dX9_layWays_2 sh_161 (by decide) rfl inlX9 tyX9 tyX9_ok nmX9 (by decide) rfl (hS.e (Nat.le_of_ble_eq_true rfl)) k_16_8 rfl rfl rfl rfl ?_
  refine tr_iconst 0 hX dX9_layWays_5 (by decide) ?_
  refine tr_istore_n hX dX9_layWays_6 rfl (hS.n (by decide)) rfl ?_
  exact tr_sub [1, 2, 3, 0] rfl (tr_fix1 (lvf := fun x3 => [(0, .ref (cxAd X 161)), (1, .int x1), (2, .int x2), (3, .int x3)]) (t_X9_layWays_7 hX hS x1 x2) FU 0)
theorem ok_X9_layWays {l : Launch} {E : Ev} (x1 : Int32) (x2 : Int32)  : Ok l E Gall yX9_layWays cX9_layWays 5 (none) (rmz 4 87) eU [.ref (E.2.1 161), .int x1, .int x2] (f_X9_layWays x1 x2) := by
  refine ok_of0 (by decide) (Nat.le_of_ble_eq_true rfl) (fun X hX hV hS => ?_)
  subst hV
  exact t_X9_layWays_0 hX hS x1 x2
def f_X9_tokenOf_88 (x2 : Int32) (x6 : Int32) (p0 : Int32) : M Int32 :=
  aI 164 96 ((3 * x2) + 1) (fun v1 => rt (((128 * x6) + (8 * v1)) + p0))
set_option maxRecDepth 10000 in
set_option maxHeartbeats 4000000 in
theorem t_X9_tokenOf_88 {X : Cx} (hX : Good X RX9 cX9_tokenOf ((some .int))) (hS : Sta X 0 0 8) (x2 : Int32) (x6 : Int32) (p0 : Int32) : Tr X eI 0 0 88 [(0, .ref (cxAd X 161)), (2, .int x2), (6, .int x6)] [.int p0] (f_X9_tokenOf_88 x2 x6 p0) := by
  unfold f_X9_tokenOf_88
  refine tr_istore hX dX9_tokenOf_88 (hS.n (by decide)) rfl ?_
  refine tr_sipush 128 hX dX9_tokenOf_90 (by decide) ?_
  refine tr_iload 3 hX dX9_tokenOf_93 rfl ?_
  refine tr_imul hX dX9_tokenOf_95 ?_
  refine tr_bipush 8 hX dX9_tokenOf_96 (by decide) ?_
  refine tr_aload_n 1 hX dX9_tokenOf_98 rfl rfl ?_
  refine tr_getF hX dX9_tokenOf_99 sh_161 (by decide) rfl inlX9 (by decide) rfl (hS.g (Nat.le_of_ble_eq_true rfl)) cr_161_3 k_6_13 mq_161 ?_
  refine tr_iconst 3 hX dX9_tokenOf_102 (by decide) ?_
  refine tr_iload_n 2 hX dX9_tokenOf_103 rfl rfl ?_
  refine tr_imul hX dX9_tokenOf_104 ?_
  refine tr_iconst 1 hX dX9_tokenOf_105 (by decide) ?_
  refine tr_iadd hX dX9_tokenOf_106 ?_
  refine tr_iald hX dX9_tokenOf_107 sh_164 (hS.e (Nat.le_of_ble_eq_true rfl)) (fun hb2 v1 => ?_)
  refine tr_imul hX dX9_tokenOf_108 ?_
  refine tr_iadd hX dX9_tokenOf_109 ?_
  refine tr_iload 0 hX dX9_tokenOf_110 rfl ?_
  refine tr_iadd hX dX9_tokenOf_112 ?_
  exact tr_iret0 hX hS dX9_tokenOf_113
def f_X9_tokenOf_55 (x2 : Int32) (x3 : Int32) (x5 : Int32) (p0 : Int32) : M Int32 :=
  if 0 ≤ x3 then (aI 164 96 (3 * x3) (fun v1 => aI 165 128 ((8 * x5) + v1) (fun v3 => gd (¬ (8 : Int32) = 0) (f_X9_tokenOf_88 x2 p0 (v3 / 8))))) else (f_X9_tokenOf_88 x2 p0 x5)
set_option maxRecDepth 10000 in
set_option maxHeartbeats 4000000 in
theorem t_X9_tokenOf_55 {X : Cx} (hX : Good X RX9 cX9_tokenOf ((some .int))) (hS : Sta X 0 0 8) (x2 : Int32) (x3 : Int32) (x5 : Int32) (p0 : Int32) : Tr X eI 0 0 55 [(0, .ref (cxAd X 161)), (2, .int x2), (3, .int x3), (5, .int x5)] [.int p0] (f_X9_tokenOf_55 x2 x3 x5 p0) := by
  unfold f_X9_tokenOf_55
  refine tr_istore hX dX9_tokenOf_55 (hS.n (by decide)) rfl ?_
  refine tr_iload_n 3 hX dX9_tokenOf_57 rfl rfl ?_
  refine tr_if_ge 66 hX dX9_tokenOf_58 (by decide) (fun c5 => ?_) (fun c5 => ?_)
  · refine tr_aload_n 1 hX dX9_tokenOf_66 rfl rfl ?_
    refine tr_getF hX dX9_tokenOf_67 sh_161 (by decide) rfl inlX9 (by decide) rfl (hS.g (Nat.le_of_ble_eq_true rfl)) cr_161_4 k_6_14 mq_161 ?_
    refine tr_bipush 8 hX dX9_tokenOf_70 (by decide) ?_
    refine tr_iload 4 hX dX9_tokenOf_72 rfl ?_
    refine tr_imul hX dX9_tokenOf_74 ?_
    refine tr_aload_n 1 hX dX9_tokenOf_75 rfl rfl ?_
    refine tr_getF hX dX9_tokenOf_76 sh_161 (by decide) rfl inlX9 (by decide) rfl (hS.g (Nat.le_of_ble_eq_true rfl)) cr_161_3 k_6_13 mq_161 ?_
    refine tr_iconst 3 hX dX9_tokenOf_79 (by decide) ?_
    refine tr_iload_n 3 hX dX9_tokenOf_80 rfl rfl ?_
    refine tr_imul hX dX9_tokenOf_81 ?_
    refine tr_iald hX dX9_tokenOf_82 sh_164 (hS.e (Nat.le_of_ble_eq_true rfl)) (fun hb2 v1 => ?_)
    refine tr_iadd hX dX9_tokenOf_83 ?_
    refine tr_iald hX dX9_tokenOf_84 sh_165 (hS.e (Nat.le_of_ble_eq_true rfl)) (fun hb4 v3 => ?_)
    refine tr_bipush 8 hX dX9_tokenOf_85 (by decide) ?_
    refine tr_idiv hX dX9_tokenOf_87 (fun _ => ?_)
    exact tr_sub [1, 2, 0] rfl (t_X9_tokenOf_88 hX hS x2 p0 (v3 / 8))
  · refine tr_iload 4 hX dX9_tokenOf_61 rfl ?_
    refine tr_goto 88 hX dX9_tokenOf_63 (by decide) ?_
    exact tr_sub [1, 2, 0] rfl (t_X9_tokenOf_88 hX hS x2 p0 x5)
def f_X9_tokenOf (x1 : Int32) (x2 : Int32) (x3 : Int32) : M Int32 :=
  aI 164 96 (3 * x2) (fun v1 => aI 164 96 ((3 * x2) + 2) (fun v3 => if 0 ≤ x1 then (aI 164 96 ((3 * x1) + 2) (fun v5 => aI 165 128 ((8 * v5) + v1) (fun v7 => gd (¬ (8 : Int32) = 0) (f_X9_tokenOf_55 x2 x3 v3 (v7 - v7 / 8 * 8))))) else (f_X9_tokenOf_55 x2 x3 v3 v1)))
set_option maxRecDepth 10000 in
set_option maxHeartbeats 4000000 in
theorem t_X9_tokenOf_0 {X : Cx} (hX : Good X RX9 cX9_tokenOf ((some .int))) (hS : Sta X 0 0 8) (x1 : Int32) (x2 : Int32) (x3 : Int32) : Tr X eI 0 0 0 [(0, .ref (cxAd X 161)), (1, .int x1), (2, .int x2), (3, .int x3)] [] (f_X9_tokenOf x1 x2 x3) := by
  unfold f_X9_tokenOf
  refine tr_aload_n 0 hX dX9_tokenOf_0 rfl rfl ?_
  refine tr_getF hX dX9_tokenOf_1 sh_161 (by decide) rfl inlX9 (by decide) rfl (hS.g (Nat.le_of_ble_eq_true rfl)) cr_161_3 k_6_13 mq_161 ?_
  refine tr_iconst 3 hX dX9_tokenOf_4 (by decide) ?_
  refine tr_iload_n 2 hX dX9_tokenOf_5 rfl rfl ?_
  refine tr_imul hX dX9_tokenOf_6 ?_
  refine tr_iald hX dX9_tokenOf_7 sh_164 (hS.e (Nat.le_of_ble_eq_true rfl)) (fun hb2 v1 => ?_)
  refine tr_istore hX dX9_tokenOf_8 (hS.n (by decide)) rfl ?_
  refine tr_aload_n 1 hX dX9_tokenOf_10 rfl rfl ?_
  refine tr_getF hX dX9_tokenOf_11 sh_161 (by decide) rfl inlX9 (by decide) rfl (hS.g (Nat.le_of_ble_eq_true rfl)) cr_161_3 k_6_13 mq_161 ?_
  refine tr_iconst 3 hX dX9_tokenOf_14 (by decide) ?_
  refine tr_iload_n 3 hX dX9_tokenOf_15 rfl rfl ?_
  refine tr_imul hX dX9_tokenOf_16 ?_
  refine tr_iconst 2 hX dX9_tokenOf_17 (by decide) ?_
  refine tr_iadd hX dX9_tokenOf_18 ?_
  refine tr_iald hX dX9_tokenOf_19 sh_164 (hS.e (Nat.le_of_ble_eq_true rfl)) (fun hb4 v3 => ?_)
  refine tr_istore hX dX9_tokenOf_20 (hS.n (by decide)) rfl ?_
  refine tr_iload_n 3 hX dX9_tokenOf_22 rfl rfl ?_
  refine tr_if_ge 31 hX dX9_tokenOf_23 (by decide) (fun c9 => ?_) (fun c9 => ?_)
  · refine tr_aload_n 2 hX dX9_tokenOf_31 rfl rfl ?_
    refine tr_getF hX dX9_tokenOf_32 sh_161 (by decide) rfl inlX9 (by decide) rfl (hS.g (Nat.le_of_ble_eq_true rfl)) cr_161_4 k_6_14 mq_161 ?_
    refine tr_bipush 8 hX dX9_tokenOf_35 (by decide) ?_
    refine tr_aload_n 2 hX dX9_tokenOf_37 rfl rfl ?_
    refine tr_getF hX dX9_tokenOf_38 sh_161 (by decide) rfl inlX9 (by decide) rfl (hS.g (Nat.le_of_ble_eq_true rfl)) cr_161_3 k_6_13 mq_161 ?_
    refine tr_iconst 3 hX dX9_tokenOf_41 (by decide) ?_
    refine tr_iload_n 3 hX dX9_tokenOf_42 rfl rfl ?_
    refine tr_imul hX dX9_tokenOf_43 ?_
    refine tr_iconst 2 hX dX9_tokenOf_44 (by decide) ?_
    refine tr_iadd hX dX9_tokenOf_45 ?_
    refine tr_iald hX dX9_tokenOf_46 sh_164 (hS.e (Nat.le_of_ble_eq_true rfl)) (fun hb6 v5 => ?_)
    refine tr_imul hX dX9_tokenOf_47 ?_
    refine tr_iload 1 hX dX9_tokenOf_48 rfl ?_
    refine tr_iadd hX dX9_tokenOf_50 ?_
    refine tr_iald hX dX9_tokenOf_51 sh_165 (hS.e (Nat.le_of_ble_eq_true rfl)) (fun hb8 v7 => ?_)
    refine tr_bipush 8 hX dX9_tokenOf_52 (by decide) ?_
    refine tr_irem hX dX9_tokenOf_54 (fun _ => ?_)
    exact tr_sub [2, 4, 5, 0] rfl (t_X9_tokenOf_55 hX hS x2 x3 v3 (v7 - v7 / 8 * 8))
  · refine tr_iload 1 hX dX9_tokenOf_26 rfl ?_
    refine tr_goto 55 hX dX9_tokenOf_28 (by decide) ?_
    exact tr_sub [2, 4, 5, 0] rfl (t_X9_tokenOf_55 hX hS x2 x3 v3 v1)
theorem ok_X9_tokenOf {l : Launch} {E : Ev} (x1 : Int32) (x2 : Int32) (x3 : Int32)  : Ok l E Gall yX9_tokenOf cX9_tokenOf 8 ((some .int)) (rmz 0 0) eI [.ref (E.2.1 161), .int x1, .int x2, .int x3] (f_X9_tokenOf x1 x2 x3) := by
  refine ok_of0 (by decide) (Nat.le_of_ble_eq_true rfl) (fun X hX hV hS => ?_)
  subst hV
  exact t_X9_tokenOf_0 hX hS x1 x2 x3
def f_X9_rowAt_15 (p0 : Int32) : M Int32 :=
  rt p0
set_option maxRecDepth 10000 in
set_option maxHeartbeats 4000000 in
theorem t_X9_rowAt_15 {X : Cx} (hX : Good X RX9 cX9_rowAt ((some .int))) (hS : Sta X 0 0 2) (p0 : Int32) : Tr X eI 0 0 15 [] [.int p0] (f_X9_rowAt_15 p0) := by
  unfold f_X9_rowAt_15
  exact tr_iret0 hX hS dX9_rowAt_15
def f_X9_rowAt (x1 : Int32) : M Int32 :=
  if 0 ≤ x1 then (aI 181 8 x1 (fun v1 => f_X9_rowAt_15 v1)) else (f_X9_rowAt_15 (-4))
set_option maxRecDepth 10000 in
set_option maxHeartbeats 4000000 in
theorem t_X9_rowAt_0 {X : Cx} (hX : Good X RX9 cX9_rowAt ((some .int))) (hS : Sta X 0 0 2) (x1 : Int32) : Tr X eI 0 0 0 [(0, .ref (cxAd X 161)), (1, .int x1)] [] (f_X9_rowAt x1) := by
  unfold f_X9_rowAt
  refine tr_iload_n 1 hX dX9_rowAt_0 rfl rfl ?_
  refine tr_if_ge 9 hX dX9_rowAt_1 (by decide) (fun c3 => ?_) (fun c3 => ?_)
  · refine tr_aload_n 0 hX dX9_rowAt_9 rfl rfl ?_
    refine tr_getF hX dX9_rowAt_10 sh_161 (by decide) rfl inlX9 (by decide) rfl (hS.g (Nat.le_of_ble_eq_true rfl)) cr_161_26 k_7_6 mq_161 ?_
    refine tr_iload_n 1 hX dX9_rowAt_13 rfl rfl ?_
    refine tr_iald hX dX9_rowAt_14 sh_181 (hS.e (Nat.le_of_ble_eq_true rfl)) (fun hb2 v1 => ?_)
    exact tr_sub [] rfl (t_X9_rowAt_15 hX hS v1)
  · refine tr_bipush (-4) hX dX9_rowAt_4 (by decide) ?_
    refine tr_goto 15 hX dX9_rowAt_6 (by decide) ?_
    exact tr_sub [] rfl (t_X9_rowAt_15 hX hS (-4))
theorem ok_X9_rowAt {l : Launch} {E : Ev} (x1 : Int32)  : Ok l E Gall yX9_rowAt cX9_rowAt 2 ((some .int)) (rmz 0 0) eI [.ref (E.2.1 161), .int x1] (f_X9_rowAt x1) := by
  refine ok_of0 (by decide) (Nat.le_of_ble_eq_true rfl) (fun X hX hV hS => ?_)
  subst hV
  exact t_X9_rowAt_0 hX hS x1
def f_X9_tokenAt (x1 : Int32) : M Int32 :=
  aI 176 168 x1 (fun v1 => bnd (f_X9_rowAt v1) (fun v3 => aI 177 168 x1 (fun v4 => bnd (f_X9_rowAt v4) (fun v6 => aI 178 168 x1 (fun v7 => bnd (f_X9_rowAt v7) (fun v9 => bnd (f_X9_tokenOf v3 v6 v9) (fun v10 => rt v10)))))))
set_option maxRecDepth 10000 in
set_option maxHeartbeats 4000000 in
theorem t_X9_tokenAt_0 {X : Cx} (hX : Good X RX9 cX9_tokenAt ((some .int))) (hS : Sta X 1 27 2) (x1 : Int32) : Tr X eI 0 0 0 [(0, .ref (cxAd X 161)), (1, .int x1)] [] (f_X9_tokenAt x1) := by
  unfold f_X9_tokenAt
  refine tr_aload_n 0 hX dX9_tokenAt_0 rfl rfl ?_
  refine tr_aload_n 0 hX dX9_tokenAt_1 rfl rfl ?_
  refine tr_aload_n 0 hX dX9_tokenAt_2 rfl rfl ?_
  refine tr_getF hX dX9_tokenAt_3 sh_161 (by decide) rfl inlX9 (by decide) rfl (hS.g (Nat.le_of_ble_eq_true rfl)) cr_161_20 k_7_1 mq_161 ?_
  refine tr_iload_n 1 hX dX9_tokenAt_6 rfl rfl ?_
  refine tr_iald hX dX9_tokenAt_7 sh_176 (hS.e (Nat.le_of_ble_eq_true rfl)) (fun hb2 v1 => ?_)
  refine tr_callV0I (st := [.ref (cxAd X 161)]) 1 hX hS dX9_tokenAt_8 (ok_X9_rowAt v1) sh_161 (by decide) rfl (Nat.le_of_ble_eq_true rfl) k_18_3 k_18_4 k_18_5 k_1_5 k_18_6 hy_X9_rowAt rfl rfl (Nat.le_of_ble_eq_true rfl) rfl (fun v3 => ?_)
  refine tr_aload_n 0 hX dX9_tokenAt_11 rfl rfl ?_
  refine tr_aload_n 0 hX dX9_tokenAt_12 rfl rfl ?_
  refine tr_getF hX dX9_tokenAt_13 sh_161 (by decide) rfl inlX9 (by decide) rfl (hS.g (Nat.le_of_ble_eq_true rfl)) cr_161_21 k_7_2 mq_161 ?_
  refine tr_iload_n 1 hX dX9_tokenAt_16 rfl rfl ?_
  refine tr_iald hX dX9_tokenAt_17 sh_177 (hS.e (Nat.le_of_ble_eq_true rfl)) (fun hb5 v4 => ?_)
  refine tr_callV0I (st := [.int v3, .ref (cxAd X 161)]) 1 hX hS dX9_tokenAt_18 (ok_X9_rowAt v4) sh_161 (by decide) rfl (Nat.le_of_ble_eq_true rfl) k_18_3 k_18_4 k_18_5 k_1_5 k_18_6 hy_X9_rowAt rfl rfl (Nat.le_of_ble_eq_true rfl) rfl (fun v6 => ?_)
  refine tr_aload_n 0 hX dX9_tokenAt_21 rfl rfl ?_
  refine tr_aload_n 0 hX dX9_tokenAt_22 rfl rfl ?_
  refine tr_getF hX dX9_tokenAt_23 sh_161 (by decide) rfl inlX9 (by decide) rfl (hS.g (Nat.le_of_ble_eq_true rfl)) cr_161_22 k_7_3 mq_161 ?_
  refine tr_iload_n 1 hX dX9_tokenAt_26 rfl rfl ?_
  refine tr_iald hX dX9_tokenAt_27 sh_178 (hS.e (Nat.le_of_ble_eq_true rfl)) (fun hb8 v7 => ?_)
  refine tr_callV0I (st := [.int v6, .int v3, .ref (cxAd X 161)]) 1 hX hS dX9_tokenAt_28 (ok_X9_rowAt v7) sh_161 (by decide) rfl (Nat.le_of_ble_eq_true rfl) k_18_3 k_18_4 k_18_5 k_1_5 k_18_6 hy_X9_rowAt rfl rfl (Nat.le_of_ble_eq_true rfl) rfl (fun v9 => ?_)
  refine tr_callV0I (st := []) 3 hX hS dX9_tokenAt_31 (ok_X9_tokenOf v3 v6 v9) sh_161 (by decide) rfl (Nat.le_of_ble_eq_true rfl) k_18_7 k_18_8 k_18_9 k_1_5 k_18_10 hy_X9_tokenOf rfl rfl (Nat.le_of_ble_eq_true rfl) rfl (fun v10 => ?_)
  exact tr_iret0 hX hS dX9_tokenAt_34
theorem ok_X9_tokenAt {l : Launch} {E : Ev} (x1 : Int32)  : Ok l E Gall yX9_tokenAt cX9_tokenAt 2 ((some .int)) (rmz 1 27) eI [.ref (E.2.1 161), .int x1] (f_X9_tokenAt x1) := by
  refine ok_of0 (by decide) (Nat.le_of_ble_eq_true rfl) (fun X hX hV hS => ?_)
  subst hV
  exact t_X9_tokenAt_0 hX hS x1
def f_X9_layRow_2 (x1 : Int32) (s2 : Int32 → M Unit) (x2 : Int32) : M Unit :=
  aI 167 18 x1 (fun v1 => if v1 ≤ x2 then (rt ()) else (aI 168 144 ((8 * x1) + x2) (fun v3 => sI 181 8 x2 v3 (s2 (x2 + 1)))))
set_option maxRecDepth 10000 in
set_option maxHeartbeats 4000000 in
theorem t_X9_layRow_2 {X : Cx} (hX : Good X RX9 cX9_layRow (none)) (hS : Sta X 0 0 3) (x1 : Int32) : ∀ s2 : Int32 → M Unit, (∀ x2 : Int32, Tr X eU 0 0 2 [(0, .ref (cxAd X 161)), (1, .int x1), (2, .int x2)] [] (s2 x2)) → ∀ x2 : Int32, Tr X eU 0 0 2 [(0, .ref (cxAd X 161)), (1, .int x1), (2, .int x2)] [] (f_X9_layRow_2 x1 s2 x2) := by
  intro s2 hs2 x2
  unfold f_X9_layRow_2
  refine tr_iload_n 2 hX dX9_layRow_2 rfl rfl ?_
  refine tr_aload_n 0 hX dX9_layRow_3 rfl rfl ?_
  refine tr_getF hX dX9_layRow_4 sh_161 (by decide) rfl inlX9 (by decide) rfl (hS.g (Nat.le_of_ble_eq_true rfl)) cr_161_6 k_6_16 mq_161 ?_
  refine tr_iload_n 1 hX dX9_layRow_7 rfl rfl ?_
  refine tr_iald hX dX9_layRow_8 sh_167 (hS.e (Nat.le_of_ble_eq_true rfl)) (fun hb2 v1 => ?_)
  refine tr_ic_ge 35 hX dX9_layRow_9 (by decide) (fun c5 => ?_) (fun c5 => ?_)
  · exact tr_vret0 hX hS dX9_layRow_35
  · refine tr_aload_n 0 hX dX9_layRow_12 rfl rfl ?_
    refine tr_getF hX dX9_layRow_13 sh_161 (by decide) rfl inlX9 (by decide) rfl (hS.g (Nat.le_of_ble_eq_true rfl)) cr_161_26 k_7_6 mq_161 ?_
    refine tr_iload_n 2 hX dX9_layRow_16 rfl rfl ?_
    refine tr_aload_n 0 hX dX9_layRow_17 rfl rfl ?_
    refine tr_getF hX dX9_layRow_18 sh_161 (by decide) rfl inlX9 (by decide) rfl (hS.g (Nat.le_of_ble_eq_true rfl)) cr_161_7 k_6_17 mq_161 ?_
    refine tr_bipush 8 hX dX9_layRow_21 (by decide) ?_
    refine tr_iload_n 1 hX dX9_layRow_23 rfl rfl ?_
    refine tr_imul hX dX9_layRow_24 ?_
    refine tr_iload_n 2 hX dX9_layRow_25 rfl rfl ?_
    refine tr_iadd hX dX9_layRow_26 ?_
    refine tr_iald hX dX9_layRow_27 sh_168 (hS.e (Nat.le_of_ble_eq_true rfl)) (fun hb4 v3 => ?_)
    refine tr_iast hX dX9_layRow_28 sh_181 (hS.e (Nat.le_of_ble_eq_true rfl)) (fun _ => ?_)
    refine tr_iinc (x2 + 1) 2 hX dX9_layRow_29 rfl (congrArg (fun z => x2 + z) (by decide)) (hS.n (by decide)) rfl ?_
    refine tr_goto 2 hX dX9_layRow_32 (by decide) ?_
    exact tr_sub [1, 2, 0] rfl (hs2 (x2 + 1))
def f_X9_layRow (x1 : Int32) : M Unit :=
  fix1 FU (f_X9_layRow_2 x1) 0
set_option maxRecDepth 10000 in
set_option maxHeartbeats 4000000 in
theorem t_X9_layRow_0 {X : Cx} (hX : Good X RX9 cX9_layRow (none)) (hS : Sta X 0 0 3) (x1 : Int32) : Tr X eU 0 0 0 [(0, .ref (cxAd X 161)), (1, .int x1)] [] (f_X9_layRow x1) := by
  unfold f_X9_layRow
  refine tr_iconst 0 hX dX9_layRow_0 (by decide) ?_
  refine tr_istore_n hX dX9_layRow_1 rfl (hS.n (by decide)) rfl ?_
  exact tr_sub [1, 2, 0] rfl (tr_fix1 (lvf := fun x2 => [(0, .ref (cxAd X 161)), (1, .int x1), (2, .int x2)]) (t_X9_layRow_2 hX hS x1) FU 0)
theorem ok_X9_layRow {l : Launch} {E : Ev} (x1 : Int32)  : Ok l E Gall yX9_layRow cX9_layRow 3 (none) (rmz 0 0) eU [.ref (E.2.1 161), .int x1] (f_X9_layRow x1) := by
  refine ok_of0 (by decide) (Nat.le_of_ble_eq_true rfl) (fun X hX hV hS => ?_)
  subst hV
  exact t_X9_layRow_0 hX hS x1
def f_X9_said_19  : M Int32 :=
  rt (-1)
set_option maxRecDepth 10000 in
set_option maxHeartbeats 4000000 in
theorem t_X9_said_19 {X : Cx} (hX : Good X RX9 cX9_said ((some .int))) (hS : Sta X 5 111 4) : Tr X eI 0 0 19 [] [] (f_X9_said_19) := by
  unfold f_X9_said_19
  refine tr_iconst (-1) hX dX9_said_19 (by decide) ?_
  exact tr_iret0 hX hS dX9_said_20
def f_X9_said_80 (p0 : Int32) : M Int32 :=
  rt p0
set_option maxRecDepth 10000 in
set_option maxHeartbeats 4000000 in
theorem t_X9_said_80 {X : Cx} (hX : Good X RX9 cX9_said ((some .int))) (hS : Sta X 5 111 4) (p0 : Int32) : Tr X eI 0 0 80 [] [.int p0] (f_X9_said_80 p0) := by
  unfold f_X9_said_80
  exact tr_iret0 hX hS dX9_said_80
def f_X9_said (x1 : Int32) (x2 : Int32) (x3 : Int32) : M Int32 :=
  bnd (f_X9_isVerse x1) (fun v1 => if v1 = 0 then (f_X9_said_19) else (bnd (f_X9_isWay x2) (fun v2 => if v2 = 0 then (f_X9_said_19) else (if (-1) ≤ x3 then (aI 167 18 x1 (fun v3 => if v3 = 0 then (rt (-2)) else (aI 167 18 x1 (fun v5 => bnd (f_X9_layWays (1 <<< (x2 &&& 31)) v5) (fun _ => bnd (f_X9_layRow x1) (fun _ => if 0 ≤ x3 then (rI 161 19 (fun v9 => if v9 ≤ x3 then (f_X9_said_80 (-4)) else (bnd (f_X9_tokenAt x3) (fun v10 => f_X9_said_80 v10)))) else (rI 161 19 (fun v12 => f_X9_said_80 v12)))))))) else (f_X9_said_19)))))
set_option maxRecDepth 10000 in
set_option maxHeartbeats 4000000 in
theorem t_X9_said_0 {X : Cx} (hX : Good X RX9 cX9_said ((some .int))) (hS : Sta X 5 111 4) (x1 : Int32) (x2 : Int32) (x3 : Int32) : Tr X eI 0 0 0 [(0, .ref (cxAd X 161)), (1, .int x1), (2, .int x2), (3, .int x3)] [] (f_X9_said x1 x2 x3) := by
  unfold f_X9_said
  refine tr_iload_n 1 hX dX9_said_0 rfl rfl ?_
  refine tr_callS0I (st := []) 1 hX hS dX9_said_1 (ok_X9_isVerse x1) k_13_12 k_13_13 k_1_5 k_13_14 hy_X9_isVerse.2 rfl rfl (Nat.le_of_ble_eq_true rfl) rfl (fun v1 => ?_)
  refine tr_if_eq 19 hX dX9_said_4 (by decide) (fun c17 => ?_) (fun c17 => ?_)
  · exact tr_sub [] rfl (t_X9_said_19 hX hS)
  · refine tr_iload_n 2 hX dX9_said_7 rfl rfl ?_
    refine tr_callS0I (st := []) 1 hX hS dX9_said_8 (ok_X9_isWay x2) k_16_9 k_16_10 k_1_5 k_16_11 hy_X9_isWay.2 rfl rfl (Nat.le_of_ble_eq_true rfl) rfl (fun v2 => ?_)
    refine tr_if_eq 19 hX dX9_said_11 (by decide) (fun c16 => ?_) (fun c16 => ?_)
    · exact tr_sub [] rfl (t_X9_said_19 hX hS)
    · refine tr_iload_n 3 hX dX9_said_14 rfl rfl ?_
      refine tr_iconst (-1) hX dX9_said_15 (by decide) ?_
      refine tr_ic_ge 21 hX dX9_said_16 (by decide) (fun c15 => ?_) (fun c15 => ?_)
      · refine tr_aload_n 0 hX dX9_said_21 rfl rfl ?_
        refine tr_getF hX dX9_said_22 sh_161 (by decide) rfl inlX9 (by decide) rfl (hS.g (Nat.le_of_ble_eq_true rfl)) cr_161_6 k_6_16 mq_161 ?_
        refine tr_iload_n 1 hX dX9_said_25 rfl rfl ?_
        refine tr_iald hX dX9_said_26 sh_167 (hS.e (Nat.le_of_ble_eq_true rfl)) (fun hb4 v3 => ?_)
        refine tr_if_ne 33 hX dX9_said_27 (by decide) (fun c14 => ?_) (fun c14 => ?_)
        · refine tr_bipush (-2) hX dX9_said_30 (by decide) ?_
          exact tr_iret0 hX hS dX9_said_32
        · refine tr_aload_n 0 hX dX9_said_33 rfl rfl ?_
          refine tr_iconst 1 hX dX9_said_34 (by decide) ?_
          refine tr_iload_n 2 hX dX9_said_35 rfl rfl ?_
          refine tr_ishl hX dX9_said_36 ?_
          refine tr_aload_n 0 hX dX9_said_37 rfl rfl ?_
          refine tr_getF hX dX9_said_38 sh_161 (by decide) rfl inlX9 (by decide) rfl (hS.g (Nat.le_of_ble_eq_true rfl)) cr_161_6 k_6_16 mq_161 ?_
          refine tr_iload_n 1 hX dX9_said_41 rfl rfl ?_
          refine tr_iald hX dX9_said_42 sh_167 (hS.e (Nat.le_of_ble_eq_true rfl)) (fun hb6 v5 => ?_)
          refine tr_callV0U (st := []) 2 hX hS dX9_said_43 (ok_X9_layWays (1 <<< (x2 &&& 31)) v5) sh_161 (by decide) rfl (Nat.le_of_ble_eq_true rfl) k_16_12 k_16_13 k_16_14 k_1_5 k_16_15 hy_X9_layWays rfl rfl (Nat.le_of_ble_eq_true rfl) rfl (fun _ => ?_)
          refine tr_aload_n 0 hX dX9_said_46 rfl rfl ?_
          refine tr_iload_n 1 hX dX9_said_47 rfl rfl ?_
          refine tr_callV0U (st := []) 1 hX hS dX9_said_48 (ok_X9_layRow x1) sh_161 (by decide) rfl (Nat.le_of_ble_eq_true rfl) k_17_19 k_17_20 k_17_21 k_1_5 k_17_22 hy_X9_layRow rfl rfl (Nat.le_of_ble_eq_true rfl) rfl (fun _ => ?_)
          refine tr_iload_n 3 hX dX9_said_51 rfl rfl ?_
          refine tr_if_ge 62 hX dX9_said_52 (by decide) (fun c13 => ?_) (fun c13 => ?_)
          · refine tr_iload_n 3 hX dX9_said_62 rfl rfl ?_
            refine tr_aload_n 0 hX dX9_said_63 rfl rfl ?_
            refine tr_getI hX dX9_said_64 sh_161 (by decide) rfl inlX9 (by decide) rfl (hS.e (Nat.le_of_ble_eq_true rfl)) k_16_8 (fun v9 => ?_)
            refine tr_ic_ge 78 hX dX9_said_67 (by decide) (fun c11 => ?_) (fun c11 => ?_)
            · refine tr_bipush (-4) hX dX9_said_78 (by decide) ?_
              exact tr_sub [] rfl (t_X9_said_80 hX hS (-4))
            · refine tr_aload_n 0 hX dX9_said_70 rfl rfl ?_
              refine tr_iload_n 3 hX dX9_said_71 rfl rfl ?_
              refine tr_callV0I (st := []) 1 hX hS dX9_said_72 (ok_X9_tokenAt x3) sh_161 (by decide) rfl (Nat.le_of_ble_eq_true rfl) k_17_23 k_18_0 k_18_1 k_1_5 k_18_2 hy_X9_tokenAt rfl rfl (Nat.le_of_ble_eq_true rfl) rfl (fun v10 => ?_)
              refine tr_goto 80 hX dX9_said_75 (by decide) ?_
              exact tr_sub [] rfl (t_X9_said_80 hX hS v10)
          · refine tr_aload_n 0 hX dX9_said_55 rfl rfl ?_
            refine tr_getI hX dX9_said_56 sh_161 (by decide) rfl inlX9 (by decide) rfl (hS.e (Nat.le_of_ble_eq_true rfl)) k_16_8 (fun v12 => ?_)
            refine tr_goto 80 hX dX9_said_59 (by decide) ?_
            exact tr_sub [] rfl (t_X9_said_80 hX hS v12)
      · exact tr_sub [] rfl (t_X9_said_19 hX hS)
theorem ok_X9_said {l : Launch} {E : Ev} (x1 : Int32) (x2 : Int32) (x3 : Int32)  : Ok l E Gall yX9_said cX9_said 4 ((some .int)) (rmz 5 111) eI [.ref (E.2.1 161), .int x1, .int x2, .int x3] (f_X9_said x1 x2 x3) := by
  refine ok_of0 (by decide) (Nat.le_of_ble_eq_true rfl) (fun X hX hV hS => ?_)
  subst hV
  exact t_X9_said_0 hX hS x1 x2 x3
def f_X9_say_14  : M Int32 :=
  rt (-1)
set_option maxRecDepth 10000 in
set_option maxHeartbeats 4000000 in
theorem t_X9_say_14 {X : Cx} (hX : Good X RX9 cX9_say ((some .int))) (hS : Sta X 5 111 4) : Tr X eI 0 0 14 [] [] (f_X9_say_14) := by
  unfold f_X9_say_14
  refine tr_iconst (-1) hX dX9_say_14 (by decide) ?_
  exact tr_iret0 hX hS dX9_say_15
def f_X9_say_77 (s77 : Int32 → M Int32) (x3 : Int32) : M Int32 :=
  rI 161 19 (fun v1 => if v1 ≤ x3 then (rI 161 19 (fun v2 => rt v2)) else (bnd (f_X9_tokenAt x3) (fun v3 => sI 172 252 x3 v3 (s77 (x3 + 1)))))
set_option maxRecDepth 10000 in
set_option maxHeartbeats 4000000 in
theorem t_X9_say_77 {X : Cx} (hX : Good X RX9 cX9_say ((some .int))) (hS : Sta X 5 111 4) : ∀ s77 : Int32 → M Int32, (∀ x3 : Int32, Tr X eI 0 0 77 [(0, .ref (cxAd X 161)), (3, .int x3)] [] (s77 x3)) → ∀ x3 : Int32, Tr X eI 0 0 77 [(0, .ref (cxAd X 161)), (3, .int x3)] [] (f_X9_say_77 s77 x3) := by
  intro s77 hs77 x3
  unfold f_X9_say_77
  refine tr_iload_n 1 hX dX9_say_77 rfl rfl ?_
  refine tr_aload_n 0 hX dX9_say_78 rfl rfl ?_
  refine tr_getI hX dX9_say_79 sh_161 (by decide) rfl inlX9 (by decide) rfl (hS.e (Nat.le_of_ble_eq_true rfl)) k_16_8 (fun v1 => ?_)
  refine tr_ic_ge 102 hX dX9_say_82 (by decide) (fun c4 => ?_) (fun c4 => ?_)
  · refine tr_aload_n 0 hX dX9_say_102 rfl rfl ?_
    refine tr_getI hX dX9_say_103 sh_161 (by decide) rfl inlX9 (by decide) rfl (hS.e (Nat.le_of_ble_eq_true rfl)) k_16_8 (fun v2 => ?_)
    exact tr_iret0 hX hS dX9_say_106
  · refine tr_aload_n 0 hX dX9_say_85 rfl rfl ?_
    refine tr_getF hX dX9_say_86 sh_161 (by decide) rfl inlX9 (by decide) rfl (hS.g (Nat.le_of_ble_eq_true rfl)) cr_161_11 k_6_21 mq_161 ?_
    refine tr_iload_n 1 hX dX9_say_89 rfl rfl ?_
    refine tr_aload_n 0 hX dX9_say_90 rfl rfl ?_
    refine tr_iload_n 1 hX dX9_say_91 rfl rfl ?_
    refine tr_callV0I (st := [.int x3, .ref (cxAd X 172)]) 1 hX hS dX9_say_92 (ok_X9_tokenAt x3) sh_161 (by decide) rfl (Nat.le_of_ble_eq_true rfl) k_17_23 k_18_0 k_18_1 k_1_5 k_18_2 hy_X9_tokenAt rfl rfl (Nat.le_of_ble_eq_true rfl) rfl (fun v3 => ?_)
    refine tr_iast hX dX9_say_95 sh_172 (hS.e (Nat.le_of_ble_eq_true rfl)) (fun _ => ?_)
    refine tr_iinc (x3 + 1) 1 hX dX9_say_96 rfl (congrArg (fun z => x3 + z) (by decide)) (hS.n (by decide)) rfl ?_
    refine tr_goto 77 hX dX9_say_99 (by decide) ?_
    exact tr_sub [1, 0] rfl (hs77 (x3 + 1))
def f_X9_say (x1 : Int32) (x2 : Int32) : M Int32 :=
  bnd (f_X9_isVerse x1) (fun v1 => if v1 = 0 then (f_X9_say_14) else (bnd (f_X9_isWay x2) (fun v2 => if v2 = 0 then (f_X9_say_14) else (aI 167 18 x1 (fun v3 => if v3 = 0 then (rt (-2)) else (aI 167 18 x1 (fun v5 => bnd (f_X9_layWays (1 <<< (x2 &&& 31)) v5) (fun _ => bnd (f_X9_layRow x1) (fun _ => rI 161 19 (fun v9 => sI 169 3 0 v9 (sI 170 3 0 x2 (aI 167 18 x1 (fun v10 => sI 171 3 0 v10 (fix1 FU (f_X9_say_77) 0))))))))))))))
set_option maxRecDepth 10000 in
set_option maxHeartbeats 4000000 in
theorem t_X9_say_0 {X : Cx} (hX : Good X RX9 cX9_say ((some .int))) (hS : Sta X 5 111 4) (x1 : Int32) (x2 : Int32) : Tr X eI 0 0 0 [(0, .ref (cxAd X 161)), (1, .int x1), (2, .int x2)] [] (f_X9_say x1 x2) := by
  unfold f_X9_say
  refine tr_iload_n 1 hX dX9_say_0 rfl rfl ?_
  refine tr_callS0I (st := []) 1 hX hS dX9_say_1 (ok_X9_isVerse x1) k_13_12 k_13_13 k_1_5 k_13_14 hy_X9_isVerse.2 rfl rfl (Nat.le_of_ble_eq_true rfl) rfl (fun v1 => ?_)
  refine tr_if_eq 14 hX dX9_say_4 (by decide) (fun c14 => ?_) (fun c14 => ?_)
  · exact tr_sub [] rfl (t_X9_say_14 hX hS)
  · refine tr_iload_n 2 hX dX9_say_7 rfl rfl ?_
    refine tr_callS0I (st := []) 1 hX hS dX9_say_8 (ok_X9_isWay x2) k_16_9 k_16_10 k_1_5 k_16_11 hy_X9_isWay.2 rfl rfl (Nat.le_of_ble_eq_true rfl) rfl (fun v2 => ?_)
    refine tr_if_ne 16 hX dX9_say_11 (by decide) (fun c13 => ?_) (fun c13 => ?_)
    · exact tr_sub [] rfl (t_X9_say_14 hX hS)
    · refine tr_aload_n 0 hX dX9_say_16 rfl rfl ?_
      refine tr_getF hX dX9_say_17 sh_161 (by decide) rfl inlX9 (by decide) rfl (hS.g (Nat.le_of_ble_eq_true rfl)) cr_161_6 k_6_16 mq_161 ?_
      refine tr_iload_n 1 hX dX9_say_20 rfl rfl ?_
      refine tr_iald hX dX9_say_21 sh_167 (hS.e (Nat.le_of_ble_eq_true rfl)) (fun hb4 v3 => ?_)
      refine tr_if_ne 28 hX dX9_say_22 (by decide) (fun c12 => ?_) (fun c12 => ?_)
      · refine tr_bipush (-2) hX dX9_say_25 (by decide) ?_
        exact tr_iret0 hX hS dX9_say_27
      · refine tr_aload_n 0 hX dX9_say_28 rfl rfl ?_
        refine tr_iconst 1 hX dX9_say_29 (by decide) ?_
        refine tr_iload_n 2 hX dX9_say_30 rfl rfl ?_
        refine tr_ishl hX dX9_say_31 ?_
        refine tr_aload_n 0 hX dX9_say_32 rfl rfl ?_
        refine tr_getF hX dX9_say_33 sh_161 (by decide) rfl inlX9 (by decide) rfl (hS.g (Nat.le_of_ble_eq_true rfl)) cr_161_6 k_6_16 mq_161 ?_
        refine tr_iload_n 1 hX dX9_say_36 rfl rfl ?_
        refine tr_iald hX dX9_say_37 sh_167 (hS.e (Nat.le_of_ble_eq_true rfl)) (fun hb6 v5 => ?_)
        refine tr_callV0U (st := []) 2 hX hS dX9_say_38 (ok_X9_layWays (1 <<< (x2 &&& 31)) v5) sh_161 (by decide) rfl (Nat.le_of_ble_eq_true rfl) k_16_12 k_16_13 k_16_14 k_1_5 k_16_15 hy_X9_layWays rfl rfl (Nat.le_of_ble_eq_true rfl) rfl (fun _ => ?_)
        refine tr_aload_n 0 hX dX9_say_41 rfl rfl ?_
        refine tr_iload_n 1 hX dX9_say_42 rfl rfl ?_
        refine tr_callV0U (st := []) 1 hX hS dX9_say_43 (ok_X9_layRow x1) sh_161 (by decide) rfl (Nat.le_of_ble_eq_true rfl) k_17_19 k_17_20 k_17_21 k_1_5 k_17_22 hy_X9_layRow rfl rfl (Nat.le_of_ble_eq_true rfl) rfl (fun _ => ?_)
        refine tr_aload_n 0 hX dX9_say_46 rfl rfl ?_
        refine tr_getF hX dX9_say_47 sh_161 (by decide) rfl inlX9 (by decide) rfl (hS.g (Nat.le_of_ble_eq_true rfl)) cr_161_8 k_6_18 mq_161 ?_
        refine tr_iconst 0 hX dX9_say_50 (by decide) ?_
        refine tr_aload_n 0 hX dX9_say_51 rfl rfl ?_
        refine tr_getI hX dX9_say_52 sh_161 (by decide) rfl inlX9 (by decide) rfl (hS.e (Nat.le_of_ble_eq_true rfl)) k_16_8 (fun v9 => ?_)
        refine tr_iast hX dX9_say_55 sh_169 (hS.e (Nat.le_of_ble_eq_true rfl)) (fun _ => ?_)
        refine tr_aload_n 0 hX dX9_say_56 rfl rfl ?_
        refine tr_getF hX dX9_say_57 sh_161 (by decide) rfl inlX9 (by decide) rfl (hS.g (Nat.le_of_ble_eq_true rfl)) cr_161_9 k_6_19 mq_161 ?_
        refine tr_iconst 0 hX dX9_say_60 (by decide) ?_
        refine tr_iload_n 2 hX dX9_say_61 rfl rfl ?_
        refine tr_iast hX dX9_say_62 sh_170 (hS.e (Nat.le_of_ble_eq_true rfl)) (fun _ => ?_)
        refine tr_aload_n 0 hX dX9_say_63 rfl rfl ?_
        refine tr_getF hX dX9_say_64 sh_161 (by decide) rfl inlX9 (by decide) rfl (hS.g (Nat.le_of_ble_eq_true rfl)) cr_161_10 k_6_20 mq_161 ?_
        refine tr_iconst 0 hX dX9_say_67 (by decide) ?_
        refine tr_aload_n 0 hX dX9_say_68 rfl rfl ?_
        refine tr_getF hX dX9_say_69 sh_161 (by decide) rfl inlX9 (by decide) rfl (hS.g (Nat.le_of_ble_eq_true rfl)) cr_161_6 k_6_16 mq_161 ?_
        refine tr_iload_n 1 hX dX9_say_72 rfl rfl ?_
        refine tr_iald hX dX9_say_73 sh_167 (hS.e (Nat.le_of_ble_eq_true rfl)) (fun hb11 v10 => ?_)
        refine tr_iast hX dX9_say_74 sh_171 (hS.e (Nat.le_of_ble_eq_true rfl)) (fun _ => ?_)
        refine tr_iconst 0 hX dX9_say_75 (by decide) ?_
        refine tr_istore_n hX dX9_say_76 rfl (hS.n (by decide)) rfl ?_
        exact tr_sub [1, 0] rfl (tr_fix1 (lvf := fun x3 => [(0, .ref (cxAd X 161)), (3, .int x3)]) (t_X9_say_77 hX hS) FU 0)
theorem ok_X9_say {l : Launch} {E : Ev} (x1 : Int32) (x2 : Int32)  : Ok l E Gall yX9_say cX9_say 4 ((some .int)) (rmz 5 111) eI [.ref (E.2.1 161), .int x1, .int x2] (f_X9_say x1 x2) := by
  refine ok_of0 (by decide) (Nat.le_of_ble_eq_true rfl) (fun X hX hV hS => ?_)
  subst hV
  exact t_X9_say_0 hX hS x1 x2
def f_X9_alter_30  : M Int32 :=
  rt (-1)
set_option maxRecDepth 10000 in
set_option maxHeartbeats 4000000 in
theorem t_X9_alter_30 {X : Cx} (hX : Good X RX9 cX9_alter ((some .int))) (hS : Sta X 1 25 4) : Tr X eI 0 0 30 [] [] (f_X9_alter_30) := by
  unfold f_X9_alter_30
  refine tr_iconst (-1) hX dX9_alter_30 (by decide) ?_
  exact tr_iret0 hX hS dX9_alter_31
def f_X9_alter (x1 : Int32) (x2 : Int32) : M Int32 :=
  aI 169 3 0 (fun v1 => bnd (f_X9_in x1.toInt64 0 (((v1 - 1) : Int32).toInt64)) (fun v3 => if v3 = 0 then (f_X9_alter_30) else (bnd (f_X9_in x2.toInt64 0 1023) (fun v4 => if v4 = 0 then (f_X9_alter_30) else (aI 172 252 x1 (fun v5 => sI 172 252 x1 x2 (rt v5)))))))
set_option maxRecDepth 10000 in
set_option maxHeartbeats 4000000 in
theorem t_X9_alter_0 {X : Cx} (hX : Good X RX9 cX9_alter ((some .int))) (hS : Sta X 1 25 4) (x1 : Int32) (x2 : Int32) : Tr X eI 0 0 0 [(0, .ref (cxAd X 161)), (1, .int x1), (2, .int x2)] [] (f_X9_alter x1 x2) := by
  unfold f_X9_alter
  refine tr_iload_n 1 hX dX9_alter_0 rfl rfl ?_
  refine tr_i2l hX dX9_alter_1 ?_
  refine tr_lconst 0 hX dX9_alter_2 (by decide) ?_
  refine tr_aload_n 0 hX dX9_alter_3 rfl rfl ?_
  refine tr_getF hX dX9_alter_4 sh_161 (by decide) rfl inlX9 (by decide) rfl (hS.g (Nat.le_of_ble_eq_true rfl)) cr_161_8 k_6_18 mq_161 ?_
  refine tr_iconst 0 hX dX9_alter_7 (by decide) ?_
  refine tr_iald hX dX9_alter_8 sh_169 (hS.e (Nat.le_of_ble_eq_true rfl)) (fun hb2 v1 => ?_)
  refine tr_iconst 1 hX dX9_alter_9 (by decide) ?_
  refine tr_isub hX dX9_alter_10 ?_
  refine tr_i2l hX dX9_alter_11 ?_
  refine tr_callS0I (st := []) 3 hX hS dX9_alter_12 (ok_X9_in x1.toInt64 0 (((v1 - 1) : Int32).toInt64)) k_8_8 k_8_9 k_1_5 k_8_10 hy_X9_in.2 rfl rfl (Nat.le_of_ble_eq_true rfl) rfl (fun v3 => ?_)
  refine tr_if_eq 30 hX dX9_alter_15 (by decide) (fun c8 => ?_) (fun c8 => ?_)
  · exact tr_sub [] rfl (t_X9_alter_30 hX hS)
  · refine tr_iload_n 2 hX dX9_alter_18 rfl rfl ?_
    refine tr_i2l hX dX9_alter_19 ?_
    refine tr_lconst 0 hX dX9_alter_20 (by decide) ?_
    refine tr_ldc2 hX dX9_alter_21 k_19_7 ?_
    refine tr_callS0I (st := []) 3 hX hS dX9_alter_24 (ok_X9_in x2.toInt64 0 1023) k_8_8 k_8_9 k_1_5 k_8_10 hy_X9_in.2 rfl rfl (Nat.le_of_ble_eq_true rfl) rfl (fun v4 => ?_)
    refine tr_if_ne 32 hX dX9_alter_27 (by decide) (fun c7 => ?_) (fun c7 => ?_)
    · exact tr_sub [] rfl (t_X9_alter_30 hX hS)
    · refine tr_aload_n 0 hX dX9_alter_32 rfl rfl ?_
      refine tr_getF hX dX9_alter_33 sh_161 (by decide) rfl inlX9 (by decide) rfl (hS.g (Nat.le_of_ble_eq_true rfl)) cr_161_11 k_6_21 mq_161 ?_
      refine tr_iload_n 1 hX dX9_alter_36 rfl rfl ?_
      refine tr_iald hX dX9_alter_37 sh_172 (hS.e (Nat.le_of_ble_eq_true rfl)) (fun hb6 v5 => ?_)
      refine tr_istore_n hX dX9_alter_38 rfl (hS.n (by decide)) rfl ?_
      refine tr_aload_n 1 hX dX9_alter_39 rfl rfl ?_
      refine tr_getF hX dX9_alter_40 sh_161 (by decide) rfl inlX9 (by decide) rfl (hS.g (Nat.le_of_ble_eq_true rfl)) cr_161_11 k_6_21 mq_161 ?_
      refine tr_iload_n 2 hX dX9_alter_43 rfl rfl ?_
      refine tr_iload_n 3 hX dX9_alter_44 rfl rfl ?_
      refine tr_iast hX dX9_alter_45 sh_172 (hS.e (Nat.le_of_ble_eq_true rfl)) (fun _ => ?_)
      refine tr_iload_n 0 hX dX9_alter_46 rfl rfl ?_
      exact tr_iret0 hX hS dX9_alter_47
theorem ok_X9_alter {l : Launch} {E : Ev} (x1 : Int32) (x2 : Int32)  : Ok l E Gall yX9_alter cX9_alter 4 ((some .int)) (rmz 1 25) eI [.ref (E.2.1 161), .int x1, .int x2] (f_X9_alter x1 x2) := by
  refine ok_of0 (by decide) (Nat.le_of_ble_eq_true rfl) (fun X hX hV hS => ?_)
  subst hV
  exact t_X9_alter_0 hX hS x1 x2
def f_X9_unlikeAt_33 (s9 : Int32 → Int32 → M Int32) (x3 : Int32) (p0 : Int32) (p1 : Int32) : M Int32 :=
  nm ((p1 + p0)) (fun v1 => aI 180 168 x3 (fun v2 => s9 v1 v2))
set_option maxRecDepth 10000 in
set_option maxHeartbeats 4000000 in
theorem t_X9_unlikeAt_33 {X : Cx} (hX : Good X RX9 cX9_unlikeAt ((some .int))) (hS : Sta X 2 48 4) (s9 : Int32 → Int32 → M Int32) (x3 : Int32) (p0 : Int32) (p1 : Int32) (hs9 : ∀ x2 : Int32, ∀ x3 : Int32, Tr X eI 0 0 9 [(0, .ref (cxAd X 161)), (2, .int x2), (3, .int x3)] [] (s9 x2 x3)) : Tr X eI 0 0 33 [(0, .ref (cxAd X 161)), (3, .int x3)] [.int p0, .int p1] (f_X9_unlikeAt_33 s9 x3 p0 p1) := by
  unfold f_X9_unlikeAt_33
  refine tr_iadd hX dX9_unlikeAt_33 ?_
  refine tr_nm (fun v1 ev1 => ?_)
  refine tr_istore_n hX dX9_unlikeAt_34 rfl (hS.n (by decide)) rfl ?_
  refine tr_aload_n 1 hX dX9_unlikeAt_35 rfl rfl ?_
  refine tr_getF hX dX9_unlikeAt_36 sh_161 (by decide) rfl inlX9 (by decide) rfl (hS.g (Nat.le_of_ble_eq_true rfl)) cr_161_25 k_7_5 mq_161 ?_
  refine tr_iload_n 2 hX dX9_unlikeAt_39 rfl rfl ?_
  refine tr_iald hX dX9_unlikeAt_40 sh_180 (hS.e (Nat.le_of_ble_eq_true rfl)) (fun hb3 v2 => ?_)
  refine tr_istore_n hX dX9_unlikeAt_41 rfl (hS.n (by decide)) rfl ?_
  refine tr_goto 9 hX dX9_unlikeAt_42 (by decide) ?_
  exact tr_sub [2, 1, 0] rfl (hs9 v1 v2)
def f_X9_unlikeAt_9 (s9 : Int32 → Int32 → M Int32) (x2 : Int32) (x3 : Int32) : M Int32 :=
  if x3 < 0 then (rt x2) else (bnd (f_X9_tokenAt x3) (fun v1 => aI 182 168 x3 (fun v2 => if v1 = v2 then (f_X9_unlikeAt_33 s9 x3 0 x2) else (f_X9_unlikeAt_33 s9 x3 1 x2))))
set_option maxRecDepth 10000 in
set_option maxHeartbeats 4000000 in
theorem t_X9_unlikeAt_9 {X : Cx} (hX : Good X RX9 cX9_unlikeAt ((some .int))) (hS : Sta X 2 48 4) : ∀ s9 : Int32 → Int32 → M Int32, (∀ x2 : Int32, ∀ x3 : Int32, Tr X eI 0 0 9 [(0, .ref (cxAd X 161)), (2, .int x2), (3, .int x3)] [] (s9 x2 x3)) → ∀ x2 : Int32, ∀ x3 : Int32, Tr X eI 0 0 9 [(0, .ref (cxAd X 161)), (2, .int x2), (3, .int x3)] [] (f_X9_unlikeAt_9 s9 x2 x3) := by
  intro s9 hs9 x2 x3
  unfold f_X9_unlikeAt_9
  refine tr_iload_n 2 hX dX9_unlikeAt_9 rfl rfl ?_
  refine tr_if_lt 45 hX dX9_unlikeAt_10 (by decide) (fun c5 => ?_) (fun c5 => ?_)
  · refine tr_iload_n 1 hX dX9_unlikeAt_45 rfl rfl ?_
    exact tr_iret0 hX hS dX9_unlikeAt_46
  · refine tr_iload_n 1 hX dX9_unlikeAt_13 rfl rfl ?_
    refine tr_aload_n 0 hX dX9_unlikeAt_14 rfl rfl ?_
    refine tr_iload_n 2 hX dX9_unlikeAt_15 rfl rfl ?_
    refine tr_callV0I (st := [.int x2]) 1 hX hS dX9_unlikeAt_16 (ok_X9_tokenAt x3) sh_161 (by decide) rfl (Nat.le_of_ble_eq_true rfl) k_17_23 k_18_0 k_18_1 k_1_5 k_18_2 hy_X9_tokenAt rfl rfl (Nat.le_of_ble_eq_true rfl) rfl (fun v1 => ?_)
    refine tr_aload_n 0 hX dX9_unlikeAt_19 rfl rfl ?_
    refine tr_getF hX dX9_unlikeAt_20 sh_161 (by decide) rfl inlX9 (by decide) rfl (hS.g (Nat.le_of_ble_eq_true rfl)) cr_161_27 k_7_7 mq_161 ?_
    refine tr_iload_n 2 hX dX9_unlikeAt_23 rfl rfl ?_
    refine tr_iald hX dX9_unlikeAt_24 sh_182 (hS.e (Nat.le_of_ble_eq_true rfl)) (fun hb3 v2 => ?_)
    refine tr_ic_eq 32 hX dX9_unlikeAt_25 (by decide) (fun c4 => ?_) (fun c4 => ?_)
    · refine tr_iconst 0 hX dX9_unlikeAt_32 (by decide) ?_
      exact tr_sub [0, 2] rfl (t_X9_unlikeAt_33 hX hS s9 x3 0 x2 hs9)
    · refine tr_iconst 1 hX dX9_unlikeAt_28 (by decide) ?_
      refine tr_goto 33 hX dX9_unlikeAt_29 (by decide) ?_
      exact tr_sub [0, 2] rfl (t_X9_unlikeAt_33 hX hS s9 x3 1 x2 hs9)
def f_X9_unlikeAt (x1 : Int32) : M Int32 :=
  aI 179 8 x1 (fun v1 => fix2 FU (f_X9_unlikeAt_9) 0 v1)
set_option maxRecDepth 10000 in
set_option maxHeartbeats 4000000 in
theorem t_X9_unlikeAt_0 {X : Cx} (hX : Good X RX9 cX9_unlikeAt ((some .int))) (hS : Sta X 2 48 4) (x1 : Int32) : Tr X eI 0 0 0 [(0, .ref (cxAd X 161)), (1, .int x1)] [] (f_X9_unlikeAt x1) := by
  unfold f_X9_unlikeAt
  refine tr_iconst 0 hX dX9_unlikeAt_0 (by decide) ?_
  refine tr_istore_n hX dX9_unlikeAt_1 rfl (hS.n (by decide)) rfl ?_
  refine tr_aload_n 1 hX dX9_unlikeAt_2 rfl rfl ?_
  refine tr_getF hX dX9_unlikeAt_3 sh_161 (by decide) rfl inlX9 (by decide) rfl (hS.g (Nat.le_of_ble_eq_true rfl)) cr_161_24 k_7_4 mq_161 ?_
  refine tr_iload_n 2 hX dX9_unlikeAt_6 rfl rfl ?_
  refine tr_iald hX dX9_unlikeAt_7 sh_179 (hS.e (Nat.le_of_ble_eq_true rfl)) (fun hb2 v1 => ?_)
  refine tr_istore_n hX dX9_unlikeAt_8 rfl (hS.n (by decide)) rfl ?_
  exact tr_sub [2, 1, 0] rfl (tr_fix2 (lvf := fun x2 x3 => [(0, .ref (cxAd X 161)), (2, .int x2), (3, .int x3)]) (t_X9_unlikeAt_9 hX hS) FU 0 v1)
theorem ok_X9_unlikeAt {l : Launch} {E : Ev} (x1 : Int32)  : Ok l E Gall yX9_unlikeAt cX9_unlikeAt 4 ((some .int)) (rmz 2 48) eI [.ref (E.2.1 161), .int x1] (f_X9_unlikeAt x1) := by
  refine ok_of0 (by decide) (Nat.le_of_ble_eq_true rfl) (fun X hX hV hS => ?_)
  subst hV
  exact t_X9_unlikeAt_0 hX hS x1
def f_X9_at (x0 : Int32) (x1 : Int32) (x2 : Int32) : M Int32 :=
  rt (((256 * x0) + (16 * x1)) + x2)
set_option maxRecDepth 10000 in
set_option maxHeartbeats 4000000 in
theorem t_X9_at_0 {X : Cx} (hX : Good X RX9 cX9_at ((some .int))) (hS : Sta X 0 0 3) (x0 : Int32) (x1 : Int32) (x2 : Int32) : Tr X eI 0 0 0 [(0, .int x0), (1, .int x1), (2, .int x2)] [] (f_X9_at x0 x1 x2) := by
  unfold f_X9_at
  refine tr_sipush 256 hX dX9_at_0 (by decide) ?_
  refine tr_iload_n 0 hX dX9_at_3 rfl rfl ?_
  refine tr_imul hX dX9_at_4 ?_
  refine tr_bipush 16 hX dX9_at_5 (by decide) ?_
  refine tr_iload_n 1 hX dX9_at_7 rfl rfl ?_
  refine tr_imul hX dX9_at_8 ?_
  refine tr_iadd hX dX9_at_9 ?_
  refine tr_iload_n 2 hX dX9_at_10 rfl rfl ?_
  refine tr_iadd hX dX9_at_11 ?_
  exact tr_iret0 hX hS dX9_at_12
theorem ok_X9_at {l : Launch} {E : Ev} (x0 : Int32) (x1 : Int32) (x2 : Int32)  : Ok l E Gall yX9_at cX9_at 3 ((some .int)) (rmz 0 0) eI [.int x0, .int x1, .int x2] (f_X9_at x0 x1 x2) := by
  refine ok_of0 (by decide) (Nat.le_of_ble_eq_true rfl) (fun X hX hV hS => ?_)
  subst hV
  exact t_X9_at_0 hX hS x0 x1 x2
def f_X9_layState_242 (s63 : Int32 → M Unit) (x1 : Int32) (x3 : Int32) (x4 : Int32) (x5 : Int32) (p0 : Int32) (p1 : Int32) : M Unit :=
  sI 183 2304 p1 p0 (s63 (x5 + 1))
set_option maxRecDepth 10000 in
set_option maxHeartbeats 4000000 in
theorem t_X9_layState_242 {X : Cx} (hX : Good X RX9 cX9_layState (none)) (hS : Sta X 3 71 9) (s63 : Int32 → M Unit) (x1 : Int32) (x3 : Int32) (x4 : Int32) (x5 : Int32) (p0 : Int32) (p1 : Int32) (hs63 : ∀ x5 : Int32, Tr X eU 0 0 63 [(0, .ref (cxAd X 161)), (1, .int x1), (3, .int x3), (4, .int x4), (5, .int x5)] [] (s63 x5)) : Tr X eU 0 0 242 [(0, .ref (cxAd X 161)), (1, .int x1), (3, .int x3), (4, .int x4), (5, .int x5)] [.int p0, .int p1, .ref (cxAd X 183)] (f_X9_layState_242 s63 x1 x3 x4 x5 p0 p1) := by
  unfold f_X9_layState_242
  refine tr_iast hX dX9_layState_242 sh_183 (hS.e (Nat.le_of_ble_eq_true rfl)) (fun _ => ?_)
  refine tr_iinc (x5 + 1) 4 hX dX9_layState_243 rfl (congrArg (fun z => x5 + z) (by decide)) (hS.n (by decide)) rfl ?_
  refine tr_goto 63 hX dX9_layState_246 (by decide) ?_
  exact tr_sub [1, 2, 3, 4, 0] rfl (hs63 (x5 + 1))
def f_X9_layState_211 (s63 : Int32 → M Unit) (x1 : Int32) (x3 : Int32) (x4 : Int32) (x5 : Int32) (x8 : Int32) (p0 : Int64) (p1 : Int32) : M Unit :=
  sL 184 2304 p1 p0 (aI 183 2304 x4 (fun v1 => if v1 ≤ x8 then (aI 183 2304 x4 (fun v3 => f_X9_layState_242 s63 x1 x3 x4 x5 v3 x4)) else (f_X9_layState_242 s63 x1 x3 x4 x5 x8 x4)))
set_option maxRecDepth 10000 in
set_option maxHeartbeats 4000000 in
theorem t_X9_layState_211 {X : Cx} (hX : Good X RX9 cX9_layState (none)) (hS : Sta X 3 71 9) (s63 : Int32 → M Unit) (x1 : Int32) (x3 : Int32) (x4 : Int32) (x5 : Int32) (x8 : Int32) (p0 : Int64) (p1 : Int32) (hs63 : ∀ x5 : Int32, Tr X eU 0 0 63 [(0, .ref (cxAd X 161)), (1, .int x1), (3, .int x3), (4, .int x4), (5, .int x5)] [] (s63 x5)) : Tr X eU 0 0 211 [(0, .ref (cxAd X 161)), (1, .int x1), (3, .int x3), (4, .int x4), (5, .int x5), (8, .int x8)] [.long p0, .int p1, .ref (cxAd X 184)] (f_X9_layState_211 s63 x1 x3 x4 x5 x8 p0 p1) := by
  unfold f_X9_layState_211
  refine tr_last hX dX9_layState_211 sh_184 (hS.e (Nat.le_of_ble_eq_true rfl)) (fun _ => ?_)
  refine tr_aload_n 0 hX dX9_layState_212 rfl rfl ?_
  refine tr_getF hX dX9_layState_213 sh_161 (by decide) rfl inlX9 (by decide) rfl (hS.g (Nat.le_of_ble_eq_true rfl)) cr_161_28 k_7_8 mq_161 ?_
  refine tr_iload 3 hX dX9_layState_216 rfl ?_
  refine tr_iload 5 hX dX9_layState_218 rfl ?_
  refine tr_aload_n 0 hX dX9_layState_220 rfl rfl ?_
  refine tr_getF hX dX9_layState_221 sh_161 (by decide) rfl inlX9 (by decide) rfl (hS.g (Nat.le_of_ble_eq_true rfl)) cr_161_28 k_7_8 mq_161 ?_
  refine tr_iload 3 hX dX9_layState_224 rfl ?_
  refine tr_iald hX dX9_layState_226 sh_183 (hS.e (Nat.le_of_ble_eq_true rfl)) (fun hb2 v1 => ?_)
  refine tr_ic_ge 235 hX dX9_layState_227 (by decide) (fun c5 => ?_) (fun c5 => ?_)
  · refine tr_aload_n 0 hX dX9_layState_235 rfl rfl ?_
    refine tr_getF hX dX9_layState_236 sh_161 (by decide) rfl inlX9 (by decide) rfl (hS.g (Nat.le_of_ble_eq_true rfl)) cr_161_28 k_7_8 mq_161 ?_
    refine tr_iload 3 hX dX9_layState_239 rfl ?_
    refine tr_iald hX dX9_layState_241 sh_183 (hS.e (Nat.le_of_ble_eq_true rfl)) (fun hb4 v3 => ?_)
    exact tr_sub [0, 1, 2, 3, 4] rfl (t_X9_layState_242 hX hS s63 x1 x3 x4 x5 v3 x4 hs63)
  · refine tr_iload 5 hX dX9_layState_230 rfl ?_
    refine tr_goto 242 hX dX9_layState_232 (by decide) ?_
    exact tr_sub [0, 1, 2, 3, 4] rfl (t_X9_layState_242 hX hS s63 x1 x3 x4 x5 x8 x4 hs63)
def f_X9_layState_144 (s63 : Int32 → M Unit) (x1 : Int32) (x3 : Int32) (x4 : Int32) (x5 : Int32) (x7 : Int32) (x8 : Int32) (p0 : Int64) (p1 : Int64) (p2 : Int32) : M Unit :=
  sL 185 2304 p2 (p1 + p0) (aI 183 2304 x4 (fun v1 => if v1 ≤ x8 then (aI 183 2304 x4 (fun v3 => if x8 = v3 then (aL 184 2304 x4 (fun v5 => aL 184 2304 x7 (fun v7 => f_X9_layState_211 s63 x1 x3 x4 x5 x8 (v5 + v7) x4))) else (aL 184 2304 x4 (fun v9 => f_X9_layState_211 s63 x1 x3 x4 x5 x8 v9 x4)))) else (aL 184 2304 x7 (fun v12 => f_X9_layState_211 s63 x1 x3 x4 x5 x8 v12 x4))))
set_option maxRecDepth 10000 in
set_option maxHeartbeats 4000000 in
theorem t_X9_layState_144 {X : Cx} (hX : Good X RX9 cX9_layState (none)) (hS : Sta X 3 71 9) (s63 : Int32 → M Unit) (x1 : Int32) (x3 : Int32) (x4 : Int32) (x5 : Int32) (x7 : Int32) (x8 : Int32) (p0 : Int64) (p1 : Int64) (p2 : Int32) (hs63 : ∀ x5 : Int32, Tr X eU 0 0 63 [(0, .ref (cxAd X 161)), (1, .int x1), (3, .int x3), (4, .int x4), (5, .int x5)] [] (s63 x5)) : Tr X eU 0 0 144 [(0, .ref (cxAd X 161)), (1, .int x1), (3, .int x3), (4, .int x4), (5, .int x5), (7, .int x7), (8, .int x8)] [.long p0, .long p1, .int p2, .ref (cxAd X 185)] (f_X9_layState_144 s63 x1 x3 x4 x5 x7 x8 p0 p1 p2) := by
  unfold f_X9_layState_144
  refine tr_ladd hX dX9_layState_144 ?_
  refine tr_last hX dX9_layState_145 sh_185 (hS.e (Nat.le_of_ble_eq_true rfl)) (fun _ => ?_)
  refine tr_aload_n 0 hX dX9_layState_146 rfl rfl ?_
  refine tr_getF hX dX9_layState_147 sh_161 (by decide) rfl inlX9 (by decide) rfl (hS.g (Nat.le_of_ble_eq_true rfl)) cr_161_29 k_7_9 mq_161 ?_
  refine tr_iload 3 hX dX9_layState_150 rfl ?_
  refine tr_iload 6 hX dX9_layState_152 rfl ?_
  refine tr_aload_n 0 hX dX9_layState_154 rfl rfl ?_
  refine tr_getF hX dX9_layState_155 sh_161 (by decide) rfl inlX9 (by decide) rfl (hS.g (Nat.le_of_ble_eq_true rfl)) cr_161_28 k_7_8 mq_161 ?_
  refine tr_iload 3 hX dX9_layState_158 rfl ?_
  refine tr_iald hX dX9_layState_160 sh_183 (hS.e (Nat.le_of_ble_eq_true rfl)) (fun hb2 v1 => ?_)
  refine tr_ic_ge 174 hX dX9_layState_161 (by decide) (fun c14 => ?_) (fun c14 => ?_)
  · refine tr_iload 6 hX dX9_layState_174 rfl ?_
    refine tr_aload_n 0 hX dX9_layState_176 rfl rfl ?_
    refine tr_getF hX dX9_layState_177 sh_161 (by decide) rfl inlX9 (by decide) rfl (hS.g (Nat.le_of_ble_eq_true rfl)) cr_161_28 k_7_8 mq_161 ?_
    refine tr_iload 3 hX dX9_layState_180 rfl ?_
    refine tr_iald hX dX9_layState_182 sh_183 (hS.e (Nat.le_of_ble_eq_true rfl)) (fun hb4 v3 => ?_)
    refine tr_ic_ne 204 hX dX9_layState_183 (by decide) (fun c11 => ?_) (fun c11 => ?_)
    · refine tr_aload_n 0 hX dX9_layState_186 rfl rfl ?_
      refine tr_getF hX dX9_layState_187 sh_161 (by decide) rfl inlX9 (by decide) rfl (hS.g (Nat.le_of_ble_eq_true rfl)) cr_161_29 k_7_9 mq_161 ?_
      refine tr_iload 3 hX dX9_layState_190 rfl ?_
      refine tr_lald hX dX9_layState_192 sh_184 (hS.e (Nat.le_of_ble_eq_true rfl)) (fun hb6 v5 => ?_)
      refine tr_aload_n 0 hX dX9_layState_193 rfl rfl ?_
      refine tr_getF hX dX9_layState_194 sh_161 (by decide) rfl inlX9 (by decide) rfl (hS.g (Nat.le_of_ble_eq_true rfl)) cr_161_29 k_7_9 mq_161 ?_
      refine tr_iload 5 hX dX9_layState_197 rfl ?_
      refine tr_lald hX dX9_layState_199 sh_184 (hS.e (Nat.le_of_ble_eq_true rfl)) (fun hb8 v7 => ?_)
      refine tr_ladd hX dX9_layState_200 ?_
      refine tr_goto 211 hX dX9_layState_201 (by decide) ?_
      exact tr_sub [0, 1, 2, 3, 4, 6] rfl (t_X9_layState_211 hX hS s63 x1 x3 x4 x5 x8 (v5 + v7) x4 hs63)
    · refine tr_aload_n 0 hX dX9_layState_204 rfl rfl ?_
      refine tr_getF hX dX9_layState_205 sh_161 (by decide) rfl inlX9 (by decide) rfl (hS.g (Nat.le_of_ble_eq_true rfl)) cr_161_29 k_7_9 mq_161 ?_
      refine tr_iload 3 hX dX9_layState_208 rfl ?_
      refine tr_lald hX dX9_layState_210 sh_184 (hS.e (Nat.le_of_ble_eq_true rfl)) (fun hb10 v9 => ?_)
      exact tr_sub [0, 1, 2, 3, 4, 6] rfl (t_X9_layState_211 hX hS s63 x1 x3 x4 x5 x8 v9 x4 hs63)
  · refine tr_aload_n 0 hX dX9_layState_164 rfl rfl ?_
    refine tr_getF hX dX9_layState_165 sh_161 (by decide) rfl inlX9 (by decide) rfl (hS.g (Nat.le_of_ble_eq_true rfl)) cr_161_29 k_7_9 mq_161 ?_
    refine tr_iload 5 hX dX9_layState_168 rfl ?_
    refine tr_lald hX dX9_layState_170 sh_184 (hS.e (Nat.le_of_ble_eq_true rfl)) (fun hb13 v12 => ?_)
    refine tr_goto 211 hX dX9_layState_171 (by decide) ?_
    exact tr_sub [0, 1, 2, 3, 4, 6] rfl (t_X9_layState_211 hX hS s63 x1 x3 x4 x5 x8 v12 x4 hs63)
def f_X9_layState_101 (s63 : Int32 → M Unit) (x1 : Int32) (x3 : Int32) (x4 : Int32) (x5 : Int32) (x6 : Int32) (p0 : Int32) (p1 : Int32) : M Unit :=
  bnd (f_X9_at p1 p0 x5) (fun v1 => aI 183 2304 v1 (fun v2 => nm ((x6 + v2)) (fun v4 => aL 185 2304 x4 (fun v5 => if x6 = 0 then (aL 185 2304 v1 (fun v7 => f_X9_layState_144 s63 x1 x3 x4 x5 v1 v4 v7 v5 x4)) else (f_X9_layState_144 s63 x1 x3 x4 x5 v1 v4 0 v5 x4)))))
set_option maxRecDepth 10000 in
set_option maxHeartbeats 4000000 in
theorem t_X9_layState_101 {X : Cx} (hX : Good X RX9 cX9_layState (none)) (hS : Sta X 3 71 9) (s63 : Int32 → M Unit) (x1 : Int32) (x3 : Int32) (x4 : Int32) (x5 : Int32) (x6 : Int32) (p0 : Int32) (p1 : Int32) (hs63 : ∀ x5 : Int32, Tr X eU 0 0 63 [(0, .ref (cxAd X 161)), (1, .int x1), (3, .int x3), (4, .int x4), (5, .int x5)] [] (s63 x5)) : Tr X eU 0 0 101 [(0, .ref (cxAd X 161)), (1, .int x1), (3, .int x3), (4, .int x4), (5, .int x5), (6, .int x6)] [.int p0, .int p1] (f_X9_layState_101 s63 x1 x3 x4 x5 x6 p0 p1) := by
  unfold f_X9_layState_101
  refine tr_iload 4 hX dX9_layState_101 rfl ?_
  refine tr_callS0I (st := []) 3 hX hS dX9_layState_103 (ok_X9_at p1 p0 x5) k_23_20 k_23_21 k_1_5 k_23_22 hy_X9_at.2 rfl rfl (Nat.le_of_ble_eq_true rfl) rfl (fun v1 => ?_)
  refine tr_istore hX dX9_layState_106 (hS.n (by decide)) rfl ?_
  refine tr_iload 6 hX dX9_layState_108 rfl ?_
  refine tr_aload_n 1 hX dX9_layState_110 rfl rfl ?_
  refine tr_getF hX dX9_layState_111 sh_161 (by decide) rfl inlX9 (by decide) rfl (hS.g (Nat.le_of_ble_eq_true rfl)) cr_161_28 k_7_8 mq_161 ?_
  refine tr_iload 0 hX dX9_layState_114 rfl ?_
  refine tr_iald hX dX9_layState_116 sh_183 (hS.e (Nat.le_of_ble_eq_true rfl)) (fun hb3 v2 => ?_)
  refine tr_iadd hX dX9_layState_117 ?_
  refine tr_nm (fun v4 ev4 => ?_)
  refine tr_istore hX dX9_layState_118 (hS.n (by decide)) rfl ?_
  refine tr_aload_n 2 hX dX9_layState_120 rfl rfl ?_
  refine tr_getF hX dX9_layState_121 sh_161 (by decide) rfl inlX9 (by decide) rfl (hS.g (Nat.le_of_ble_eq_true rfl)) cr_161_30 k_7_10 mq_161 ?_
  refine tr_iload 5 hX dX9_layState_124 rfl ?_
  refine tr_dup2 hX dX9_layState_126 rfl rfl ?_
  refine tr_lald hX dX9_layState_127 sh_185 (hS.e (Nat.le_of_ble_eq_true rfl)) (fun hb6 v5 => ?_)
  refine tr_iload 7 hX dX9_layState_128 rfl ?_
  refine tr_if_ne 143 hX dX9_layState_130 (by decide) (fun c9 => ?_) (fun c9 => ?_)
  · refine tr_aload_n 2 hX dX9_layState_133 rfl rfl ?_
    refine tr_getF hX dX9_layState_134 sh_161 (by decide) rfl inlX9 (by decide) rfl (hS.g (Nat.le_of_ble_eq_true rfl)) cr_161_30 k_7_10 mq_161 ?_
    refine tr_iload 1 hX dX9_layState_137 rfl ?_
    refine tr_lald hX dX9_layState_139 sh_185 (hS.e (Nat.le_of_ble_eq_true rfl)) (fun hb8 v7 => ?_)
    refine tr_goto 144 hX dX9_layState_140 (by decide) ?_
    exact tr_sub [2, 3, 4, 5, 6, 1, 0] rfl (t_X9_layState_144 hX hS s63 x1 x3 x4 x5 v1 v4 v7 v5 x4 hs63)
  · refine tr_lconst 0 hX dX9_layState_143 (by decide) ?_
    exact tr_sub [2, 3, 4, 5, 6, 1, 0] rfl (t_X9_layState_144 hX hS s63 x1 x3 x4 x5 v1 v4 0 v5 x4 hs63)
def f_X9_layState_63 (x1 : Int32) (x3 : Int32) (x4 : Int32) (s63 : Int32 → M Unit) (x5 : Int32) : M Unit :=
  aI 163 2 0 (fun v1 => if v1 ≤ x5 then (rt ()) else (sI 181 8 x1 x5 (bnd (f_X9_unlikeAt x1) (fun v3 => if x1 ≤ 0 then (f_X9_layState_101 s63 x1 x3 x4 x5 v3 0 (x1 + 1)) else (f_X9_layState_101 s63 x1 x3 x4 x5 v3 x3 (x1 + 1))))))
set_option maxRecDepth 10000 in
set_option maxHeartbeats 4000000 in
theorem t_X9_layState_63 {X : Cx} (hX : Good X RX9 cX9_layState (none)) (hS : Sta X 3 71 9) (x1 : Int32) (x3 : Int32) (x4 : Int32) : ∀ s63 : Int32 → M Unit, (∀ x5 : Int32, Tr X eU 0 0 63 [(0, .ref (cxAd X 161)), (1, .int x1), (3, .int x3), (4, .int x4), (5, .int x5)] [] (s63 x5)) → ∀ x5 : Int32, Tr X eU 0 0 63 [(0, .ref (cxAd X 161)), (1, .int x1), (3, .int x3), (4, .int x4), (5, .int x5)] [] (f_X9_layState_63 x1 x3 x4 s63 x5) := by
  intro s63 hs63 x5
  unfold f_X9_layState_63
  refine tr_iload 4 hX dX9_layState_63 rfl ?_
  refine tr_aload_n 0 hX dX9_layState_65 rfl rfl ?_
  refine tr_getF hX dX9_layState_66 sh_161 (by decide) rfl inlX9 (by decide) rfl (hS.g (Nat.le_of_ble_eq_true rfl)) cr_161_2 k_6_12 mq_161 ?_
  refine tr_iconst 0 hX dX9_layState_69 (by decide) ?_
  refine tr_iald hX dX9_layState_70 sh_163 (hS.e (Nat.le_of_ble_eq_true rfl)) (fun hb2 v1 => ?_)
  refine tr_ic_ge 249 hX dX9_layState_71 (by decide) (fun c5 => ?_) (fun c5 => ?_)
  · exact tr_vret0 hX hS dX9_layState_249
  · refine tr_aload_n 0 hX dX9_layState_74 rfl rfl ?_
    refine tr_getF hX dX9_layState_75 sh_161 (by decide) rfl inlX9 (by decide) rfl (hS.g (Nat.le_of_ble_eq_true rfl)) cr_161_26 k_7_6 mq_161 ?_
    refine tr_iload_n 1 hX dX9_layState_78 rfl rfl ?_
    refine tr_iload 4 hX dX9_layState_79 rfl ?_
    refine tr_iast hX dX9_layState_81 sh_181 (hS.e (Nat.le_of_ble_eq_true rfl)) (fun _ => ?_)
    refine tr_aload_n 0 hX dX9_layState_82 rfl rfl ?_
    refine tr_iload_n 1 hX dX9_layState_83 rfl rfl ?_
    refine tr_callV0I (st := []) 1 hX hS dX9_layState_84 (ok_X9_unlikeAt x1) sh_161 (by decide) rfl (Nat.le_of_ble_eq_true rfl) k_23_23 k_24_0 k_24_1 k_1_5 k_24_2 hy_X9_unlikeAt rfl rfl (Nat.le_of_ble_eq_true rfl) rfl (fun v3 => ?_)
    refine tr_istore hX dX9_layState_87 (hS.n (by decide)) rfl ?_
    refine tr_iload_n 2 hX dX9_layState_89 rfl rfl ?_
    refine tr_iconst 1 hX dX9_layState_90 (by decide) ?_
    refine tr_iadd hX dX9_layState_91 ?_
    refine tr_iload_n 2 hX dX9_layState_92 rfl rfl ?_
    refine tr_if_le 100 hX dX9_layState_93 (by decide) (fun c4 => ?_) (fun c4 => ?_)
    · refine tr_iconst 0 hX dX9_layState_100 (by decide) ?_
      exact tr_sub [1, 2, 3, 4, 5, 0] rfl (t_X9_layState_101 hX hS s63 x1 x3 x4 x5 v3 0 (x1 + 1) hs63)
    · refine tr_iload_n 3 hX dX9_layState_96 rfl rfl ?_
      refine tr_goto 101 hX dX9_layState_97 (by decide) ?_
      exact tr_sub [1, 2, 3, 4, 5, 0] rfl (t_X9_layState_101 hX hS s63 x1 x3 x4 x5 v3 x3 (x1 + 1) hs63)
def f_X9_layState_60 (x1 : Int32) (x3 : Int32) (x4 : Int32) : M Unit :=
  fix1 FU (f_X9_layState_63 x1 x3 x4) 0
set_option maxRecDepth 10000 in
set_option maxHeartbeats 4000000 in
theorem t_X9_layState_60 {X : Cx} (hX : Good X RX9 cX9_layState (none)) (hS : Sta X 3 71 9) (x1 : Int32) (x3 : Int32) (x4 : Int32) : Tr X eU 0 0 60 [(0, .ref (cxAd X 161)), (1, .int x1), (3, .int x3), (4, .int x4)] [] (f_X9_layState_60 x1 x3 x4) := by
  unfold f_X9_layState_60
  refine tr_iconst 0 hX dX9_layState_60 (by decide) ?_
  refine tr_istore hX dX9_layState_61 (hS.n (by decide)) rfl ?_
  exact tr_sub [1, 2, 3, 4, 0] rfl (tr_fix1 (lvf := fun x5 => [(0, .ref (cxAd X 161)), (1, .int x1), (3, .int x3), (4, .int x4), (5, .int x5)]) (t_X9_layState_63 hX hS x1 x3 x4) FU 0)
def f_X9_layState_47 (x1 : Int32) (x3 : Int32) (x4 : Int32) : M Unit :=
  if x1 ≤ 0 then (f_X9_layState_60 x1 x3 x4) else (sI 181 8 (x1 - 1) x3 (f_X9_layState_60 x1 x3 x4))
set_option maxRecDepth 10000 in
set_option maxHeartbeats 4000000 in
theorem t_X9_layState_47 {X : Cx} (hX : Good X RX9 cX9_layState (none)) (hS : Sta X 3 71 9) (x1 : Int32) (x3 : Int32) (x4 : Int32) : Tr X eU 0 0 47 [(0, .ref (cxAd X 161)), (1, .int x1), (3, .int x3), (4, .int x4)] [] (f_X9_layState_47 x1 x3 x4) := by
  unfold f_X9_layState_47
  refine tr_iload_n 1 hX dX9_layState_47 rfl rfl ?_
  refine tr_if_le 60 hX dX9_layState_48 (by decide) (fun c1 => ?_) (fun c1 => ?_)
  · exact tr_sub [0, 1, 2, 3] rfl (t_X9_layState_60 hX hS x1 x3 x4)
  · refine tr_aload_n 0 hX dX9_layState_51 rfl rfl ?_
    refine tr_getF hX dX9_layState_52 sh_161 (by decide) rfl inlX9 (by decide) rfl (hS.g (Nat.le_of_ble_eq_true rfl)) cr_161_26 k_7_6 mq_161 ?_
    refine tr_iload_n 1 hX dX9_layState_55 rfl rfl ?_
    refine tr_iconst 1 hX dX9_layState_56 (by decide) ?_
    refine tr_isub hX dX9_layState_57 ?_
    refine tr_iload_n 2 hX dX9_layState_58 rfl rfl ?_
    refine tr_iast hX dX9_layState_59 sh_181 (hS.e (Nat.le_of_ble_eq_true rfl)) (fun _ => ?_)
    exact tr_sub [0, 1, 2, 3] rfl (t_X9_layState_60 hX hS x1 x3 x4)
def f_X9_layState (x1 : Int32) (x2 : Int32) (x3 : Int32) : M Unit :=
  bnd (f_X9_at x1 x2 x3) (fun v1 => sI 183 2304 v1 100000 (sL 184 2304 v1 0 (sL 185 2304 v1 0 (if x1 ≤ 1 then (f_X9_layState_47 x1 x3 v1) else (sI 181 8 (x1 - 2) x2 (f_X9_layState_47 x1 x3 v1))))))
set_option maxRecDepth 10000 in
set_option maxHeartbeats 4000000 in
theorem t_X9_layState_0 {X : Cx} (hX : Good X RX9 cX9_layState (none)) (hS : Sta X 3 71 9) (x1 : Int32) (x2 : Int32) (x3 : Int32) : Tr X eU 0 0 0 [(0, .ref (cxAd X 161)), (1, .int x1), (2, .int x2), (3, .int x3)] [] (f_X9_layState x1 x2 x3) := by
  unfold f_X9_layState
  refine tr_iload_n 1 hX dX9_layState_0 rfl rfl ?_
  refine tr_iload_n 2 hX dX9_layState_1 rfl rfl ?_
  refine tr_iload_n 3 hX dX9_layState_2 rfl rfl ?_
  refine tr_callS0I (st := []) 3 hX hS dX9_layState_3 (ok_X9_at x1 x2 x3) k_23_20 k_23_21 k_1_5 k_23_22 hy_X9_at.2 rfl rfl (Nat.le_of_ble_eq_true rfl) rfl (fun v1 => ?_)
  refine tr_istore hX dX9_layState_6 (hS.n (by decide)) rfl ?_
  refine tr_aload_n 1 hX dX9_layState_8 rfl rfl ?_
  refine tr_getF hX dX9_layState_9 sh_161 (by decide) rfl inlX9 (by decide) rfl (hS.g (Nat.le_of_ble_eq_true rfl)) cr_161_28 k_7_8 mq_161 ?_
  refine tr_iload 0 hX dX9_layState_12 rfl ?_
  refine tr_ldc hX dX9_layState_14 k_23_19 ?_
  refine tr_iast hX dX9_layState_16 sh_183 (hS.e (Nat.le_of_ble_eq_true rfl)) (fun _ => ?_)
  refine tr_aload_n 1 hX dX9_layState_17 rfl rfl ?_
  refine tr_getF hX dX9_layState_18 sh_161 (by decide) rfl inlX9 (by decide) rfl (hS.g (Nat.le_of_ble_eq_true rfl)) cr_161_29 k_7_9 mq_161 ?_
  refine tr_iload 0 hX dX9_layState_21 rfl ?_
  refine tr_lconst 0 hX dX9_layState_23 (by decide) ?_
  refine tr_last hX dX9_layState_24 sh_184 (hS.e (Nat.le_of_ble_eq_true rfl)) (fun _ => ?_)
  refine tr_aload_n 1 hX dX9_layState_25 rfl rfl ?_
  refine tr_getF hX dX9_layState_26 sh_161 (by decide) rfl inlX9 (by decide) rfl (hS.g (Nat.le_of_ble_eq_true rfl)) cr_161_30 k_7_10 mq_161 ?_
  refine tr_iload 0 hX dX9_layState_29 rfl ?_
  refine tr_lconst 0 hX dX9_layState_31 (by decide) ?_
  refine tr_last hX dX9_layState_32 sh_185 (hS.e (Nat.le_of_ble_eq_true rfl)) (fun _ => ?_)
  refine tr_iload_n 2 hX dX9_layState_33 rfl rfl ?_
  refine tr_iconst 1 hX dX9_layState_34 (by decide) ?_
  refine tr_ic_le 47 hX dX9_layState_35 (by decide) (fun c2 => ?_) (fun c2 => ?_)
  · exact tr_sub [1, 2, 4, 0] rfl (t_X9_layState_47 hX hS x1 x3 v1)
  · refine tr_aload_n 1 hX dX9_layState_38 rfl rfl ?_
    refine tr_getF hX dX9_layState_39 sh_161 (by decide) rfl inlX9 (by decide) rfl (hS.g (Nat.le_of_ble_eq_true rfl)) cr_161_26 k_7_6 mq_161 ?_
    refine tr_iload_n 2 hX dX9_layState_42 rfl rfl ?_
    refine tr_iconst 2 hX dX9_layState_43 (by decide) ?_
    refine tr_isub hX dX9_layState_44 ?_
    refine tr_iload_n 3 hX dX9_layState_45 rfl rfl ?_
    refine tr_iast hX dX9_layState_46 sh_181 (hS.e (Nat.le_of_ble_eq_true rfl)) (fun _ => ?_)
    exact tr_sub [1, 2, 4, 0] rfl (t_X9_layState_47 hX hS x1 x3 v1)
theorem ok_X9_layState {l : Launch} {E : Ev} (x1 : Int32) (x2 : Int32) (x3 : Int32)  : Ok l E Gall yX9_layState cX9_layState 9 (none) (rmz 3 71) eU [.ref (E.2.1 161), .int x1, .int x2, .int x3] (f_X9_layState x1 x2 x3) := by
  refine ok_of0 (by decide) (Nat.le_of_ble_eq_true rfl) (fun X hX hV hS => ?_)
  subst hV
  exact t_X9_layState_0 hX hS x1 x2 x3
def f_X9_layLeast_102 (s58 : Int32 → M Unit) (s64 : Int32 → M Unit) (s86 : Int32 → M Unit) (x2 : Int32) (x3 : Int32) (x4 : Int32) (p0 : Int32) (p1 : Int32) : M Unit :=
  if p0 ≤ p1 then (s64 (x3 + 1)) else (bnd (f_X9_layState x2 x3 x4) (fun _ => s86 (x4 + 1)))
set_option maxRecDepth 10000 in
set_option maxHeartbeats 4000000 in
theorem t_X9_layLeast_102 {X : Cx} (hX : Good X RX9 cX9_layLeast (none)) (hS : Sta X 4 99 5) (s58 : Int32 → M Unit) (s64 : Int32 → M Unit) (s86 : Int32 → M Unit) (x2 : Int32) (x3 : Int32) (x4 : Int32) (p0 : Int32) (p1 : Int32) (hs58 : ∀ x2 : Int32, Tr X eU 0 0 58 [(0, .ref (cxAd X 161)), (2, .int x2)] [] (s58 x2)) (hs64 : ∀ x3 : Int32, Tr X eU 0 0 64 [(0, .ref (cxAd X 161)), (2, .int x2), (3, .int x3)] [] (s64 x3)) (hs86 : ∀ x4 : Int32, Tr X eU 0 0 86 [(0, .ref (cxAd X 161)), (2, .int x2), (3, .int x3), (4, .int x4)] [] (s86 x4)) : Tr X eU 0 0 102 [(0, .ref (cxAd X 161)), (2, .int x2), (3, .int x3), (4, .int x4)] [.int p0, .int p1] (f_X9_layLeast_102 s58 s64 s86 x2 x3 x4 p0 p1) := by
  unfold f_X9_layLeast_102
  refine tr_ic_ge 119 hX dX9_layLeast_102 (by decide) (fun c2 => ?_) (fun c2 => ?_)
  · refine tr_iinc (x3 + 1) 2 hX dX9_layLeast_119 rfl (congrArg (fun z => x3 + z) (by decide)) (hS.n (by decide)) rfl ?_
    refine tr_goto 64 hX dX9_layLeast_122 (by decide) ?_
    exact tr_sub [1, 2, 0] rfl (hs64 (x3 + 1))
  · refine tr_aload_n 0 hX dX9_layLeast_105 rfl rfl ?_
    refine tr_iload_n 1 hX dX9_layLeast_106 rfl rfl ?_
    refine tr_iload_n 2 hX dX9_layLeast_107 rfl rfl ?_
    refine tr_iload 3 hX dX9_layLeast_108 rfl ?_
    refine tr_callV0U (st := []) 3 hX hS dX9_layLeast_110 (ok_X9_layState x2 x3 x4) sh_161 (by decide) rfl (Nat.le_of_ble_eq_true rfl) k_23_15 k_23_16 k_23_17 k_1_5 k_23_18 hy_X9_layState rfl rfl (Nat.le_of_ble_eq_true rfl) rfl (fun _ => ?_)
    refine tr_iinc (x4 + 1) 3 hX dX9_layLeast_113 rfl (congrArg (fun z => x4 + z) (by decide)) (hS.n (by decide)) rfl ?_
    refine tr_goto 86 hX dX9_layLeast_116 (by decide) ?_
    exact tr_sub [1, 2, 3, 0] rfl (hs86 (x4 + 1))
def f_X9_layLeast_86 (s58 : Int32 → M Unit) (s64 : Int32 → M Unit) (x2 : Int32) (x3 : Int32) (s86 : Int32 → M Unit) (x4 : Int32) : M Unit :=
  if x2 ≤ 0 then (f_X9_layLeast_102 s58 s64 s86 x2 x3 x4 1 x4) else (aI 163 2 0 (fun v1 => f_X9_layLeast_102 s58 s64 s86 x2 x3 x4 v1 x4))
set_option maxRecDepth 10000 in
set_option maxHeartbeats 4000000 in
theorem t_X9_layLeast_86 {X : Cx} (hX : Good X RX9 cX9_layLeast (none)) (hS : Sta X 4 99 5) (s58 : Int32 → M Unit) (s64 : Int32 → M Unit) (x2 : Int32) (x3 : Int32) (hs58 : ∀ x2 : Int32, Tr X eU 0 0 58 [(0, .ref (cxAd X 161)), (2, .int x2)] [] (s58 x2)) (hs64 : ∀ x3 : Int32, Tr X eU 0 0 64 [(0, .ref (cxAd X 161)), (2, .int x2), (3, .int x3)] [] (s64 x3)) : ∀ s86 : Int32 → M Unit, (∀ x4 : Int32, Tr X eU 0 0 86 [(0, .ref (cxAd X 161)), (2, .int x2), (3, .int x3), (4, .int x4)] [] (s86 x4)) → ∀ x4 : Int32, Tr X eU 0 0 86 [(0, .ref (cxAd X 161)), (2, .int x2), (3, .int x3), (4, .int x4)] [] (f_X9_layLeast_86 s58 s64 x2 x3 s86 x4) := by
  intro s86 hs86 x4
  unfold f_X9_layLeast_86
  refine tr_iload 3 hX dX9_layLeast_86 rfl ?_
  refine tr_iload_n 1 hX dX9_layLeast_88 rfl rfl ?_
  refine tr_if_le 101 hX dX9_layLeast_89 (by decide) (fun c3 => ?_) (fun c3 => ?_)
  · refine tr_iconst 1 hX dX9_layLeast_101 (by decide) ?_
    exact tr_sub [0, 1, 2, 3] rfl (t_X9_layLeast_102 hX hS s58 s64 s86 x2 x3 x4 1 x4 hs58 hs64 hs86)
  · refine tr_aload_n 0 hX dX9_layLeast_92 rfl rfl ?_
    refine tr_getF hX dX9_layLeast_93 sh_161 (by decide) rfl inlX9 (by decide) rfl (hS.g (Nat.le_of_ble_eq_true rfl)) cr_161_2 k_6_12 mq_161 ?_
    refine tr_iconst 0 hX dX9_layLeast_96 (by decide) ?_
    refine tr_iald hX dX9_layLeast_97 sh_163 (hS.e (Nat.le_of_ble_eq_true rfl)) (fun hb2 v1 => ?_)
    refine tr_goto 102 hX dX9_layLeast_98 (by decide) ?_
    exact tr_sub [0, 1, 2, 3] rfl (t_X9_layLeast_102 hX hS s58 s64 s86 x2 x3 x4 v1 x4 hs58 hs64 hs86)
def f_X9_layLeast_80 (s58 : Int32 → M Unit) (s64 : Int32 → M Unit) (x2 : Int32) (x3 : Int32) (p0 : Int32) (p1 : Int32) : M Unit :=
  if p0 ≤ p1 then (s58 (x2 + (-1))) else (fix1 FU (f_X9_layLeast_86 s58 s64 x2 x3) 0)
set_option maxRecDepth 10000 in
set_option maxHeartbeats 4000000 in
theorem t_X9_layLeast_80 {X : Cx} (hX : Good X RX9 cX9_layLeast (none)) (hS : Sta X 4 99 5) (s58 : Int32 → M Unit) (s64 : Int32 → M Unit) (x2 : Int32) (x3 : Int32) (p0 : Int32) (p1 : Int32) (hs58 : ∀ x2 : Int32, Tr X eU 0 0 58 [(0, .ref (cxAd X 161)), (2, .int x2)] [] (s58 x2)) (hs64 : ∀ x3 : Int32, Tr X eU 0 0 64 [(0, .ref (cxAd X 161)), (2, .int x2), (3, .int x3)] [] (s64 x3)) : Tr X eU 0 0 80 [(0, .ref (cxAd X 161)), (2, .int x2), (3, .int x3)] [.int p0, .int p1] (f_X9_layLeast_80 s58 s64 x2 x3 p0 p1) := by
  unfold f_X9_layLeast_80
  refine tr_ic_ge 125 hX dX9_layLeast_80 (by decide) (fun c1 => ?_) (fun c1 => ?_)
  · refine tr_iinc (x2 + (-1)) 1 hX dX9_layLeast_125 rfl (congrArg (fun z => x2 + z) (by decide)) (hS.n (by decide)) rfl ?_
    refine tr_goto 58 hX dX9_layLeast_128 (by decide) ?_
    exact tr_sub [1, 0] rfl (hs58 (x2 + (-1)))
  · refine tr_iconst 0 hX dX9_layLeast_83 (by decide) ?_
    refine tr_istore hX dX9_layLeast_84 (hS.n (by decide)) rfl ?_
    exact tr_sub [1, 2, 3, 0] rfl (tr_fix1 (lvf := fun x4 => [(0, .ref (cxAd X 161)), (2, .int x2), (3, .int x3), (4, .int x4)]) (t_X9_layLeast_86 hX hS s58 s64 x2 x3 hs58 hs64) FU 0)
def f_X9_layLeast_64 (s58 : Int32 → M Unit) (x2 : Int32) (s64 : Int32 → M Unit) (x3 : Int32) : M Unit :=
  if x2 ≤ 1 then (f_X9_layLeast_80 s58 s64 x2 x3 1 x3) else (aI 163 2 0 (fun v1 => f_X9_layLeast_80 s58 s64 x2 x3 v1 x3))
set_option maxRecDepth 10000 in
set_option maxHeartbeats 4000000 in
theorem t_X9_layLeast_64 {X : Cx} (hX : Good X RX9 cX9_layLeast (none)) (hS : Sta X 4 99 5) (s58 : Int32 → M Unit) (x2 : Int32) (hs58 : ∀ x2 : Int32, Tr X eU 0 0 58 [(0, .ref (cxAd X 161)), (2, .int x2)] [] (s58 x2)) : ∀ s64 : Int32 → M Unit, (∀ x3 : Int32, Tr X eU 0 0 64 [(0, .ref (cxAd X 161)), (2, .int x2), (3, .int x3)] [] (s64 x3)) → ∀ x3 : Int32, Tr X eU 0 0 64 [(0, .ref (cxAd X 161)), (2, .int x2), (3, .int x3)] [] (f_X9_layLeast_64 s58 x2 s64 x3) := by
  intro s64 hs64 x3
  unfold f_X9_layLeast_64
  refine tr_iload_n 2 hX dX9_layLeast_64 rfl rfl ?_
  refine tr_iload_n 1 hX dX9_layLeast_65 rfl rfl ?_
  refine tr_iconst 1 hX dX9_layLeast_66 (by decide) ?_
  refine tr_ic_le 79 hX dX9_layLeast_67 (by decide) (fun c3 => ?_) (fun c3 => ?_)
  · refine tr_iconst 1 hX dX9_layLeast_79 (by decide) ?_
    exact tr_sub [0, 1, 2] rfl (t_X9_layLeast_80 hX hS s58 s64 x2 x3 1 x3 hs58 hs64)
  · refine tr_aload_n 0 hX dX9_layLeast_70 rfl rfl ?_
    refine tr_getF hX dX9_layLeast_71 sh_161 (by decide) rfl inlX9 (by decide) rfl (hS.g (Nat.le_of_ble_eq_true rfl)) cr_161_2 k_6_12 mq_161 ?_
    refine tr_iconst 0 hX dX9_layLeast_74 (by decide) ?_
    refine tr_iald hX dX9_layLeast_75 sh_163 (hS.e (Nat.le_of_ble_eq_true rfl)) (fun hb2 v1 => ?_)
    refine tr_goto 80 hX dX9_layLeast_76 (by decide) ?_
    exact tr_sub [0, 1, 2] rfl (t_X9_layLeast_80 hX hS s58 s64 x2 x3 v1 x3 hs58 hs64)
def f_X9_layLeast_58 (s58 : Int32 → M Unit) (x2 : Int32) : M Unit :=
  if x2 < 0 then (rt ()) else (fix1 FU (f_X9_layLeast_64 s58 x2) 0)
set_option maxRecDepth 10000 in
set_option maxHeartbeats 4000000 in
theorem t_X9_layLeast_58 {X : Cx} (hX : Good X RX9 cX9_layLeast (none)) (hS : Sta X 4 99 5) : ∀ s58 : Int32 → M Unit, (∀ x2 : Int32, Tr X eU 0 0 58 [(0, .ref (cxAd X 161)), (2, .int x2)] [] (s58 x2)) → ∀ x2 : Int32, Tr X eU 0 0 58 [(0, .ref (cxAd X 161)), (2, .int x2)] [] (f_X9_layLeast_58 s58 x2) := by
  intro s58 hs58 x2
  unfold f_X9_layLeast_58
  refine tr_iload_n 1 hX dX9_layLeast_58 rfl rfl ?_
  refine tr_if_lt 131 hX dX9_layLeast_59 (by decide) (fun c1 => ?_) (fun c1 => ?_)
  · exact tr_vret0 hX hS dX9_layLeast_131
  · refine tr_iconst 0 hX dX9_layLeast_62 (by decide) ?_
    refine tr_istore_n hX dX9_layLeast_63 rfl (hS.n (by decide)) rfl ?_
    exact tr_sub [1, 2, 0] rfl (tr_fix1 (lvf := fun x3 => [(0, .ref (cxAd X 161)), (2, .int x2), (3, .int x3)]) (t_X9_layLeast_64 hX hS s58 x2 hs58) FU 0)
def f_X9_layLeast_2 (x1 : Int32) (s2 : Int32 → M Unit) (x2 : Int32) : M Unit :=
  if 256 ≤ x2 then (nm ((x1 - 1)) (fun v1 => fix1 FU (f_X9_layLeast_58) v1)) else (sI 183 2304 ((256 * x1) + x2) 0 (sL 184 2304 ((256 * x1) + x2) 1 (sL 185 2304 ((256 * x1) + x2) 1 (s2 (x2 + 1)))))
set_option maxRecDepth 10000 in
set_option maxHeartbeats 4000000 in
theorem t_X9_layLeast_2 {X : Cx} (hX : Good X RX9 cX9_layLeast (none)) (hS : Sta X 4 99 5) (x1 : Int32) : ∀ s2 : Int32 → M Unit, (∀ x2 : Int32, Tr X eU 0 0 2 [(0, .ref (cxAd X 161)), (1, .int x1), (2, .int x2)] [] (s2 x2)) → ∀ x2 : Int32, Tr X eU 0 0 2 [(0, .ref (cxAd X 161)), (1, .int x1), (2, .int x2)] [] (f_X9_layLeast_2 x1 s2 x2) := by
  intro s2 hs2 x2
  unfold f_X9_layLeast_2
  refine tr_iload_n 2 hX dX9_layLeast_2 rfl rfl ?_
  refine tr_sipush 256 hX dX9_layLeast_3 (by decide) ?_
  refine tr_ic_ge 54 hX dX9_layLeast_6 (by decide) (fun c2 => ?_) (fun c2 => ?_)
  · refine tr_iload_n 1 hX dX9_layLeast_54 rfl rfl ?_
    refine tr_iconst 1 hX dX9_layLeast_55 (by decide) ?_
    refine tr_isub hX dX9_layLeast_56 ?_
    refine tr_nm (fun v1 ev1 => ?_)
    refine tr_istore_n hX dX9_layLeast_57 rfl (hS.n (by decide)) rfl ?_
    exact tr_sub [1, 0] rfl (tr_fix1 (lvf := fun x2 => [(0, .ref (cxAd X 161)), (2, .int x2)]) (t_X9_layLeast_58 hX hS) FU v1)
  · refine tr_aload_n 0 hX dX9_layLeast_9 rfl rfl ?_
    refine tr_getF hX dX9_layLeast_10 sh_161 (by decide) rfl inlX9 (by decide) rfl (hS.g (Nat.le_of_ble_eq_true rfl)) cr_161_28 k_7_8 mq_161 ?_
    refine tr_sipush 256 hX dX9_layLeast_13 (by decide) ?_
    refine tr_iload_n 1 hX dX9_layLeast_16 rfl rfl ?_
    refine tr_imul hX dX9_layLeast_17 ?_
    refine tr_iload_n 2 hX dX9_layLeast_18 rfl rfl ?_
    refine tr_iadd hX dX9_layLeast_19 ?_
    refine tr_iconst 0 hX dX9_layLeast_20 (by decide) ?_
    refine tr_iast hX dX9_layLeast_21 sh_183 (hS.e (Nat.le_of_ble_eq_true rfl)) (fun _ => ?_)
    refine tr_aload_n 0 hX dX9_layLeast_22 rfl rfl ?_
    refine tr_getF hX dX9_layLeast_23 sh_161 (by decide) rfl inlX9 (by decide) rfl (hS.g (Nat.le_of_ble_eq_true rfl)) cr_161_29 k_7_9 mq_161 ?_
    refine tr_sipush 256 hX dX9_layLeast_26 (by decide) ?_
    refine tr_iload_n 1 hX dX9_layLeast_29 rfl rfl ?_
    refine tr_imul hX dX9_layLeast_30 ?_
    refine tr_iload_n 2 hX dX9_layLeast_31 rfl rfl ?_
    refine tr_iadd hX dX9_layLeast_32 ?_
    refine tr_lconst 1 hX dX9_layLeast_33 (by decide) ?_
    refine tr_last hX dX9_layLeast_34 sh_184 (hS.e (Nat.le_of_ble_eq_true rfl)) (fun _ => ?_)
    refine tr_aload_n 0 hX dX9_layLeast_35 rfl rfl ?_
    refine tr_getF hX dX9_layLeast_36 sh_161 (by decide) rfl inlX9 (by decide) rfl (hS.g (Nat.le_of_ble_eq_true rfl)) cr_161_30 k_7_10 mq_161 ?_
    refine tr_sipush 256 hX dX9_layLeast_39 (by decide) ?_
    refine tr_iload_n 1 hX dX9_layLeast_42 rfl rfl ?_
    refine tr_imul hX dX9_layLeast_43 ?_
    refine tr_iload_n 2 hX dX9_layLeast_44 rfl rfl ?_
    refine tr_iadd hX dX9_layLeast_45 ?_
    refine tr_lconst 1 hX dX9_layLeast_46 (by decide) ?_
    refine tr_last hX dX9_layLeast_47 sh_185 (hS.e (Nat.le_of_ble_eq_true rfl)) (fun _ => ?_)
    refine tr_iinc (x2 + 1) 2 hX dX9_layLeast_48 rfl (congrArg (fun z => x2 + z) (by decide)) (hS.n (by decide)) rfl ?_
    refine tr_goto 2 hX dX9_layLeast_51 (by decide) ?_
    exact tr_sub [1, 2, 0] rfl (hs2 (x2 + 1))
def f_X9_layLeast (x1 : Int32) : M Unit :=
  fix1 FU (f_X9_layLeast_2 x1) 0
set_option maxRecDepth 10000 in
set_option maxHeartbeats 4000000 in
theorem t_X9_layLeast_0 {X : Cx} (hX : Good X RX9 cX9_layLeast (none)) (hS : Sta X 4 99 5) (x1 : Int32) : Tr X eU 0 0 0 [(0, .ref (cxAd X 161)), (1, .int x1)] [] (f_X9_layLeast x1) := by
  unfold f_X9_layLeast
  refine tr_iconst 0 hX dX9_layLeast_0 (by decide) ?_
  refine tr_istore_n hX dX9_layLeast_1 rfl (hS.n (by decide)) rfl ?_
  exact tr_sub [1, 2, 0] rfl (tr_fix1 (lvf := fun x2 => [(0, .ref (cxAd X 161)), (1, .int x1), (2, .int x2)]) (t_X9_layLeast_2 hX hS x1) FU 0)
theorem ok_X9_layLeast {l : Launch} {E : Ev} (x1 : Int32)  : Ok l E Gall yX9_layLeast cX9_layLeast 5 (none) (rmz 4 99) eU [.ref (E.2.1 161), .int x1] (f_X9_layLeast x1) := by
  refine ok_of0 (by decide) (Nat.le_of_ble_eq_true rfl) (fun X hX hV hS => ?_)
  subst hV
  exact t_X9_layLeast_0 hX hS x1
